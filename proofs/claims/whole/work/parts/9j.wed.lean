/-! the class: weddings, sales -/
theorem cg_d (w mi : Nat → Int32) (n : Nat) (sale : Bool) (a : Nat) : cgN w mi n sale a a = none := by
  cases sale
  · rw [cgN, if_neg (by decide), if_neg (Nat.lt_irrefl _)]
  · rw [cgN, if_pos rfl, if_neg (Nat.lt_irrefl _)]
theorem cg_l {w mi : Nat → Int32} {n : Nat} {sale : Bool} (hs : sale = false) (a b v : Nat) (h : cgN w mi n sale a b = some v) : a < b := by
  subst hs
  rw [cgN, if_neg (by decide)] at h
  split at h
  · assumption
  · exact absurd h (by simp)
def WL : List Nat := [17, 18, 19, 22, 23]
theorem WLX : ∀ q, q ∈ WL → q ∈ XL := by decide
theorem WL51 : ∀ q, q ∈ WL → q < 51 := by decide
theorem fsw {h h1 : qm_H} (a : fs h h1) : sb WL h h1 := ⟨a.1, fun q hq => a.2.1 q (fun e => hq (by revert e; simp only [List.mem_cons, List.not_mem_nil, or_false, WL]; omega))⟩
/-- what a search of couples finds -/
def WR (w : Nat → Int32) (n : Nat) (sale : Bool) (h' : qm_H) : Prop := h'.1 17 0 = nI (cB (cgN w (mi0 w) n sale) n n 0 0) ∧ ∀ j, j < n → h'.1 18 j = nI (cRow (cgN w (mi0 w) n sale) n sale n 0 0 (fun _ => 6) j)
theorem c_pairAll {G : qm_G} (hG : G.2.2.2.2 = true) (d : Nat) (h : qm_H) {P n : Nat} {w : Nat → Int32} (t : TO h P w n) (v : VT w n) (sale : Bool) (c : CT h (cgN w (mi0 w) n sale) n sale) (hm : h.1 17 0 = -1) : qm_Ev G (d + 8) 0 0 qyX4_pairFrom [.ref 17, .ref P, .int 0, .int 0, .int 0] h (fun r h' => r = none ∧ WR w n sale h' ∧ sb WL h h') := by
  have hn := v.1
  have kp := c_pairFrom (g := cgN w (mi0 w) n sale) (sale := sale) hG (d + (6 - n)) hn (fun a b x hx => cgN_le v.w hn hx) (cg_d w (mi0 w) n sale) (fun hs => cg_l hs) n h 0 0 0 (fun _ => 6) t c (by omega) (by decide) (by omega) ⟨fun j _ hf => by
    rcases hf with z | z
    · omega
    · rw [Nat.zero_testBit] at z; exact absurd z (by decide), fun _ _ => rfl⟩
  rw [show d + (6 - n) + n + 2 = d + 8 by omega] at kp
  refine kp.mono ?_
  rintro _ h1 ⟨rfl, kb, -, f⟩
  have cb := cB_le (g := cgN w (mi0 w) n sale) (n := n) (fun a b x hx => cgN_le v.w hn hx) n 0 0
  rw [hm, Nat.zero_add] at kb
  obtain ⟨k1, k2⟩ := kb.2 (nI_m1 (by omega))
  exact ⟨rfl, ⟨k1, k2⟩, fsw f⟩
theorem c_wed {G : qm_G} (hG : G.2.2.2.2 = true) (d : Nat) (h : qm_H) {P n : Nat} {w : Nat → Int32} (t : TO h P w n) (v : VT w n) : qm_Ev G (d + 9) 0 0 qyX4_wed [.ref 17, .ref P] h (fun r h' => r = none ∧ WR w n false h' ∧ sb WL h h') := by
  have hn := v.1
  refine qm_Ev.by (M := mX4_wed) okX4_wed (Nat.le_of_ble_eq_true rfl) hG fun z hA => ?_
  refine qm_wp_ok hA [2] 20 _ _ _ _ _ _ ?_
  refine qm_for (P := fun p => ∀ h', (∀ a b, a < p → b < n → h'.1 22 (6 * a + b) = s_oi (cgN w (mi0 w) n false a b)) → sb WL h h' → qm_PW G mX4_wed z 2 0 0 [vr 17, vr P, vi (nI p), vu] [] (h')) (N := n) ?_ ?_ h (fun a b ha => absurd ha (Nat.not_lt_zero _)) sb.rf
  · intro h' tb fr
    have t' := t.sb fr WL51
    obtain ⟨h2, e2⟩ : ∃ h2, h2 = qm_si (qm_si h' 17 8 1) 17 0 (-1) := ⟨_, rfl⟩
    have fr2 : sb WL h h2 := by rw [e2]; exact (fr.si (by decide)).si (by decide)
    have kp := c_pairAll hG d h2 (t.sb fr2 WL51) v false ⟨fun a b ha hb => by rw [e2, si_ne _ _ _ (by decide), si_ne _ _ _ (by decide)]; exact tb a b ha hb, by rw [e2, si_row, up_n _ _ (by decide), si_row, up_s]; rfl⟩ (by rw [e2, si_s])
    rw [e2] at kp
    refine qm_wp_ok hA [] 30 _ _ _ _ _ _ ⟨t'.is, fun _ => ⟨rfl, Or.inr rfl, rfl, trivial, rfl, 0, 0, _, kp, ⟨Nat.le_refl _, Nat.le_refl _⟩, ?_⟩, fun (z : ¬ h'.1 P 0 ≤ nI n) => absurd (by rw [t'.pp]; exact Int32.le_refl _) z⟩
    rintro _ h3 ⟨rfl, wr, f3⟩
    rw [← e2] at f3
    exact ⟨rfl, rfl, wr, fr2.tr f3⟩
  · intro p hp key h' tb fr
    have t' := t.sb fr WL51
    refine qm_wp_ok hA [8] 30 _ _ _ _ _ _ ⟨t'.is, fun (z : h'.1 P 0 ≤ nI p) => absurd z (by rw [t'.pp]; exact nI_ge hp (by omega)), fun _ => ?_⟩
    refine qm_for (P := fun q => ∀ h2, (∀ a b, (a < p ∧ b < n) ∨ (a = p ∧ b < q) → h2.1 22 (6 * a + b) = s_oi (cgN w (mi0 w) n false a b)) → sb WL h h2 → qm_PW G mX4_wed z 8 0 0 [vr 17, vr P, vi (nI p), vi (nI q)] [] (h2)) (N := n) ?_ ?_ h' (fun a b hab => tb a b (by omega) (by omega)) fr
    · intro h2 tb2 fr2
      have t2 := t.sb fr2 WL51
      have k2 := key h2 (fun a b ha hb => tb2 a b (by omega)) fr2
      rw [← nI_1] at k2
      exact qm_wp_ok hA [2] 30 _ _ _ _ _ _ ⟨t2.is, fun _ => k2.mask [true, true, true, false], fun (z : ¬ h2.1 P 0 ≤ nI n) => absurd (by rw [t2.pp]; exact Int32.le_refl _) z⟩
    · intro q hq k2 h2 tb2 fr2
      have t2 := t.sb fr2 WL51
      have ei : (6 : Int32) * nI p + nI q = nI (6 * p + q) := by rw [show (6 : Int32) = nI 6 from rfl, pk_mul, nI_add]
      have hini : vp_in ((6 : Int32) * nI p + nI q) 36 := by rw [ei]; exact vp_in_nI (by omega) (by decide)
      have nxt : ∀ X, X = s_oi (cgN w (mi0 w) n false p q) → qm_PW G mX4_wed z 8 0 0 [vr 17, vr P, vi (nI p), vi (nI q + 1)] [] (qm_si h2 22 ((6 : Int32) * nI p + nI q).toNatClampNeg X) := fun X hX => by
        rw [ei, nI_clamp (by omega), nI_1]
        refine k2 _ (fun a b hab => ?_) (fr2.si (by decide))
        rw [si_row]
        by_cases e : a = p ∧ b = q
        · rw [e.1, e.2, up_s, hX]
        · rw [up_n _ _ (by omega)]; exact tb2 a b (by omega)
      obtain ⟨s, s1, s2⟩ := v.kn (by omega : p < 6)
      obtain ⟨u, u1, u2⟩ := v.kn (by omega : q < 6)
      have e4p : h2.1 (P + 4) (nI p).toNatClampNeg = mi0 w p := (t2.at (by omega : p < 6)).2.2.2.1
      have e4q : h2.1 (P + 4) (nI q).toNatClampNeg = mi0 w q := (t2.at (by omega : q < 6)).2.2.2.1
      refine qm_wp_ok hA [8] 60 _ _ _ _ _ _ ⟨t2.is, fun (z : h2.1 P 0 ≤ nI q) => absurd z (by rw [t2.pp]; exact nI_ge hq (by omega)), fun _ => ⟨rfl, _, rfl, fun (z : nI q ≤ nI p) => ⟨rfl, hini, nxt _ ?_⟩, fun (z : ¬ nI q ≤ nI p) => ⟨t2.is, _, t2.rd (k := 4) (by decide) (by decide), t2.ar (k := 4) (by decide) (by decide), t2.ln (k := 4) (by decide) (by decide) (by omega), t2.is, _, t2.rd (k := 4) (by decide) (by decide), t2.ar (k := 4) (by decide) (by decide), t2.ln (k := 4) (by decide) (by decide) (by omega), 0, 0, _, c_bcX hG _ h2 (s := s ||| u) _ (by rw [e4p, e4q, s2, u2, fa_or]) (Nat.or_lt_two_pow (n := 6) s1 u1), ⟨Nat.le_refl _, Nat.le_refl _⟩, ?_⟩⟩⟩
      · have : ¬ p < q := fun y => absurd z (nI_ge y (by omega))
        rw [cgN, if_neg (by decide), if_neg this]; rfl
      · rintro _ _ ⟨rfl, rfl⟩
        refine ⟨rfl, hini, nxt _ ?_⟩
        have : p < q := by
          rcases Nat.lt_or_ge p q with y | y
          · exact y
          · exact absurd (nI_le y (by omega)) z
        rw [cgN, if_neg (by decide), if_pos this, e4p, e4q, ones_N]; rfl
theorem c_trade {G : qm_G} (hG : G.2.2.2.2 = true) (d : Nat) (h : qm_H) {P n : Nat} {w : Nat → Int32} (t : TO h P w n) (v : VT w n) : qm_Ev G (d + 9) 0 0 qyX4_trade [.ref 17, .ref P] h (fun r h' => r = none ∧ WR w n true h' ∧ sb WL h h') := by
  have hn := v.1
  have hb7 : ∀ p, bgN w (mi0 w) n p ≤ 720 := fun p => (bg_N v.w (mi0 w) hn p).2
  refine qm_Ev.by (M := mX4_trade) okX4_trade (Nat.le_of_ble_eq_true rfl) hG fun z hA => ?_
  refine qm_wp_ok hA [2] 20 _ _ _ _ _ _ ?_
  refine qm_for (P := fun p => ∀ h', (∀ a, a < p → h'.1 23 a = nI (bgN w (mi0 w) n a)) → sb WL h h' → qm_PW G mX4_trade z 2 0 0 [vr 17, vr P, vi (nI p), vu, vu] [] (h')) (N := n) ?_ ?_ h (fun a ha => absurd ha (Nat.not_lt_zero _)) sb.rf
  · intro h0 bs fr0
    have t0 := t.sb fr0 WL51
    refine qm_wp_ok hA [17] 30 _ _ _ _ _ _ ⟨t0.is, fun _ => ?_, fun (z : ¬ h0.1 P 0 ≤ nI n) => absurd (by rw [t0.pp]; exact Int32.le_refl _) z⟩
    refine qm_for (P := fun p => ∀ h', (∀ a b, a < p → b < n → h'.1 22 (6 * a + b) = s_oi (cgN w (mi0 w) n true a b)) → h'.1 23 = h0.1 23 → sb WL h h' → qm_PW G mX4_trade z 17 0 0 [vr 17, vr P, vi (nI p), vu, vu] [] (h')) (N := n) ?_ ?_ h0 (fun a b ha => absurd ha (Nat.not_lt_zero _)) rfl fr0
    · intro h' tb e23 fr
      have t' := t.sb fr WL51
      obtain ⟨h2, e2⟩ : ∃ h2, h2 = qm_si (qm_si h' 17 8 0) 17 0 (-1) := ⟨_, rfl⟩
      have fr2 : sb WL h h2 := by rw [e2]; exact (fr.si (by decide)).si (by decide)
      have kp := c_pairAll hG d h2 (t.sb fr2 WL51) v true ⟨fun a b ha hb => by rw [e2, si_ne _ _ _ (by decide), si_ne _ _ _ (by decide)]; exact tb a b ha hb, by rw [e2, si_row, up_n _ _ (by decide), si_row, up_s]; rfl⟩ (by rw [e2, si_s])
      rw [e2] at kp
      refine qm_wp_ok hA [] 30 _ _ _ _ _ _ ⟨t'.is, fun _ => ⟨rfl, Or.inl rfl, rfl, trivial, rfl, 0, 0, _, kp, ⟨Nat.le_refl _, Nat.le_refl _⟩, ?_⟩, fun (z : ¬ h'.1 P 0 ≤ nI n) => absurd (by rw [t'.pp]; exact Int32.le_refl _) z⟩
      rintro _ h3 ⟨rfl, wr, f3⟩
      rw [← e2] at f3
      exact ⟨rfl, rfl, wr, fr2.tr f3⟩
    · intro p hp key h' tb e23 fr
      have t' := t.sb fr WL51
      refine qm_wp_ok hA [23] 30 _ _ _ _ _ _ ⟨t'.is, fun (z : h'.1 P 0 ≤ nI p) => absurd z (by rw [t'.pp]; exact nI_ge hp (by omega)), fun _ => ?_⟩
      refine qm_for (P := fun q => ∀ h2, (∀ a b, (a < p ∧ b < n) ∨ (a = p ∧ b < q) → h2.1 22 (6 * a + b) = s_oi (cgN w (mi0 w) n true a b)) → h2.1 23 = h0.1 23 → sb WL h h2 → qm_PW G mX4_trade z 23 0 0 [vr 17, vr P, vi (nI p), vi (nI q), vu] [] (h2)) (N := n) ?_ ?_ h' (fun a b hab => tb a b (by omega) (by omega)) e23 fr
      · intro h2 tb2 e232 fr2
        have t2 := t.sb fr2 WL51
        have k2 := key h2 (fun a b ha hb => tb2 a b (by omega)) e232 fr2
        rw [← nI_1] at k2
        exact qm_wp_ok hA [17] 30 _ _ _ _ _ _ ⟨t2.is, fun _ => k2.mask [true, true, true, false, false], fun (z : ¬ h2.1 P 0 ≤ nI n) => absurd (by rw [t2.pp]; exact Int32.le_refl _) z⟩
      · intro q hq k2 h2 tb2 e232 fr2
        have t2 := t.sb fr2 WL51
        have ei : (6 : Int32) * nI p + nI q = nI (6 * p + q) := by rw [show (6 : Int32) = nI 6 from rfl, pk_mul, nI_add]
        have hini : vp_in ((6 : Int32) * nI p + nI q) 36 := by rw [ei]; exact vp_in_nI (by omega) (by decide)
        have nxt : ∀ X, X = s_oi (cgN w (mi0 w) n true p q) → qm_PW G mX4_trade z 23 0 0 [vr 17, vr P, vi (nI p), vi (nI q + 1), vu] [] (qm_si h2 22 ((6 : Int32) * nI p + nI q).toNatClampNeg X) := fun X hX => by
          rw [ei, nI_clamp (by omega), nI_1]
          refine k2 _ (fun a b hab => ?_) (by rw [si_ne _ _ _ (by decide)]; exact e232) (fr2.si (by decide))
          rw [si_row]
          by_cases e : a = p ∧ b = q
          · rw [e.1, e.2, up_s, hX]
          · rw [up_n _ _ (by omega)]; exact tb2 a b (by omega)
        have hinp : vp_in (nI p) 6 := vp_in_nI (by omega) (by decide)
        have hinq : vp_in (nI q) 6 := vp_in_nI (by omega) (by decide)
        have bp : h2.1 23 (nI p).toNatClampNeg = nI (bgN w (mi0 w) n p) := by rw [nI_clamp (by omega), e232]; exact bs p hp
        have bq : h2.1 23 (nI q).toNatClampNeg = nI (bgN w (mi0 w) n q) := by rw [nI_clamp (by omega), e232]; exact bs q hq
        have hp7 := hb7 p
        have hq7 := hb7 q
        have em : h2.1 23 (nI q).toNatClampNeg - h2.1 23 (nI p).toNatClampNeg ≤ 0 ↔ ¬ bgN w (mi0 w) n p < bgN w (mi0 w) n q := by
          rw [bp, bq, Int32.le_iff_toInt_le, pk_sub_toInt (by omega) (by omega)]
          show (_ : Int) ≤ 0 ↔ _
          omega
        refine qm_wp_ok hA [23] 60 _ _ _ _ _ _ ⟨t2.is, fun (z : h2.1 P 0 ≤ nI q) => absurd z (by rw [t2.pp]; exact nI_ge hq (by omega)), fun _ => ⟨rfl, _, rfl, rfl, hinq, rfl, _, rfl, rfl, hinp, rfl, _, rfl, fun (z : h2.1 23 (nI q).toNatClampNeg - h2.1 23 (nI p).toNatClampNeg ≤ 0) => ⟨rfl, hini, (nxt _ ?_).mask [true, true, true, true, false]⟩, fun (z : ¬ h2.1 23 (nI q).toNatClampNeg - h2.1 23 (nI p).toNatClampNeg ≤ 0) => ⟨rfl, hini, (nxt _ ?_).mask [true, true, true, true, false]⟩⟩⟩
        · rw [cgN, if_pos rfl, if_neg (em.mp z)]; rfl
        · have c : bgN w (mi0 w) n p < bgN w (mi0 w) n q := Classical.byContradiction fun y => z (em.mpr y)
          rw [cgN, if_pos rfl, if_pos c, bp, bq, pk_sub (by omega)]; rfl
  · intro p hp key h' bs fr
    have t' := t.sb fr WL51
    have hinp : vp_in (nI p) 6 := vp_in_nI (by omega) (by decide)
    refine qm_wp_ok hA [2] 40 _ _ _ _ _ _ ⟨t'.is, fun (z : h'.1 P 0 ≤ nI p) => absurd z (by rw [t'.pp]; exact nI_ge hp (by omega)), fun _ => ⟨rfl, _, rfl, t'.is, 0, 0, _, c_bestGain hG (d + 5) h' t' v hp, ⟨Nat.le_refl _, Nat.le_refl _⟩, ?_⟩⟩
    rintro _ _ ⟨rfl, rfl⟩
    have k2 := key (qm_si h' 23 (nI p).toNatClampNeg (nI (bgN w (mi0 w) n p))) (fun a ha => by
      rw [si_row, nI_clamp (by omega)]
      by_cases e : a = p
      · rw [e, up_s]
      · rw [up_n _ _ e]; exact bs a (by omega)) (fr.si (by decide))
    rw [← nI_1] at k2
    exact ⟨rfl, hinp, k2⟩
theorem found_r {w : Nat → Int32} {n : Nat} (hn : n ≤ 6) {sale : Bool} {h' : qm_H} (wr : WR w n sale h') {k : Int32} (hk : (decide (k = -1) || inb k n) = true) : (if k = -1 then h'.1 17 0 else if inb k 6 then h'.1 18 k.toNatClampNeg else -1) = s_cpl w n sale k := by
  rw [s_cpl]
  by_cases c : k = -1
  · rw [if_pos c, if_pos c]; exact wr.1
  · rw [if_neg c, if_neg c]
    rw [decide_eq_false c, Bool.false_or] at hk
    obtain ⟨j, j1, rfl⟩ := inb_e (by omega) hk
    rw [hk, inb_n (by decide) (by omega : j < 6), if_pos rfl, if_pos rfl, nI_clamp (by omega)]
    exact wr.2 j j1
theorem cpl_no {w : Nat → Int32} {n : Nat} {sale : Bool} {k : Int32} (hk : (decide (k = -1) || inb k n) = false) : s_cpl w n sale k = -1 := by
  rw [Bool.or_eq_false_iff, decide_eq_false_iff_not] at hk
  rw [s_cpl, if_neg hk.1, hk.2]; rfl
theorem b_weddings {G : qm_G} (hG : G.2.2.2.2 = true) (d : Nat) (h : qm_H) {mt : Nat} (hm : mt ≤ 2) (hT : TWN h 3 mt (tw h)) (a k : Int32) : qm_Ev G (d + 10) 0 0 qyX9_weddings [.ref 0, .int a, .int k] h (fun r h' => r = some (.int (p_cpl h mt false a k)) ∧ sb XL h h') := by
  refine qm_Ev.run (M := mX9_weddings) okX9_weddings rfl hG fun z => ?_
  refine ⟨rfl, _, rfl, rfl, 0, 0, _, c_townAt hG _ h hm hT a, ⟨Nat.le_refl _, Nat.le_refl _⟩, ?_⟩
  rintro _ _ ⟨⟨t, Q, t1, rfl, rfl, T, V⟩ | ⟨hno, rfl⟩, rfl⟩
  · have eP : p_cpl h mt false (nI t) k = s_cpl (tw h t) (nn (tw h t)) false k := by
      rw [p_cpl, (p_in t1 hm).1, (p_in t1 hm).2]; rfl
    rw [eP]
    refine ⟨0, 0, _, c_isRowIndex hG _ h T V.1 k, ⟨Nat.le_refl _, Nat.le_refl _⟩, ?_⟩
    rintro _ _ ⟨rfl, rfl⟩
    refine b2_ne (fun hb => ⟨rfl, _, rfl, rfl, 0, 0, _, c_wed hG d h T V, ⟨Nat.le_refl _, Nat.le_refl _⟩, ?_⟩) (fun hb => ⟨trivial, congV (cpl_no hb).symm, sb.rf⟩)
    rintro _ h1 ⟨rfl, wr, f1⟩
    refine ⟨rfl, _, rfl, rfl, 0, 0, _, c_found hG _ h1 k, ⟨Nat.le_refl _, Nat.le_refl _⟩, ?_⟩
    rintro _ _ ⟨rfl, rfl⟩
    exact ⟨trivial, congV (found_r V.1 wr hb), f1.mono WLX⟩
  · refine ⟨trivial, congV ?_, sb.rf⟩
    rw [p_cpl, hno]; rfl
theorem b_sales {G : qm_G} (hG : G.2.2.2.2 = true) (d : Nat) (h : qm_H) {mt : Nat} (hm : mt ≤ 2) (hT : TWN h 3 mt (tw h)) (a k : Int32) : qm_Ev G (d + 10) 0 0 qyX9_sales [.ref 0, .int a, .int k] h (fun r h' => r = some (.int (p_cpl h mt true a k)) ∧ sb XL h h') := by
  refine qm_Ev.run (M := mX9_sales) okX9_sales rfl hG fun z => ?_
  refine ⟨rfl, _, rfl, rfl, 0, 0, _, c_townAt hG _ h hm hT a, ⟨Nat.le_refl _, Nat.le_refl _⟩, ?_⟩
  rintro _ _ ⟨⟨t, Q, t1, rfl, rfl, T, V⟩ | ⟨hno, rfl⟩, rfl⟩
  · have eP : p_cpl h mt true (nI t) k = s_cpl (tw h t) (nn (tw h t)) true k := by
      rw [p_cpl, (p_in t1 hm).1, (p_in t1 hm).2]; rfl
    rw [eP]
    refine ⟨0, 0, _, c_isRowIndex hG _ h T V.1 k, ⟨Nat.le_refl _, Nat.le_refl _⟩, ?_⟩
    rintro _ _ ⟨rfl, rfl⟩
    refine b2_ne (fun hb => ⟨rfl, _, rfl, rfl, 0, 0, _, c_trade hG d h T V, ⟨Nat.le_refl _, Nat.le_refl _⟩, ?_⟩) (fun hb => ⟨trivial, congV (cpl_no hb).symm, sb.rf⟩)
    rintro _ h1 ⟨rfl, wr, f1⟩
    refine ⟨rfl, _, rfl, rfl, 0, 0, _, c_found hG _ h1 k, ⟨Nat.le_refl _, Nat.le_refl _⟩, ?_⟩
    rintro _ _ ⟨rfl, rfl⟩
    exact ⟨trivial, congV (found_r V.1 wr hb), f1.mono WLX⟩
  · refine ⟨trivial, congV ?_, sb.rf⟩
    rw [p_cpl, hno]; rfl
