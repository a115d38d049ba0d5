/-! a text's lines; the reference: lines of towns -/
def nu (w : Nat) : Nat := [1, 2, 2, 2, 2, 2, 2, 2, 3, 0, 1, 1].getD w 0
def mo (w k : Nat) : Nat := if k = 1 then [30, 5, 5, 5, 5, 5, 5, 5, 5, 0, 5, 5].getD w 0 else if k = 2 then [0, 20, 5, 5, 5, 5, 5, 5, 5, 0, 0, 0].getD w 0 else 30
def unl (w : Nat) : Bool := decide (w = 2) || (decide (w = 4) || decide (w = 8))
def bd (w k : Nat) (vs : Nat → Int32) (v : Nat) : Bool := decide (mo w k < v) || (decide (k = 2) && (unl w && decide (vs 1 = nI v)))
def pn (B : Nat → Nat) (L w : Nat) : Nat → Nat → Nat → Nat × Nat → (Nat → Int32) → Except Nat (Nat × (Nat × Nat) × (Nat → Int32))
  | 0, _, a, flt, vs => .ok (a, flt, vs)
  | r + 1, k, a, flt, vs => if tK B L a = 3 then pn B L w r (k + 1) (tE B L a) (if bd w k vs (tV B L a) then fs1 flt 2 (tB B L a) else flt) (va_up vs k (nI (tV B L a))) else .error (tB B L a)
def LRes (h' : qm_H) (r : Option Value) (B : Nat → Nat) (L : Nat) (res : Except Nat (Nat × (Nat × Nat) × (Nat → Int32))) (Q : (Nat → Int32) → Nat × Nat → Prop) : Prop := match res with
  | .error p => r = some (.int 0) ∧ h'.1 26 15 = nI p
  | .ok (a2, flt2, vs) => r = some (.int 1) ∧ RD h' B L a2 flt2 ∧ Q vs flt2
def bs0 (w : Nat) : Nat := if w = 2 then 7 else if w = 3 then 19 else 25
def tdT (w : Nat) (vs T : Nat → Int32) : Nat → Int32 :=
  if w = 0 then (if T 0 < 6 then va_up (va_up T (13 + (T 0).toNatClampNeg) (vs 1)) 0 (T 0 + 1) else T)
  else if w = 1 then va_up T (1 + (vs 1).toNatClampNeg) (vs 2)
  else va_up T (bs0 w + (vs 1).toNatClampNeg) (T (bs0 w + (vs 1).toNatClampNeg) ||| ((1 : Int32) <<< (vs 2 &&& 31)))
def far1 (w : Nat) (vs : Nat → Int32) (f : Int32) : Int32 := if w = 3 ∨ w = 4 then mx f (vs 1) else f
def far2 (w : Nat) (vs : Nat → Int32) (f : Int32) : Int32 := if w = 4 then mx (far1 w vs f) (vs 2) else far1 w vs f
theorem nI_ne1 {v : Nat} (h : v < 2 ^ 31) : ¬ nI v = -1 := fun q => absurd (show (-1 : Int32) < 0 by decide) (by rw [← q]; exact nI_pos h)
theorem bdd_m1 {hi v : Nat} (h : v < 2 ^ 31) : bdd hi v (-1) = decide (hi < v) := by rw [bdd, decide_eq_false (nI_ne1 h), Bool.or_false]
theorem fs1_0 {flt : Nat × Nat} {f p : Nat} (hf : f ≠ 0) : (fs1 flt f p).1 ≠ 0 := by
  rw [fs1]
  split
  · exact hf
  · assumption
theorem e_personLine {G : qm_G} (hG : G.2.2.2.2 = true) (d : Nat) (h : qm_H) {B : Nat → Nat} {L a c : Nat} {flt : Nat × Nat} (hR : RD h B L a flt) (hc : h.1 35 0 = nI c) (hc6 : c ≤ 6) : qm_Ev G (d + 4) 0 0 qyX10_personLine [.ref 26] h (fun r h' => rf [35, 36] KR h h' ∧ LRes h' r B L (pn B L 0 1 1 a flt (fun _ => -1)) (fun vs _ => h'.1 35 = tdT 0 vs (h.1 35) ∧ h'.1 26 20 = h.1 26 20)) := by
  have k4 := hR.2.2.2.1
  refine qm_Ev.run (M := mX10_personLine) okX10_personLine rfl hG fun z => ?_
  refine ⟨rfl, 0, 0, _, e_take hG d h hR (k := 0) (hi := 30) (by decide) (by decide), ⟨Nat.le_refl _, Nat.le_refl _⟩, ?_⟩
  rintro _ h' (⟨a1, rfl, a2, a3, a4, a5, a6⟩ | ⟨a1, rfl, a2, a3⟩)
  · have hv := tV_le k4 a1
    have epn : pn B L 0 1 1 a flt (fun _ => -1) = .ok (tE B L a, (if bdd 30 (tV B L a) (-1) then fs1 flt 2 (tB B L a) else flt), va_up (fun _ => -1) 1 (nI (tV B L a))) := by
      rw [pn, if_pos a1, pn, bdd_m1 (by omega), bd, mo, if_pos rfl]
      simp
    rw [epn]
    have e35 : h'.1 35 = h.1 35 := a6.2.1 35 (by decide) (by decide)
    have f0 : rf [35, 36] KR h h' := a6.mono (by decide) (fun q hq => hq)
    refine ⟨fun _ => ?_, fun q => absurd q (by decide)⟩
    refine ⟨rfl, _, rfl, rfl, (vp_in_nI (n := 0) (by decide) (by decide) : vp_in (nI 0) 161), fun (q : nI 6 ≤ h'.1 35 0) => ?_, fun (q : ¬ nI 6 ≤ h'.1 35 0) => ?_⟩
    · refine ⟨rfl, f0, rfl, a2, ?_, a5⟩
      rw [e35] at q ⊢
      have q' : (6 : Int32) ≤ h.1 35 0 := q
      rw [tdT, if_pos rfl, if_neg (fun z => Int32.lt_irrefl (Int32.lt_of_lt_of_le z q'))]
    · rw [e35, hc] at q
      have hc6 : c < 6 := by
        rcases Nat.lt_or_ge c 6 with e | e
        · exact e
        · exact absurd (nI_le e (by omega)) q
      have e13 : (13 : Int32) + h'.1 35 0 = nI (13 + c) := by rw [e35, hc]; exact nI_add 13 c
      have ein : vp_in ((13 : Int32) + h'.1 35 0) 161 := by rw [e13]; exact vp_in_nI (by omega) (by decide)
      have ecl : ((13 : Int32) + h'.1 35 0).toNatClampNeg = 13 + c := by rw [e13, nI_clamp (by omega)]
      have z0 : vp_in (nI 0) 161 := vp_in_nI (n := 0) (by decide) (by decide)
      refine ⟨rfl, _, rfl, rfl, _, rfl, rfl, (vp_in_nI (n := 0) (by decide) (by decide) : vp_in (nI 0) 4), rfl, ein, rfl, _, rfl, rfl, z0, rfl, z0, rfl, ?_, rfl, ?_, ?_, ?_⟩
      · exact (f0.si (by decide) (by decide)).si (by decide) (by decide)
      · exact (a2.si (by decide) (by decide)).si (by decide) (by decide)
      · show (qm_si (qm_si h' 35 ((13 : Int32) + h'.1 35 0).toNatClampNeg (h'.1 36 0)) 35 0 ((qm_si h' 35 ((13 : Int32) + h'.1 35 0).toNatClampNeg (h'.1 36 0)).1 35 0 + 1)).1 35 = _
        rw [ecl, si_row, si_row, up_n _ _ (by omega), e35, a3, up_s, tdT, if_pos rfl, hc, if_pos (show nI c < (6 : Int32) from nI_lt (b := 6) hc6 (by decide)), nI_clamp (by omega), up_s]
      · show (qm_si (qm_si h' 35 _ _) 35 _ _).1 26 20 = _
        rw [si_ne _ _ _ (by decide), si_ne _ _ _ (by decide)]
        exact a5
  · have epn : pn B L 0 1 1 a flt (fun _ => -1) = .error (tB B L a) := by rw [pn, if_neg a1]
    rw [epn]
    exact ⟨fun q => absurd rfl q, fun _ => ⟨rfl, a3.mono (by decide) (fun q hq => hq), rfl, a2⟩⟩
theorem wc_in : ∀ i, i < 12 → ∀ j, j < 12 → wc i = wc j → i = j := by decide
theorem lgz {v : Int64} {i w : Nat} (hv : v = wc w) (hw : w < 12) (hi : i < 12) : lg_cmp v (wc i) = 0 ↔ w = i := by
  rw [lg_cmp_eq, hv]
  exact ⟨fun q => wc_in w hw i hi q, fun q => by rw [q]⟩
theorem e_twoLine {G : qm_G} (hG : G.2.2.2.2 = true) (d : Nat) (h : qm_H) {B : Nat → Nat} {L a w : Nat} {flt : Nat × Nat} (hR : RD h B L a flt) (hw1 : 1 ≤ w) (hw4 : w ≤ 4) (hg : h.1 26 21 = 1) {v : Int64} (hv : v = wc w) : qm_Ev G (d + 4) 0 0 qyX10_twoLine [.ref 26, .long v] h (fun r h' => rf [35, 36] KR h h' ∧ LRes h' r B L (pn B L w 2 1 a flt (fun _ => -1)) (fun vs flt2 => (flt2.1 = 0 → h'.1 35 = tdT w vs (h.1 35)) ∧ h'.1 35 0 = h.1 35 0 ∧ h'.1 26 20 = far2 w vs (h.1 26 20))) := by
  have k4 := hR.2.2.2.1
  obtain ⟨t1, t2⟩ := tB_le (B := B) k4
  obtain ⟨t3, t4, t5, -⟩ := tE_lt (B := B) k4
  have lz := fun i (hi : i < 12) => lgz (i := i) hv (by omega) hi
  obtain ⟨R, hRes⟩ : ∃ R, R = pn B L w 2 1 a flt (fun _ => -1) := ⟨_, rfl⟩
  rw [← hRes]
  refine qm_Ev.by (M := mX10_twoLine) okX10_twoLine (Nat.le_of_ble_eq_true rfl) hG fun z hA => ?_
  have hm1 : mo w 1 = 5 := by
    rcases (by omega : w = 1 ∨ w = 2 ∨ w = 3 ∨ w = 4) with e | e | e | e <;> rw [e] <;> rfl
  obtain ⟨hi, hhi⟩ : ∃ hi, hi = if w = 1 then 20 else 5 := ⟨_, rfl⟩
  have hm2 : mo w 2 = hi := by
    rw [hhi]
    rcases (by omega : w = 1 ∨ w = 2 ∨ w = 3 ∨ w = 4) with e | e | e | e <;> rw [e] <;> rfl
  have hu : unl w = (decide (w = 2) || decide (w = 4)) := by rw [unl, decide_eq_false (by omega : ¬ w = 8), Bool.or_false]
  have m38 : ∀ h1 p, R = .error p → h1.1 26 15 = nI p → rf [35, 36] KR h h1 → qm_PW G mX10_twoLine z 38 0 0 [vr 26, vl v, vu, vu] [] h1 := fun h1 p c1 c2 c3 => by
    refine qm_wp_ok hA [] 20 _ _ _ _ _ _ ⟨rfl, c3, ?_⟩
    rw [c1]
    exact ⟨rfl, c2⟩
  have m11 : qm_PW G mX10_twoLine z 11 0 0 [vr 26, vl v, vu, vu] [.int (b2 (unl w))] h := by
    refine qm_wp_ok hA [28, 38] 40 _ _ _ _ _ _ ⟨rfl, 0, 0, _, e_take hG d h hR (k := 0) (hi := 5) (by decide) (by decide), ⟨Nat.le_refl _, Nat.le_refl _⟩, ?_⟩
    rintro _ h1 (⟨a1, rfl, a2, a3, a4, a5, a6⟩ | ⟨a1, rfl, a2, a3⟩)
    · have hv1 := tV_le k4 a1
      obtain ⟨v1, hv1e⟩ : ∃ v1, v1 = tV B L a := ⟨_, rfl⟩
      rw [← hv1e] at hv1 a2 a3 a4
      obtain ⟨flt1, hf1⟩ : ∃ flt1, flt1 = (if bdd 5 v1 (-1) then fs1 flt 2 (tB B L a) else flt) := ⟨_, rfl⟩
      rw [← hf1] at a2
      have k4' := a2.2.2.2.1
      obtain ⟨a', ha'⟩ : ∃ a', a' = tE B L a := ⟨_, rfl⟩
      rw [← ha'] at a2 k4'
      obtain ⟨but, hbut⟩ : ∃ but : Int32, but = if unl w then nI v1 else -1 := ⟨_, rfl⟩
      have epn : R = if tK B L a' = 3 then .ok (tE B L a', (if bdd hi (tV B L a') but then fs1 flt1 2 (tB B L a') else flt1), va_up (va_up (fun _ => -1) 1 (nI v1)) 2 (nI (tV B L a'))) else .error (tB B L a') := by
        rw [hRes, pn, if_pos a1, pn, ← ha', ← hv1e]
        have e1 : bd w 1 (fun _ => -1) v1 = bdd 5 v1 (-1) := by
          rw [bdd_m1 (by omega), bd, hm1]
          simp
        rw [e1, ← hf1]
        by_cases c3 : tK B L a' = 3
        · have hv2 := tV_le k4' c3
          rw [if_pos c3, if_pos c3, pn]
          have e2 : bd w 2 (va_up (fun _ => -1) 1 (nI v1)) (tV B L a') = bdd hi (tV B L a') but := by
            rw [bd, bdd, hm2, up_s, hbut]
            cases unl w
            · rw [if_neg (by decide), decide_eq_false (nI_ne1 (by omega))]
              simp
            · rw [if_pos rfl]
              simp only [Bool.true_and, decide_true]
              congr 1
              exact decide_eq_decide.mpr ⟨fun q => q.symm, fun q => q.symm⟩
          rw [e2]
        · rw [if_neg c3, if_neg c3]
      have f0 : rf [35, 36] KR h h1 := a6.mono (by decide) (fun q hq => hq)
      have e35 : h1.1 35 = h.1 35 := a6.2.1 35 (by decide) (by decide)
      -- behind the second number
      have m36 : qm_PW G mX10_twoLine z 36 0 0 [vr 26, vl v, vu, vi (b2 (unl w))] [.int but, .int (nI hi), .int 0, .int (nI 1), .ref 26] h1 := by
        refine qm_wp_ok hA [38, 49, 59] 40 _ _ _ _ _ _ ⟨rfl, 0, 0, _, e_takeBut hG (d + 1) h1 a2 (k := 1) (hi := hi) (by decide) (by rw [hhi]; split <;> omega) but, ⟨Nat.le_refl _, Nat.le_refl _⟩, ?_⟩
        rintro _ h2 (⟨b1, rfl, b2', b3, b4, b5, b6⟩ | ⟨b1, rfl, b2', b3⟩)
        · have hv2 := tV_le k4' b1
          rw [if_pos b1] at epn
          obtain ⟨v2, hv2e⟩ : ∃ v2, v2 = tV B L a' := ⟨_, rfl⟩
          rw [← hv2e] at hv2 b2' b3 b4 epn
          obtain ⟨flt2, hf2⟩ : ∃ flt2, flt2 = (if bdd hi v2 but then fs1 flt1 2 (tB B L a') else flt1) := ⟨_, rfl⟩
          rw [← hf2] at b2' epn
          obtain ⟨vs, hvs⟩ : ∃ vs, vs = va_up (va_up (fun _ => (-1 : Int32)) 1 (nI v1)) 2 (nI v2) := ⟨_, rfl⟩
          rw [← hvs] at epn
          have vs1 : vs 1 = nI v1 := by rw [hvs, up_n _ _ (by decide), up_s]
          have vs2 : vs 2 = nI v2 := by rw [hvs, up_s]
          have r0 : h2.1 36 0 = nI v1 := by rw [b3, up_n _ _ (by decide), a3, up_s]
          have r1 : h2.1 36 1 = nI v2 := by rw [b3, up_s]
          have g0 : rf [35, 36] KR h h2 := f0.tr (b6.mono (by decide) (fun q hq => hq))
          have g35 : h2.1 35 = h.1 35 := by rw [b6.2.1 35 (by decide) (by decide), e35]
          have g20 : h2.1 26 20 = h.1 26 20 := by rw [b5, a5]
          have g21 : h2.1 26 21 = if bdd 5 v1 (-1) || bdd hi v2 but then 0 else 1 := by
            rw [b4, a4, hg]
            cases bdd 5 v1 (-1) <;> cases bdd hi v2 but <;> rfl
          have hflt : flt2.1 = 0 → (bdd 5 v1 (-1) || bdd hi v2 but) = false := fun q => by
            cases c2 : bdd hi v2 but
            · cases c1 : bdd 5 v1 (-1)
              · rfl
              · rw [hf2, c2, if_neg (by decide), hf1, c1, if_pos rfl] at q
                exact absurd q (fs1_0 (by decide))
            · rw [hf2, c2, if_pos rfl] at q
              exact absurd q (fs1_0 (by decide))
          have n0 : vp_in (nI 0) 4 := vp_in_nI (n := 0) (by decide) (by decide)
          have n1 : vp_in (nI 1) 4 := vp_in_nI (n := 1) (by decide) (by decide)
          have m75 : ∀ h3 s, RD h3 B L (tE B L a') flt2 → rf [35, 36] KR h h3 → h3.1 35 = h.1 35 → h3.1 36 = h2.1 36 → h3.1 26 21 = h2.1 26 21 → s = far2 w vs (h.1 26 20) → qm_PW G mX10_twoLine z 75 0 0 [vr 26, vl v, vu, vi (b2 (unl w))] [.int s, .ref 26] h3 := by
            intro h3 s q1 q2 q3 q4 q5 q6
            have x1 : RD (qm_si h3 26 20 s) B L (tE B L a') flt2 := q1.s26 (by decide)
            have x2 : rf [35, 36] KR h (qm_si h3 26 20 s) := q2.s26 (by decide)
            have x3 : (qm_si h3 26 20 s).1 35 = h.1 35 := by rw [si_ne _ _ _ (by decide), q3]
            have x4 : (qm_si h3 26 20 s).1 36 = h2.1 36 := by rw [si_ne _ _ _ (by decide), q4]
            have x5 : (qm_si h3 26 20 s).1 26 21 = h2.1 26 21 := by rw [si_row, up_n _ _ (by decide), q5]
            have x6 : (qm_si h3 26 20 s).1 26 20 = far2 w vs (h.1 26 20) := by rw [si_row, up_s, q6]
            have fin : ∀ h4, rf [35, 36] KR h h4 → RD h4 B L (tE B L a') flt2 → (flt2.1 = 0 → h4.1 35 = tdT w vs (h.1 35)) → h4.1 35 0 = h.1 35 0 → h4.1 26 20 = far2 w vs (h.1 26 20) → rf [35, 36] KR h h4 ∧ LRes h4 (some (.int 1)) B L R (fun vs flt2 => (flt2.1 = 0 → h4.1 35 = tdT w vs (h.1 35)) ∧ h4.1 35 0 = h.1 35 0 ∧ h4.1 26 20 = far2 w vs (h.1 26 20)) := fun h4 z1 z2 z3 z4 z5 => ⟨z1, by rw [epn]; exact ⟨rfl, z2, z3, z4, z5⟩⟩
            cases hgood : bdd 5 v1 (-1) || bdd hi v2 but with
            | true =>
              rw [hgood] at g21 hflt
              have g21 : (qm_si h3 26 20 s).1 26 21 = 0 := by rw [x5, g21]; rfl
              refine qm_wp_ok hA [] 60 _ _ _ _ _ _ ⟨rfl, trivial, rfl, fun (q : ¬ (qm_si h3 26 20 s).1 26 21 = 0) => absurd g21 q, fun _ => ⟨rfl, fin (qm_si h3 26 20 s) x2 x1 (fun z => absurd (hflt z) (by decide)) (by rw [x3]) x6⟩⟩
            | false =>
              rw [hgood] at g21
              have g21 : (qm_si h3 26 20 s).1 26 21 = 1 := by rw [x5, g21]; rfl
              have b51 : bdd 5 v1 (-1) = false := (Bool.or_eq_false_iff.mp hgood).1
              have b52 : bdd hi v2 but = false := (Bool.or_eq_false_iff.mp hgood).2
              rw [bdd_m1 (by omega)] at b51
              have hv15 : v1 ≤ 5 := by have := of_decide_eq_false b51; omega
              rw [bdd] at b52
              have hv25 : v2 ≤ hi := by have := of_decide_eq_false (Bool.or_eq_false_iff.mp b52).1; omega
              have y0 : (qm_si h3 26 20 s).1 36 0 = nI v1 := by rw [x4, r0]
              have y1 : (qm_si h3 26 20 s).1 36 1 = nI v2 := by rw [x4, r1]
              obtain ⟨H, hH⟩ : ∃ H, H = qm_si h3 26 20 s := ⟨_, rfl⟩
              have m114 : w ≠ 1 → qm_PW G mX10_twoLine z 114 0 0 [vr 26, vl v, vu, vi (b2 (unl w))] [.int (nI (bs0 w)), .ref 35] (qm_si h3 26 20 s) := by
                intro hw
                rw [← hH] at x1 x2 x3 x6 y0 y1 ⊢
                have hbs : bs0 w ≤ 25 ∧ 7 ≤ bs0 w := by
                  rw [bs0]
                  split
                  · omega
                  · split <;> omega
                have ei : nI (bs0 w) + H.1 36 0 = nI (bs0 w + v1) := by rw [y0, nI_add]
                have ein : vp_in (nI (bs0 w) + H.1 36 0) 161 := by rw [ei]; exact vp_in_nI (by omega) (by decide)
                refine qm_wp_ok hA [] 60 _ _ _ _ _ _ ⟨rfl, _, rfl, rfl, n0, rfl, ein, rfl, _, rfl, rfl, n1, rfl, ein, rfl, ?_⟩
                refine fin (qm_si H 35 (nI (bs0 w) + H.1 36 0).toNatClampNeg (H.1 35 (nI (bs0 w) + H.1 36 0).toNatClampNeg ||| ((1 : Int32) <<< (H.1 36 1 &&& 31)))) (x2.si (by decide) (by decide)) (x1.si (by decide) (by decide)) (fun _ => ?_) ?_ ?_
                · rw [si_row, ei, nI_clamp (by omega), x3, y1, tdT, if_neg (by omega), if_neg hw, vs1, vs2, nI_clamp (by omega)]
                · rw [si_row, ei, nI_clamp (by omega), up_n _ _ (by omega), x3]
                · rw [si_ne _ _ _ (by decide)]; exact x6
              refine qm_wp_ok hA [114] 60 _ _ _ _ _ _ ⟨rfl, trivial, rfl, fun _ => ⟨fun (q : ¬ lg_cmp v (wc 1) = 0) => ⟨rfl, _, rfl, fun (q2 : ¬ lg_cmp v (wc 2) = 0) => ⟨fun (q3 : ¬ lg_cmp v (wc 3) = 0) => ?_, fun (q3 : lg_cmp v (wc 3) = 0) => ?_⟩, fun (q2 : lg_cmp v (wc 2) = 0) => ?_⟩, fun (q : lg_cmp v (wc 1) = 0) => ?_⟩, fun (q : (qm_si h3 26 20 s).1 26 21 = 0) => absurd q (by rw [g21]; decide)⟩
              · have hw : w ≠ 1 := fun e => q ((lz 1 (by decide)).mpr e)
                have k := m114 hw
                rw [bs0, if_neg (fun e => q2 ((lz 2 (by decide)).mpr e)), if_neg (fun e => q3 ((lz 3 (by decide)).mpr e))] at k
                exact k
              · have hw : w ≠ 1 := fun e => q ((lz 1 (by decide)).mpr e)
                have k := m114 hw
                rw [bs0, if_neg (fun e => q2 ((lz 2 (by decide)).mpr e)), if_pos ((lz 3 (by decide)).mp q3)] at k
                exact k
              · have hw : w ≠ 1 := fun e => q ((lz 1 (by decide)).mpr e)
                have k := m114 hw
                rw [bs0, if_pos ((lz 2 (by decide)).mp q2)] at k
                exact k
              · have hw := (lz 1 (by decide)).mp q
                have ei : (1 : Int32) + (qm_si h3 26 20 s).1 36 0 = nI (1 + v1) := by rw [y0]; exact nI_add 1 v1
                have ein : vp_in ((1 : Int32) + (qm_si h3 26 20 s).1 36 0) 161 := by rw [ei]; exact vp_in_nI (by omega) (by decide)
                refine ⟨rfl, _, rfl, rfl, _, rfl, rfl, n0, rfl, _, rfl, rfl, n1, rfl, ein, rfl, ?_⟩
                refine fin (qm_si (qm_si h3 26 20 s) 35 ((1 : Int32) + (qm_si h3 26 20 s).1 36 0).toNatClampNeg ((qm_si h3 26 20 s).1 36 1)) (x2.si (by decide) (by decide)) (x1.si (by decide) (by decide)) (fun _ => ?_) ?_ ?_
                · rw [si_row, ei, nI_clamp (by omega), x3, y1, tdT, if_neg (by omega), if_pos hw, vs1, vs2, nI_clamp (by omega)]
                · rw [si_row, ei, nI_clamp (by omega), up_n _ _ (by omega), x3]
                · rw [si_ne _ _ _ (by decide)]; exact x6
          have m59 : ∀ s, s = far1 w vs (h.1 26 20) → qm_PW G mX10_twoLine z 59 0 0 [vr 26, vl v, vu, vi (b2 (unl w))] [.int s, .ref 26] h2 := by
            intro s hs
            have x1 : RD (qm_si h2 26 20 s) B L (tE B L a') flt2 := b2'.s26 (by decide)
            have x2 : rf [35, 36] KR h (qm_si h2 26 20 s) := g0.s26 (by decide)
            have x6 : (qm_si h2 26 20 s).1 26 20 = s := by rw [si_row, up_s]
            have x7 : (qm_si h2 26 20 s).1 36 1 = nI v2 := by rw [si_ne _ _ _ (by decide), r1]
            have m := fun s' hs' => m75 (qm_si h2 26 20 s) s' x1 x2 (by rw [si_ne _ _ _ (by decide), g35]) (by rw [si_ne _ _ _ (by decide)]) (by rw [si_row, up_n _ _ (by decide)]) hs'
            refine qm_wp_ok hA [75] 40 _ _ _ _ _ _ ⟨rfl, trivial, fun (q : ¬ lg_cmp v (wc 4) = 0) => ⟨rfl, m _ ?_⟩, fun (q : lg_cmp v (wc 4) = 0) => ⟨rfl, rfl, _, rfl, rfl, n1, 0, 0, _, e_greater hG (d + 3) (qm_si h2 26 20 s) _ _, ⟨Nat.le_refl _, Nat.le_refl _⟩, ?_⟩⟩
            · show (qm_si h2 26 20 s).1 26 20 = _
              rw [x6, hs, far2, if_neg (fun e => q ((lz 4 (by decide)).mpr e))]
            · rintro _ _ ⟨rfl, rfl⟩
              refine m _ ?_
              show mx ((qm_si h2 26 20 s).1 26 20) ((qm_si h2 26 20 s).1 36 1) = _
              rw [x6, x7, hs, far2, if_pos ((lz 4 (by decide)).mp q), vs2]
          have m49 : (w = 3 ∨ w = 4) → qm_PW G mX10_twoLine z 49 0 0 [vr 26, vl v, vu, vi (b2 (unl w))] [.ref 26] h2 := by
            intro hw
            refine qm_wp_ok hA [59] 40 _ _ _ _ _ _ ⟨rfl, rfl, _, rfl, rfl, n0, 0, 0, _, e_greater hG (d + 3) h2 _ _, ⟨Nat.le_refl _, Nat.le_refl _⟩, ?_⟩
            rintro _ _ ⟨rfl, rfl⟩
            refine m59 _ ?_
            show mx (h2.1 26 20) (h2.1 36 0) = _
            rw [g20, r0, far1, if_pos hw, vs1]
          refine ⟨fun _ => ⟨fun (q : lg_cmp v (wc 3) = 0) => m49 (Or.inl ((lz 3 (by decide)).mp q)), fun (q : ¬ lg_cmp v (wc 3) = 0) => ⟨fun (q2 : ¬ lg_cmp v (wc 4) = 0) => ⟨rfl, m59 _ ?_⟩, fun (q2 : lg_cmp v (wc 4) = 0) => m49 (Or.inr ((lz 4 (by decide)).mp q2))⟩⟩, fun z => absurd z (by decide)⟩
          rw [far1, if_neg (fun z => z.elim (fun e => q ((lz 3 (by decide)).mpr e)) (fun e => q2 ((lz 4 (by decide)).mpr e)))]
          exact g20
        · rw [if_neg b1] at epn
          exact ⟨fun z => absurd rfl z, fun _ => qm_PW.mask [true, true, false, false] (m38 h2 _ epn b2' (f0.tr (b3.mono (by decide) (fun q hq => hq))))⟩
      have m28 : qm_PW G mX10_twoLine z 28 0 0 [vr 26, vl v, vu, vi (b2 (unl w))] [.int (nI hi), .int 0, .int (nI 1), .ref 26] h1 := by
        refine qm_wp_ok hA [36] 40 _ _ _ _ _ _ ?_
        refine b2_eq (fun hun => ⟨rfl, _, rfl, rfl, (vp_in_nI (n := 0) (by decide) (by decide) : vp_in (nI 0) 4), ?_⟩) (fun hun => ?_)
        · have eb : h1.1 36 0 = but := by rw [a3, up_s, hbut, if_pos hun]
          rw [← eb] at m36
          exact m36
        · rw [hbut, if_neg (by rw [hun]; decide)] at m36
          exact m36
      refine ⟨fun z => absurd z (by decide), fun _ => ⟨fun (q : ¬ lg_cmp v (wc 1) = 0) => ?_, fun (q : lg_cmp v (wc 1) = 0) => ?_⟩⟩
      · rw [hhi, if_neg (fun e => q ((lz 1 (by decide)).mpr e))] at m28
        exact m28
      · rw [hhi, if_pos ((lz 1 (by decide)).mp q)] at m28
        exact m28
    · have epn : R = .error (tB B L a) := by rw [hRes, pn, if_neg a1]
      exact ⟨fun _ => qm_PW.mask [true, true, false, false] (m38 h1 _ epn a2 (a3.mono (by decide) (fun q hq => hq))), fun z => absurd rfl z⟩
  rw [hu] at m11
  refine qm_wp_ok hA [11] 40 _ _ _ _ _ _ ⟨fun (q : lg_cmp v (wc 2) = 0) => ?_, fun (q : ¬ lg_cmp v (wc 2) = 0) => ⟨fun (q2 : ¬ lg_cmp v (wc 4) = 0) => ?_, fun (q2 : lg_cmp v (wc 4) = 0) => ?_⟩⟩
  · rw [decide_eq_true ((lz 2 (by decide)).mp q)] at m11
    exact m11
  · rw [decide_eq_false (fun e => q ((lz 2 (by decide)).mpr e)), decide_eq_false (fun e => q2 ((lz 4 (by decide)).mpr e))] at m11
    exact m11
  · rw [decide_eq_true ((lz 4 (by decide)).mp q2), Bool.or_true] at m11
    exact m11
