/-! the reference: a line -/
def wof (l : List Nat) : List Nat → Option Nat
  | [] => none
  | i :: is => if l = nm i then some i else wof l is
def ws (srt : Nat) : List Nat := if srt = 0 then [0, 1, 2, 3, 4] else if srt = 1 then [5, 6, 7, 8, 9] else [10, 11]
def lim (srt : Nat) : Nat := if srt = 0 then 6 else if srt = 1 then 40 else 8
def cnd (srt w : Nat) : Bool := decide (¬ srt = 0) || decide (w = 0)
def cn (srt w c : Nat) : Nat := if cnd srt w then min (c + 1) (lim srt) else c
def krow (wide c : Nat) (r T : Nat → Int32) : Nat → Nat → Int32
  | 0 => T
  | i + 1 => va_up (krow wide c r T i) (1 + wide * c + i) (r i)
def tdR (wide lm : Nat) (kd : Int32) (vs T : Nat → Int32) : Nat → Int32 := if T 0 = nI lm then T else va_up (krow wide (T 0).toNatClampNeg (fun i => if i = 0 then kd else vs i) T wide) 0 (T 0 + 1)
def td (srt w : Nat) (vs T : Nat → Int32) : Nat → Int32 := if srt = 0 then tdT w vs T else if srt = 1 then tdR 4 40 (nI (w - 5)) vs T else tdR 2 8 (nI (w - 10)) vs T
def pl (B : Nat → Nat) (L srt a c : Nat) (flt : Nat × Nat) : Except Nat (Nat × Nat × (Nat × Nat) × (Nat → Int32)) := match wof (wrd B L a) (ws srt) with
  | none => .error (tB B L a)
  | some w => match pn B L w (nu w) 1 (tE B L a) (if cnd srt w && decide (lim srt ≤ c) then fs1 flt 3 (tB B L a) else flt) (fun _ => -1) with
    | .error p => .error p
    | .ok x => .ok (w, x)
def LR2 (h' : qm_H) (r : Option Value) (B : Nat → Nat) (L : Nat) (res : Except Nat (Nat × Nat × (Nat × Nat) × (Nat → Int32))) (Q : Nat → (Nat → Int32) → Nat × Nat → Prop) : Prop := match res with
  | .error p => r = some (.int 0) ∧ h'.1 26 15 = nI p
  | .ok (w, a2, flt2, vs) => r = some (.int 1) ∧ RD h' B L a2 flt2 ∧ Q w vs flt2
def QL (srt c : Nat) (h h' : qm_H) (w : Nat) (vs : Nat → Int32) (flt2 : Nat × Nat) : Prop := (flt2.1 = 0 → h'.1 35 = td srt w vs (h.1 35) ∧ (srt = 0 → h'.1 26 20 = far2 w vs (h.1 26 20))) ∧ h'.1 35 0 = nI (cn srt w c)
theorem LR2.of {h h' : qm_H} {r : Option Value} {B : Nat → Nat} {L srt a c w : Nat} {flt : Nat × Nat} (hw : wof (wrd B L a) (ws srt) = some w) {Q : (Nat → Int32) → Nat × Nat → Prop} (k : LRes h' r B L (pn B L w (nu w) 1 (tE B L a) (if cnd srt w && decide (lim srt ≤ c) then fs1 flt 3 (tB B L a) else flt) (fun _ => -1)) Q) (hq : ∀ vs flt2, Q vs flt2 → QL srt c h h' w vs flt2) : LR2 h' r B L (pl B L srt a c flt) (QL srt c h h') := by
  rw [pl, hw]
  show LR2 h' r B L (match pn B L w (nu w) 1 (tE B L a) (if cnd srt w && decide (lim srt ≤ c) then fs1 flt 3 (tB B L a) else flt) (fun _ => -1) with
    | .error p => .error p
    | .ok x => .ok (w, x)) _
  cases q : pn B L w (nu w) 1 (tE B L a) (if cnd srt w && decide (lim srt ≤ c) then fs1 flt 3 (tB B L a) else flt) (fun _ => -1) with
  | error p => rw [q] at k; exact k
  | ok x =>
    obtain ⟨a2, flt2, vs⟩ := x
    rw [q] at k
    exact ⟨k.1, k.2.1, hq vs flt2 k.2.2⟩
theorem LR2.no {h h' : qm_H} {B : Nat → Nat} {L srt a c : Nat} {flt : Nat × Nat} (hw : wof (wrd B L a) (ws srt) = none) (k : h'.1 26 15 = nI (tB B L a)) : LR2 h' (some (.int 0)) B L (pl B L srt a c flt) (QL srt c h h') := by
  rw [pl, hw]
  exact ⟨rfl, k⟩
theorem RD.full {h h1 : qm_H} {B : Nat → Nat} {L a : Nat} {flt flt1 : Nat × Nat} (k : RD h B L a flt) (hk : tK B L a ≠ 0) (f : rf [] [16, 17] h h1) (l : LF h1 (tB B L a + 1) flt1) : RW h1 B L (tE B L a) flt1 := by
  obtain ⟨k1, k2, k3, k4, k5, k6⟩ := k
  obtain ⟨t3, t4, t5, -⟩ := tE_lt (B := B) k4
  have := t5 hk
  exact ⟨by rw [f.2.1 27 (by decide) (by decide)]; exact k1, k2, by rw [f.2.2.2 10 (by decide)]; exact k3, t4, by rw [f.2.2.2 9 (by decide)]; exact k5.1, l.up (by omega)⟩
theorem e_townLine {G : qm_G} (hG : G.2.2.2.2 = true) (d : Nat) (h : qm_H) {B : Nat → Nat} {L a c : Nat} {flt : Nat × Nat} (hR : RD h B L a flt) (hc : h.1 35 0 = nI c) (hc6 : c ≤ 6) (hk : tK B L a ≠ 0) (hg : h.1 26 21 = 1) {v : Int64} (hv0 : v = hv B L a) : qm_Ev G (d + 5) 0 0 qyX10_townLine [.ref 26, .long v, .int (nI (tB B L a))] h (fun r h' => rf [35, 36] KR h h' ∧ LR2 h' r B L (pl B L 0 a c flt) (QL 0 c h h')) := by
  have k4 := hR.2.2.2.1
  have k2 := hR.2.1
  obtain ⟨t1, t2⟩ := tB_le (B := B) k4
  have hvw : ∀ i, i < 12 → (lg_cmp v (wc i) = 0 ↔ wrd B L a = nm i) := fun i hi => by rw [lg_cmp_eq, hv0, hv_w k4 hi]
  refine qm_Ev.by (M := mX10_townLine) okX10_townLine (Nat.le_of_ble_eq_true rfl) hG fun z hA => ?_
  have m33 : ∀ w, 1 ≤ w → w ≤ 4 → wrd B L a = nm w → wof (wrd B L a) (ws 0) = some w → qm_PW G mX10_townLine z 33 0 0 [vr 26, vl v, vu, vu] [] h := by
    intro w hw1 hw4 hw hwo
    have hvc : v = wc w := by rw [hv0]; exact (hv_w k4 (by omega)).mpr hw
    refine qm_wp_ok hA [] 40 _ _ _ _ _ _ ⟨rfl, 0, 0, _, e_tok hG (d + 3) h hR.w, ⟨Nat.le_refl _, Nat.le_refl _⟩, ?_⟩
    rintro _ h1 ⟨rfl, s1, s2⟩
    have hcw : cnd 0 w = false := by rw [cnd, decide_eq_false (by omega : ¬ w = 0)]; rfl
    have e35 : h1.1 35 = h.1 35 := s2.2.1 35 (by decide)
    have e20 : h1.1 26 20 = h.1 26 20 := s2.2.2.2 20 (by decide)
    refine ⟨rfl, 0, 0, _, e_twoLine hG d h1 s1 hw1 hw4 (by rw [s2.2.2.2 21 (by decide)]; exact hg) hvc, ⟨Nat.le_refl _, Nat.le_refl _⟩, ?_⟩
    rintro r h2 ⟨q1, q2⟩
    have hnu : nu w = 2 := by
      rcases (by omega : w = 1 ∨ w = 2 ∨ w = 3 ∨ w = 4) with e | e | e | e <;> rw [e] <;> rfl
    have fin : rf [35, 36] KR h h2 ∧ LR2 h2 r B L (pl B L 0 a c flt) (QL 0 c h h2) := by
      refine ⟨(tfto s2 (by decide)).tr q1, LR2.of hwo (Q := fun vs flt2 => (flt2.1 = 0 → h2.1 35 = tdT w vs (h1.1 35)) ∧ h2.1 35 0 = h1.1 35 0 ∧ h2.1 26 20 = far2 w vs (h1.1 26 20)) (by rw [hcw, hnu]; exact q2) (fun vs flt2 z => ?_)⟩
      rw [e35, e20] at z
      exact ⟨fun e => ⟨by rw [td, if_pos rfl]; exact z.1 e, fun _ => z.2.2⟩, by rw [z.2.1, hc, cn, hcw]; rfl⟩
    have hr : r = some (.int 0) ∨ r = some (.int 1) := by
      have := q2
      cases q : pn B L w 2 1 (tE B L a) flt (fun _ => -1) with
      | error p => rw [q] at this; exact Or.inl this.1
      | ok x => rw [q] at this; exact Or.inr this.1
    rcases hr with rfl | rfl
    · exact ⟨rfl, fin⟩
    · exact ⟨rfl, fin⟩
  refine qm_wp_ok hA [33] 60 _ _ _ _ _ _ ⟨fun (q : ¬ lg_cmp v (wc 0) = 0) => ?_, fun (q : lg_cmp v (wc 0) = 0) => ?_⟩
  · have z0 : ¬ wrd B L a = nm 0 := fun e => q ((hvw 0 (by decide)).mpr e)
    have w0 : wof (wrd B L a) (ws 0) = wof (wrd B L a) [1, 2, 3, 4] := if_neg z0
    refine ⟨fun (q1 : lg_cmp v (wc 1) = 0) => ?_, fun (q1 : ¬ lg_cmp v (wc 1) = 0) => ?_⟩
    · have z1 := (hvw 1 (by decide)).mp q1
      exact qm_PW.mask [true, true, false, false] (m33 1 (by decide) (by decide) z1 (w0.trans (if_pos z1)))
    have z1 : ¬ wrd B L a = nm 1 := fun e => q1 ((hvw 1 (by decide)).mpr e)
    have w1 : wof (wrd B L a) (ws 0) = wof (wrd B L a) [2, 3, 4] := w0.trans (if_neg z1)
    refine ⟨fun (q2 : lg_cmp v (wc 2) = 0) => ?_, fun (q2 : ¬ lg_cmp v (wc 2) = 0) => ?_⟩
    · have z2 := (hvw 2 (by decide)).mp q2
      exact qm_PW.mask [true, true, false, false] (m33 2 (by decide) (by decide) z2 (w1.trans (if_pos z2)))
    have z2 : ¬ wrd B L a = nm 2 := fun e => q2 ((hvw 2 (by decide)).mpr e)
    have w2 : wof (wrd B L a) (ws 0) = wof (wrd B L a) [3, 4] := w1.trans (if_neg z2)
    refine ⟨fun (q3 : lg_cmp v (wc 3) = 0) => ?_, fun (q3 : ¬ lg_cmp v (wc 3) = 0) => ?_⟩
    · have z3 := (hvw 3 (by decide)).mp q3
      exact qm_PW.mask [true, true, false, false] (m33 3 (by decide) (by decide) z3 (w2.trans (if_pos z3)))
    have z3 : ¬ wrd B L a = nm 3 := fun e => q3 ((hvw 3 (by decide)).mpr e)
    have w3 : wof (wrd B L a) (ws 0) = wof (wrd B L a) [4] := w2.trans (if_neg z3)
    refine ⟨fun (q4 : lg_cmp v (wc 4) = 0) => ?_, fun (q4 : ¬ lg_cmp v (wc 4) = 0) => ?_⟩
    · have z4 := (hvw 4 (by decide)).mp q4
      exact qm_PW.mask [true, true, false, false] (m33 4 (by decide) (by decide) z4 (w3.trans (if_pos z4)))
    have z4 : ¬ wrd B L a = nm 4 := fun e => q4 ((hvw 4 (by decide)).mpr e)
    have w4 : wof (wrd B L a) (ws 0) = none := w3.trans (if_neg z4)
    refine ⟨rfl, 0, 0, _, e_fails hG (d + 4) h, ⟨Nat.le_refl _, Nat.le_refl _⟩, ?_⟩
    rintro _ _ ⟨rfl, rfl⟩
    exact ⟨rfl, rf.r.s26 (by decide), LR2.no w4 (by rw [si_row, up_s]; exact hR.2.2.2.2.1.2.1)⟩
  · have z0 := (hvw 0 (by decide)).mp q
    have hwo : wof (wrd B L a) (ws 0) = some 0 := if_pos z0
    refine ⟨rfl, 0, 0, _, e_full hG (d + 3) h (a := a) (c := c) (lim := 6) (p := tB B L a) hR.2.2.2.2.2 hc hc6 (by decide) t1 (by omega), ⟨Nat.le_refl _, Nat.le_refl _⟩, ?_⟩
    rintro _ h1 ⟨rfl, s1, s2, s3⟩
    refine ⟨rfl, 0, 0, _, e_tok hG (d + 3) h1 (hR.full hk s2 s1), ⟨Nat.le_refl _, Nat.le_refl _⟩, ?_⟩
    rintro _ h2 ⟨rfl, u1, u2⟩
    have e35 : h2.1 35 = h.1 35 := by rw [u2.2.1 35 (by decide), s2.2.1 35 (by decide) (by decide)]
    have e20 : h2.1 26 20 = h.1 26 20 := by rw [u2.2.2.2 20 (by decide), s2.2.2.2 20 (by decide)]
    refine ⟨rfl, 0, 0, _, e_personLine hG d h2 (c := c) u1 (by rw [e35]; exact hc) hc6, ⟨Nat.le_refl _, Nat.le_refl _⟩, ?_⟩
    rintro r h3 ⟨q1, q2⟩
    have eif : (if cnd 0 0 && decide (lim 0 ≤ c) then fs1 flt 3 (tB B L a) else flt) = (if 6 ≤ c then fs1 flt 3 (tB B L a) else flt) := by
      by_cases z : 6 ≤ c
      · rw [if_pos z, if_pos (by rw [decide_eq_true (show lim 0 ≤ c from z)]; rfl)]
      · rw [if_neg z, if_neg (by rw [decide_eq_false (show ¬ lim 0 ≤ c from z)]; decide)]
    have fin : rf [35, 36] KR h h3 ∧ LR2 h3 r B L (pl B L 0 a c flt) (QL 0 c h h3) := by
      refine ⟨((s2.mono (fun q hq => absurd hq (by simp)) (by decide)).tr (tfto u2 (by decide))).tr q1, LR2.of hwo (Q := fun vs _ => h3.1 35 = tdT 0 vs (h2.1 35) ∧ h3.1 26 20 = h2.1 26 20) (by rw [eif]; exact q2) (fun vs flt2 z => ?_)⟩
      rw [e35, e20] at z
      refine ⟨fun _ => ⟨by rw [td, if_pos rfl]; exact z.1, fun _ => by rw [z.2, far2, if_neg (by decide), far1, if_neg (by decide)]⟩, ?_⟩
      rw [z.1, tdT, if_pos rfl, hc, show cn 0 0 c = min (c + 1) 6 from rfl]
      by_cases z6 : c < 6
      · rw [if_pos (show nI c < (6 : Int32) from nI_lt (b := 6) z6 (by decide)), up_s, nI_1, Nat.min_eq_left z6]
      · rw [if_neg (show ¬ nI c < (6 : Int32) from nI_nlt (b := 6) (by omega) (by omega)), hc, Nat.min_eq_right (by omega), show c = 6 by omega]
    have hr : r = some (.int 0) ∨ r = some (.int 1) := by
      have := q2
      cases q : pn B L 0 1 1 (tE B L a) (if 6 ≤ c then fs1 flt 3 (tB B L a) else flt) (fun _ => -1) with
      | error p => rw [q] at this; exact Or.inl this.1
      | ok x => rw [q] at this; exact Or.inr this.1
    rcases hr with rfl | rfl
    · exact ⟨rfl, fin⟩
    · exact ⟨rfl, fin⟩
theorem e_keepRow {G : qm_G} (hG : G.2.2.2.2 = true) (d : Nat) (h : qm_H) {wide lm c : Nat} (hc : h.1 35 0 = nI c) (hcl : c ≤ lm) (hw : wide ≤ 4) (hw0 : 0 < wide) (hlm : wide * lm ≤ 160) (hl40 : lm ≤ 40) : qm_Ev G d 0 0 qyX10_keepRow [.ref 26, .int (nI wide), .int (nI lm)] h (fun r h' => r = none ∧ h'.1 35 = (if c = lm then h.1 35 else va_up (krow wide c (h.1 36) (h.1 35) wide) 0 (nI c + 1)) ∧ sb [35] h h') := by
  refine qm_Ev.by (M := mX10_keepRow) okX10_keepRow (Nat.le_of_ble_eq_true rfl) hG fun z hA => ?_
  have n0 : vp_in (nI 0) 161 := vp_in_nI (n := 0) (by decide) (by decide)
  refine qm_wp_ok hA [11] 40 _ _ _ _ _ _ ⟨rfl, _, rfl, rfl, n0, fun (q : ¬ h.1 35 0 = nI lm) => ?_, fun (q : h.1 35 0 = nI lm) => ⟨rfl, rfl, ?_, sb.rf⟩⟩
  · have hne : ¬ c = lm := fun e => q (by rw [hc, e])
    have hmul : wide * c + wide ≤ 160 := by
      have h1 : wide * (c + 1) ≤ wide * lm := Nat.mul_le_mul_left _ (by omega)
      rw [Nat.mul_add] at h1
      omega
    have kr0 : ∀ i, krow wide c (h.1 36) (h.1 35) i 0 = nI c := by
      intro i
      induction i with
      | zero => exact hc
      | succ i ih => rw [krow, up_n _ _ (by omega), ih]
    refine qm_for (P := fun i => ∀ h', sb [35] h h' → h'.1 35 = krow wide c (h.1 36) (h.1 35) i → qm_PW G mX10_keepRow z 11 0 0 [vr 26, vi (nI wide), vi (nI lm), vi (h.1 35 0), vi (nI i)] [] h') (N := wide) ?_ ?_ h sb.rf rfl
    · intro h' c1 c2
      refine qm_wp_ok hA [] 40 _ _ _ _ _ _ ⟨fun _ => ⟨rfl, _, rfl, rfl, n0, rfl, n0, rfl, rfl, ?_, c1.si (by decide)⟩, fun (q : ¬ nI wide ≤ nI wide) => absurd (Int32.le_refl _) q⟩
      show (qm_si h' 35 0 (h'.1 35 0 + 1)).1 35 = _
      rw [if_neg hne, si_row, c2, kr0]
    · intro i hi nx h' c1 c2
      have ei : (1 : Int32) + nI wide * h.1 35 0 + nI i = nI (1 + wide * c + i) := by rw [hc, pk_mul, show (1 : Int32) = nI 1 from rfl, nI_add, nI_add]
      refine qm_wp_ok hA [11] 40 _ _ _ _ _ _ ⟨fun (q : nI wide ≤ nI i) => absurd q (nI_ge hi (by omega)), fun _ => ⟨rfl, _, rfl, rfl, _, rfl, rfl, (vp_in_nI (by omega) (by decide) : vp_in (nI i) 4), rfl, ?_, ?_⟩⟩
      · show vp_in ((1 : Int32) + nI wide * h.1 35 0 + nI i) 161
        rw [ei]; exact vp_in_nI (by omega) (by decide)
      · have k := nx (qm_si h' 35 (1 + wide * c + i) (h'.1 36 i)) (c1.si (by decide)) (by rw [si_row, c2, krow, c1.2 36 (by decide)])
        rw [← nI_1] at k
        have e1 : ((1 : Int32) + nI wide * h.1 35 0 + nI i).toNatClampNeg = 1 + wide * c + i := by rw [ei, nI_clamp (by omega)]
        have e2 : (nI i).toNatClampNeg = i := nI_clamp (by omega)
        rw [← e1] at k
        have k2 : qm_PW G mX10_keepRow z 11 0 0 [vr 26, vi (nI wide), vi (nI lm), vi (h.1 35 0), vi (nI i + 1)] [] (qm_si h' 35 ((1 : Int32) + nI wide * h.1 35 0 + nI i).toNatClampNeg (h'.1 36 (nI i).toNatClampNeg)) := by rw [e2]; exact k
        exact k2
  · rw [hc] at q
    rw [if_pos ((nI_eq (by omega) (by omega)).mp q)]
