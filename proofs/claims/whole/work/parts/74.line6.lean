/-! the reference: lines of logs; all lines -/
theorem e_logLine {G : qm_G} (hG : G.2.2.2.2 = true) (d : Nat) (h : qm_H) {B : Nat → Nat} {L a c : Nat} {flt : Nat × Nat} (hR : RD h B L a flt) (hc : h.1 35 0 = nI c) (hc6 : c ≤ 8) (hk : tK B L a ≠ 0) {v : Int64} (hv0 : v = hv B L a) : qm_Ev G (d + 5) 0 0 qyX10_logLine [.ref 26, .long v, .int (nI (tB B L a))] h (fun r h' => rf [35, 36] KR h h' ∧ LR2 h' r B L (pl B L 2 a c flt) (QL 2 c h h')) := by
  have k4 := hR.2.2.2.1
  have k2 := hR.2.1
  obtain ⟨t1, t2⟩ := tB_le (B := B) k4
  have hvw : ∀ i, i < 12 → (lg_cmp v (wc i) = 0 ↔ wrd B L a = nm i) := fun i hi => by rw [lg_cmp_eq, hv0, hv_w k4 hi]
  refine qm_Ev.by (M := mX10_logLine) okX10_logLine (Nat.le_of_ble_eq_true rfl) hG fun z hA => ?_
  have m11 : ∀ x, x < 2 → wof (wrd B L a) (ws 2) = some (x + 10) → (lg_cmp v (wc 10) = 0 ↔ x = 0) → qm_PW G mX10_logLine z 11 0 0 [vr 26, vl v, vu, vi (nI (tB B L a))] [] h := by
    intro x hx hwo hx10
    have n0 : vp_in (nI 0) 4 := vp_in_nI (n := 0) (by decide) (by decide)
    refine qm_wp_ok hA [36] 80 _ _ _ _ _ _ ⟨rfl, 0, 0, _, e_full hG (d + 3) h (a := a) (c := c) (lim := 8) (p := tB B L a) hR.2.2.2.2.2 hc hc6 (by decide) t1 (by omega), ⟨Nat.le_refl _, Nat.le_refl _⟩, ?_⟩
    rintro _ h1 ⟨rfl, s1, s2, s3⟩
    refine ⟨rfl, 0, 0, _, e_tok hG (d + 3) h1 (hR.full hk s2 s1), ⟨Nat.le_refl _, Nat.le_refl _⟩, ?_⟩
    rintro _ h2 ⟨rfl, u1, u2⟩
    obtain ⟨flt1, hf1⟩ : ∃ flt1, flt1 = (if 8 ≤ c then fs1 flt 3 (tB B L a) else flt) := ⟨_, rfl⟩
    rw [← hf1] at u1
    have eif : (if cnd 2 (x + 10) && decide (lim 2 ≤ c) then fs1 flt 3 (tB B L a) else flt) = flt1 := by
      rw [hf1]
      by_cases z : 8 ≤ c
      · rw [if_pos z, if_pos (by rw [decide_eq_true (show lim 2 ≤ c from z)]; rfl)]
      · rw [if_neg z, if_neg (by rw [decide_eq_false (show ¬ lim 2 ≤ c from z), Bool.and_false]; decide)]
    have e35 : h2.1 35 = h.1 35 := by rw [u2.2.1 35 (by decide), s2.2.1 35 (by decide) (by decide)]
    have F2 : rf [35, 36] KR h h2 := (s2.mono (fun q hq => absurd hq (by simp)) (by decide)).tr (tfto u2 (by decide))
    have k4' := u1.2.2.2.1
    have hnu : nu (x + 10) = 1 ∧ mo (x + 10) 1 = 5 := by
      rcases (by omega : x = 0 ∨ x = 1) with e | e <;> rw [e] <;> exact ⟨rfl, rfl⟩
    refine ⟨rfl, 0, 0, _, e_take hG (d + 1) h2 u1 (k := 1) (hi := 5) (by decide) (by decide), ⟨Nat.le_refl _, Nat.le_refl _⟩, ?_⟩
    rintro _ h3 (⟨a1, rfl, a2, a3, a4, a5, a6⟩ | ⟨a1, rfl, a2, a3⟩)
    · have hvv := tV_le k4' a1
      have x35 : h3.1 35 = h.1 35 := by rw [a6.2.1 35 (by decide) (by decide), e35]
      have F3 : rf [35, 36] KR h h3 := F2.tr (a6.mono (by decide) (fun q hq => hq))
      have eR : pn B L (x + 10) (nu (x + 10)) 1 (tE B L a) flt1 (fun _ => -1) = .ok (tE B L (tE B L a), (if bdd 5 (tV B L (tE B L a)) (-1) then fs1 flt1 2 (tB B L (tE B L a)) else flt1), va_up (fun _ => -1) 1 (nI (tV B L (tE B L a)))) := by
        rw [hnu.1, pn, if_pos a1, pn, bdd_m1 (by omega), bd, hnu.2]
        simp
      have m36 : ∀ y, y = nI x → qm_PW G mX10_logLine z 36 0 0 [vr 26, vl v, vu, vi (nI (tB B L a))] [.int y, .int 0, .ref 36] h3 := by
        intro y hy
        subst hy
        refine qm_wp_ok hA [] 40 _ _ _ _ _ _ ⟨rfl, n0, rfl, 0, 0, _, e_keepRow hG (d + 4) (qm_si h3 36 0 (nI x)) (wide := 2) (lm := 8) (c := c) (by rw [si_ne _ _ _ (by decide), x35]; exact hc) hc6 (by decide) (by decide) (by decide) (by decide), ⟨Nat.le_refl _, Nat.le_refl _⟩, ?_⟩
        rintro _ h5 ⟨rfl, y1, y2⟩
        have z35 : (qm_si h3 36 0 (nI x)).1 35 = h.1 35 := by rw [si_ne _ _ _ (by decide), x35]
        obtain ⟨k1, k2⟩ := tdR_k (wide := 2) (lm := 8) (kd := nI x) (vs := va_up (fun _ => -1) 1 (nI (tV B L (tE B L a)))) (r := (qm_si h3 36 0 (nI x)).1 36) (T := h.1 35) hc hc6 (by decide) (by rw [si_row, up_s]) (fun i h1 h2 => by
          rw [si_row, up_n _ _ (by omega), show i = 1 by omega, up_s, a3, up_s])
        rw [z35, k1] at y1
        have z2 : RD h5 B L (tE B L (tE B L a)) (if bdd 5 (tV B L (tE B L a)) (-1) then fs1 flt1 2 (tB B L (tE B L a)) else flt1) := by
          have := a2.si (p := 36) (j := 0) (v := nI x) (by decide) (by decide)
          obtain ⟨w1, w2, w3, w4, w5, w6⟩ := this
          have e26 : h5.1 26 = (qm_si h3 36 0 (nI x)).1 26 := y2.2 26 (by decide)
          refine ⟨by rw [y2.2 27 (by decide)]; exact w1, w2, by rw [e26]; exact w3, w4, ?_, ?_⟩
          · unfold TS at w5 ⊢; rw [e26, y2.1]; exact w5
          · unfold LF at w6 ⊢; rw [e26]; exact w6
        have zq : QL 2 c h h5 (x + 10) (va_up (fun _ => -1) 1 (nI (tV B L (tE B L a)))) (if bdd 5 (tV B L (tE B L a)) (-1) then fs1 flt1 2 (tB B L (tE B L a)) else flt1) := by
          refine ⟨fun _ => ⟨?_, fun z => absurd z (by decide)⟩, ?_⟩
          · rw [y1, td, if_neg (by decide), if_neg (by decide), Nat.add_sub_cancel]
          · rw [y1, k2]; rfl
        refine ⟨rfl, ?_, LR2.of hwo (Q := fun vs' flt2' => QL 2 c h h5 (x + 10) vs' flt2') (by rw [eif, eR]; exact ⟨rfl, z2, zq⟩) (fun _ _ z => z)⟩
        exact (F3.si (p := 36) (k := 0) (v := nI x) (by decide) (by decide)).tr ⟨by rw [y2.1], fun q hq hs => y2.2 q (fun e => hs (by rw [List.mem_singleton.mp e]; decide)), fun q hq => by rw [y2.1], fun k hk => by rw [y2.2 26 (by decide)]⟩
      refine ⟨fun _ => ⟨rfl, _, rfl, fun (q : ¬ lg_cmp v (wc 10) = 0) => m36 1 ?_, fun (q : lg_cmp v (wc 10) = 0) => m36 0 ?_⟩, fun z => absurd z (by decide)⟩
      · have : x ≠ 0 := fun e => q (hx10.mpr e)
        rw [show x = 1 by omega]; rfl
      · rw [hx10.mp q]; rfl
    · have eR : pn B L (x + 10) (nu (x + 10)) 1 (tE B L a) flt1 (fun _ => -1) = .error (tB B L (tE B L a)) := by rw [hnu.1, pn, if_neg a1]
      exact ⟨fun z => absurd rfl z, fun _ => ⟨rfl, F2.tr (a3.mono (by decide) (fun q hq => hq)), LR2.of hwo (Q := fun _ _ => False) (by rw [eif, eR]; exact ⟨rfl, a2⟩) (fun _ _ z => z.elim)⟩⟩
  refine qm_wp_ok hA [11] 60 _ _ _ _ _ _ ⟨fun (q : lg_cmp v (wc 10) = 0) => m11 0 (by decide) (if_pos ((hvw 10 (by decide)).mp q)) ⟨fun _ => rfl, fun _ => q⟩, fun (q : ¬ lg_cmp v (wc 10) = 0) => ?_⟩
  have w0 : wof (wrd B L a) (ws 2) = wof (wrd B L a) [11] := if_neg (fun e => q ((hvw 10 (by decide)).mpr e))
  refine ⟨fun (q1 : lg_cmp v (wc 11) = 0) => m11 1 (by decide) (w0.trans (if_pos ((hvw 11 (by decide)).mp q1))) ⟨fun z => absurd z q, fun z => absurd z (by decide)⟩, fun (q1 : ¬ lg_cmp v (wc 11) = 0) => ?_⟩
  have w1 : wof (wrd B L a) (ws 2) = none := w0.trans (if_neg (fun e => q1 ((hvw 11 (by decide)).mpr e)))
  refine ⟨rfl, 0, 0, _, e_fails hG (d + 4) h, ⟨Nat.le_refl _, Nat.le_refl _⟩, ?_⟩
  rintro _ _ ⟨rfl, rfl⟩
  exact ⟨rfl, rf.r.s26 (by decide), LR2.no w1 (by rw [si_row, up_s]; exact hR.2.2.2.2.1.2.1)⟩
def prs (B : Nat → Nat) (L srt : Nat) : Nat → Nat → Nat → Nat × Nat → List (Nat × (Nat → Int32)) → Except Nat (List (Nat × (Nat → Int32)) × (Nat × Nat) × Nat)
  | 0, _, _, _, _ => .error 0
  | r + 1, a, c, flt, acc => if tK B L a = 0 then .ok (acc, flt, a) else match pl B L srt a c flt with
    | .error p => .error p
    | .ok (w, a2, flt2, vs) => if tK B L a2 = 4 then prs B L srt r (tE B L a2) (cn srt w c) flt2 (acc ++ [(w, vs)]) else .error (tB B L a2)
theorem pn_le {B : Nat → Nat} {L w : Nat} : ∀ r k a flt vs a2 flt2 vs2, a ≤ L → pn B L w r k a flt vs = .ok (a2, flt2, vs2) → a ≤ a2 ∧ a2 ≤ L ∧ (flt2.1 = 0 → flt.1 = 0)
  | 0, k, a, flt, vs, a2, flt2, vs2, ha, h => by
    rw [pn] at h
    injection h with h
    injection h with h1 h2
    injection h2 with h2 h3
    exact ⟨by omega, by omega, fun q => by rw [h2]; exact q⟩
  | r + 1, k, a, flt, vs, a2, flt2, vs2, ha, h => by
    rw [pn] at h
    split at h
    · obtain ⟨t1, t2⟩ := tB_le (B := B) ha
      obtain ⟨t3, t4, -⟩ := tE_lt (B := B) ha
      obtain ⟨i1, i2, i3⟩ := pn_le r (k + 1) _ _ _ a2 flt2 vs2 t4 h
      refine ⟨by omega, i2, fun q => ?_⟩
      have := i3 q
      split at this
      · exact absurd this (fs1_0 (by decide))
      · exact this
    · exact absurd h (by simp)
theorem pl_le {B : Nat → Nat} {L srt a c : Nat} {flt : Nat × Nat} {w a2 : Nat} {flt2 : Nat × Nat} {vs : Nat → Int32} (ha : a ≤ L) (h : pl B L srt a c flt = .ok (w, a2, flt2, vs)) : a ≤ a2 ∧ a2 ≤ L ∧ (flt2.1 = 0 → flt.1 = 0) ∧ wof (wrd B L a) (ws srt) = some w := by
  rw [pl] at h
  cases q : wof (wrd B L a) (ws srt) with
  | none => rw [q] at h; exact absurd h (by simp)
  | some w' =>
    rw [q] at h
    have h : (match pn B L w' (nu w') 1 (tE B L a) (if cnd srt w' && decide (lim srt ≤ c) then fs1 flt 3 (tB B L a) else flt) (fun _ => -1) with
      | .error p => .error p
      | .ok x => .ok (w', x) : Except Nat (Nat × Nat × (Nat × Nat) × (Nat → Int32))) = .ok (w, a2, flt2, vs) := h
    cases q2 : pn B L w' (nu w') 1 (tE B L a) (if cnd srt w' && decide (lim srt ≤ c) then fs1 flt 3 (tB B L a) else flt) (fun _ => -1) with
    | error p => rw [q2] at h; exact absurd h (by simp)
    | ok x =>
      rw [q2] at h
      injection h with h
      injection h with h1 h2
      obtain ⟨t1, t2⟩ := tB_le (B := B) ha
      obtain ⟨t3, t4, -⟩ := tE_lt (B := B) ha
      rw [h2] at q2
      obtain ⟨i1, i2, i3⟩ := pn_le _ _ _ _ _ a2 flt2 vs t4 q2
      refine ⟨by omega, i2, fun q => ?_, by rw [h1]⟩
      have := i3 q
      split at this
      · exact absurd this (fs1_0 (by decide))
      · exact this
def tdf (srt : Nat) (acc : List (Nat × (Nat → Int32))) (T : Nat → Int32) : Nat → Int32 := acc.foldl (fun T l => td srt l.1 l.2 T) T
def frf (acc : List (Nat × (Nat → Int32))) (f : Int32) : Int32 := acc.foldl (fun f l => far2 l.1 l.2 f) f
theorem tdf_a (srt : Nat) (acc : List (Nat × (Nat → Int32))) (l : Nat × (Nat → Int32)) (T : Nat → Int32) : tdf srt (acc ++ [l]) T = td srt l.1 l.2 (tdf srt acc T) := by rw [tdf, List.foldl_append]; rfl
theorem frf_a (acc : List (Nat × (Nat → Int32))) (l : Nat × (Nat → Int32)) (f : Int32) : frf (acc ++ [l]) f = far2 l.1 l.2 (frf acc f) := by rw [frf, List.foldl_append]; rfl
/-- what stands behind the reading of all lines -/
def LR3 (h h' : qm_H) (r : Option Value) (B : Nat → Nat) (L srt : Nat) (T : Nat → Int32) (f : Int32) (res : Except Nat (List (Nat × (Nat → Int32)) × (Nat × Nat) × Nat)) : Prop := match res with
  | .error p => r = some (.int 0) ∧ h'.1 26 15 = nI p
  | .ok (acc, flt, a) => r = some (.int 1) ∧ RD h' B L a flt ∧ tK B L a = 0 ∧ (flt.1 = 0 → h'.1 35 = tdf srt acc T ∧ (srt = 0 → h'.1 26 20 = frf acc f))
theorem e_lines {G : qm_G} (hG : G.2.2.2.2 = true) (d : Nat) (h : qm_H) {B : Nat → Nat} {L a c srt : Nat} {flt : Nat × Nat} (hR : RD h B L a flt) (hs : srt < 3) (hc : h.1 35 0 = nI c) (hcl : c ≤ lim srt) (T : Nat → Int32) (f : Int32) (hT : flt.1 = 0 → h.1 35 = T ∧ (srt = 0 → h.1 26 20 = f)) (r0 : Nat) (hr0 : L < a + r0) : qm_Ev G (d + 6) 0 0 qyX10_lines [.ref 26, .int (nI srt)] h (fun r h' => rf [35, 36] KR h h' ∧ LR3 h h' r B L srt T f (prs B L srt r0 a c flt [])) := by
  obtain ⟨R, hRes⟩ : ∃ R, R = prs B L srt r0 a c flt [] := ⟨_, rfl⟩
  rw [← hRes]
  have hlm : lim srt ≤ 40 := by
    rw [lim]
    split
    · omega
    · split <;> omega
  refine qm_Ev.by (M := mX10_lines) okX10_lines (Nat.le_of_ble_eq_true rfl) hG fun z hA => ?_
  have m2f : ∀ h4 p, R = .error p → h4.1 26 15 = nI p → rf [35, 36] KR h h4 → qm_PW G mX10_lines z 2 0 0 [vr 26, vi (nI srt), vi 0, vu, vu, vu] [] h4 := fun h4 p c1 c2 c3 => by
    refine qm_wp_ok hA [] 20 _ _ _ _ _ _ ⟨fun _ => ⟨rfl, c3, ?_⟩, fun z => absurd rfl z⟩
    rw [c1]
    exact ⟨rfl, c2⟩
  have main : ∀ r a c flt acc h1, RD h1 B L a flt → L < a + r → h1.1 35 0 = nI c → c ≤ lim srt → (flt.1 = 0 → h1.1 35 = tdf srt acc T ∧ (srt = 0 → h1.1 26 20 = frf acc f)) → rf [35, 36] KR h h1 → prs B L srt r a c flt acc = R → qm_PW G mX10_lines z 2 0 0 [vr 26, vi (nI srt), vi 1, vu, vu, vu] [] h1 := by
    intro r
    induction r with
    | zero =>
      intro a c flt acc h1 c1 c2
      have := c1.2.2.2.1
      omega
    | succ r ih =>
      intro a c flt acc h1 c1 c2 c3 c4 c5 c6 c7
      have k4 := c1.2.2.2.1
      have k5 := c1.2.2.2.2.1
      obtain ⟨-, -, -, -, -, t6⟩ := tE_lt (B := B) k4
      rw [prs] at c7
      by_cases hk0 : tK B L a = 0
      · rw [if_pos hk0] at c7
        refine qm_wp_ok hA [] 40 _ _ _ _ _ _ ⟨fun z => absurd z (by decide), fun _ => ⟨rfl, fun _ => ⟨rfl, c6, ?_⟩, fun (z : ¬ h1.1 26 12 = 0) => absurd (by rw [k5.2.2.1, hk0]; rfl) z⟩⟩
        rw [← c7]
        exact ⟨rfl, c1, hk0, c5⟩
      · rw [if_neg hk0] at c7
        -- behind the line
        have m41 : ∀ h2 r2, rf [35, 36] KR (qm_si h1 26 21 1) h2 → LR2 h2 (some (.int r2)) B L (pl B L srt a c flt) (QL srt c (qm_si h1 26 21 1) h2) → qm_PW G mX10_lines z 41 0 0 [vr 26, vi (nI srt), vu, vu, vu, vu] [.int r2] h2 := by
          intro h2 r2 q1 q2
          have F2 : rf [35, 36] KR h h2 := (c6.s26 (by decide)).tr q1
          cases qp : pl B L srt a c flt with
          | error p =>
            rw [qp] at q2 c7
            have er : r2 = 0 := by have := q2.1; injection this with this; injection this
            subst er
            refine qm_wp_ok hA [2] 40 _ _ _ _ _ _ ⟨fun _ => ⟨fun _ => qm_PW.mask [true, true, true, false, false, false] (m2f h2 p c7.symm q2.2 F2), fun z => absurd rfl z⟩, fun z => absurd rfl z⟩
          | ok x =>
            obtain ⟨w, a2, flt2, vs⟩ := x
            obtain ⟨l1, l2, l3, -⟩ := pl_le k4 qp
            rw [qp] at q2 c7
            have er : r2 = 1 := by have := q2.1; injection this with this; injection this
            subst er
            obtain ⟨-, R2, ⟨Q1, Q2⟩⟩ := q2
            have j5 := R2.2.2.2.2.1
            have c7 : (if tK B L a2 = 4 then prs B L srt r (tE B L a2) (cn srt w c) flt2 (acc ++ [(w, vs)]) else .error (tB B L a2)) = R := c7
            obtain ⟨u1, u2⟩ := tB_le (B := B) l2
            obtain ⟨u3, u4, u5, -, -, u6⟩ := tE_lt (B := B) l2
            by_cases hk4 : tK B L a2 = 4
            · rw [if_pos hk4] at c7
              have := u5 (by omega)
              refine qm_wp_ok hA [2] 40 _ _ _ _ _ _ ⟨fun z => absurd z (by decide), fun _ => ⟨rfl, fun _ => ⟨fun z => absurd z (by decide), fun _ => ⟨rfl, 0, 0, _, e_tok hG (d + 4) h2 R2.w, ⟨Nat.le_refl _, Nat.le_refl _⟩, ?_⟩⟩, fun (z : ¬ h2.1 26 12 = nI 4) => absurd (by rw [j5.2.2.1, hk4]) z⟩⟩
              rintro _ h3 ⟨rfl, s1, s2⟩
              have e35 : h3.1 35 = h2.1 35 := s2.2.1 35 (by decide)
              have e20 : h3.1 26 20 = h2.1 26 20 := s2.2.2.2 20 (by decide)
              refine qm_PW.mask [true, true, true, false, false, false] (ih (tE B L a2) (cn srt w c) flt2 (acc ++ [(w, vs)]) h3 s1 (by omega) (by rw [e35]; exact Q2) ?_ (fun z => ?_) (F2.tr (tfto s2 (by decide))) c7)
              · rw [cn]
                split <;> omega
              · obtain ⟨g1, g2⟩ := Q1 z
                obtain ⟨g3, g4⟩ := c5 (l3 z)
                refine ⟨?_, fun zs => ?_⟩
                · rw [e35, g1, si_ne _ _ _ (by decide), g3, tdf_a]
                · rw [e20, g2 zs, si_row, up_n _ _ (by decide), g4 zs, frf_a]
            · rw [if_neg hk4] at c7
              refine qm_wp_ok hA [2] 40 _ _ _ _ _ _ ⟨fun z => absurd z (by decide), fun _ => ⟨rfl, fun (z : h2.1 26 12 = nI 4) => absurd ((nI_eq (by omega) (by decide)).mp (by rw [← j5.2.2.1]; exact z)) hk4, fun _ => ⟨rfl, 0, 0, _, e_fails hG (d + 5) h2, ⟨Nat.le_refl _, Nat.le_refl _⟩, ?_⟩⟩⟩
              rintro _ _ ⟨rfl, rfl⟩
              exact ⟨fun _ => qm_PW.mask [true, true, true, false, false, false] (m2f _ _ c7.symm (by rw [si_row, up_s]; exact j5.2.1) (F2.s26 (by decide))), fun z => absurd rfl z⟩
        have m18 : ∀ v, v = hv B L a → qm_PW G mX10_lines z 18 0 0 [vr 26, vi (nI srt), vu, vi (nI (tB B L a)), vu, vu] [.long v] h1 := by
          intro v hv0
          have R1 : RD (qm_si h1 26 21 1) B L a flt := c1.s26 (by decide)
          have x35 : (qm_si h1 26 21 1).1 35 0 = nI c := by rw [si_ne _ _ _ (by decide)]; exact c3
          refine qm_wp_ok hA [41] 40 _ _ _ _ _ _ ⟨rfl, Or.inr rfl, fun (q : ¬ nI srt = nI 0) => ?_, fun (q : nI srt = nI 0) => ?_⟩
          · refine ⟨fun (q1 : ¬ nI srt = nI 1) => ?_, fun (q1 : nI srt = nI 1) => ?_⟩
            · have e2 : srt = 2 := by
                have h0 : srt ≠ 0 := fun e => q (by rw [e])
                have h1 : srt ≠ 1 := fun e => q1 (by rw [e])
                omega
              subst e2
              refine ⟨rfl, 0, 0, _, e_logLine hG d (qm_si h1 26 21 1) R1 x35 c4 hk0 hv0, ⟨Nat.le_refl _, Nat.le_refl _⟩, ?_⟩
              rintro rr h2 ⟨q1, q2⟩
              rcases LRr q2 with rfl | rfl
              · exact qm_PW.mask [true, true, false, false, false, false] (m41 h2 0 q1 q2)
              · exact qm_PW.mask [true, true, false, false, false, false] (m41 h2 1 q1 q2)
            · have e2 : srt = 1 := (nI_eq (by omega) (by decide)).mp q1
              subst e2
              refine ⟨rfl, 0, 0, _, e_yearLine hG d (qm_si h1 26 21 1) R1 x35 c4 hk0 hv0, ⟨Nat.le_refl _, Nat.le_refl _⟩, ?_⟩
              rintro rr h2 ⟨q1, q2⟩
              rcases LRr q2 with rfl | rfl
              · exact qm_PW.mask [true, true, false, false, false, false] (m41 h2 0 q1 q2)
              · exact qm_PW.mask [true, true, false, false, false, false] (m41 h2 1 q1 q2)
          · have e2 : srt = 0 := (nI_eq (by omega) (by decide)).mp q
            subst e2
            refine ⟨rfl, 0, 0, _, e_townLine hG d (qm_si h1 26 21 1) R1 x35 c4 hk0 (by rw [si_row, up_s]) hv0, ⟨Nat.le_refl _, Nat.le_refl _⟩, ?_⟩
            rintro rr h2 ⟨q1, q2⟩
            rcases LRr q2 with rfl | rfl
            · exact qm_PW.mask [true, true, false, false, false, false] (m41 h2 0 q1 q2)
            · exact qm_PW.mask [true, true, false, false, false, false] (m41 h2 1 q1 q2)
        have e11 : h1.1 26 11 = nI (tB B L a) := k5.2.1
        rw [← e11] at m18
        refine qm_wp_ok hA [18] 40 _ _ _ _ _ _ ⟨fun z => absurd z (by decide), fun _ => ⟨rfl, fun (z : h1.1 26 12 = nI 0) => absurd ((nI_eq (by omega) (by decide)).mp (by rw [← k5.2.2.1]; exact z)) hk0, fun _ => ⟨rfl, rfl, fun (z : ¬ h1.1 26 12 = nI 2) => ?_, fun (z : h1.1 26 12 = nI 2) => ⟨rfl, ?_⟩⟩⟩⟩
        · have : tK B L a ≠ 2 := fun e => z (by rw [k5.2.2.1, e])
          exact qm_PW.mask [true, true, false, true, false, false] (m18 0 (by rw [hv, if_neg this]))
        · have : tK B L a = 2 := (nI_eq (by omega) (by decide)).mp (by rw [← k5.2.2.1]; exact z)
          exact qm_PW.mask [true, true, false, true, false, false] (m18 _ (by rw [hv, if_pos this]; exact k5.2.2.2.2 this))
  refine qm_wp_ok hA [2] 20 _ _ _ _ _ _ ?_
  exact main r0 a c flt [] h hR hr0 hc hcl hT rf.r hRes.symm
