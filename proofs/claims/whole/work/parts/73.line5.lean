/-! the reference: lines of years, of logs; all lines -/
theorem krow_co {wide c : Nat} {r r' T : Nat → Int32} : ∀ m, (∀ i, i < m → r i = r' i) → krow wide c r T m = krow wide c r' T m
  | 0, _ => rfl
  | m + 1, h => by rw [krow, krow, krow_co m (fun i hi => h i (by omega)), h m (by omega)]
theorem krow_0 {wide c : Nat} {r T : Nat → Int32} : ∀ m, krow wide c r T m 0 = T 0
  | 0 => rfl
  | m + 1 => by rw [krow, up_n _ _ (by omega), krow_0 m]
theorem tdR_k {wide lm c : Nat} {kd : Int32} {vs r T : Nat → Int32} (hc : T 0 = nI c) (hcl : c ≤ lm) (hl : lm ≤ 40) (h0 : r 0 = kd) (hr : ∀ i, 1 ≤ i → i < wide → r i = vs i) : (if c = lm then T else va_up (krow wide c r T wide) 0 (nI c + 1)) = tdR wide lm kd vs T ∧ (tdR wide lm kd vs T) 0 = nI (min (c + 1) lm) := by
  rw [tdR, hc]
  by_cases e : c = lm
  · rw [if_pos e, if_pos (by rw [e])]
    exact ⟨rfl, by rw [hc, Nat.min_eq_right (by omega), e]⟩
  · rw [if_neg e, if_neg (fun q => e ((nI_eq (by omega) (by omega)).mp q)), nI_clamp (by omega)]
    refine ⟨?_, by rw [up_s, nI_1, Nat.min_eq_left (by omega)]⟩
    rw [krow_co wide (fun i hi => ?_)]
    by_cases e0 : i = 0
    · rw [e0, h0, if_pos rfl]
    · rw [if_neg e0]; exact hr i (by omega) hi
theorem LRr {h' : qm_H} {r : Option Value} {B : Nat → Nat} {L : Nat} {res : Except Nat (Nat × Nat × (Nat × Nat) × (Nat → Int32))} {Q : Nat → (Nat → Int32) → Nat × Nat → Prop} (k : LR2 h' r B L res Q) : r = some (.int 0) ∨ r = some (.int 1) := by
  cases res with
  | error p => exact Or.inl k.1
  | ok x => exact Or.inr k.1
theorem e_yearLine {G : qm_G} (hG : G.2.2.2.2 = true) (d : Nat) (h : qm_H) {B : Nat → Nat} {L a c : Nat} {flt : Nat × Nat} (hR : RD h B L a flt) (hc : h.1 35 0 = nI c) (hc6 : c ≤ 40) (hk : tK B L a ≠ 0) {v : Int64} (hv0 : v = hv B L a) : qm_Ev G (d + 5) 0 0 qyX10_yearLine [.ref 26, .long v, .int (nI (tB B L a))] h (fun r h' => rf [35, 36] KR h h' ∧ LR2 h' r B L (pl B L 1 a c flt) (QL 1 c h h')) := by
  have k4 := hR.2.2.2.1
  have k2 := hR.2.1
  obtain ⟨t1, t2⟩ := tB_le (B := B) k4
  have hvw : ∀ i, i < 12 → (lg_cmp v (wc i) = 0 ↔ wrd B L a = nm i) := fun i hi => by rw [lg_cmp_eq, hv0, hv_w k4 hi]
  refine qm_Ev.by (M := mX10_yearLine) okX10_yearLine (Nat.le_of_ble_eq_true rfl) hG fun z hA => ?_
  have m31 : ∀ x, x < 5 → wof (wrd B L a) (ws 1) = some (x + 5) → qm_PW G mX10_yearLine z 31 0 0 [vr 26, vl v, vu, vi (nI (tB B L a)), vu] [.int (nI x)] h := by
    intro x hx hwo
    have n1 : vp_in (nI 1) 4 := vp_in_nI (n := 1) (by decide) (by decide)
    have n2 : vp_in (nI 2) 4 := vp_in_nI (n := 2) (by decide) (by decide)
    have n3 : vp_in (nI 3) 4 := vp_in_nI (n := 3) (by decide) (by decide)
    have n0 : vp_in (nI 0) 4 := vp_in_nI (n := 0) (by decide) (by decide)
    refine qm_wp_ok hA [82, 84, 86] 80 _ _ _ _ _ _ ⟨fun _ => ⟨rfl, 0, 0, _, e_full hG (d + 3) h (a := a) (c := c) (lim := 40) (p := tB B L a) hR.2.2.2.2.2 hc hc6 (by decide) t1 (by omega), ⟨Nat.le_refl _, Nat.le_refl _⟩, ?_⟩, fun (q : nI x = -1) => absurd q (nI_ne1 (by omega))⟩
    rintro _ h1 ⟨rfl, s1, s2, s3⟩
    refine ⟨rfl, 0, 0, _, e_tok hG (d + 3) h1 (hR.full hk s2 s1), ⟨Nat.le_refl _, Nat.le_refl _⟩, ?_⟩
    rintro _ h2 ⟨rfl, u1, u2⟩
    refine ⟨rfl, _, rfl, rfl, n1, rfl, _, rfl, rfl, n2, rfl, _, rfl, rfl, n3, ?_⟩
    obtain ⟨flt1, hf1⟩ : ∃ flt1, flt1 = (if 40 ≤ c then fs1 flt 3 (tB B L a) else flt) := ⟨_, rfl⟩
    rw [← hf1] at u1
    have eif : (if cnd 1 (x + 5) && decide (lim 1 ≤ c) then fs1 flt 3 (tB B L a) else flt) = flt1 := by
      rw [hf1]
      by_cases z : 40 ≤ c
      · rw [if_pos z, if_pos (by rw [decide_eq_true (show lim 1 ≤ c from z)]; rfl)]
      · rw [if_neg z, if_neg (by rw [decide_eq_false (show ¬ lim 1 ≤ c from z), Bool.and_false]; decide)]
    have e35 : (qm_si (qm_si (qm_si h2 36 1 (-1)) 36 2 (-1)) 36 3 (-1)).1 35 = h.1 35 := by rw [si_ne _ _ _ (by decide), si_ne _ _ _ (by decide), si_ne _ _ _ (by decide), u2.2.1 35 (by decide), s2.2.1 35 (by decide) (by decide)]
    have R3 : RD (qm_si (qm_si (qm_si h2 36 1 (-1)) 36 2 (-1)) 36 3 (-1)) B L (tE B L a) flt1 := ((u1.si (by decide) (by decide)).si (by decide) (by decide)).si (by decide) (by decide)
    have F3 : rf [35, 36] KR h (qm_si (qm_si (qm_si h2 36 1 (-1)) 36 2 (-1)) 36 3 (-1)) := (((((s2.mono (fun q hq => absurd hq (by simp)) (by decide)).tr (tfto u2 (by decide)) : rf [35, 36] KR h h2).si (by decide) (by decide)).si (by decide) (by decide)).si (by decide) (by decide))
    have V3 : ∀ i, 1 ≤ i → i < 4 → (qm_si (qm_si (qm_si h2 36 1 (-1)) 36 2 (-1)) 36 3 (-1)).1 36 i = (fun _ => (-1 : Int32)) i := fun i h1 h2 => by
      rw [si_row, si_row, si_row]
      rcases (by omega : i = 1 ∨ i = 2 ∨ i = 3) with e | e | e
      · rw [e, up_n _ _ (by decide), up_n _ _ (by decide), up_s]
      · rw [e, up_n _ _ (by decide), up_s]
      · rw [e, up_s]
    obtain ⟨H, hH⟩ : ∃ H, H = qm_si (qm_si (qm_si h2 36 1 (-1)) 36 2 (-1)) 36 3 (-1) := ⟨_, rfl⟩
    obtain ⟨R, hRes⟩ : ∃ R, R = pn B L (x + 5) (nu (x + 5)) 1 (tE B L a) flt1 (fun _ => -1) := ⟨_, rfl⟩
    have m84 : ∀ h4 p, R = .error p → h4.1 26 15 = nI p → rf [35, 36] KR h h4 → rf [35, 36] KR h h4 ∧ LR2 h4 (some (.int 0)) B L (pl B L 1 a c flt) (QL 1 c h h4) := fun h4 p c1 c2 c3 => ⟨c3, LR2.of hwo (Q := fun _ _ => False) (by rw [eif, ← hRes, c1]; exact ⟨rfl, c2⟩) (fun _ _ z => z.elim)⟩
    have m97 : ∀ h4 a2 flt2 vs, R = .ok (a2, flt2, vs) → RD h4 B L a2 flt2 → (∀ i, 1 ≤ i → i < 4 → h4.1 36 i = vs i) → h4.1 35 = h.1 35 → rf [35, 36] KR h h4 → qm_PW G mX10_yearLine z 97 0 0 [vr 26, vu, vu, vu, vi (nI x)] [] h4 := by
      intro h4 a2 flt2 vs c1 c2 c3 c4 c5
      refine qm_wp_ok hA [] 40 _ _ _ _ _ _ ⟨rfl, _, rfl, rfl, n0, rfl, 0, 0, _, e_keepRow hG (d + 4) (qm_si h4 36 0 (nI x)) (wide := 4) (lm := 40) (c := c) (by rw [si_ne _ _ _ (by decide), c4]; exact hc) hc6 (by decide) (by decide) (by decide) (by decide), ⟨Nat.le_refl _, Nat.le_refl _⟩, ?_⟩
      rintro _ h5 ⟨rfl, y1, y2⟩
      have x35 : (qm_si h4 36 0 (nI x)).1 35 = h.1 35 := by rw [si_ne _ _ _ (by decide), c4]
      obtain ⟨k1, k2⟩ := tdR_k (wide := 4) (lm := 40) (kd := nI x) (vs := vs) (r := (qm_si h4 36 0 (nI x)).1 36) (T := h.1 35) hc hc6 (by decide) (by rw [si_row, up_s]) (fun i h1 h2 => by rw [si_row, up_n _ _ (by omega)]; exact c3 i h1 h2)
      rw [x35, k1] at y1
      have z2 : RD h5 B L a2 flt2 := by
        have := c2.si (p := 36) (j := 0) (v := nI x) (by decide) (by decide)
        obtain ⟨w1, w2, w3, w4, w5, w6⟩ := this
        have e26 : h5.1 26 = (qm_si h4 36 0 (nI x)).1 26 := y2.2 26 (by decide)
        refine ⟨by rw [y2.2 27 (by decide)]; exact w1, w2, by rw [e26]; exact w3, w4, ?_, ?_⟩
        · unfold TS at w5 ⊢; rw [e26, y2.1]; exact w5
        · unfold LF at w6 ⊢; rw [e26]; exact w6
      have zq : QL 1 c h h5 (x + 5) vs flt2 := by
        refine ⟨fun _ => ⟨?_, fun z => absurd z (by decide)⟩, ?_⟩
        · rw [y1, td, if_neg (by decide), if_pos rfl, Nat.add_sub_cancel]
        · rw [y1, k2]; rfl
      refine ⟨rfl, ?_, LR2.of hwo (Q := fun vs' flt2' => QL 1 c h h5 (x + 5) vs' flt2') (by rw [eif, ← hRes, c1]; exact ⟨rfl, z2, zq⟩) (fun _ _ z => z)⟩
      · refine (c5.si (p := 36) (k := 0) (v := nI x) (by decide) (by decide)).tr ⟨by rw [y2.1], fun q hq hs => y2.2 q (fun e => hs (by rw [List.mem_singleton.mp e]; decide)), fun q hq => by rw [y2.1], fun k hk => by rw [y2.2 26 (by decide)]⟩
    have m86 : ∀ h4 a2 flt2 vs, (x = 3 → R = pn B L 8 1 3 a2 flt2 vs) → (x ≠ 3 → R = .ok (a2, flt2, vs)) → RD h4 B L a2 flt2 → (∀ i, 1 ≤ i → i < 4 → h4.1 36 i = vs i) → h4.1 35 = h.1 35 → rf [35, 36] KR h h4 → qm_PW G mX10_yearLine z 86 0 0 [vr 26, vu, vu, vu, vi (nI x)] [] h4 := by
      intro h4 a2 flt2 vs c0 c1 c2 c3 c4 c5
      have k4' := c2.2.2.2.1
      refine qm_wp_ok hA [97] 40 _ _ _ _ _ _ ⟨fun (q : ¬ nI x = nI 3) => m97 h4 a2 flt2 vs (c1 (fun e => q (by rw [e]))) c2 c3 c4 c5, fun (q : nI x = nI 3) => ⟨rfl, 0, 0, _, e_take hG (d + 1) h4 c2 (k := 3) (hi := 30) (by decide) (by decide), ⟨Nat.le_refl _, Nat.le_refl _⟩, ?_⟩⟩
      have hx3 := (nI_eq (by omega) (by omega)).mp q
      have c0 := c0 hx3
      rintro _ h5 (⟨a1, rfl, a2', a3, a4, a5, a6⟩ | ⟨a1, rfl, a2', a3⟩)
      · have hvv := tV_le k4' a1
        refine ⟨fun _ => m97 h5 (tE B L a2) (if bdd 30 (tV B L a2) (-1) then fs1 flt2 2 (tB B L a2) else flt2) (va_up vs 3 (nI (tV B L a2))) ?_ a2' (fun i h1 h2 => ?_) ?_ (c5.tr (a6.mono (by decide) (fun q hq => hq))), fun z => absurd z (by decide)⟩
        · rw [c0, pn, if_pos a1, pn, bdd_m1 (by omega), bd]
          simp [mo]
        · rw [a3]
          by_cases e : i = 3
          · rw [e, up_s, up_s]
          · rw [up_n _ _ e, up_n _ _ e]; exact c3 i h1 h2
        · rw [a6.2.1 35 (by decide) (by decide), c4]
      · exact ⟨fun z => absurd rfl z, fun _ => ⟨rfl, m84 h5 (tB B L a2) (by rw [c0, pn, if_neg a1]) a2' (c5.tr (a3.mono (by decide) (fun q hq => hq)))⟩⟩
    rw [← hH] at R3 F3 V3 e35
    refine ⟨fun (q : nI 4 ≤ nI x) => ?_, fun (q : ¬ nI 4 ≤ nI x) => ?_⟩
    · have hx4 : x = 4 := by have := (nI_leI (by omega) (by omega)).mp q; omega
      have k := m86 H (tE B L a) flt1 (fun _ => -1) (fun e => by omega) (fun _ => by rw [hRes, hx4]; rfl) R3 V3 e35 F3
      rw [hH] at k
      exact qm_PW.mask [true, false, false, false, true] k
    · have hx4 : x < 4 := by
        rcases Nat.lt_or_ge x 4 with e | e
        · exact e
        · exact absurd (nI_le e (by omega)) q
      have k4' := R3.2.2.2.1
      have etk := e_take hG (d + 1) H R3 (k := 1) (hi := 5) (by decide) (by decide)
      rw [hH] at etk
      refine ⟨rfl, 0, 0, _, etk, ⟨Nat.le_refl _, Nat.le_refl _⟩, ?_⟩
      rintro _ h4 (⟨a1, rfl, a2, a3, a4, a5, a6⟩ | ⟨a1, rfl, a2, a3⟩)
      · rw [← hH] at a3 a6
        have hv1 := tV_le k4' a1
        obtain ⟨v1, hv1e⟩ : ∃ v1, v1 = tV B L (tE B L a) := ⟨_, rfl⟩
        rw [← hv1e] at hv1 a2 a3 a4
        obtain ⟨flt2, hf2⟩ : ∃ flt2, flt2 = (if bdd 5 v1 (-1) then fs1 flt1 2 (tB B L (tE B L a)) else flt1) := ⟨_, rfl⟩
        rw [← hf2] at a2
        obtain ⟨a', ha'⟩ : ∃ a', a' = tE B L (tE B L a) := ⟨_, rfl⟩
        rw [← ha'] at a2
        have k4'' := a2.2.2.2.1
        have x35 : h4.1 35 = h.1 35 := by rw [a6.2.1 35 (by decide) (by decide), e35]
        have F4 : rf [35, 36] KR h h4 := F3.tr (a6.mono (by decide) (fun q hq => hq))
        obtain ⟨nr, hnr⟩ : ∃ nr, nu (x + 5) = nr + 2 := by
          rcases (by omega : x = 0 ∨ x = 1 ∨ x = 2 ∨ x = 3) with e | e | e | e <;> rw [e] <;> exact ⟨_, rfl⟩
        have hm1 : mo (x + 5) 1 = 5 ∧ mo (x + 5) 2 = 5 := by
          rcases (by omega : x = 0 ∨ x = 1 ∨ x = 2 ∨ x = 3) with e | e | e | e <;> rw [e] <;> exact ⟨rfl, rfl⟩
        have hun : unl (x + 5) = decide (x = 3) := by
          rcases (by omega : x = 0 ∨ x = 1 ∨ x = 2 ∨ x = 3) with e | e | e | e <;> rw [e] <;> rfl
        have eR : R = pn B L (x + 5) (nr + 1) 2 a' flt2 (va_up (fun _ => -1) 1 (nI v1)) := by
          rw [hRes, hnr, pn, if_pos a1, ← hv1e, ← ha', hf2, bdd_m1 (by omega), bd, hm1.1]
          simp
        have m82 : ∀ but : Int32, but = (if x = 3 then nI v1 else -1) → qm_PW G mX10_yearLine z 82 0 0 [vr 26, vu, vu, vu, vi (nI x)] [.int but, .int (nI 5), .int 0, .int (nI 2), .ref 26] h4 := by
          intro but hbut
          refine qm_wp_ok hA [84, 86] 40 _ _ _ _ _ _ ⟨rfl, 0, 0, _, e_takeBut hG (d + 2) h4 a2 (k := 2) (hi := 5) (by decide) (by decide) but, ⟨Nat.le_refl _, Nat.le_refl _⟩, ?_⟩
          rintro _ h5 (⟨b1, rfl, b2', b3, b4, b5, b6⟩ | ⟨b1, rfl, b2', b3⟩)
          · have hv2 := tV_le k4'' b1
            have e2 : bd (x + 5) 2 (va_up (fun _ => -1) 1 (nI v1)) (tV B L a') = bdd 5 (tV B L a') but := by
              rw [bd, bdd, hm1.2, up_s, hbut, hun]
              by_cases e : x = 3
              · rw [if_pos e, decide_eq_true e]
                simp only [Bool.true_and, decide_true]
                congr 1
                exact decide_eq_decide.mpr ⟨fun q => q.symm, fun q => q.symm⟩
              · rw [if_neg e, decide_eq_false e, decide_eq_false (nI_ne1 (by omega))]
                simp
            rw [pn, if_pos b1, e2] at eR
            refine ⟨fun _ => m86 h5 (tE B L a') (if bdd 5 (tV B L a') but then fs1 flt2 2 (tB B L a') else flt2) (va_up (va_up (fun _ => -1) 1 (nI v1)) 2 (nI (tV B L a'))) (fun e => ?_) (fun e => ?_) b2' (fun i h1 h2 => ?_) ?_ (F4.tr (b6.mono (by decide) (fun q hq => hq))), fun z => absurd z (by decide)⟩
            · have : nr = 1 := by rw [e] at hnr; have h3 : (3 : Nat) = nr + 2 := hnr; omega
              rw [eR, this, e]
            · have : nr = 0 := by
                rcases (by omega : x = 0 ∨ x = 1 ∨ x = 2) with z | z | z <;> rw [z] at hnr <;> (have h3 : (2 : Nat) = nr + 2 := hnr; omega)
              rw [eR, this, pn]
            · rw [b3]
              by_cases e : i = 2
              · rw [e, up_s, up_s]
              · rw [up_n _ _ e, up_n _ _ e, a3]
                by_cases e1 : i = 1
                · rw [e1, up_s, up_s]
                · rw [up_n _ _ e1, up_n _ _ e1]; exact V3 i h1 h2
            · rw [b6.2.1 35 (by decide) (by decide), x35]
          · rw [pn, if_neg b1] at eR
            refine ⟨fun z => absurd rfl z, fun _ => qm_PW.mask [true, false, false, false, false] ?_⟩
            exact qm_wp_ok hA [] 20 _ _ _ _ _ _ ⟨rfl, m84 h5 _ eR b2' (F4.tr (b3.mono (by decide) (fun q hq => hq)))⟩
        refine ⟨fun z => absurd z (by decide), fun _ => ⟨fun (q : ¬ nI x = nI 3) => ?_, fun (q : nI x = nI 3) => ⟨rfl, _, rfl, rfl, n1, ?_⟩⟩⟩
        · exact qm_PW.mask [true, false, false, false, true] (m82 (-1) (by rw [if_neg (fun e => q (by rw [e]))]))
        · have hx3 := (nI_eq (by omega) (by omega)).mp q
          exact qm_PW.mask [true, false, false, false, true] (m82 (h4.1 36 1) (by rw [if_pos hx3, a3, up_s]))
      · rw [← hH] at a3
        refine ⟨fun _ => qm_PW.mask [true, false, false, false, false] ?_, fun z => absurd rfl z⟩
        have eR : R = .error (tB B L (tE B L a)) := by
          rw [hRes]
          obtain ⟨nr, hnr⟩ : ∃ nr, nu (x + 5) = nr + 1 := by
            rcases (by omega : x = 0 ∨ x = 1 ∨ x = 2 ∨ x = 3) with e | e | e | e <;> rw [e] <;> exact ⟨_, rfl⟩
          rw [hnr, pn, if_neg a1]
        exact qm_wp_ok hA [] 20 _ _ _ _ _ _ ⟨rfl, m84 h4 _ eR a2 (F3.tr (a3.mono (by decide) (fun q hq => hq)))⟩
  refine qm_wp_ok hA [31] 60 _ _ _ _ _ _ ⟨fun (q5 : ¬ lg_cmp v (wc 5) = 0) => ?_, fun (q5 : lg_cmp v (wc 5) = 0) => m31 0 (by decide) (if_pos ((hvw 5 (by decide)).mp q5))⟩
  have w5 : wof (wrd B L a) (ws 1) = wof (wrd B L a) [6, 7, 8, 9] := if_neg (fun e => q5 ((hvw 5 (by decide)).mpr e))
  refine ⟨fun (q6 : ¬ lg_cmp v (wc 6) = 0) => ?_, fun (q6 : lg_cmp v (wc 6) = 0) => m31 1 (by decide) (w5.trans (if_pos ((hvw 6 (by decide)).mp q6)))⟩
  have w6 : wof (wrd B L a) (ws 1) = wof (wrd B L a) [7, 8, 9] := w5.trans (if_neg (fun e => q6 ((hvw 6 (by decide)).mpr e)))
  refine ⟨fun (q7 : ¬ lg_cmp v (wc 7) = 0) => ?_, fun (q7 : lg_cmp v (wc 7) = 0) => m31 2 (by decide) (w6.trans (if_pos ((hvw 7 (by decide)).mp q7)))⟩
  have w7 : wof (wrd B L a) (ws 1) = wof (wrd B L a) [8, 9] := w6.trans (if_neg (fun e => q7 ((hvw 7 (by decide)).mpr e)))
  refine ⟨fun (q8 : ¬ lg_cmp v (wc 8) = 0) => ?_, fun (q8 : lg_cmp v (wc 8) = 0) => m31 3 (by decide) (w7.trans (if_pos ((hvw 8 (by decide)).mp q8)))⟩
  have w8 : wof (wrd B L a) (ws 1) = wof (wrd B L a) [9] := w7.trans (if_neg (fun e => q8 ((hvw 8 (by decide)).mpr e)))
  refine ⟨fun (q9 : ¬ lg_cmp v (wc 9) = 0) => ?_, fun (q9 : lg_cmp v (wc 9) = 0) => m31 4 (by decide) (w8.trans (if_pos ((hvw 9 (by decide)).mp q9)))⟩
  have w9 : wof (wrd B L a) (ws 1) = none := w8.trans (if_neg (fun e => q9 ((hvw 9 (by decide)).mpr e)))
  refine qm_wp_ok hA [] 20 _ _ _ _ _ _ ⟨fun z => absurd rfl z, fun _ => ⟨rfl, 0, 0, _, e_fails hG (d + 4) h, ⟨Nat.le_refl _, Nat.le_refl _⟩, ?_⟩⟩
  rintro _ _ ⟨rfl, rfl⟩
  exact ⟨rfl, rf.r.s26 (by decide), LR2.no w9 (by rw [si_row, up_s]; exact hR.2.2.2.2.1.2.1)⟩
