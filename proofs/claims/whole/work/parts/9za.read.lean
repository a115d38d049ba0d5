/-! the class: a text is read -/
theorem nm_len : ∀ w, w < 12 → 3 ≤ (nm w).length := by decide
theorem lat_a1 {acc : List (Nat × (Nat → Int32))} {l : Nat × (Nat → Int32)} {k : Nat} (h : k < acc.length) : lat (acc ++ [l]) k = lat acc k := by
  rw [lat, lat, List.getD_eq_getElem?_getD, List.getD_eq_getElem?_getD, List.getElem?_append_left h]
theorem lat_a2 {acc : List (Nat × (Nat → Int32))} {l : Nat × (Nat → Int32)} : lat (acc ++ [l]) acc.length = l := by
  rw [lat, List.getD_eq_getElem?_getD, List.getElem?_append_right (Nat.le_refl _), Nat.sub_self]; rfl
def RDc (B : Nat → Nat) (L s : Nat) (h h' : qm_H) : Prop := sb [8, 9] h h' ∧ h'.1 8 0 = nI (rdF B L s).1 ∧ h'.1 8 1 = (rdF B L s).2 ∧ ((rdF B L s).1 = 0 → ∃ acc flt a, prs0 B L s = .ok (acc, flt, a) ∧ flt.1 = 0 ∧ LNS h' acc)
theorem c_read {G : qm_G} (hG : G.2.2.2.2 = true) (d : Nat) (h : qm_H) {B : Nat → Nat} {L s : Nat} (hB : TP (h.1 2) B) (hL : L ≤ 600) (hs : s < 3) : qm_Ev G (d + 7) 0 0 qyX2_read [.ref 8, .ref 2, .int (nI L), .int (nI s)] h (fun r h' => r = none ∧ RDc B L s h h') := by
  obtain ⟨U, hU⟩ : ∃ U : Option Value → qm_H → Prop, U = fun r h' => r = none ∧ RDc B L s h h' := ⟨_, rfl⟩
  rw [← hU]
  obtain ⟨RES, hRES⟩ : ∃ RES, RES = prs0 B L s := ⟨_, rfl⟩
  have hl : 1 ≤ lim s := (by decide : ∀ s, s < 3 → 1 ≤ lim s) s hs
  refine qm_Ev.by (M := mX2_read) okX2_read (Nat.le_of_ble_eq_true rfl) hG fun z hA => ?_
  have mErr : ∀ h' p, sb [8, 9] h h' → h'.1 8 0 = 1 → h'.1 8 1 = nI p → RES = .error p → qm_PW G mX2_read z 37 0 0 [vr 8, vr 2, vi (nI L), vi (nI s), vi (nI L), vu, vu] [] (h') := fun h' p a1 a2 a3 hR => by
    have eF : rdF B L s = (1, nI p) := by rw [rdF, ← hRES, hR]
    refine qm_wp_ok hA [] 20 _ _ _ _ _ _ ⟨rfl, fun _ => ⟨rfl, ?_⟩, fun (q : h'.1 8 0 = 0) => absurd q (by rw [a2]; decide)⟩
    rw [hU]
    exact ⟨rfl, a1, by rw [eF, a2]; rfl, by rw [eF, a3], fun z => absurd z (by rw [eF]; exact Nat.succ_ne_zero _)⟩
  have mOk : ∀ h' acc flt a, sb [8, 9] h h' → LNS h' acc → FLc h' flt → h'.1 8 4 = nI (cnt s acc) → RES = .ok (acc, flt, a) → qm_PW G mX2_read z 37 0 0 [vr 8, vr 2, vi (nI L), vi (nI s), vi (nI L), vu, vu] [] (h') := fun h' acc flt a a1 a2 a3 a4 hR => by
    have eF : rdF B L s = if flt.1 = 0 then (if s = 0 ∧ tdf 0 acc (tdI 0) 0 ≤ frf acc (-1) then (4, nI L) else (0, -1)) else (flt.1, nI flt.2) := by rw [rdF, ← hRES, hR]
    obtain ⟨c1, c2, c3⟩ := a3
    by_cases f0 : flt.1 = 0
    · rw [if_pos f0] at eF c2
      rw [f0] at c1
      have done : ¬ (s = 0 ∧ tdf 0 acc (tdI 0) 0 ≤ frf acc (-1)) → U none h' := fun q => by
        rw [if_neg q] at eF
        rw [hU]
        exact ⟨rfl, a1, by rw [eF, c1], by rw [eF, c2], fun _ => ⟨acc, flt, a, hRES ▸ hR, f0, a2⟩⟩
      by_cases s0 : s = 0
      · have hT : tdf 0 acc (tdI 0) 0 = nI (cnt s acc) := by
          have hp : prs B L s 601 0 0 (0, 0) [] = .ok (acc, flt, a) := by rw [← hR, hRES]; rfl
          obtain ⟨v1, v2⟩ := prs_ok 601 0 0 (0, 0) [] acc flt a (Nat.zero_le _) (fun l hl => absurd hl (by simp)) rfl (Nat.zero_le _) hp f0
          rw [s0] at v1 v2 ⊢
          exact (TVI_all acc.length acc rfl v1 v2).1
        have ea := frf_any (cnt s acc) acc (-1)
        have hcl : cnt s acc ≤ 150 := Nat.le_trans (List.length_filter_le _ _) a2.2.1
        rw [decide_eq_false (nI_m1 (by omega)), Bool.false_or] at ea
        refine qm_wp_ok hA [] 30 _ _ _ _ _ _ ⟨rfl, fun (q : ¬ h'.1 8 0 = 0) => absurd (by rw [c1]; rfl) q, fun _ => ⟨fun (q : ¬ nI s = 0) => absurd (by rw [s0]; rfl) q, fun _ => ⟨rfl, 0, 0, _, c_missing hG _ h' a2 a4, ⟨Nat.le_refl _, Nat.le_refl _⟩, ?_⟩⟩⟩
        rintro _ _ ⟨rfl, rfl⟩
        rw [← ea]
        refine b2_eq (fun t => ⟨rfl, 0, 0, _, c_blame hG _ h' (flt := flt) ⟨by rw [c1, f0], by rw [if_pos f0]; exact c2, c3⟩ (f := 4) (p := L) (by decide) (by decide), ⟨Nat.le_refl _, Nat.le_refl _⟩, ?_⟩) (fun t => ⟨rfl, done (fun q => of_decide_eq_false t (by rw [← hT]; exact q.2))⟩)
        rintro _ h2 ⟨rfl, g1, g2⟩
        refine ⟨rfl, ?_⟩
        have t : nI (cnt s acc) ≤ frf acc (-1) := of_decide_eq_true t
        rw [if_pos ⟨s0, by rw [hT]; exact t⟩] at eF
        rw [fs1, if_pos f0] at g1
        rw [hU]
        exact ⟨rfl, a1.tr (g2.1.mono (by decide)), by rw [eF]; exact g1.1, by rw [eF]; exact g1.2.1, fun z => absurd z (by rw [eF]; exact Nat.succ_ne_zero _)⟩
      · exact qm_wp_ok hA [] 20 _ _ _ _ _ _ ⟨rfl, fun (q : ¬ h'.1 8 0 = 0) => absurd (by rw [c1]; rfl) q, fun _ => ⟨fun _ => ⟨rfl, done (fun q => s0 q.1)⟩, fun (q : nI s = 0) => absurd ((nI_eq (a := s) (b := 0) (by omega) (by decide)).mp q) s0⟩⟩
    · rw [if_neg f0] at eF c2
      refine qm_wp_ok hA [] 20 _ _ _ _ _ _ ⟨rfl, fun _ => ⟨rfl, ?_⟩, fun (q : h'.1 8 0 = 0) => absurd ((nI_eq (a := flt.1) (b := 0) (by omega) (by decide)).mp (by rw [← c1]; exact q)) f0⟩
      rw [hU]
      exact ⟨rfl, a1, by rw [eF, c1], by rw [eF, c2], fun z => absurd z (by rw [eF]; exact f0)⟩
  have m24 : ∀ h' (x : Int32), qm_PW G mX2_read z 37 0 0 [vr 8, vr 2, vi (nI L), vi (nI s), vi (nI L), vu, vu] [] (h') → qm_PW G mX2_read z 24 0 0 [vr 8, vr 2, vi (nI L), vi (nI s), vi (nI L), vi 0, vi x] [] (h') := fun h' x k =>
    qm_wp_ok hA [37] 10 _ _ _ _ _ _ ⟨fun _ => qm_PW.mask [true, true, true, true, true, false, false] k, fun _ => ⟨fun _ => qm_PW.mask [true, true, true, true, true, false, false] k, fun q => absurd rfl q⟩⟩
  have main : ∀ r a c flt acc m h', L < a + r → a ≤ L → LNS h' acc → 4 * acc.length ≤ a → h'.1 8 5 = nI a → FLc h' flt → h'.1 8 4 = nI m → m = cnt s acc → c = min m (lim s) → sb [8, 9] h h' → RES = prs B L s r a c flt acc → qm_PW G mX2_read z 24 0 0 [vr 8, vr 2, vi (nI L), vi (nI s), vi (nI L), vi 1, vi (nI acc.length)] [] (h') := by
    intro r
    induction r with
    | zero => intro a c flt acc m h' z1 z2; omega
    | succ r ih =>
      intro a c flt acc m h' z1 z2 a2 a3 a4 a5 a6 a7 a8 a9 hR
      have hB' : TP (h'.1 2) B := by rw [a9.2 2 (by decide)]; exact hB
      have hml : m ≤ acc.length := by rw [a7]; exact List.length_filter_le _ _
      have hc : decide (lim s ≤ c) = decide (lim s ≤ m) := by
        rw [a8]
        by_cases x : lim s ≤ m
        · rw [decide_eq_true x, decide_eq_true (by omega)]
        · rw [decide_eq_false x, decide_eq_false (by omega)]
      refine qm_wp_ok hA [24] 30 _ _ _ _ _ _ ⟨fun (q : nI 150 < nI acc.length) => absurd q (Int32.not_lt.mpr (nI_le a2.2.1 (by decide))), fun _ => ⟨fun q => absurd q (by decide), fun _ => ⟨rfl, 0, 0, _, c_readLine hG d h' hB' hL z2 a4 a5 a2.1 a6 hml a3 hs, ⟨Nat.le_refl _, Nat.le_refl _⟩, ?_⟩⟩⟩
      rintro _ h2 ⟨s2, q⟩
      have s3 := a9.tr s2
      by_cases c0 : tK B L a = 0
      · rw [if_pos c0] at q
        obtain ⟨rfl, q1, q2, q3, q4⟩ := q
        rw [prs, if_pos c0] at hR
        exact m24 h2 _ (mOk h2 acc flt a s3 ⟨q3, a2.2.1, by rw [q2]; exact a2.2.2⟩ q1 (by rw [q4, a7]) hR)
      · rw [if_neg c0] at q
        rw [prs, if_neg c0, pl] at hR
        cases hw : wof (wrd B L a) (ws s) with
        | none =>
          rw [hw] at q hR
          obtain ⟨rfl, q1, q2⟩ := q
          exact m24 h2 _ (mErr h2 _ s3 q1 q2 hR)
        | some w =>
          rw [hw] at q hR
          rw [hc] at hR
          dsimp only at q hR
          have hw12 := ws_lt s hs w (wof_in _ hw).1
          have hwl := (wof_in _ hw).2
          have hlen := nm_len w hw12
          obtain ⟨x1, x2, x3, -⟩ := tE_lt (B := B) z2
          obtain ⟨x4, x5⟩ := tB_le (B := B) z2
          have h3 : tB B L a + 3 ≤ tE B L a := by
            rw [← hwl, wrd] at hlen
            split at hlen
            · rw [wr_len] at hlen; omega
            · exact absurd hlen (by decide)
          cases hp : pn B L w (nu w) 1 (tE B L a) (if cnd s w && decide (lim s ≤ m) then fs1 flt 3 (tB B L a) else flt) (fun _ => -1) with
          | error p =>
            rw [hp] at q hR
            obtain ⟨rfl, q1, q2⟩ := q
            exact m24 h2 _ (mErr h2 _ s3 q1 q2 hR)
          | ok x =>
            obtain ⟨a3', flt2, vs⟩ := x
            rw [hp] at q hR
            obtain ⟨p1, p2, -⟩ := pn_le _ _ _ _ _ _ _ _ x2 hp
            have q : if tK B L a3' = 4 then _ else LE h2 _ (tB B L a3') := q
            have hR : RES = if tK B L a3' = 4 then prs B L s r (tE B L a3') (cn s w c) flt2 (acc ++ [(w, vs)]) else .error (tB B L a3') := hR
            by_cases c4 : tK B L a3' = 4
            · rw [if_pos c4] at q hR
              obtain ⟨rfl, q1, q2, q3, q4, q5, q6, q7⟩ := q
              obtain ⟨o1, o2, o3, -⟩ := tE_lt (B := B) p2
              obtain ⟨o4, o5⟩ := tB_le (B := B) p2
              have o3 := o3 (by omega)
              have el : (acc ++ [(w, vs)]).length = acc.length + 1 := by rw [List.length_append]; rfl
              have nx := ih (tE B L a3') (cn s w c) flt2 (acc ++ [(w, vs)]) (m + if cnd s w then 1 else 0) h2 (by omega) o2 ⟨by rw [el]; exact q3, by rw [el]; omega, fun k hk => ?_⟩ (by rw [el]; omega) q2 q1 q4 (by rw [cnt_a, a7]) ?_ s3 hR
              · rw [el, ← nI_1] at nx
                exact nx
              · rw [el] at hk
                by_cases e : k = acc.length
                · rw [e, lat_a2]
                  exact ⟨q5, hw12, fun i i1 i3 => q6 i i1 i3⟩
                · rw [lat_a1 (by omega), q7 _ (by omega)]
                  obtain ⟨u1, u2, u3⟩ := a2.2.2 k (by omega)
                  exact ⟨u1, u2, fun i i1 i3 => by rw [q7 _ (by omega)]; exact u3 i i1 i3⟩
              · rw [cn]
                split <;> omega
            · rw [if_neg c4] at q hR
              obtain ⟨rfl, q1, q2⟩ := q
              exact m24 h2 _ (mErr h2 _ s3 q1 q2 hR)
  obtain ⟨h0, hh0⟩ : ∃ h0, h0 = qm_si (qm_si (qm_si (qm_si (qm_si h 8 0 0) 8 1 (-1)) 8 3 0) 8 4 0) 8 5 0 := ⟨_, rfl⟩
  have s0 : sb [8, 9] h h0 := by rw [hh0]; exact ((((sb.rf.si (by decide)).si (by decide)).si (by decide)).si (by decide)).si (by decide)
  have go := main 601 0 0 (0, 0) [] 0 h0 (by omega) (Nat.zero_le _) ⟨by rw [hh0, si_o _ _ _ (by decide), si_o _ _ _ (by decide), si_s]; rfl, Nat.zero_le _, fun k hk => absurd hk (Nat.not_lt_zero _)⟩ (Nat.zero_le _) (by rw [hh0, si_s]; rfl) ⟨by rw [hh0, si_o _ _ _ (by decide), si_o _ _ _ (by decide), si_o _ _ _ (by decide), si_o _ _ _ (by decide), si_s]; rfl, by rw [hh0, si_o _ _ _ (by decide), si_o _ _ _ (by decide), si_o _ _ _ (by decide), si_s]; rfl, by decide⟩ (by rw [hh0, si_o _ _ _ (by decide), si_s]; rfl) rfl (by omega) s0 hRES
  rw [hh0] at go
  refine qm_wp_ok hA [18] 60 _ _ _ _ _ _ ⟨rfl, trivial, rfl, trivial, rfl, trivial, rfl, trivial, rfl, trivial, rfl, ?_⟩
  refine sp_mmin hA rfl rfl rfl (k1 := 366) (by decide +kernel) (Nat.le_of_ble_eq_true rfl) ?_
  have e6 : (if nI 600 < nI L then nI 600 else nI L) = nI L := if_neg (Int32.not_lt.mpr (nI_le hL (by decide)))
  have g19 : qm_PW G mX2_read z 19 0 0 [vr 8, vr 2, vi (nI L), vi (nI s), vu, vu, vu] [.int (if nI 600 < nI L then nI 600 else nI L)] (qm_si (qm_si (qm_si (qm_si (qm_si h 8 0 0) 8 1 (-1)) 8 3 0) 8 4 0) 8 5 0) := by
    rw [e6]
    exact qm_wp_ok hA [24] 20 _ _ _ _ _ _ go
  exact g19
