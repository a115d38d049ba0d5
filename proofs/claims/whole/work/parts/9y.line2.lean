/-! the class: a whole line -/
def LCl (B : Nat → Nat) (L s a n m : Nat) (flt : Nat × Nat) (h h' : qm_H) (r : Option Value) : Prop := sb [8, 9] h h' ∧ (if tK B L a = 0 then r = some (.int 0) ∧ FLc h' flt ∧ h'.1 9 = h.1 9 ∧ h'.1 8 3 = nI n ∧ h'.1 8 4 = nI m else match wof (wrd B L a) (ws s) with
  | none => LE h' r (tB B L a)
  | some w => LOK B L n (m + if cnd s w then 1 else 0) w h h' r (pn B L w (nu w) 1 (tE B L a) (if cnd s w && decide (lim s ≤ m) then fs1 flt 3 (tB B L a) else flt) (fun _ => -1)))
theorem wof_nil : ∀ s, s < 3 → wof [] (ws s) = none := by decide
theorem ws_lt : ∀ s, s < 3 → ∀ w, w ∈ ws s → w < 12 := by decide
theorem c_readLine {G : qm_G} (hG : G.2.2.2.2 = true) (d : Nat) (h : qm_H) {B : Nat → Nat} {L a s n m : Nat} {flt : Nat × Nat} (hB : TP (h.1 2) B) (hL : L ≤ 600) (ha : a ≤ L) (h5 : h.1 8 5 = nI a) (hF : FLc h flt) (h3 : h.1 8 3 = nI n) (h4 : h.1 8 4 = nI m) (hm : m ≤ n) (hn : 4 * n ≤ a) (hs : s < 3) : qm_Ev G (d + 6) 0 0 qyX2_readLine [.ref 8, .ref 2, .int (nI L), .int (nI s)] h (fun r h' => LCl B L s a n m flt h h' r) := by
  obtain ⟨U, hU⟩ : ∃ U : Option Value → qm_H → Prop, U = fun r h' => LCl B L s a n m flt h h' r := ⟨_, rfl⟩
  rw [← hU]
  have kB := tB_le (B := B) ha
  obtain ⟨e1, e2, e3, e4, e5, e6⟩ := tE_lt (B := B) ha
  obtain ⟨y1, y2, y3, y4, y5⟩ := ck_ok _ e6
  refine qm_Ev.by (M := mX2_readLine) okX2_readLine (Nat.le_of_ble_eq_true rfl) hG fun z hA => ?_
  refine qm_wp_ok hA [9] 40 _ _ _ _ _ _ ⟨rfl, 0, 0, _, c_nextToken hG (d + 3) h hB hL h5 ha, ⟨Nat.le_refl _, Nat.le_refl _⟩, ?_⟩
  rintro _ h1 ⟨rfl, ⟨t1, t2, t3, t4⟩, f, b1, b2, b3⟩
  have s1 : sb [8, 9] h h1 := f.1.mono (by decide)
  have F1 : FLc h1 flt := hF.cg f.g (by decide) (by decide)
  have n1 : h1.1 8 3 = nI n := by rw [f.2 3 (by decide)]; exact h3
  have m1 : h1.1 8 4 = nI m := by rw [f.2 4 (by decide)]; exact h4
  have B1 : TP (h1.1 2) B := by rw [f.1.2 2 (by decide)]; exact hB
  by_cases c0 : tK B L a = 0
  · have fin : U (some (.int 0)) h1 := by
      rw [hU]
      refine ⟨s1, ?_⟩
      rw [if_pos c0]
      exact ⟨rfl, F1, f.1.2 9 (by decide), n1, m1⟩
    exact ⟨rfl, fun (q : ¬ h1.1 8 6 = 0) => absurd (by rw [t3, y4.mpr c0]; rfl) q, fun _ => ⟨rfl, fin⟩⟩
  · have q6 : ¬ h1.1 8 6 = 0 := fun q => c0 (y4.mp ((nI_eq (a := ck (tK B L a)) (b := 0) (by omega) (by decide)).mp (by rw [← t3]; exact q)))
    refine ⟨rfl, fun _ => ?_, fun q => absurd q q6⟩
    have ref : wof (wrd B L a) (ws s) = none → ∀ (x : Int32), qm_PW G mX2_readLine z 29 0 0 [vr 8, vr 2, vi (nI L), vi (nI s), vi x, vu, vu] [] (h1) := fun hw x => by
      refine qm_wp_ok hA [] 10 _ _ _ _ _ _ ⟨rfl, 0, 0, _, c_refuse hG _ h1, ⟨Nat.le_refl _, Nat.le_refl _⟩, ?_⟩
      rintro _ h2 ⟨rfl, r1, r2, r3⟩
      refine ⟨rfl, ?_⟩
      rw [hU]
      refine ⟨s1.tr (r3.1.mono (by decide)), ?_⟩
      rw [if_neg c0, hw]
      exact ⟨rfl, r1, by rw [r2, t2]⟩
    by_cases c2 : tK B L a = 2
    · have hwr : wrd B L a = wr B (tB B L a) (tE B L a - tB B L a) := by rw [wrd, if_pos c2]
      have g := c_wordOf hG d h1 (s := s) B1 (by omega) e1 t1 t2 hs
      rw [← hwr] at g
      refine qm_wp_ok hA [29, 32] 40 _ _ _ _ _ _ ⟨rfl, fun (q : ¬ h1.1 8 6 = nI 1) => absurd (by rw [t3, y1.mpr c2]) q, fun _ => ⟨rfl, 0, 0, _, g, ⟨Nat.le_refl _, Nat.le_refl _⟩, ?_⟩⟩
      rintro _ _ ⟨rfl, rfl⟩
      cases hw : wof (wrd B L a) (ws s) with
      | none => exact ⟨fun _ => ref hw _, fun q => absurd (by decide : (-1 : Int32) < 0) q⟩
      | some w =>
        have hw12 := ws_lt s hs w (wof_in _ hw).1
        have hlt := e3 c0
        have hn150 : n < 150 := by omega
        have go : qm_PW G mX2_readLine z 32 0 0 [vr 8, vr 2, vi (nI L), vi (nI s), vi (nI w), vu, vu] [] (h1) := by
          obtain ⟨m2, hm2⟩ : ∃ m2, m2 = m + if cnd s w then 1 else 0 := ⟨_, rfl⟩
          obtain ⟨flt1, hf1⟩ : ∃ flt1, flt1 = if cnd s w && decide (lim s ≤ m) then fs1 flt 3 (tB B L a) else flt := ⟨_, rfl⟩
          have fin : ∀ r h', sb [8, 9] h h' → LOK B L n m2 w h h' r (pn B L w (nu w) 1 (tE B L a) flt1 (fun _ => -1)) → U r h' := fun r h' g1 g2 => by
            rw [hU]
            refine ⟨g1, ?_⟩
            rw [if_neg c0, hw]
            rw [hm2, hf1] at g2
            exact g2
          refine qm_wp_ok hA [41] 20 _ _ _ _ _ _ ⟨rfl, 0, 0, _, c_countLine hG (d + 4) h1 F1 hw12 hs m1 (by omega) t2, ⟨Nat.le_refl _, Nat.le_refl _⟩, ?_⟩
          rintro _ h2 ⟨rfl, k1, k2, k3⟩
          rw [← hf1] at k1
          rw [← hm2] at k2
          have n2 : h2.1 8 3 = nI n := by rw [k3.2 3 (by decide)]; exact n1
          have e4n : (4 : Int32) * h2.1 8 3 = nI (4 * n) := by rw [n2, show (4 : Int32) = nI 4 from rfl, pk_mul]
          have g41 : qm_PW G mX2_readLine z 41 0 0 [vr 8, vr 2, vi (nI L), vi (nI s), vi (nI w), vi (nI (4 * n)), vu] [] (h2) := by
            have i0 : vp_in (nI (4 * n)) 600 := vp_in_nI (by omega) (by decide)
            have ei : ∀ k, nI (4 * n) + nI k = nI (4 * n + k) := fun k => nI_add _ _
            have ii : ∀ k, k ≤ 3 → vp_in (nI (4 * n) + nI k) 600 := fun k hk => by rw [ei]; exact vp_in_nI (by omega) (by decide)
            have ec : ∀ k, k ≤ 3 → (nI (4 * n) + nI k).toNatClampNeg = 4 * n + k := fun k hk => by rw [ei, nI_clamp (by omega)]
            obtain ⟨h6, hh6⟩ : ∃ h6, h6 = qm_si (qm_si (qm_si (qm_si h2 9 (nI (4 * n)).toNatClampNeg (nI w)) 9 (nI (4 * n) + nI 1).toNatClampNeg (-1)) 9 (nI (4 * n) + nI 2).toNatClampNeg (-1)) 9 (nI (4 * n) + nI 3).toNatClampNeg (-1) := ⟨_, rfl⟩
            have st : LSt B L n m2 w h h6 (tE B L a) flt1 (fun _ => -1) := by
              have e8 : h6.1 8 = h2.1 8 := by rw [hh6, si_ne _ _ _ (by decide), si_ne _ _ _ (by decide), si_ne _ _ _ (by decide), si_ne _ _ _ (by decide)]
              have e2' : h6.1 2 = h2.1 2 := by rw [hh6, si_ne _ _ _ (by decide), si_ne _ _ _ (by decide), si_ne _ _ _ (by decide), si_ne _ _ _ (by decide)]
              rw [ec 1 (by decide), ec 2 (by decide), ec 3 (by decide), nI_clamp (by omega)] at hh6
              have s2 : sb [8, 9] h h2 := s1.tr (k3.1.mono (by decide))
              refine ⟨?_, by rw [e2', k3.1.2 2 (by decide)]; exact B1, e2, by rw [e8, k3.2 5 (by decide)]; exact t1, ⟨by rw [e8]; exact k1.1, by rw [e8]; exact k1.2.1, k1.2.2⟩, by rw [e8]; exact n2, by rw [e8]; exact k2, ?_, fun i i1 i3 => ?_, fun j hj => ?_⟩
              · rw [hh6]; exact (((s2.si (by decide)).si (by decide)).si (by decide)).si (by decide)
              · rw [hh6, si_o _ _ _ (by omega), si_o _ _ _ (by omega), si_o _ _ _ (by omega), si_s]
              · rcases (by omega : i = 1 ∨ i = 2 ∨ i = 3) with e | e | e <;> subst e
                · rw [hh6, si_o _ _ _ (by omega), si_o _ _ _ (by omega), si_s]
                · rw [hh6, si_o _ _ _ (by omega), si_s]
                · rw [hh6, si_s]
              · rw [hh6, si_o _ _ _ (by omega), si_o _ _ _ (by omega), si_o _ _ _ (by omega), si_o _ _ _ (by omega), k3.1.2 9 (by decide), f.1.2 9 (by decide)]
            have nx := rl_62 hG d h (s := s) hA hL hw12 hn150 fin (nu w) 1 (tE B L a) flt1 (fun _ => -1) h6 (by omega) (Nat.le_refl _) st rfl
            rw [hh6] at nx
            exact qm_wp_ok hA [62] 80 _ _ _ _ _ _ ⟨rfl, _, rfl, rfl, i0, fun q => absurd q (by decide), fun _ => ⟨rfl, _, rfl, rfl, ii 1 (by decide), fun q => absurd q (by decide), fun _ => ⟨rfl, _, rfl, rfl, ii 2 (by decide), fun q => absurd q (by decide), fun _ => ⟨rfl, _, rfl, rfl, ii 3 (by decide), fun _ => nx, fun q => absurd (by decide) q⟩⟩⟩⟩
          rw [← e4n] at g41
          exact ⟨rfl, g41⟩
        exact ⟨fun (q : nI w < 0) => absurd q (nI_pos (by omega)), fun _ => ⟨fun (q : nI 12 ≤ nI w) => absurd q (nI_ge hw12 (by decide)), fun _ => ⟨rfl, fun _ => go, fun (q : ¬ h1.1 8 3 < nI 150) => absurd (by rw [n1]; exact nI_lt hn150 (by decide)) q⟩⟩⟩
    · have hw : wof (wrd B L a) (ws s) = none := by rw [wrd, if_neg c2]; exact wof_nil s hs
      refine qm_wp_ok hA [29] 40 _ _ _ _ _ _ ⟨rfl, fun _ => ⟨fun _ => ref hw _, fun q => absurd (by decide : (-1 : Int32) < 0) q⟩, fun (q : h1.1 8 6 = nI 1) => absurd (y1.mp ((nI_eq (by omega) (by decide)).mp (by rw [← t3]; exact q))) c2⟩
