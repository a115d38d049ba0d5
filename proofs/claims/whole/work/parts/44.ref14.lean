/-! the reference: rows of tellings, the bell -/
theorem s_pow7 {n : Nat} (hn : n ≤ 6) : 7 ^ n ≤ 117649 ∧ 0 < 7 ^ n := by
  match n, hn with
  | 0, _ => decide
  | 1, _ => decide
  | 2, _ => decide
  | 3, _ => decide
  | 4, _ => decide
  | 5, _ => decide
  | 6, _ => decide
theorem e_rows {G : qm_G} (hG : G.2.2.2.2 = true) (d : Nat) (h : qm_H) {n : Nat} (hn : h.1 26 23 = nI n) (hn6 : n ≤ 6) : qm_Ev G d 0 0 qyX10_rows [.ref 26] h (fun r h' => r = some (.int (nI (7 ^ n))) ∧ h = h') := by
  refine qm_Ev.by (M := mX10_rows) okX10_rows (Nat.le_of_ble_eq_true rfl) hG fun z hA => ?_
  refine qm_wp_ok hA [4] 20 _ _ _ _ _ _ ?_
  refine qm_for (P := fun i => qm_PW G mX10_rows z 4 0 0 [vr 26, vi (nI (7 ^ i)), vi (nI i)] [] h) (N := n) ?_ ?_
  · exact qm_wp_ok hA [] 20 _ _ _ _ _ _ ⟨rfl, fun _ => ⟨trivial, rfl, rfl⟩, fun (q : ¬ h.1 26 23 ≤ nI n) => absurd (by rw [hn]; exact Int32.le_refl _) q⟩
  · intro i hi key
    rw [← nI_1, Nat.pow_succ, ← pk_mul] at key
    exact qm_wp_ok hA [4] 40 _ _ _ _ _ _ ⟨rfl, fun (q : h.1 26 23 ≤ nI i) => absurd q (by rw [hn]; exact nI_ge hi (by omega)), fun _ => key⟩
/-- the p-th of the row of a number -/
def s_dg (n k p : Nat) : Nat := k / 7 ^ (n - 1 - p) % 7
def s_rok (mi : Nat → Int32) (n k p : Nat) : Prop := s_dg n k p < 6 → bit (mi p) (nI (s_dg n k p)) = true
theorem e_layRow {G : qm_G} (hG : G.2.2.2.2 = true) (d : Nat) (h : qm_H) {n k : Nat} (hn : h.1 26 23 = nI n) (hn6 : n ≤ 6) (hk : k < 2 ^ 31) : qm_Ev G (d + 1) 0 0 qyX10_layRow [.ref 26, .int (nI k)] h (fun r h' => sb [44] h h' ∧ ((r = some (.int 1) ∧ ∀ p, p < n → s_rok (h.1 39) n k p ∧ h'.1 44 p = nI (s_dg n k p)) ∨ (r = some (.int 0) ∧ ∃ p, p < n ∧ ¬ s_rok (h.1 39) n k p))) := by
  refine qm_Ev.by (M := mX10_layRow) okX10_layRow (Nat.le_of_ble_eq_true rfl) hG fun z hA => ?_
  have loop : ∀ r m : Nat, m + r = n → ∀ h' : qm_H, sb [44] h h' → (∀ p, n - m ≤ p → p < n → s_rok (h.1 39) n k p ∧ h'.1 44 p = nI (s_dg n k p)) → qm_PW G mX10_layRow z 7 0 0 [vr 26, vi (nI k), vi (nI (k / 7 ^ m)), vi (if m < n then nI (n - 1 - m) else -1)] [] h' := by
    intro r
    induction r with
    | zero =>
      intro m hm h' e1 e2
      obtain rfl : m = n := hm
      rw [if_neg (Nat.lt_irrefl _)]
      exact qm_wp_ok hA [] 20 _ _ _ _ _ _ ⟨fun _ => ⟨rfl, e1, Or.inl ⟨rfl, fun p hp => e2 p (by omega) hp⟩⟩, fun q => absurd (by decide) q⟩
    | succ r ih =>
      intro m hm h' e1 e2
      have hmn : m < n := by omega
      rw [if_pos hmn]
      obtain ⟨p, hp⟩ : ∃ p, p = n - 1 - m := ⟨_, rfl⟩
      rw [← hp]
      have hin : vp_in (nI p) 6 := vp_in_nI (by omega) (by decide)
      have ep : (nI p).toNatClampNeg = p := nI_clamp (by omega)
      have hkm : k / 7 ^ m < 2 ^ 31 := Nat.lt_of_le_of_lt (Nat.div_le_self _ _) hk
      have er : nI (k / 7 ^ m) - nI (k / 7 ^ m) / 7 * 7 = nI (s_dg n k p) := by
        have := pk_rem (a := k / 7 ^ m) (d := 7) hkm (by decide) (by decide)
        rw [show (7 : Int32) = nI 7 from rfl, this]
        unfold s_dg
        rw [show n - 1 - p = m by omega]
      have ed : nI (k / 7 ^ m) / 7 = nI (k / 7 ^ (m + 1)) := by
        rw [show (7 : Int32) = nI 7 from rfl, pk_div hkm (by decide) (by decide), Nat.div_div_eq_div_mul, Nat.pow_succ]
      have hdg : s_dg n k p < 7 := Nat.mod_lt _ (by decide)
      have next : s_rok (h.1 39) n k p → qm_PW G mX10_layRow z 7 0 0 [vr 26, vi (nI k), vi (nI (k / 7 ^ (m + 1))), vi (nI p + -1)] [] (qm_si h' 44 p (nI (s_dg n k p))) := by
        intro hok
        have kk := ih (m + 1) (by omega) (qm_si h' 44 p (nI (s_dg n k p))) (e1.si (by decide)) (fun q hq1 hq2 => by
          by_cases e : q = p
          · subst e
            exact ⟨hok, by rw [si_row, up_s]⟩
          · rw [si_row, up_n _ _ e]
            exact e2 q (by omega) hq2)
        have e3 : (if m + 1 < n then nI (n - 1 - (m + 1)) else (-1 : Int32)) = nI p + -1 := by
          split
          · rw [show p = (n - 1 - (m + 1)) + 1 by omega, pk_m1]
          · rw [show p = 0 by omega]; decide
        rw [e3] at kk
        exact kk
      refine qm_wp_ok hA [7] 60 _ _ _ _ _ _ ⟨fun q => absurd q (nI_pos (by omega)), fun _ => ⟨rfl, _, rfl, by decide, rfl, hin, by decide, rfl, _, rfl, rfl, hin, ?_⟩⟩
      show (6 ≤ (qm_si h' 44 (nI p).toNatClampNeg (nI (k / 7 ^ m) - nI (k / 7 ^ m) / 7 * 7)).1 44 (nI p).toNatClampNeg → _) ∧ (¬ 6 ≤ (qm_si h' 44 (nI p).toNatClampNeg (nI (k / 7 ^ m) - nI (k / 7 ^ m) / 7 * 7)).1 44 (nI p).toNatClampNeg → _)
      rw [ep, er, ed, si_row, up_s]
      refine ⟨fun c => ?_, fun c => ?_⟩
      · have h6 : ¬ s_dg n k p < 6 := fun q => absurd c (nI_ge q (by decide))
        exact next (fun q => absurd q h6)
      · have h6 : s_dg n k p < 6 := by
          rcases Nat.lt_or_ge (s_dg n k p) 6 with q | q
          · exact q
          · exact absurd (nI_le q (by omega) : nI 6 ≤ nI (s_dg n k p)) c
        refine ⟨rfl, _, rfl, rfl, hin, rfl, _, rfl, rfl, hin, ?_⟩
        rw [ep]
        have e4 : (qm_si h' 44 p (nI (s_dg n k p))).1 39 = h.1 39 := (e1.2 39 (by decide))
        have e5 : (qm_si h' 44 p (nI (s_dg n k p))).1 44 p = nI (s_dg n k p) := by rw [si_row, up_s]
        rw [e4, e5]
        refine ⟨0, 0, _, e_has hG d _ (h.1 39 p) (nI (s_dg n k p)), ⟨Nat.le_refl _, Nat.le_refl _⟩, ?_⟩
        rintro _ _ ⟨rfl, rfl⟩
        refine b2_ne (fun hb => next (fun _ => hb)) (fun hb => ⟨rfl, e1.si (by decide), Or.inr ⟨rfl, p, by omega, fun q => ?_⟩⟩)
        rw [q h6] at hb
        cases hb
  refine qm_wp_ok hA [7] 20 _ _ _ _ _ _ ⟨rfl, ?_⟩
  have kk := loop n 0 (Nat.zero_add n) h sb.rf (fun p h1 h2 => absurd h2 (by omega))
  rw [Nat.pow_zero, Nat.div_one] at kk
  have e3 : (if 0 < n then nI (n - 1 - 0) else (-1 : Int32)) = nI n - 1 := by
    split
    · rw [show nI n = nI ((n - 1) + 1) by congr 1; omega, nI_pred, Nat.sub_zero]
    · rw [show n = 0 by omega]; decide
  rw [e3] at kk
  show qm_PW G mX10_layRow z 7 0 0 [vr 26, vi (nI k), vi (nI k), vi (h.1 26 23 - 1)] [] h
  rw [hn]
  exact kk
/-- what o hears in a row -/
def s_rowset (w row : Nat → Int32) (o : Nat) : Nat → Int32
  | 0 => 0
  | p + 1 => s_rowset w row o p ||| (if row p < 6 ∧ s_hears w o p = true then s_whole w (row p).toNatClampNeg else 0)
def s_byRow (w mi row : Nat → Int32) (n : Nat) : Nat → Int32
  | 0 => 0
  | o + 1 => s_byRow w mi row n o + s_worth w (s_rowset w row o n &&& (mi o ^^^ -1)) 6
theorem e_learntByRow {G : qm_G} (hG : G.2.2.2.2 = true) (d : Nat) (h : qm_H) {t n : Nat} (ht : h.1 26 22 = nI t) (hk : t < 2) (hn : h.1 26 23 = nI n) (hn6 : n ≤ 6) (hr : ∀ p, p < n → ∃ f, f < 7 ∧ h.1 44 p = nI f) : qm_Ev G (d + 2) 0 0 qyX10_learntByRow [.ref 26] h (fun r h' => r = some (.int (s_byRow (tw h t) (h.1 39) (h.1 44) n n)) ∧ h = h') := by
  refine qm_Ev.by (M := mX10_learntByRow) okX10_learntByRow (Nat.le_of_ble_eq_true rfl) hG fun z hA => ?_
  refine qm_wp_ok hA [4] 20 _ _ _ _ _ _ ?_
  refine qm_for (P := fun i => qm_PW G mX10_learntByRow z 4 0 0 [vr 26, vi (s_byRow (tw h t) (h.1 39) (h.1 44) n i), vi (nI i), vu, vu] [] h) (N := n) ?_ ?_
  · exact qm_wp_ok hA [] 20 _ _ _ _ _ _ ⟨rfl, fun _ => ⟨trivial, rfl, rfl⟩, fun (q : ¬ h.1 26 23 ≤ nI n) => absurd (by rw [hn]; exact Int32.le_refl _) q⟩
  · intro i hi key
    rw [s_byRow, ← nI_1] at key
    have hii : vp_in (nI i) 6 := vp_in_nI (by omega) (by decide)
    refine qm_wp_ok hA [4, 12] 20 _ _ _ _ _ _ ⟨rfl, fun (q : h.1 26 23 ≤ nI i) => absurd q (by rw [hn]; exact nI_ge hi (by omega)), fun _ => ?_⟩
    refine qm_for (P := fun j => qm_PW G mX10_learntByRow z 12 0 0 [vr 26, vi (s_byRow (tw h t) (h.1 39) (h.1 44) n i), vi (nI i), vi (s_rowset (tw h t) (h.1 44) i j), vi (nI j)] [] h) (N := n) ?_ ?_
    · refine qm_wp_ok hA [4] 40 _ _ _ _ _ _ ⟨rfl, fun _ => ⟨rfl, _, rfl, rfl, hii, rfl, ?_⟩, fun (q : ¬ h.1 26 23 ≤ nI n) => absurd (by rw [hn]; exact Int32.le_refl _) q⟩
      rw [nI_clamp (by omega)]
      refine ⟨0, 0, _, e_worthOf hG d h ht hk _, ⟨Nat.le_refl _, Nat.le_refl _⟩, ?_⟩
      rintro _ _ ⟨rfl, rfl⟩
      exact qm_PW.mask [true, true, true, false, false] key
    · intro j hj key2
      rw [s_rowset, ← nI_1] at key2
      obtain ⟨f, hf, ef⟩ := hr j hj
      have hij : vp_in (nI j) 6 := vp_in_nI (by omega) (by decide)
      refine qm_wp_ok hA [12] 40 _ _ _ _ _ _ ⟨rfl, fun (q : h.1 26 23 ≤ nI j) => absurd q (by rw [hn]; exact nI_ge hj (by omega)), fun _ => ⟨rfl, _, rfl, rfl, hij, ?_⟩⟩
      rw [nI_clamp (by omega)]
      refine ⟨fun c => ?_, fun c => ⟨rfl, ?_⟩⟩
      · rw [if_neg (fun q => absurd q.1 (Int32.not_lt.mpr c))] at key2
        exact key2
      · refine ⟨0, 0, _, e_hears hG d h (t := t) (o := i) (p := j) ht hk (by omega), ⟨Nat.le_refl _, Nat.le_refl _⟩, ?_⟩
        rintro _ _ ⟨rfl, rfl⟩
        refine b2_eq (fun hb => ⟨rfl, _, rfl, rfl, hij, rfl, ?_⟩) (fun hb => by rw [if_neg (fun q => by rw [hb] at q; exact absurd q.2 (by decide))] at key2; exact key2)
        rw [nI_clamp (by omega)]
        have c6 : f < 6 := by
          rcases Nat.lt_or_ge f 6 with q | q
          · exact q
          · exact absurd (by rw [ef]; exact nI_le q (by omega) : (6 : Int32) ≤ h.1 44 j) c
        rw [if_pos ⟨Int32.not_le.mp c, hb⟩, ef, nI_clamp (by omega)] at key2
        rw [ef]
        refine ⟨0, 0, _, e_whole hG d h ht hk c6, ⟨Nat.le_refl _, Nat.le_refl _⟩, ?_⟩
        rintro _ _ ⟨rfl, rfl⟩
        exact key2
