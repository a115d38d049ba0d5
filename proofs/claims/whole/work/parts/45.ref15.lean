/-! the reference: chains -/
theorem s_or1 {had f : Nat} (hh : had < 64) (hf : f < 6) : nI had ||| (1 <<< (nI f &&& 31)) = nI (had ||| 2 ^ f) ∧ had ||| 2 ^ f < 64 := by
  rw [(s_pow (by omega : f ≤ 6)).2, fa_or]
  exact ⟨rfl, Nat.or_lt_two_pow (n := 6) hh (Nat.pow_lt_pow_right (by decide) hf)⟩
def s_may (w : Nat → Int32) (had ahead f : Nat) : Bool := !bit (nI had) (nI f) && (decide (ahead = 6) || bit (w (7 + ahead)) (nI f))
def s_chainBy (w cp : Nat → Int32) (had ahead f : Nat) : Int32 := if s_may w had ahead f then 1 + cp (64 * f + (had ||| 2 ^ f)) else 0
theorem e_chainBy {G : qm_G} (hG : G.2.2.2.2 = true) (d : Nat) (h : qm_H) {t had ahead f : Nat} (ht : h.1 26 22 = nI t) (hk : t < 2) (hh : had < 64) (ha : ahead ≤ 6) (hf : f < 6) : qm_Ev G (d + 1) 0 0 qyX10_chainBy [.ref 26, .int (nI had), .int (nI ahead), .int (nI f)] h (fun r h' => r = some (.int (s_chainBy (tw h t) (h.1 49) had ahead f)) ∧ h = h') := by
  refine qm_Ev.by (M := mX10_chainBy) okX10_chainBy (Nat.le_of_ble_eq_true rfl) hG fun z hA => ?_
  obtain ⟨o1, o2⟩ := s_or1 hh hf
  have ei : (64 : Int32) * nI f + (nI had ||| (1 <<< (nI f &&& 31))) = nI (64 * f + (had ||| 2 ^ f)) := by
    rw [o1, show (64 : Int32) = nI 64 from rfl, pk_mul, nI_add]
  have m18 : qm_PW G mX10_chainBy z 18 0 0 [vr 26, vi (nI had), vi (nI ahead), vi (nI f), vu] [.int (b2 (s_may (tw h t) had ahead f))] h := by
    refine qm_wp_ok hA [] 40 _ _ _ _ _ _ ?_
    refine b2_eq (fun hb => ?_) (fun hb => ⟨trivial, by rw [s_chainBy, if_neg (by rw [hb]; decide)], rfl⟩)
    refine ⟨rfl, _, rfl, rfl, ?_, trivial, ?_, rfl⟩
    · show vp_in ((64 : Int32) * nI f + (nI had ||| (1 <<< (nI f &&& 31)))) 448
      rw [ei]; exact vp_in_nI (by omega) (by decide)
    · show some (Value.int ((1 : Int32) + h.1 49 ((64 : Int32) * nI f + (nI had ||| (1 <<< (nI f &&& 31)))).toNatClampNeg)) = _
      rw [ei, nI_clamp (by omega), s_chainBy, if_pos hb]
  unfold s_may at m18
  refine qm_wp_ok hA [18] 40 _ _ _ _ _ _ ⟨0, 0, _, e_has hG d h (nI had) (nI f), ⟨Nat.le_refl _, Nat.le_refl _⟩, ?_⟩
  rintro _ _ ⟨rfl, rfl⟩
  refine b2_ne (fun hb => ?_) (fun hb => ⟨fun c => ?_, fun c => ⟨rfl, ?_⟩⟩)
  · rw [hb] at m18
    exact m18
  · have e6 : ahead = 6 := (nI_eq (by omega) (by decide)).mp (c : nI ahead = nI 6)
    rw [hb, decide_eq_true e6] at m18
    exact m18
  · have e6 : ahead ≠ 6 := fun e => c (by rw [e]; rfl)
    have e7 : (7 : Int32) + nI ahead = nI (7 + ahead) := nI_add 7 ahead
    rw [hb, decide_eq_false e6] at m18
    refine ⟨0, 0, _, (by rw [e7]; exact e_of hG d h ht hk (by omega)), ⟨Nat.le_refl _, Nat.le_refl _⟩, ?_⟩
    rintro _ _ ⟨rfl, rfl⟩
    refine ⟨0, 0, _, e_has hG d h (tw h t (7 + ahead)) (nI f), ⟨Nat.le_refl _, Nat.le_refl _⟩, ?_⟩
    rintro _ _ ⟨rfl, rfl⟩
    exact b2_eq (fun hb2 => by rw [hb2] at m18; exact m18) (fun hb2 => by rw [hb2] at m18; exact m18)
def s_chain1 (w cp : Nat → Int32) (had ahead : Nat) : Nat → Int32
  | 0 => 0
  | f + 1 => mx (s_chain1 w cp had ahead f) (s_chainBy w cp had ahead f)
def s_chainRow (w cp : Nat → Int32) (had : Nat) : Nat → (Nat → Int32)
  | 0 => cp
  | k + 1 => va_up (s_chainRow w cp had k) (64 * k + had) (s_chain1 w (s_chainRow w cp had k) had k 6)
def s_chains (w cp : Nat → Int32) : Nat → (Nat → Int32)
  | 0 => cp
  | m + 1 => s_chainRow w (s_chains w cp m) (63 - m) 7
theorem e_findChains {G : qm_G} (hG : G.2.2.2.2 = true) (d : Nat) (h : qm_H) {t : Nat} (ht : h.1 26 22 = nI t) (hk : t < 2) : qm_Ev G (d + 2) 0 0 qyX10_findChains [.ref 26] h (fun r h' => r = none ∧ h'.1 49 = s_chains (tw h t) (h.1 49) 64 ∧ sb [49] h h') := by
  refine qm_Ev.by (M := mX10_findChains) okX10_findChains (Nat.le_of_ble_eq_true rfl) hG fun z hA => ?_
  have loop : ∀ r m : Nat, m + r = 64 → ∀ h' : qm_H, h'.1 49 = s_chains (tw h t) (h.1 49) m → sb [49] h h' → qm_PW G mX10_findChains z 2 0 0 [vr 26, vi (if m < 64 then nI (63 - m) else -1), vu, vu, vu] [] h' := by
    intro r
    induction r with
    | zero =>
      intro m hm h' e1 e2
      obtain rfl : m = 64 := hm
      exact qm_wp_ok hA [] 20 _ _ _ _ _ _ ⟨fun _ => ⟨rfl, rfl, e1, e2⟩, fun q => absurd (by decide) q⟩
    | succ r ih =>
      intro m hm h' e1 e2
      rw [if_pos (by omega)]
      obtain ⟨s, hs⟩ : ∃ s, s = 63 - m := ⟨_, rfl⟩
      rw [← hs]
      obtain ⟨A, hAe⟩ : ∃ A, A = s_chains (tw h t) (h.1 49) m := ⟨_, rfl⟩
      rw [← hAe] at e1
      have mid : ∀ q k : Nat, k + q = 7 → ∀ h2 : qm_H, h2.1 49 = s_chainRow (tw h t) A s k → sb [49] h h2 → qm_PW G mX10_findChains z 6 0 0 [vr 26, vi (nI s), vi (nI k), vu, vu] [] h2 := by
        intro q
        induction q with
        | zero =>
          intro k hkq h2 f1 f2
          obtain rfl : k = 7 := hkq
          refine qm_wp_ok hA [2] 20 _ _ _ _ _ _ ⟨fun _ => ?_, fun q => absurd (by decide) q⟩
          have kk := ih (m + 1) (by omega) h2 (by rw [f1, s_chains, ← hAe, ← hs]) f2
          have e3 : (if m + 1 < 64 then nI (63 - (m + 1)) else (-1 : Int32)) = nI s + -1 := by
            split
            · rw [show s = (63 - (m + 1)) + 1 by omega, pk_m1]
            · rw [show s = 0 by omega]; decide
          rw [e3] at kk
          exact qm_PW.mask [true, true, false, false, false] kk
        | succ q ih2 =>
          intro k hkq h2 f1 f2
          have g1 : tw h2 t = tw h t := by
            unfold tw
            rw [f2.2 32 (by decide)]
          have ei : (64 : Int32) * nI k + nI s = nI (64 * k + s) := by rw [show (64 : Int32) = nI 64 from rfl, pk_mul, nI_add]
          refine qm_wp_ok hA [6, 13] 20 _ _ _ _ _ _ ⟨fun q => absurd q (nI_nlt (by omega : k ≤ 6) (by decide)), fun _ => ?_⟩
          refine qm_for (P := fun f => qm_PW G mX10_findChains z 13 0 0 [vr 26, vi (nI s), vi (nI k), vi (s_chain1 (tw h t) (h2.1 49) s k f), vi (nI f)] [] h2) (N := 6) ?_ ?_
          · refine qm_wp_ok hA [6] 40 _ _ _ _ _ _ ⟨fun _ => ⟨rfl, _, rfl, rfl, ?_, ?_⟩, fun q => absurd (by decide) q⟩
            · show vp_in ((64 : Int32) * nI k + nI s) 448
              rw [ei]; exact vp_in_nI (by omega) (by decide)
            · rw [ei, nI_clamp (by omega)]
              have kk := ih2 (k + 1) (by omega) (qm_si h2 49 (64 * k + s) (s_chain1 (tw h t) (h2.1 49) s k 6)) (by rw [si_row, s_chainRow, f1]) (f2.si (by decide))
              rw [← nI_1] at kk
              exact qm_PW.mask [true, true, true, false, false] kk
          · intro f hf key
            rw [s_chain1, ← nI_1] at key
            refine qm_wp_ok hA [13] 40 _ _ _ _ _ _ ⟨fun q => absurd q (nI_ge hf (by decide)), fun _ => ⟨rfl, 0, 0, _, e_chainBy hG d h2 (t := t) (had := s) (ahead := k) (f := f) (by rw [f2.2 26 (by decide), ht]) hk (by omega) (by omega) hf, ⟨Nat.le_refl _, Nat.le_refl _⟩, ?_⟩⟩
            rintro _ _ ⟨rfl, rfl⟩
            rw [g1]
            refine ⟨0, 0, _, e_greater hG _ h2 _ _, ⟨Nat.le_refl _, Nat.le_refl _⟩, ?_⟩
            rintro _ _ ⟨rfl, rfl⟩
            exact key
      refine qm_wp_ok hA [6] 20 _ _ _ _ _ _ ⟨fun q => absurd q (nI_pos (by omega)), fun _ => ?_⟩
      exact mid 7 0 rfl h' e1 e2
  refine qm_wp_ok hA [2] 20 _ _ _ _ _ _ ?_
  exact loop 64 0 rfl h rfl sb.rf
/-! numbers by a seed -/
def s_seed (s : Int32) : Int32 := s * 1103515245 + 12345
def s_draw (s n : Int32) : Int32 := ((s_seed s).toUInt32 >>> ((16 : Int32).toUInt32 &&& Int32.toUInt32 31)).toInt32 - ((s_seed s).toUInt32 >>> ((16 : Int32).toUInt32 &&& Int32.toUInt32 31)).toInt32 / n * n
theorem e_draw {G : qm_G} (hG : G.2.2.2.2 = true) (d : Nat) (h : qm_H) (n : Int32) (hn : ¬ n = 0) : qm_Ev G d 0 0 qyX10_draw [.ref 26, .int n] h (fun r h' => r = some (.int (s_draw (h.1 26 44) n)) ∧ h' = qm_si h 26 44 (s_seed (h.1 26 44))) := by
  refine qm_Ev.run (M := mX10_draw) okX10_draw rfl hG fun z => ?_
  exact ⟨rfl, rfl, trivial, rfl, hn, trivial, rfl, rfl⟩
theorem e_allEnds {G : qm_G} (hG : G.2.2.2.2 = true) (d : Nat) (h : qm_H) {n : Nat} (hn3 : n ≤ 3) : qm_Ev G d 0 0 qyX10_allEnds [.int (nI n)] h (fun r h' => r = some (.int (nI (37 ^ n))) ∧ h = h') := by
  refine qm_Ev.by (M := mX10_allEnds) okX10_allEnds (Nat.le_of_ble_eq_true rfl) hG fun z hA => ?_
  refine qm_wp_ok hA [4] 20 _ _ _ _ _ _ ?_
  refine qm_for (P := fun i => qm_PW G mX10_allEnds z 4 0 0 [vi (nI n), vi (nI (37 ^ i)), vi (nI i)] [] h) (N := n) ?_ ?_
  · exact qm_wp_ok hA [] 20 _ _ _ _ _ _ ⟨fun _ => ⟨trivial, rfl, rfl⟩, fun q => absurd (Int32.le_refl _) q⟩
  · intro i hi key
    rw [← nI_1, Nat.pow_succ, ← pk_mul] at key
    exact qm_wp_ok hA [4] 40 _ _ _ _ _ _ ⟨fun q => absurd q (nI_ge hi (by omega)), fun _ => key⟩
