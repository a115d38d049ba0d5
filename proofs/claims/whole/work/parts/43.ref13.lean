/-! bits; the reference: how many tellings are left -/
theorem fa_and (a b : Nat) : nI a &&& nI b = nI (a &&& b) := by
  apply Int32.toBitVec_inj.1
  show BitVec.ofNat 32 a &&& BitVec.ofNat 32 b = BitVec.ofNat 32 (a &&& b)
  apply BitVec.eq_of_getLsbD_eq
  intro i hi
  simp [hi]
theorem fa_or (a b : Nat) : nI a ||| nI b = nI (a ||| b) := by
  apply Int32.toBitVec_inj.1
  show BitVec.ofNat 32 a ||| BitVec.ofNat 32 b = BitVec.ofNat 32 (a ||| b)
  apply BitVec.eq_of_getLsbD_eq
  intro i hi
  simp [hi]
theorem s_toldBy_nat (w : Nat → Int32) {s n : Nat} (p : Nat) (hs : s < 2 ^ n) (hn : n ≤ 6) : ∀ i, i ≤ n → ∃ j, j < 2 ^ n ∧ s_toldBy w (nI s) p i = nI j
  | 0, _ => ⟨s, hs, rfl⟩
  | i + 1, hi => by
    obtain ⟨j, hj, e⟩ := s_toldBy_nat w p hs hn i (by omega)
    rw [s_toldBy, e]
    split
    · rw [(s_pow (by omega : i ≤ 6)).2, fa_or]
      exact ⟨j ||| 2 ^ i, Nat.or_lt_two_pow hj (Nat.pow_lt_pow_right (by decide) (by omega)), rfl⟩
    · rw [show (0 : Int32) = nI 0 from rfl, fa_or, Nat.or_zero]
      exact ⟨j, hj, rfl⟩
def s_left1 (w : Nat → Int32) (n : Nat) (a : Nat → Int32) (set : Nat) (v : Int32) : Nat → Int32
  | 0 => v
  | p + 1 => if bit (nI set) (nI p) = true ∧ ¬ s_toldBy w (nI set) p n = nI set then mn (s_left1 w n a set v p) (a (s_toldBy w (nI set) p n).toNatClampNeg + 1) else s_left1 w n a set v p
def s_left0 (wanted : Int32) (set : Nat) : Int32 := if nI set &&& wanted = wanted then 0 else 1000000
def s_leftOn (w : Nat → Int32) (n : Nat) (wanted : Int32) (a : Nat → Int32) : Nat → (Nat → Int32)
  | 0 => a
  | m + 1 => va_up (s_leftOn w n wanted a m) (2 ^ n - 1 - m) (s_left1 w n (s_leftOn w n wanted a m) (2 ^ n - 1 - m) (s_left0 wanted (2 ^ n - 1 - m)) n)
theorem e_findLeft {G : qm_G} (hG : G.2.2.2.2 = true) (d : Nat) (h : qm_H) {t n : Nat} (ht : h.1 26 22 = nI t) (hk : t < 2) (hn : h.1 26 23 = nI n) (hn6 : n ≤ 6) (wanted : Int32) : qm_Ev G (d + 3) 0 0 qyX10_findLeft [.ref 26, .int wanted] h (fun r h' => r = none ∧ h'.1 43 = s_leftOn (tw h t) n wanted (h.1 43) (2 ^ n) ∧ sb [43] h h') := by
  refine qm_Ev.by (M := mX10_findLeft) okX10_findLeft (Nat.le_of_ble_eq_true rfl) hG fun z hA => ?_
  obtain ⟨p1, -⟩ := s_pow hn6
  obtain ⟨p2, p3⟩ := s_pow6 hn6
  have loop : ∀ r m : Nat, m + r = 2 ^ n → ∀ h' : qm_H, h'.1 43 = s_leftOn (tw h t) n wanted (h.1 43) m → sb [43] h h' → qm_PW G mX10_findLeft z 7 0 0 [vr 26, vi wanted, vi (if m < 2 ^ n then nI (2 ^ n - 1 - m) else -1), vu, vu, vu] [] h' := by
    intro r
    induction r with
    | zero =>
      intro m hm h' e1 e2
      obtain rfl : m = 2 ^ n := hm
      rw [if_neg (Nat.lt_irrefl _)]
      exact qm_wp_ok hA [] 20 _ _ _ _ _ _ ⟨fun _ => ⟨rfl, rfl, e1, e2⟩, fun q => absurd (by decide) q⟩
    | succ r ih =>
      intro m hm h' e1 e2
      have hmn : m < 2 ^ n := by omega
      rw [if_pos hmn]
      obtain ⟨s, hs⟩ : ∃ s, s = 2 ^ n - 1 - m := ⟨_, rfl⟩
      rw [← hs]
      have hs2 : s < 2 ^ n := by omega
      have hin : vp_in (nI s) 64 := vp_in_nI (by omega) (by decide)
      have es : (nI s).toNatClampNeg = s := nI_clamp (by omega)
      obtain ⟨A, hAe⟩ : ∃ A, A = s_leftOn (tw h t) n wanted (h.1 43) m := ⟨_, rfl⟩
      rw [← hAe] at e1
      have done : ∀ h2 : qm_H, h2.1 43 = va_up A s (s_left1 (tw h t) n A s (s_left0 wanted s) n) → sb [43] h h2 → qm_PW G mX10_findLeft z 7 0 0 [vr 26, vi wanted, vi (nI s + -1), vu, vu, vu] [] h2 := by
        intro h2 f1 f2
        have k := ih (m + 1) (by omega) h2 (by rw [f1, s_leftOn, ← hAe, ← hs]) f2
        have e3 : (if m + 1 < 2 ^ n then nI (2 ^ n - 1 - (m + 1)) else (-1 : Int32)) = nI s + -1 := by
          split
          · rw [show s = (2 ^ n - 1 - (m + 1)) + 1 by omega, pk_m1]
          · rw [show s = 0 by omega]; decide
        rw [e3] at k
        exact k
      have inner : ∀ q p : Nat, p + q = n → ∀ h2 : qm_H, h2.1 43 = va_up A s (s_left1 (tw h t) n A s (s_left0 wanted s) p) → sb [43] h h2 → qm_PW G mX10_findLeft z 23 0 0 [vr 26, vi wanted, vi (nI s), vi (nI p), vu, vu] [] h2 := by
        intro q
        induction q with
        | zero =>
          intro p hp h2 f1 f2
          obtain rfl : p = n := hp
          refine qm_wp_ok hA [7] 20 _ _ _ _ _ _ ⟨rfl, fun _ => ?_, fun (q : ¬ h2.1 26 23 ≤ nI p) => absurd (by rw [f2.2 26 (by decide), hn]; exact Int32.le_refl _) q⟩
          exact qm_PW.mask [true, true, true, false, false, false] (done h2 f1 f2)
        | succ q ih2 =>
          intro p hp h2 f1 f2
          have g1 : tw h2 t = tw h t := by
            unfold tw
            rw [f2.2 32 (by decide)]
          obtain ⟨j, hj, ej⟩ := s_toldBy_nat (tw h t) (s := s) (n := n) p hs2 hn6 n (Nat.le_refl n)
          have hinj : vp_in (nI j) 64 := vp_in_nI (by omega) (by decide)
          have ejn : (nI j).toNatClampNeg = j := nI_clamp (by omega)
          have step : ∀ v : Int32, v = s_left1 (tw h t) n A s (s_left0 wanted s) (p + 1) → ∀ L4 L5 : Option Value, qm_PW G mX10_findLeft z 23 0 0 [vr 26, vi wanted, vi (nI s), vi (nI p + 1), L4, L5] [] (qm_si h2 43 s v) := by
            intro v hv L4 L5
            have k := ih2 (p + 1) (by omega) (qm_si h2 43 s v) (by rw [si_row, f1, bx_uu, hv]) (f2.si (by decide))
            rw [← nI_1] at k
            exact qm_PW.mask [true, true, true, true, false, false] k
          have m42 : qm_PW G mX10_findLeft z 42 0 0 [vr 26, vi wanted, vi (nI s), vi (nI p), vi (nI j), vu] [.int (b2 (decide (bit (nI s) (nI p) = true ∧ ¬ nI j = nI s)))] h2 := by
            refine qm_wp_ok hA [23] 60 _ _ _ _ _ _ ⟨rfl, _, rfl, ?_⟩
            refine b2_eq (fun hb => ?_) (fun hb => ?_)
            · have hb1 := of_decide_eq_true hb
              refine ⟨rfl, _, rfl, rfl, hin, rfl, _, rfl, rfl, hinj, ?_⟩
              rw [es, ejn]
              refine ⟨0, 0, _, e_lesser hG _ h2 _ _, ⟨Nat.le_refl _, Nat.le_refl _⟩, ?_⟩
              rintro _ _ ⟨rfl, rfl⟩
              refine ⟨rfl, hin, ?_⟩
              rw [es]
              refine step _ ?_ _ _
              rw [s_left1, if_pos (by rw [ej]; exact hb1), ej, ejn, f1, up_s, up_n _ _ (fun e => hb1.2 (by rw [e]))]
            · have hb1 := of_decide_eq_false hb
              refine ⟨rfl, _, rfl, rfl, hin, rfl, hin, ?_⟩
              rw [es]
              refine step _ ?_ _ _
              rw [s_left1, if_neg (by rw [ej]; exact hb1), f1, up_s]
          refine qm_wp_ok hA [42] 40 _ _ _ _ _ _ ⟨rfl, fun (q : h2.1 26 23 ≤ nI p) => absurd q (by rw [f2.2 26 (by decide), hn]; exact nI_ge (by omega) (by omega)), fun _ => ⟨rfl, 0, 0, _, e_toldBy hG d h2 (t := t) (n := n) (p := p) (by rw [f2.2 26 (by decide), ht]) hk (by rw [f2.2 26 (by decide), hn]) hn6 (nI s), ⟨Nat.le_refl _, Nat.le_refl _⟩, ?_⟩⟩
          rintro _ _ ⟨rfl, rfl⟩
          rw [g1, ej]
          refine ⟨0, 0, _, e_has hG _ h2 (nI s) (nI p), ⟨Nat.le_refl _, Nat.le_refl _⟩, ?_⟩
          rintro _ _ ⟨rfl, rfl⟩
          refine b2_eq (fun hb => ⟨fun c => ?_, fun c => ?_⟩) (fun hb => ?_)
          · rw [decide_eq_false (fun q => q.2 c)] at m42
            exact m42
          · rw [decide_eq_true ⟨hb, c⟩] at m42
            exact m42
          · rw [decide_eq_false (fun q => by rw [hb] at q; exact absurd q.1 (by decide))] at m42
            exact m42
      have first : ∀ v : Int32, v = s_left0 wanted s → qm_PW G mX10_findLeft z 23 0 0 [vr 26, vi wanted, vi (nI s), vi 0, vu, vu] [] (qm_si h' 43 s v) := fun v hv => inner n 0 (Nat.zero_add n) _ (by rw [si_row, e1, hv]; rfl) (e2.si (by decide))
      refine qm_wp_ok hA [23] 40 _ _ _ _ _ _ ⟨fun q => absurd q (nI_pos (by omega)), fun _ => ⟨rfl, _, rfl, fun c => ⟨rfl, hin, ?_⟩, fun c => ⟨rfl, hin, ?_⟩⟩⟩
      · rw [es]
        exact first _ (by rw [s_left0, if_neg c])
      · rw [es]
        exact first _ (by rw [s_left0, if_pos c])
  refine qm_wp_ok hA [7] 20 _ _ _ _ _ _ ⟨rfl, ?_⟩
  have e0 : (1 : Int32) <<< (h.1 26 23 &&& 31) - 1 = nI (2 ^ n - 1) := by rw [hn]; exact p1
  show qm_PW G mX10_findLeft z 7 0 0 [vr 26, vi wanted, vi ((1 : Int32) <<< (h.1 26 23 &&& 31) - 1), vu, vu, vu] [] h
  rw [e0]
  have k := loop (2 ^ n) 0 (Nat.zero_add _) h rfl sb.rf
  rw [if_pos p3] at k
  exact k
