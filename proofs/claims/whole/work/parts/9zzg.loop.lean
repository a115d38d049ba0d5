/-! the law's loop -/
theorem li_lt {L t : Nat} (hL : L ≤ 3072) (ht : t ≤ 600) (h : L < 6 * t + 6) : nI L - 6 < nI (6 * t) := by
  by_cases c : 6 ≤ L
  · rw [show (6 : Int32) = nI 6 from rfl, pk_sub c]
    exact nI_lt (by omega) (by omega)
  · have h0 : (0 : Int32) ≤ nI (6 * t) := Int32.not_lt.mp (nI_pos (by omega))
    refine Int32.lt_of_lt_of_le ?_ h0
    rcases (by omega : L = 0 ∨ L = 1 ∨ L = 2 ∨ L = 3 ∨ L = 4 ∨ L = 5) with e | e | e | e | e | e <;> subst e <;> decide
theorem li_ge {L t : Nat} (hL : L ≤ 3072) (h : 6 * t + 6 ≤ L) : ¬ nI L - 6 < nI (6 * t) := by
  rw [show (6 : Int32) = nI 6 from rfl, pk_sub (by omega)]
  exact Int32.not_lt.mpr (nI_le (by omega) (by omega))
set_option maxRecDepth 100000 in
theorem lw_loop {G : qm_G} (hG : G.2.2.2.2 = true) {nm : String} {z : qm_Z} (hA : qm_At G true (mLw nm) z 21 600000 7302250 (fun _ _ => False)) {L : Nat} {xs : Nat → Int32} (hX : SCR G z L xs) (hL : L ≤ 3072) (kend : ∀ h c s, c ≤ 600000 → s ≤ 7302250 → qm_PW G (mLw nm) z 1055 c s [vr 1000031, vr 0, vr 26, vu] [.int 1] h) : ∀ f t, L < 6 * t + 6 + 6 * f → t + f ≤ 513 → ∀ h c s, INV h → h.2.2.2.2 ≤ 51 + 8 * t → c ≤ 60 + 8 * t → s ≤ 60000 + 617 * t → qm_PW G (mLw nm) z 10 c s [vr 1000031, vr 0, vr 26, vi (nI (6 * t))] [] h := by
  intro f
  induction f with
  | zero =>
    intro t h1 h2 h c s v hz hc hs
    refine qm_wp_ok hA [12] 8 _ _ _ _ _ _ ?_
    refine sp_slen hA rfl rfl rfl hX ?_
    exact qm_wp_ok hA [18, 1055] 12 _ _ _ _ _ _ ⟨fun _ => qm_PW.mask [true, true, true, false] (kend h c s (by omega) (by omega)), fun q => absurd (li_lt hL (by omega) (by omega)) q⟩
  | succ f ih =>
    intro t h1 h2 h c s v hz hc hs
    refine qm_wp_ok hA [12] 8 _ _ _ _ _ _ ?_
    refine sp_slen hA rfl rfl rfl hX ?_
    by_cases e : L < 6 * t + 6
    · exact qm_wp_ok hA [18, 1055] 12 _ _ _ _ _ _ ⟨fun _ => qm_PW.mask [true, true, true, false] (kend h c s (by omega) (by omega)), fun q => absurd (li_lt hL (by omega) e) q⟩
    · have hi : 6 * t + 6 ≤ L := by omega
      have k : NXT G nm z t c s h := by
        intro h2 c' s' v2 z2 c2 s2
        have := ih (t + 1) (by omega) (by omega) h2 c' s' v2 (by omega) (by omega) (by omega)
        rw [show 6 * (t + 1) = 6 * t + 6 by omega, ← nI_add] at this
        exact qm_wp_ok hA [10] 8 _ _ _ _ _ _ this
      have i0 : vp_in (nI (6 * t)) L := vp_in_nI (by omega) (by omega)
      have hz' : h.2.2.2.2 + 8 < 1000000 := by omega
      have hc' : c + 8 ≤ 600000 := by omega
      have hs' : s + 700 ≤ 7302250 := by omega
      refine qm_wp_ok hA [18, 1055] 12 _ _ _ _ _ _ ⟨fun q => absurd q (li_ge hL hi), fun _ => ?_⟩
      refine sp_sld hA rfl rfl rfl hX i0 ?_
      exact qm_wp_ok hA [22, 79, 96, 123, 140, 167, 204, 231, 278, 315, 352, 379, 406, 423, 461, 506, 543, 580, 627, 654, 681, 708, 745, 790, 817, 863, 900, 956, 1001, 1018, 1035, 1052] 12 _ _ _ _ _ _ ⟨⟨fun _ => lc_0 hG hA hX h v hz' hi hL hc' hs' k, fun _ => lc_1 hG hA hX h v hz' hi hL hc' hs' k, fun _ => lc_2 hG hA hX h v hz' hi hL hc' hs' k, fun _ => lc_3 hG hA hX h v hz' hi hL hc' hs' k, fun _ => lc_4 hG hA hX h v hz' hi hL hc' hs' k, fun _ => lc_5 hG hA hX h v hz' hi hL hc' hs' k, fun _ => lc_6 hG hA hX h v hz' hi hL hc' hs' k, fun _ => lc_7 hG hA hX h v hz' hi hL hc' hs' k, fun _ => lc_8 hG hA hX h v hz' hi hL hc' hs' k, fun _ => lc_9 hG hA hX h v hz' hi hL hc' hs' k, fun _ => lc_10 hG hA hX h v hz' hi hL hc' hs' k, fun _ => lc_11 hG hA hX h v hz' hi hL hc' hs' k, fun _ => lc_12 hG hA hX h v hz' hi hL hc' hs' k, fun _ => lc_13 hG hA hX h v hz' hi hL hc' hs' k, fun _ => lc_14 hG hA hX h v hz' hi hL hc' hs' k, fun _ => lc_15 hG hA hX h v hz' hi hL hc' hs' k, fun _ => lc_16 hG hA hX h v hz' hi hL hc' hs' k, fun _ => lc_17 hG hA hX h v hz' hi hL hc' hs' k, fun _ => lc_18 hG hA hX h v hz' hi hL hc' hs' k, fun _ => lc_19 hG hA hX h v hz' hi hL hc' hs' k, fun _ => lc_20 hG hA hX h v hz' hi hL hc' hs' k, fun _ => lc_21 hG hA hX h v hz' hi hL hc' hs' k, fun _ => lc_22 hG hA hX h v hz' hi hL hc' hs' k, fun _ => lc_23 hG hA hX h v hz' hi hL hc' hs' k, fun _ => lc_24 hG hA hX h v hz' hi hL hc' hs' k, fun _ => lc_25 hG hA hX h v hz' hi hL hc' hs' k, fun _ => lc_26 hG hA hX h v hz' hi hL hc' hs' k, fun _ => lc_27 hG hA hX h v hz' hi hL hc' hs' k, fun _ => lc_28 hG hA hX h v hz' hi hL hc' hs' k, fun _ => lc_29 hG hA hX h v hz' hi hL hc' hs' k, fun _ => lc_30 hG hA hX h v hz' hi hL hc' hs' k, trivial⟩, fun _ => k h c s v (by omega) (by omega) (by omega)⟩
