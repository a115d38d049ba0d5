/-! the law's calls, 2 -/
set_option maxRecDepth 100000 in
theorem lc_8 {G : qm_G} (hG : G.2.2.2.2 = true) {nm : String} {z : qm_Z} (hA : qm_At G true (mLw nm) z 21 600000 7302250 (fun _ _ => False)) {L : Nat} {xs : Nat → Int32} (hX : SCR G z L xs) (h : qm_H) (v : INV h) (hz : h.2.2.2.2 + 8 < 1000000) {i : Nat} (hi : 6 * i + 6 ≤ L) (hL : L ≤ 3072) {c s : Nat} (hc : c + 8 ≤ 600000) (hs : s + 700 ≤ 7302250) (k : NXT G nm z i c s h) : qm_PW G (mLw nm) z 278 c s [vr 1000031, vr 0, vr 26, vi (nI (6 * i))] [] h := by
  have j1 := scr_in1 hi hL
  have j2 := scr_in2 hi hL
  have j3 := scr_in3 hi hL
  refine qm_wp_ok hA [283] 8 _ _ _ _ _ _ ?_
  refine sp_sld hA rfl rfl rfl hX j1 ?_
  refine qm_wp_ok hA [288] 8 _ _ _ _ _ _ ?_
  refine sp_sld hA rfl rfl rfl hX j2 ?_
  refine qm_wp_ok hA [293] 8 _ _ _ _ _ _ ?_
  refine sp_sld hA rfl rfl rfl hX j3 ?_
  refine qm_wp_ok hA [300] 12 _ _ _ _ _ _ ⟨rfl, 0, 0, _, g_tellings hG h v (xs (nI (6 * i) + 1).toNatClampNeg) (xs (nI (6 * i) + 2).toNatClampNeg) (xs (nI (6 * i) + 3).toNatClampNeg), ⟨by omega, by omega⟩, ?_⟩
  rintro _ h1 ⟨_, rfl, ⟨y, rfl⟩, k2⟩
  refine sp_sld hA rfl rfl rfl hX j1 ?_
  refine qm_wp_ok hA [305] 8 _ _ _ _ _ _ ?_
  refine sp_sld hA rfl rfl rfl hX j2 ?_
  refine qm_wp_ok hA [310] 8 _ _ _ _ _ _ ?_
  refine sp_sld hA rfl rfl rfl hX j3 ?_
  refine qm_wp_ok hA [1052] 12 _ _ _ _ _ _ ⟨rfl, 0, 0, _, k2, ⟨by omega, by omega⟩, ?_⟩
  rintro _ h2 ⟨rfl, v2, z2⟩
  exact ⟨fun _ => k h2 _ _ v2 z2 (by omega) (by omega), fun q => absurd rfl q⟩
set_option maxRecDepth 100000 in
theorem lc_9 {G : qm_G} (hG : G.2.2.2.2 = true) {nm : String} {z : qm_Z} (hA : qm_At G true (mLw nm) z 21 600000 7302250 (fun _ _ => False)) {L : Nat} {xs : Nat → Int32} (hX : SCR G z L xs) (h : qm_H) (v : INV h) (hz : h.2.2.2.2 + 8 < 1000000) {i : Nat} (hi : 6 * i + 6 ≤ L) (hL : L ≤ 3072) {c s : Nat} (hc : c + 8 ≤ 600000) (hs : s + 700 ≤ 7302250) (k : NXT G nm z i c s h) : qm_PW G (mLw nm) z 315 c s [vr 1000031, vr 0, vr 26, vi (nI (6 * i))] [] h := by
  have j1 := scr_in1 hi hL
  have j2 := scr_in2 hi hL
  have j3 := scr_in3 hi hL
  refine qm_wp_ok hA [320] 8 _ _ _ _ _ _ ?_
  refine sp_sld hA rfl rfl rfl hX j1 ?_
  refine qm_wp_ok hA [325] 8 _ _ _ _ _ _ ?_
  refine sp_sld hA rfl rfl rfl hX j2 ?_
  refine qm_wp_ok hA [330] 8 _ _ _ _ _ _ ?_
  refine sp_sld hA rfl rfl rfl hX j3 ?_
  refine qm_wp_ok hA [337] 12 _ _ _ _ _ _ ⟨rfl, 0, 0, _, g_message hG h v (xs (nI (6 * i) + 1).toNatClampNeg) (xs (nI (6 * i) + 2).toNatClampNeg) (xs (nI (6 * i) + 3).toNatClampNeg), ⟨by omega, by omega⟩, ?_⟩
  rintro _ h1 ⟨_, rfl, ⟨y, rfl⟩, k2⟩
  refine sp_sld hA rfl rfl rfl hX j1 ?_
  refine qm_wp_ok hA [342] 8 _ _ _ _ _ _ ?_
  refine sp_sld hA rfl rfl rfl hX j2 ?_
  refine qm_wp_ok hA [347] 8 _ _ _ _ _ _ ?_
  refine sp_sld hA rfl rfl rfl hX j3 ?_
  refine qm_wp_ok hA [1052] 12 _ _ _ _ _ _ ⟨rfl, 0, 0, _, k2, ⟨by omega, by omega⟩, ?_⟩
  rintro _ h2 ⟨rfl, v2, z2⟩
  exact ⟨fun _ => k h2 _ _ v2 z2 (by omega) (by omega), fun q => absurd rfl q⟩
set_option maxRecDepth 100000 in
theorem lc_10 {G : qm_G} (hG : G.2.2.2.2 = true) {nm : String} {z : qm_Z} (hA : qm_At G true (mLw nm) z 21 600000 7302250 (fun _ _ => False)) {L : Nat} {xs : Nat → Int32} (hX : SCR G z L xs) (h : qm_H) (v : INV h) (hz : h.2.2.2.2 + 8 < 1000000) {i : Nat} (hi : 6 * i + 6 ≤ L) (hL : L ≤ 3072) {c s : Nat} (hc : c + 8 ≤ 600000) (hs : s + 700 ≤ 7302250) (k : NXT G nm z i c s h) : qm_PW G (mLw nm) z 352 c s [vr 1000031, vr 0, vr 26, vi (nI (6 * i))] [] h := by
  have j1 := scr_in1 hi hL
  have j2 := scr_in2 hi hL
  refine qm_wp_ok hA [357] 8 _ _ _ _ _ _ ?_
  refine sp_sld hA rfl rfl rfl hX j1 ?_
  refine qm_wp_ok hA [362] 8 _ _ _ _ _ _ ?_
  refine sp_sld hA rfl rfl rfl hX j2 ?_
  refine qm_wp_ok hA [369] 12 _ _ _ _ _ _ ⟨rfl, 0, 0, _, g_bell hG h v (xs (nI (6 * i) + 1).toNatClampNeg) (xs (nI (6 * i) + 2).toNatClampNeg), ⟨by omega, by omega⟩, ?_⟩
  rintro _ h1 ⟨_, rfl, ⟨y, rfl⟩, k2⟩
  refine sp_sld hA rfl rfl rfl hX j1 ?_
  refine qm_wp_ok hA [374] 8 _ _ _ _ _ _ ?_
  refine sp_sld hA rfl rfl rfl hX j2 ?_
  refine qm_wp_ok hA [1052] 12 _ _ _ _ _ _ ⟨rfl, 0, 0, _, k2, ⟨by omega, by omega⟩, ?_⟩
  rintro _ h2 ⟨rfl, v2, z2⟩
  exact ⟨fun _ => k h2 _ _ v2 z2 (by omega) (by omega), fun q => absurd rfl q⟩
set_option maxRecDepth 100000 in
theorem lc_11 {G : qm_G} (hG : G.2.2.2.2 = true) {nm : String} {z : qm_Z} (hA : qm_At G true (mLw nm) z 21 600000 7302250 (fun _ _ => False)) {L : Nat} {xs : Nat → Int32} (hX : SCR G z L xs) (h : qm_H) (v : INV h) (hz : h.2.2.2.2 + 8 < 1000000) {i : Nat} (hi : 6 * i + 6 ≤ L) (hL : L ≤ 3072) {c s : Nat} (hc : c + 8 ≤ 600000) (hs : s + 700 ≤ 7302250) (k : NXT G nm z i c s h) : qm_PW G (mLw nm) z 379 c s [vr 1000031, vr 0, vr 26, vi (nI (6 * i))] [] h := by
  have j1 := scr_in1 hi hL
  have j2 := scr_in2 hi hL
  refine qm_wp_ok hA [384] 8 _ _ _ _ _ _ ?_
  refine sp_sld hA rfl rfl rfl hX j1 ?_
  refine qm_wp_ok hA [389] 8 _ _ _ _ _ _ ?_
  refine sp_sld hA rfl rfl rfl hX j2 ?_
  refine qm_wp_ok hA [396] 12 _ _ _ _ _ _ ⟨rfl, 0, 0, _, g_weddings hG h v (xs (nI (6 * i) + 1).toNatClampNeg) (xs (nI (6 * i) + 2).toNatClampNeg), ⟨by omega, by omega⟩, ?_⟩
  rintro _ h1 ⟨_, rfl, ⟨y, rfl⟩, k2⟩
  refine sp_sld hA rfl rfl rfl hX j1 ?_
  refine qm_wp_ok hA [401] 8 _ _ _ _ _ _ ?_
  refine sp_sld hA rfl rfl rfl hX j2 ?_
  refine qm_wp_ok hA [1052] 12 _ _ _ _ _ _ ⟨rfl, 0, 0, _, k2, ⟨by omega, by omega⟩, ?_⟩
  rintro _ h2 ⟨rfl, v2, z2⟩
  exact ⟨fun _ => k h2 _ _ v2 z2 (by omega) (by omega), fun q => absurd rfl q⟩
set_option maxRecDepth 100000 in
theorem lc_12 {G : qm_G} (hG : G.2.2.2.2 = true) {nm : String} {z : qm_Z} (hA : qm_At G true (mLw nm) z 21 600000 7302250 (fun _ _ => False)) {L : Nat} {xs : Nat → Int32} (hX : SCR G z L xs) (h : qm_H) (v : INV h) (hz : h.2.2.2.2 + 8 < 1000000) {i : Nat} (hi : 6 * i + 6 ≤ L) (hL : L ≤ 3072) {c s : Nat} (hc : c + 8 ≤ 600000) (hs : s + 700 ≤ 7302250) (k : NXT G nm z i c s h) : qm_PW G (mLw nm) z 406 c s [vr 1000031, vr 0, vr 26, vi (nI (6 * i))] [] h := by
  have j1 := scr_in1 hi hL
  refine qm_wp_ok hA [411] 8 _ _ _ _ _ _ ?_
  refine sp_sld hA rfl rfl rfl hX j1 ?_
  refine qm_wp_ok hA [418] 12 _ _ _ _ _ _ ⟨rfl, 1, 6, _, g_code hG h v (by omega) (xs (nI (6 * i) + 1).toNatClampNeg), ⟨by omega, by omega⟩, ?_⟩
  rintro _ h1 ⟨_, rfl, ⟨y, rfl⟩, k2⟩
  refine sp_sld hA rfl rfl rfl hX j1 ?_
  refine qm_wp_ok hA [1052] 12 _ _ _ _ _ _ ⟨rfl, 0, 0, _, k2, ⟨by omega, by omega⟩, ?_⟩
  rintro _ h2 ⟨rfl, v2, z2⟩
  exact ⟨fun _ => k h2 _ _ v2 z2 (by omega) (by omega), fun q => absurd rfl q⟩
set_option maxRecDepth 100000 in
theorem lc_13 {G : qm_G} (hG : G.2.2.2.2 = true) {nm : String} {z : qm_Z} (hA : qm_At G true (mLw nm) z 21 600000 7302250 (fun _ _ => False)) {L : Nat} {xs : Nat → Int32} (hX : SCR G z L xs) (h : qm_H) (v : INV h) (hz : h.2.2.2.2 + 8 < 1000000) {i : Nat} (hi : 6 * i + 6 ≤ L) (hL : L ≤ 3072) {c s : Nat} (hc : c + 8 ≤ 600000) (hs : s + 700 ≤ 7302250) (k : NXT G nm z i c s h) : qm_PW G (mLw nm) z 423 c s [vr 1000031, vr 0, vr 26, vi (nI (6 * i))] [] h := by
  have j1 := scr_in1 hi hL
  have j2 := scr_in2 hi hL
  have j3 := scr_in3 hi hL
  refine qm_wp_ok hA [428] 8 _ _ _ _ _ _ ?_
  refine sp_sld hA rfl rfl rfl hX j1 ?_
  refine qm_wp_ok hA [433] 8 _ _ _ _ _ _ ?_
  refine sp_sld hA rfl rfl rfl hX j2 ?_
  refine qm_wp_ok hA [438] 8 _ _ _ _ _ _ ?_
  refine sp_sld hA rfl rfl rfl hX j3 ?_
  refine qm_wp_ok hA [445] 12 _ _ _ _ _ _ ⟨rfl, 0, 0, _, g_save hG h v (xs (nI (6 * i) + 1).toNatClampNeg) (xs (nI (6 * i) + 2).toNatClampNeg) (xs (nI (6 * i) + 3).toNatClampNeg), ⟨by omega, by omega⟩, ?_⟩
  rintro _ h1 ⟨_, rfl, ⟨y, rfl⟩, k2⟩
  refine sp_sld hA rfl rfl rfl hX j1 ?_
  refine qm_wp_ok hA [450] 8 _ _ _ _ _ _ ?_
  refine sp_sld hA rfl rfl rfl hX j2 ?_
  refine qm_wp_ok hA [455] 8 _ _ _ _ _ _ ?_
  refine sp_sld hA rfl rfl rfl hX j3 ?_
  refine qm_wp_ok hA [1052] 12 _ _ _ _ _ _ ⟨rfl, 0, 0, _, k2, ⟨by omega, by omega⟩, ?_⟩
  rintro _ h2 ⟨rfl, v2, z2⟩
  exact ⟨fun _ => k h2 _ _ v2 z2 (by omega) (by omega), fun q => absurd (lc_self y) q⟩
set_option maxRecDepth 100000 in
theorem lc_14 {G : qm_G} (hG : G.2.2.2.2 = true) {nm : String} {z : qm_Z} (hA : qm_At G true (mLw nm) z 21 600000 7302250 (fun _ _ => False)) {L : Nat} {xs : Nat → Int32} (hX : SCR G z L xs) (h : qm_H) (v : INV h) (hz : h.2.2.2.2 + 8 < 1000000) {i : Nat} (hi : 6 * i + 6 ≤ L) (hL : L ≤ 3072) {c s : Nat} (hc : c + 8 ≤ 600000) (hs : s + 700 ≤ 7302250) (k : NXT G nm z i c s h) : qm_PW G (mLw nm) z 461 c s [vr 1000031, vr 0, vr 26, vi (nI (6 * i))] [] h := by
  have j1 := scr_in1 hi hL
  have j2 := scr_in2 hi hL
  have j3 := scr_in3 hi hL
  have tl : ∀ u : Bool, (xs (nI (6 * i) + 3).toNatClampNeg = 0 ∧ u = false ∨ ¬ xs (nI (6 * i) + 3).toNatClampNeg = 0 ∧ u = true) → qm_PW G (mLw nm) z 481 c s [vr 1000031, vr 0, vr 26, vi (nI (6 * i))] [.int (b2 u), .int (xs (nI (6 * i) + 2).toNatClampNeg), .int (xs (nI (6 * i) + 1).toNatClampNeg), .ref 0] h := by
    intro u hu
    refine qm_wp_ok hA [487] 12 _ _ _ _ _ _ ⟨rfl, 0, 0, _, g_byTurns hG h v (xs (nI (6 * i) + 1).toNatClampNeg) (xs (nI (6 * i) + 2).toNatClampNeg) u, ⟨by omega, by omega⟩, ?_⟩
    rintro _ h1 ⟨_, rfl, ⟨y, rfl⟩, k2⟩
    have t2 : qm_PW G (mLw nm) z 502 (c + 0) (s + 0) [vr 1000031, vr 0, vr 26, vi (nI (6 * i))] [.int (b2 u), .int (xs (nI (6 * i) + 2).toNatClampNeg), .int (xs (nI (6 * i) + 1).toNatClampNeg), .ref 26, .int y] h1 := by
      refine qm_wp_ok hA [1052] 12 _ _ _ _ _ _ ⟨rfl, 0, 0, _, k2, ⟨by omega, by omega⟩, ?_⟩
      rintro _ h2 ⟨rfl, v2, z2⟩
      exact ⟨fun _ => k h2 _ _ v2 z2 (by omega) (by omega), fun q => absurd rfl q⟩
    refine sp_sld hA rfl rfl rfl hX j1 ?_
    refine qm_wp_ok hA [492] 8 _ _ _ _ _ _ ?_
    refine sp_sld hA rfl rfl rfl hX j2 ?_
    refine qm_wp_ok hA [497] 8 _ _ _ _ _ _ ?_
    refine sp_sld hA rfl rfl rfl hX j3 ?_
    rcases hu with ⟨e, rfl⟩ | ⟨e, rfl⟩
    · exact qm_wp_ok hA [502] 8 _ _ _ _ _ _ ⟨fun _ => t2, fun q => absurd e q⟩
    · exact qm_wp_ok hA [502] 8 _ _ _ _ _ _ ⟨fun q => absurd q e, fun _ => t2⟩
  refine qm_wp_ok hA [466] 8 _ _ _ _ _ _ ?_
  refine sp_sld hA rfl rfl rfl hX j1 ?_
  refine qm_wp_ok hA [471] 8 _ _ _ _ _ _ ?_
  refine sp_sld hA rfl rfl rfl hX j2 ?_
  refine qm_wp_ok hA [476] 8 _ _ _ _ _ _ ?_
  refine sp_sld hA rfl rfl rfl hX j3 ?_
  by_cases e : xs (nI (6 * i) + 3).toNatClampNeg = 0
  · exact qm_wp_ok hA [481] 8 _ _ _ _ _ _ ⟨fun _ => tl false (Or.inl ⟨e, rfl⟩), fun q => absurd e q⟩
  · exact qm_wp_ok hA [481] 8 _ _ _ _ _ _ ⟨fun q => absurd q e, fun _ => tl true (Or.inr ⟨e, rfl⟩)⟩
set_option maxRecDepth 100000 in
theorem lc_15 {G : qm_G} (hG : G.2.2.2.2 = true) {nm : String} {z : qm_Z} (hA : qm_At G true (mLw nm) z 21 600000 7302250 (fun _ _ => False)) {L : Nat} {xs : Nat → Int32} (hX : SCR G z L xs) (h : qm_H) (v : INV h) (hz : h.2.2.2.2 + 8 < 1000000) {i : Nat} (hi : 6 * i + 6 ≤ L) (hL : L ≤ 3072) {c s : Nat} (hc : c + 8 ≤ 600000) (hs : s + 700 ≤ 7302250) (k : NXT G nm z i c s h) : qm_PW G (mLw nm) z 506 c s [vr 1000031, vr 0, vr 26, vi (nI (6 * i))] [] h := by
  have j1 := scr_in1 hi hL
  have j2 := scr_in2 hi hL
  have j3 := scr_in3 hi hL
  refine qm_wp_ok hA [511] 8 _ _ _ _ _ _ ?_
  refine sp_sld hA rfl rfl rfl hX j1 ?_
  refine qm_wp_ok hA [516] 8 _ _ _ _ _ _ ?_
  refine sp_sld hA rfl rfl rfl hX j2 ?_
  refine qm_wp_ok hA [521] 8 _ _ _ _ _ _ ?_
  refine sp_sld hA rfl rfl rfl hX j3 ?_
  refine qm_wp_ok hA [528] 12 _ _ _ _ _ _ ⟨rfl, 0, 0, _, g_fact hG h v (xs (nI (6 * i) + 1).toNatClampNeg) (xs (nI (6 * i) + 2).toNatClampNeg) (xs (nI (6 * i) + 3).toNatClampNeg), ⟨by omega, by omega⟩, ?_⟩
  rintro _ h1 ⟨_, rfl, ⟨y, rfl⟩, k2⟩
  refine sp_sld hA rfl rfl rfl hX j1 ?_
  refine qm_wp_ok hA [533] 8 _ _ _ _ _ _ ?_
  refine sp_sld hA rfl rfl rfl hX j2 ?_
  refine qm_wp_ok hA [538] 8 _ _ _ _ _ _ ?_
  refine sp_sld hA rfl rfl rfl hX j3 ?_
  refine qm_wp_ok hA [1052] 12 _ _ _ _ _ _ ⟨rfl, 0, 0, _, k2, ⟨by omega, by omega⟩, ?_⟩
  rintro _ h2 ⟨rfl, v2, z2⟩
  exact ⟨fun _ => k h2 _ _ v2 z2 (by omega) (by omega), fun q => absurd rfl q⟩
