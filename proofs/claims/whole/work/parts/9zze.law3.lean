/-! the law's calls, 3 -/
set_option maxRecDepth 100000 in
theorem lc_16 {G : qm_G} (hG : G.2.2.2.2 = true) {nm : String} {z : qm_Z} (hA : qm_At G true (mLw nm) z 21 600000 7302250 (fun _ _ => False)) {L : Nat} {xs : Nat → Int32} (hX : SCR G z L xs) (h : qm_H) (v : INV h) (hz : h.2.2.2.2 + 8 < 1000000) {i : Nat} (hi : 6 * i + 6 ≤ L) (hL : L ≤ 3072) {c s : Nat} (hc : c + 8 ≤ 600000) (hs : s + 700 ≤ 7302250) (k : NXT G nm z i c s h) : qm_PW G (mLw nm) z 543 c s [vr 1000031, vr 0, vr 26, vi (nI (6 * i))] [] h := by
  have j1 := scr_in1 hi hL
  have j2 := scr_in2 hi hL
  have j3 := scr_in3 hi hL
  refine qm_wp_ok hA [548] 8 _ _ _ _ _ _ ?_
  refine sp_sld hA rfl rfl rfl hX j1 ?_
  refine qm_wp_ok hA [553] 8 _ _ _ _ _ _ ?_
  refine sp_sld hA rfl rfl rfl hX j2 ?_
  refine qm_wp_ok hA [558] 8 _ _ _ _ _ _ ?_
  refine sp_sld hA rfl rfl rfl hX j3 ?_
  refine qm_wp_ok hA [565] 12 _ _ _ _ _ _ ⟨rfl, 0, 0, _, g_fits hG h v (xs (nI (6 * i) + 1).toNatClampNeg) (xs (nI (6 * i) + 2).toNatClampNeg) (xs (nI (6 * i) + 3).toNatClampNeg), ⟨by omega, by omega⟩, ?_⟩
  rintro _ h1 ⟨_, rfl, ⟨y, rfl⟩, k2⟩
  refine sp_sld hA rfl rfl rfl hX j1 ?_
  refine qm_wp_ok hA [570] 8 _ _ _ _ _ _ ?_
  refine sp_sld hA rfl rfl rfl hX j2 ?_
  refine qm_wp_ok hA [575] 8 _ _ _ _ _ _ ?_
  refine sp_sld hA rfl rfl rfl hX j3 ?_
  refine qm_wp_ok hA [1052] 12 _ _ _ _ _ _ ⟨rfl, 0, 0, _, k2, ⟨by omega, by omega⟩, ?_⟩
  rintro _ h2 ⟨rfl, v2, z2⟩
  exact ⟨fun _ => k h2 _ _ v2 z2 (by omega) (by omega), fun q => absurd rfl q⟩
set_option maxRecDepth 100000 in
theorem lc_17 {G : qm_G} (hG : G.2.2.2.2 = true) {nm : String} {z : qm_Z} (hA : qm_At G true (mLw nm) z 21 600000 7302250 (fun _ _ => False)) {L : Nat} {xs : Nat → Int32} (hX : SCR G z L xs) (h : qm_H) (v : INV h) (hz : h.2.2.2.2 + 8 < 1000000) {i : Nat} (hi : 6 * i + 6 ≤ L) (hL : L ≤ 3072) {c s : Nat} (hc : c + 8 ≤ 600000) (hs : s + 700 ≤ 7302250) (k : NXT G nm z i c s h) : qm_PW G (mLw nm) z 580 c s [vr 1000031, vr 0, vr 26, vi (nI (6 * i))] [] h := by
  have j1 := scr_in1 hi hL
  have j2 := scr_in2 hi hL
  have j3 := scr_in3 hi hL
  have j4 := scr_in4 hi hL
  refine qm_wp_ok hA [585] 8 _ _ _ _ _ _ ?_
  refine sp_sld hA rfl rfl rfl hX j1 ?_
  refine qm_wp_ok hA [590] 8 _ _ _ _ _ _ ?_
  refine sp_sld hA rfl rfl rfl hX j2 ?_
  refine qm_wp_ok hA [595] 8 _ _ _ _ _ _ ?_
  refine sp_sld hA rfl rfl rfl hX j3 ?_
  refine qm_wp_ok hA [600] 8 _ _ _ _ _ _ ?_
  refine sp_sld hA rfl rfl rfl hX j4 ?_
  refine qm_wp_ok hA [607] 12 _ _ _ _ _ _ ⟨rfl, 0, 0, _, g_drawn hG h v (xs (nI (6 * i) + 1).toNatClampNeg) (xs (nI (6 * i) + 2).toNatClampNeg) (xs (nI (6 * i) + 3).toNatClampNeg) (xs (nI (6 * i) + 4).toNatClampNeg), ⟨by omega, by omega⟩, ?_⟩
  rintro _ h1 ⟨_, rfl, ⟨y, rfl⟩, k2⟩
  refine sp_sld hA rfl rfl rfl hX j1 ?_
  refine qm_wp_ok hA [612] 8 _ _ _ _ _ _ ?_
  refine sp_sld hA rfl rfl rfl hX j2 ?_
  refine qm_wp_ok hA [617] 8 _ _ _ _ _ _ ?_
  refine sp_sld hA rfl rfl rfl hX j3 ?_
  refine qm_wp_ok hA [622] 8 _ _ _ _ _ _ ?_
  refine sp_sld hA rfl rfl rfl hX j4 ?_
  refine qm_wp_ok hA [1052] 12 _ _ _ _ _ _ ⟨rfl, 0, 0, _, k2, ⟨by omega, by omega⟩, ?_⟩
  rintro _ h2 ⟨rfl, v2, z2⟩
  exact ⟨fun _ => k h2 _ _ v2 z2 (by omega) (by omega), fun q => absurd rfl q⟩
set_option maxRecDepth 100000 in
theorem lc_18 {G : qm_G} (hG : G.2.2.2.2 = true) {nm : String} {z : qm_Z} (hA : qm_At G true (mLw nm) z 21 600000 7302250 (fun _ _ => False)) {L : Nat} {xs : Nat → Int32} (hX : SCR G z L xs) (h : qm_H) (v : INV h) (hz : h.2.2.2.2 + 8 < 1000000) {i : Nat} (hi : 6 * i + 6 ≤ L) (hL : L ≤ 3072) {c s : Nat} (hc : c + 8 ≤ 600000) (hs : s + 700 ≤ 7302250) (k : NXT G nm z i c s h) : qm_PW G (mLw nm) z 627 c s [vr 1000031, vr 0, vr 26, vi (nI (6 * i))] [] h := by
  have j1 := scr_in1 hi hL
  have j2 := scr_in2 hi hL
  refine qm_wp_ok hA [632] 8 _ _ _ _ _ _ ?_
  refine sp_sld hA rfl rfl rfl hX j1 ?_
  refine qm_wp_ok hA [637] 8 _ _ _ _ _ _ ?_
  refine sp_sld hA rfl rfl rfl hX j2 ?_
  refine qm_wp_ok hA [644] 12 _ _ _ _ _ _ ⟨rfl, 0, 0, _, g_roots hG h v (xs (nI (6 * i) + 1).toNatClampNeg) (xs (nI (6 * i) + 2).toNatClampNeg), ⟨by omega, by omega⟩, ?_⟩
  rintro _ h1 ⟨_, rfl, ⟨y, rfl⟩, k2⟩
  refine sp_sld hA rfl rfl rfl hX j1 ?_
  refine qm_wp_ok hA [649] 8 _ _ _ _ _ _ ?_
  refine sp_sld hA rfl rfl rfl hX j2 ?_
  refine qm_wp_ok hA [1052] 12 _ _ _ _ _ _ ⟨rfl, 0, 0, _, k2, ⟨by omega, by omega⟩, ?_⟩
  rintro _ h2 ⟨rfl, v2, z2⟩
  exact ⟨fun _ => k h2 _ _ v2 z2 (by omega) (by omega), fun q => absurd rfl q⟩
set_option maxRecDepth 100000 in
theorem lc_19 {G : qm_G} (hG : G.2.2.2.2 = true) {nm : String} {z : qm_Z} (hA : qm_At G true (mLw nm) z 21 600000 7302250 (fun _ _ => False)) {L : Nat} {xs : Nat → Int32} (hX : SCR G z L xs) (h : qm_H) (v : INV h) (hz : h.2.2.2.2 + 8 < 1000000) {i : Nat} (hi : 6 * i + 6 ≤ L) (hL : L ≤ 3072) {c s : Nat} (hc : c + 8 ≤ 600000) (hs : s + 700 ≤ 7302250) (k : NXT G nm z i c s h) : qm_PW G (mLw nm) z 654 c s [vr 1000031, vr 0, vr 26, vi (nI (6 * i))] [] h := by
  have j1 := scr_in1 hi hL
  have j2 := scr_in2 hi hL
  refine qm_wp_ok hA [659] 8 _ _ _ _ _ _ ?_
  refine sp_sld hA rfl rfl rfl hX j1 ?_
  refine qm_wp_ok hA [664] 8 _ _ _ _ _ _ ?_
  refine sp_sld hA rfl rfl rfl hX j2 ?_
  refine qm_wp_ok hA [671] 12 _ _ _ _ _ _ ⟨rfl, 0, 0, _, g_chain hG h v (xs (nI (6 * i) + 1).toNatClampNeg) (xs (nI (6 * i) + 2).toNatClampNeg), ⟨by omega, by omega⟩, ?_⟩
  rintro _ h1 ⟨_, rfl, ⟨y, rfl⟩, k2⟩
  refine sp_sld hA rfl rfl rfl hX j1 ?_
  refine qm_wp_ok hA [676] 8 _ _ _ _ _ _ ?_
  refine sp_sld hA rfl rfl rfl hX j2 ?_
  refine qm_wp_ok hA [1052] 12 _ _ _ _ _ _ ⟨rfl, 0, 0, _, k2, ⟨by omega, by omega⟩, ?_⟩
  rintro _ h2 ⟨rfl, v2, z2⟩
  exact ⟨fun _ => k h2 _ _ v2 z2 (by omega) (by omega), fun q => absurd rfl q⟩
set_option maxRecDepth 100000 in
theorem lc_20 {G : qm_G} (hG : G.2.2.2.2 = true) {nm : String} {z : qm_Z} (hA : qm_At G true (mLw nm) z 21 600000 7302250 (fun _ _ => False)) {L : Nat} {xs : Nat → Int32} (hX : SCR G z L xs) (h : qm_H) (v : INV h) (hz : h.2.2.2.2 + 8 < 1000000) {i : Nat} (hi : 6 * i + 6 ≤ L) (hL : L ≤ 3072) {c s : Nat} (hc : c + 8 ≤ 600000) (hs : s + 700 ≤ 7302250) (k : NXT G nm z i c s h) : qm_PW G (mLw nm) z 681 c s [vr 1000031, vr 0, vr 26, vi (nI (6 * i))] [] h := by
  have j1 := scr_in1 hi hL
  have j2 := scr_in2 hi hL
  refine qm_wp_ok hA [686] 8 _ _ _ _ _ _ ?_
  refine sp_sld hA rfl rfl rfl hX j1 ?_
  refine qm_wp_ok hA [691] 8 _ _ _ _ _ _ ?_
  refine sp_sld hA rfl rfl rfl hX j2 ?_
  refine qm_wp_ok hA [698] 12 _ _ _ _ _ _ ⟨rfl, 0, 0, _, g_reach hG h v (xs (nI (6 * i) + 1).toNatClampNeg) (xs (nI (6 * i) + 2).toNatClampNeg), ⟨by omega, by omega⟩, ?_⟩
  rintro _ h1 ⟨_, rfl, ⟨y, rfl⟩, k2⟩
  refine sp_sld hA rfl rfl rfl hX j1 ?_
  refine qm_wp_ok hA [703] 8 _ _ _ _ _ _ ?_
  refine sp_sld hA rfl rfl rfl hX j2 ?_
  refine qm_wp_ok hA [1052] 12 _ _ _ _ _ _ ⟨rfl, 0, 0, _, k2, ⟨by omega, by omega⟩, ?_⟩
  rintro _ h2 ⟨rfl, v2, z2⟩
  exact ⟨fun _ => k h2 _ _ v2 z2 (by omega) (by omega), fun q => absurd rfl q⟩
set_option maxRecDepth 100000 in
theorem lc_21 {G : qm_G} (hG : G.2.2.2.2 = true) {nm : String} {z : qm_Z} (hA : qm_At G true (mLw nm) z 21 600000 7302250 (fun _ _ => False)) {L : Nat} {xs : Nat → Int32} (hX : SCR G z L xs) (h : qm_H) (v : INV h) (hz : h.2.2.2.2 + 8 < 1000000) {i : Nat} (hi : 6 * i + 6 ≤ L) (hL : L ≤ 3072) {c s : Nat} (hc : c + 8 ≤ 600000) (hs : s + 700 ≤ 7302250) (k : NXT G nm z i c s h) : qm_PW G (mLw nm) z 708 c s [vr 1000031, vr 0, vr 26, vi (nI (6 * i))] [] h := by
  have j1 := scr_in1 hi hL
  have j2 := scr_in2 hi hL
  have j3 := scr_in3 hi hL
  refine qm_wp_ok hA [713] 8 _ _ _ _ _ _ ?_
  refine sp_sld hA rfl rfl rfl hX j1 ?_
  refine qm_wp_ok hA [718] 8 _ _ _ _ _ _ ?_
  refine sp_sld hA rfl rfl rfl hX j2 ?_
  refine qm_wp_ok hA [723] 8 _ _ _ _ _ _ ?_
  refine sp_sld hA rfl rfl rfl hX j3 ?_
  refine qm_wp_ok hA [730] 12 _ _ _ _ _ _ ⟨rfl, 0, 0, _, g_learnt hG h v (xs (nI (6 * i) + 1).toNatClampNeg) (xs (nI (6 * i) + 2).toNatClampNeg) (xs (nI (6 * i) + 3).toNatClampNeg), ⟨by omega, by omega⟩, ?_⟩
  rintro _ h1 ⟨_, rfl, ⟨y, rfl⟩, k2⟩
  refine sp_sld hA rfl rfl rfl hX j1 ?_
  refine qm_wp_ok hA [735] 8 _ _ _ _ _ _ ?_
  refine sp_sld hA rfl rfl rfl hX j2 ?_
  refine qm_wp_ok hA [740] 8 _ _ _ _ _ _ ?_
  refine sp_sld hA rfl rfl rfl hX j3 ?_
  refine qm_wp_ok hA [1052] 12 _ _ _ _ _ _ ⟨rfl, 0, 0, _, k2, ⟨by omega, by omega⟩, ?_⟩
  rintro _ h2 ⟨rfl, v2, z2⟩
  exact ⟨fun _ => k h2 _ _ v2 z2 (by omega) (by omega), fun q => absurd rfl q⟩
set_option maxRecDepth 100000 in
theorem lc_22 {G : qm_G} (hG : G.2.2.2.2 = true) {nm : String} {z : qm_Z} (hA : qm_At G true (mLw nm) z 21 600000 7302250 (fun _ _ => False)) {L : Nat} {xs : Nat → Int32} (hX : SCR G z L xs) (h : qm_H) (v : INV h) (hz : h.2.2.2.2 + 8 < 1000000) {i : Nat} (hi : 6 * i + 6 ≤ L) (hL : L ≤ 3072) {c s : Nat} (hc : c + 8 ≤ 600000) (hs : s + 700 ≤ 7302250) (k : NXT G nm z i c s h) : qm_PW G (mLw nm) z 745 c s [vr 1000031, vr 0, vr 26, vi (nI (6 * i))] [] h := by
  have j1 := scr_in1 hi hL
  have j2 := scr_in2 hi hL
  have j3 := scr_in3 hi hL
  have tl : ∀ u : Bool, (xs (nI (6 * i) + 3).toNatClampNeg = 0 ∧ u = false ∨ ¬ xs (nI (6 * i) + 3).toNatClampNeg = 0 ∧ u = true) → qm_PW G (mLw nm) z 765 c s [vr 1000031, vr 0, vr 26, vi (nI (6 * i))] [.int (b2 u), .int (xs (nI (6 * i) + 2).toNatClampNeg), .int (xs (nI (6 * i) + 1).toNatClampNeg), .ref 0] h := by
    intro u hu
    refine qm_wp_ok hA [771] 12 _ _ _ _ _ _ ⟨rfl, 0, 0, _, g_best hG h v (xs (nI (6 * i) + 1).toNatClampNeg) (xs (nI (6 * i) + 2).toNatClampNeg) u, ⟨by omega, by omega⟩, ?_⟩
    rintro _ h1 ⟨_, rfl, ⟨y, rfl⟩, k2⟩
    have t2 : qm_PW G (mLw nm) z 786 (c + 0) (s + 0) [vr 1000031, vr 0, vr 26, vi (nI (6 * i))] [.int (b2 u), .int (xs (nI (6 * i) + 2).toNatClampNeg), .int (xs (nI (6 * i) + 1).toNatClampNeg), .ref 26, .int y] h1 := by
      refine qm_wp_ok hA [1052] 12 _ _ _ _ _ _ ⟨rfl, 0, 0, _, k2, ⟨by omega, by omega⟩, ?_⟩
      rintro _ h2 ⟨rfl, v2, z2⟩
      exact ⟨fun _ => k h2 _ _ v2 z2 (by omega) (by omega), fun q => absurd rfl q⟩
    refine sp_sld hA rfl rfl rfl hX j1 ?_
    refine qm_wp_ok hA [776] 8 _ _ _ _ _ _ ?_
    refine sp_sld hA rfl rfl rfl hX j2 ?_
    refine qm_wp_ok hA [781] 8 _ _ _ _ _ _ ?_
    refine sp_sld hA rfl rfl rfl hX j3 ?_
    rcases hu with ⟨e, rfl⟩ | ⟨e, rfl⟩
    · exact qm_wp_ok hA [786] 8 _ _ _ _ _ _ ⟨fun _ => t2, fun q => absurd e q⟩
    · exact qm_wp_ok hA [786] 8 _ _ _ _ _ _ ⟨fun q => absurd q e, fun _ => t2⟩
  refine qm_wp_ok hA [750] 8 _ _ _ _ _ _ ?_
  refine sp_sld hA rfl rfl rfl hX j1 ?_
  refine qm_wp_ok hA [755] 8 _ _ _ _ _ _ ?_
  refine sp_sld hA rfl rfl rfl hX j2 ?_
  refine qm_wp_ok hA [760] 8 _ _ _ _ _ _ ?_
  refine sp_sld hA rfl rfl rfl hX j3 ?_
  by_cases e : xs (nI (6 * i) + 3).toNatClampNeg = 0
  · exact qm_wp_ok hA [765] 8 _ _ _ _ _ _ ⟨fun _ => tl false (Or.inl ⟨e, rfl⟩), fun q => absurd e q⟩
  · exact qm_wp_ok hA [765] 8 _ _ _ _ _ _ ⟨fun q => absurd q e, fun _ => tl true (Or.inr ⟨e, rfl⟩)⟩
set_option maxRecDepth 100000 in
theorem lc_23 {G : qm_G} (hG : G.2.2.2.2 = true) {nm : String} {z : qm_Z} (hA : qm_At G true (mLw nm) z 21 600000 7302250 (fun _ _ => False)) {L : Nat} {xs : Nat → Int32} (hX : SCR G z L xs) (h : qm_H) (v : INV h) (hz : h.2.2.2.2 + 8 < 1000000) {i : Nat} (hi : 6 * i + 6 ≤ L) (hL : L ≤ 3072) {c s : Nat} (hc : c + 8 ≤ 600000) (hs : s + 700 ≤ 7302250) (k : NXT G nm z i c s h) : qm_PW G (mLw nm) z 790 c s [vr 1000031, vr 0, vr 26, vi (nI (6 * i))] [] h := by
  have j1 := scr_in1 hi hL
  have j2 := scr_in2 hi hL
  refine qm_wp_ok hA [795] 8 _ _ _ _ _ _ ?_
  refine sp_sld hA rfl rfl rfl hX j1 ?_
  refine qm_wp_ok hA [800] 8 _ _ _ _ _ _ ?_
  refine sp_sld hA rfl rfl rfl hX j2 ?_
  refine qm_wp_ok hA [807] 12 _ _ _ _ _ _ ⟨rfl, 0, 0, _, g_sales hG h v (xs (nI (6 * i) + 1).toNatClampNeg) (xs (nI (6 * i) + 2).toNatClampNeg), ⟨by omega, by omega⟩, ?_⟩
  rintro _ h1 ⟨_, rfl, ⟨y, rfl⟩, k2⟩
  refine sp_sld hA rfl rfl rfl hX j1 ?_
  refine qm_wp_ok hA [812] 8 _ _ _ _ _ _ ?_
  refine sp_sld hA rfl rfl rfl hX j2 ?_
  refine qm_wp_ok hA [1052] 12 _ _ _ _ _ _ ⟨rfl, 0, 0, _, k2, ⟨by omega, by omega⟩, ?_⟩
  rintro _ h2 ⟨rfl, v2, z2⟩
  exact ⟨fun _ => k h2 _ _ v2 z2 (by omega) (by omega), fun q => absurd rfl q⟩
