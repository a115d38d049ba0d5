/-! the law's calls, 4 -/
set_option maxRecDepth 100000 in
theorem lc_24 {G : qm_G} (hG : G.2.2.2.2 = true) {nm : String} {z : qm_Z} (hA : qm_At G true (mLw nm) z 21 600000 7302250 (fun _ _ => False)) {L : Nat} {xs : Nat → Int32} (hX : SCR G z L xs) (h : qm_H) (v : INV h) (hz : h.2.2.2.2 + 8 < 1000000) {i : Nat} (hi : 6 * i + 6 ≤ L) (hL : L ≤ 3072) {c s : Nat} (hc : c + 8 ≤ 600000) (hs : s + 700 ≤ 7302250) (k : NXT G nm z i c s h) : qm_PW G (mLw nm) z 817 c s [vr 1000031, vr 0, vr 26, vi (nI (6 * i))] [] h := by
  have j1 := scr_in1 hi hL
  have j2 := scr_in2 hi hL
  have j3 := scr_in3 hi hL
  have tl : ∀ u : Bool, (xs (nI (6 * i) + 3).toNatClampNeg = 0 ∧ u = false ∨ ¬ xs (nI (6 * i) + 3).toNatClampNeg = 0 ∧ u = true) → qm_PW G (mLw nm) z 837 c s [vr 1000031, vr 0, vr 26, vi (nI (6 * i))] [.int (b2 u), .int (xs (nI (6 * i) + 2).toNatClampNeg), .int (xs (nI (6 * i) + 1).toNatClampNeg), .ref 0] h := by
    intro u hu
    refine qm_wp_ok hA [843] 12 _ _ _ _ _ _ ⟨rfl, 0, 0, _, g_luck hG h v (xs (nI (6 * i) + 1).toNatClampNeg) (xs (nI (6 * i) + 2).toNatClampNeg) u, ⟨by omega, by omega⟩, ?_⟩
    rintro _ h1 ⟨_, rfl, ⟨y, rfl⟩, k2⟩
    have t2 : qm_PW G (mLw nm) z 858 (c + 0) (s + 0) [vr 1000031, vr 0, vr 26, vi (nI (6 * i))] [.int (b2 u), .int (xs (nI (6 * i) + 2).toNatClampNeg), .int (xs (nI (6 * i) + 1).toNatClampNeg), .ref 26, .long y] h1 := by
      refine qm_wp_ok hA [1052] 12 _ _ _ _ _ _ ⟨rfl, 0, 0, _, k2, ⟨by omega, by omega⟩, ?_⟩
      rintro _ h2 ⟨rfl, v2, z2⟩
      exact ⟨fun _ => k h2 _ _ v2 z2 (by omega) (by omega), fun q => absurd (lc_self y) q⟩
    refine sp_sld hA rfl rfl rfl hX j1 ?_
    refine qm_wp_ok hA [848] 8 _ _ _ _ _ _ ?_
    refine sp_sld hA rfl rfl rfl hX j2 ?_
    refine qm_wp_ok hA [853] 8 _ _ _ _ _ _ ?_
    refine sp_sld hA rfl rfl rfl hX j3 ?_
    rcases hu with ⟨e, rfl⟩ | ⟨e, rfl⟩
    · exact qm_wp_ok hA [858] 8 _ _ _ _ _ _ ⟨fun _ => t2, fun q => absurd e q⟩
    · exact qm_wp_ok hA [858] 8 _ _ _ _ _ _ ⟨fun q => absurd q e, fun _ => t2⟩
  refine qm_wp_ok hA [822] 8 _ _ _ _ _ _ ?_
  refine sp_sld hA rfl rfl rfl hX j1 ?_
  refine qm_wp_ok hA [827] 8 _ _ _ _ _ _ ?_
  refine sp_sld hA rfl rfl rfl hX j2 ?_
  refine qm_wp_ok hA [832] 8 _ _ _ _ _ _ ?_
  refine sp_sld hA rfl rfl rfl hX j3 ?_
  by_cases e : xs (nI (6 * i) + 3).toNatClampNeg = 0
  · exact qm_wp_ok hA [837] 8 _ _ _ _ _ _ ⟨fun _ => tl false (Or.inl ⟨e, rfl⟩), fun q => absurd e q⟩
  · exact qm_wp_ok hA [837] 8 _ _ _ _ _ _ ⟨fun q => absurd q e, fun _ => tl true (Or.inr ⟨e, rfl⟩)⟩
set_option maxRecDepth 100000 in
theorem lc_25 {G : qm_G} (hG : G.2.2.2.2 = true) {nm : String} {z : qm_Z} (hA : qm_At G true (mLw nm) z 21 600000 7302250 (fun _ _ => False)) {L : Nat} {xs : Nat → Int32} (hX : SCR G z L xs) (h : qm_H) (v : INV h) (hz : h.2.2.2.2 + 8 < 1000000) {i : Nat} (hi : 6 * i + 6 ≤ L) (hL : L ≤ 3072) {c s : Nat} (hc : c + 8 ≤ 600000) (hs : s + 700 ≤ 7302250) (k : NXT G nm z i c s h) : qm_PW G (mLw nm) z 863 c s [vr 1000031, vr 0, vr 26, vi (nI (6 * i))] [] h := by
  have j1 := scr_in1 hi hL
  have j2 := scr_in2 hi hL
  have j3 := scr_in3 hi hL
  refine qm_wp_ok hA [868] 8 _ _ _ _ _ _ ?_
  refine sp_sld hA rfl rfl rfl hX j1 ?_
  refine qm_wp_ok hA [873] 8 _ _ _ _ _ _ ?_
  refine sp_sld hA rfl rfl rfl hX j2 ?_
  refine qm_wp_ok hA [878] 8 _ _ _ _ _ _ ?_
  refine sp_sld hA rfl rfl rfl hX j3 ?_
  refine qm_wp_ok hA [885] 12 _ _ _ _ _ _ ⟨rfl, 0, 0, _, g_after hG h v (xs (nI (6 * i) + 1).toNatClampNeg) (xs (nI (6 * i) + 2).toNatClampNeg) (xs (nI (6 * i) + 3).toNatClampNeg), ⟨by omega, by omega⟩, ?_⟩
  rintro _ h1 ⟨_, rfl, ⟨y, rfl⟩, k2⟩
  refine sp_sld hA rfl rfl rfl hX j1 ?_
  refine qm_wp_ok hA [890] 8 _ _ _ _ _ _ ?_
  refine sp_sld hA rfl rfl rfl hX j2 ?_
  refine qm_wp_ok hA [895] 8 _ _ _ _ _ _ ?_
  refine sp_sld hA rfl rfl rfl hX j3 ?_
  refine qm_wp_ok hA [1052] 12 _ _ _ _ _ _ ⟨rfl, 0, 0, _, k2, ⟨by omega, by omega⟩, ?_⟩
  rintro _ h2 ⟨rfl, v2, z2⟩
  exact ⟨fun _ => k h2 _ _ v2 z2 (by omega) (by omega), fun q => absurd rfl q⟩
set_option maxRecDepth 100000 in
theorem lc_26 {G : qm_G} (hG : G.2.2.2.2 = true) {nm : String} {z : qm_Z} (hA : qm_At G true (mLw nm) z 21 600000 7302250 (fun _ _ => False)) {L : Nat} {xs : Nat → Int32} (hX : SCR G z L xs) (h : qm_H) (v : INV h) (hz : h.2.2.2.2 + 8 < 1000000) {i : Nat} (hi : 6 * i + 6 ≤ L) (hL : L ≤ 3072) {c s : Nat} (hc : c + 8 ≤ 600000) (hs : s + 700 ≤ 7302250) (k : NXT G nm z i c s h) : qm_PW G (mLw nm) z 900 c s [vr 1000031, vr 0, vr 26, vi (nI (6 * i))] [] h := by
  have j1 := scr_in1 hi hL
  have j2 := scr_in2 hi hL
  have j3 := scr_in3 hi hL
  have j4 := scr_in4 hi hL
  have tl : ∀ u : Bool, (xs (nI (6 * i) + 4).toNatClampNeg = 0 ∧ u = false ∨ ¬ xs (nI (6 * i) + 4).toNatClampNeg = 0 ∧ u = true) → qm_PW G (mLw nm) z 925 c s [vr 1000031, vr 0, vr 26, vi (nI (6 * i))] [.int (b2 u), .int (xs (nI (6 * i) + 3).toNatClampNeg), .int (xs (nI (6 * i) + 2).toNatClampNeg), .int (xs (nI (6 * i) + 1).toNatClampNeg), .ref 0] h := by
    intro u hu
    refine qm_wp_ok hA [931] 12 _ _ _ _ _ _ ⟨rfl, 0, 0, _, g_share hG h v (xs (nI (6 * i) + 1).toNatClampNeg) (xs (nI (6 * i) + 2).toNatClampNeg) (xs (nI (6 * i) + 3).toNatClampNeg) u, ⟨by omega, by omega⟩, ?_⟩
    rintro _ h1 ⟨_, rfl, ⟨y, rfl⟩, k2⟩
    have t2 : qm_PW G (mLw nm) z 951 (c + 0) (s + 0) [vr 1000031, vr 0, vr 26, vi (nI (6 * i))] [.int (b2 u), .int (xs (nI (6 * i) + 3).toNatClampNeg), .int (xs (nI (6 * i) + 2).toNatClampNeg), .int (xs (nI (6 * i) + 1).toNatClampNeg), .ref 26, .long y] h1 := by
      refine qm_wp_ok hA [1052] 12 _ _ _ _ _ _ ⟨rfl, 0, 0, _, k2, ⟨by omega, by omega⟩, ?_⟩
      rintro _ h2 ⟨rfl, v2, z2⟩
      exact ⟨fun _ => k h2 _ _ v2 z2 (by omega) (by omega), fun q => absurd (lc_self y) q⟩
    refine sp_sld hA rfl rfl rfl hX j1 ?_
    refine qm_wp_ok hA [936] 8 _ _ _ _ _ _ ?_
    refine sp_sld hA rfl rfl rfl hX j2 ?_
    refine qm_wp_ok hA [941] 8 _ _ _ _ _ _ ?_
    refine sp_sld hA rfl rfl rfl hX j3 ?_
    refine qm_wp_ok hA [946] 8 _ _ _ _ _ _ ?_
    refine sp_sld hA rfl rfl rfl hX j4 ?_
    rcases hu with ⟨e, rfl⟩ | ⟨e, rfl⟩
    · exact qm_wp_ok hA [951] 8 _ _ _ _ _ _ ⟨fun _ => t2, fun q => absurd e q⟩
    · exact qm_wp_ok hA [951] 8 _ _ _ _ _ _ ⟨fun q => absurd q e, fun _ => t2⟩
  refine qm_wp_ok hA [905] 8 _ _ _ _ _ _ ?_
  refine sp_sld hA rfl rfl rfl hX j1 ?_
  refine qm_wp_ok hA [910] 8 _ _ _ _ _ _ ?_
  refine sp_sld hA rfl rfl rfl hX j2 ?_
  refine qm_wp_ok hA [915] 8 _ _ _ _ _ _ ?_
  refine sp_sld hA rfl rfl rfl hX j3 ?_
  refine qm_wp_ok hA [920] 8 _ _ _ _ _ _ ?_
  refine sp_sld hA rfl rfl rfl hX j4 ?_
  by_cases e : xs (nI (6 * i) + 4).toNatClampNeg = 0
  · exact qm_wp_ok hA [925] 8 _ _ _ _ _ _ ⟨fun _ => tl false (Or.inl ⟨e, rfl⟩), fun q => absurd e q⟩
  · exact qm_wp_ok hA [925] 8 _ _ _ _ _ _ ⟨fun q => absurd q e, fun _ => tl true (Or.inr ⟨e, rfl⟩)⟩
set_option maxRecDepth 100000 in
theorem lc_27 {G : qm_G} (hG : G.2.2.2.2 = true) {nm : String} {z : qm_Z} (hA : qm_At G true (mLw nm) z 21 600000 7302250 (fun _ _ => False)) {L : Nat} {xs : Nat → Int32} (hX : SCR G z L xs) (h : qm_H) (v : INV h) (hz : h.2.2.2.2 + 8 < 1000000) {i : Nat} (hi : 6 * i + 6 ≤ L) (hL : L ≤ 3072) {c s : Nat} (hc : c + 8 ≤ 600000) (hs : s + 700 ≤ 7302250) (k : NXT G nm z i c s h) : qm_PW G (mLw nm) z 956 c s [vr 1000031, vr 0, vr 26, vi (nI (6 * i))] [] h := by
  have j1 := scr_in1 hi hL
  have j2 := scr_in2 hi hL
  have j3 := scr_in3 hi hL
  have tl : ∀ u : Bool, (xs (nI (6 * i) + 3).toNatClampNeg = 0 ∧ u = false ∨ ¬ xs (nI (6 * i) + 3).toNatClampNeg = 0 ∧ u = true) → qm_PW G (mLw nm) z 976 c s [vr 1000031, vr 0, vr 26, vi (nI (6 * i))] [.int (b2 u), .int (xs (nI (6 * i) + 2).toNatClampNeg), .int (xs (nI (6 * i) + 1).toNatClampNeg), .ref 0] h := by
    intro u hu
    refine qm_wp_ok hA [982] 12 _ _ _ _ _ _ ⟨rfl, 0, 0, _, g_fewest hG h v (xs (nI (6 * i) + 1).toNatClampNeg) (xs (nI (6 * i) + 2).toNatClampNeg) u, ⟨by omega, by omega⟩, ?_⟩
    rintro _ h1 ⟨_, rfl, ⟨y, rfl⟩, k2⟩
    have t2 : qm_PW G (mLw nm) z 997 (c + 0) (s + 0) [vr 1000031, vr 0, vr 26, vi (nI (6 * i))] [.int (b2 u), .int (xs (nI (6 * i) + 2).toNatClampNeg), .int (xs (nI (6 * i) + 1).toNatClampNeg), .ref 26, .int y] h1 := by
      refine qm_wp_ok hA [1052] 12 _ _ _ _ _ _ ⟨rfl, 0, 0, _, k2, ⟨by omega, by omega⟩, ?_⟩
      rintro _ h2 ⟨rfl, v2, z2⟩
      exact ⟨fun _ => k h2 _ _ v2 z2 (by omega) (by omega), fun q => absurd rfl q⟩
    refine sp_sld hA rfl rfl rfl hX j1 ?_
    refine qm_wp_ok hA [987] 8 _ _ _ _ _ _ ?_
    refine sp_sld hA rfl rfl rfl hX j2 ?_
    refine qm_wp_ok hA [992] 8 _ _ _ _ _ _ ?_
    refine sp_sld hA rfl rfl rfl hX j3 ?_
    rcases hu with ⟨e, rfl⟩ | ⟨e, rfl⟩
    · exact qm_wp_ok hA [997] 8 _ _ _ _ _ _ ⟨fun _ => t2, fun q => absurd e q⟩
    · exact qm_wp_ok hA [997] 8 _ _ _ _ _ _ ⟨fun q => absurd q e, fun _ => t2⟩
  refine qm_wp_ok hA [961] 8 _ _ _ _ _ _ ?_
  refine sp_sld hA rfl rfl rfl hX j1 ?_
  refine qm_wp_ok hA [966] 8 _ _ _ _ _ _ ?_
  refine sp_sld hA rfl rfl rfl hX j2 ?_
  refine qm_wp_ok hA [971] 8 _ _ _ _ _ _ ?_
  refine sp_sld hA rfl rfl rfl hX j3 ?_
  by_cases e : xs (nI (6 * i) + 3).toNatClampNeg = 0
  · exact qm_wp_ok hA [976] 8 _ _ _ _ _ _ ⟨fun _ => tl false (Or.inl ⟨e, rfl⟩), fun q => absurd e q⟩
  · exact qm_wp_ok hA [976] 8 _ _ _ _ _ _ ⟨fun q => absurd q e, fun _ => tl true (Or.inr ⟨e, rfl⟩)⟩
set_option maxRecDepth 100000 in
theorem lc_28 {G : qm_G} (hG : G.2.2.2.2 = true) {nm : String} {z : qm_Z} (hA : qm_At G true (mLw nm) z 21 600000 7302250 (fun _ _ => False)) {L : Nat} {xs : Nat → Int32} (hX : SCR G z L xs) (h : qm_H) (v : INV h) (hz : h.2.2.2.2 + 8 < 1000000) {i : Nat} (hi : 6 * i + 6 ≤ L) (hL : L ≤ 3072) {c s : Nat} (hc : c + 8 ≤ 600000) (hs : s + 700 ≤ 7302250) (k : NXT G nm z i c s h) : qm_PW G (mLw nm) z 1001 c s [vr 1000031, vr 0, vr 26, vi (nI (6 * i))] [] h := by
  have j1 := scr_in1 hi hL
  refine qm_wp_ok hA [1006] 8 _ _ _ _ _ _ ?_
  refine sp_sld hA rfl rfl rfl hX j1 ?_
  refine qm_wp_ok hA [1013] 12 _ _ _ _ _ _ ⟨rfl, 0, 0, _, g_count hG h v (xs (nI (6 * i) + 1).toNatClampNeg), ⟨by omega, by omega⟩, ?_⟩
  rintro _ h1 ⟨_, rfl, ⟨y, rfl⟩, k2⟩
  refine sp_sld hA rfl rfl rfl hX j1 ?_
  refine qm_wp_ok hA [1052] 12 _ _ _ _ _ _ ⟨rfl, 0, 0, _, k2, ⟨by omega, by omega⟩, ?_⟩
  rintro _ h2 ⟨rfl, v2, z2⟩
  exact ⟨fun _ => k h2 _ _ v2 z2 (by omega) (by omega), fun q => absurd rfl q⟩
set_option maxRecDepth 100000 in
theorem lc_29 {G : qm_G} (hG : G.2.2.2.2 = true) {nm : String} {z : qm_Z} (hA : qm_At G true (mLw nm) z 21 600000 7302250 (fun _ _ => False)) {L : Nat} {xs : Nat → Int32} (hX : SCR G z L xs) (h : qm_H) (v : INV h) (hz : h.2.2.2.2 + 8 < 1000000) {i : Nat} (hi : 6 * i + 6 ≤ L) (hL : L ≤ 3072) {c s : Nat} (hc : c + 8 ≤ 600000) (hs : s + 700 ≤ 7302250) (k : NXT G nm z i c s h) : qm_PW G (mLw nm) z 1018 c s [vr 1000031, vr 0, vr 26, vi (nI (6 * i))] [] h := by
  have j1 := scr_in1 hi hL
  refine qm_wp_ok hA [1023] 8 _ _ _ _ _ _ ?_
  refine sp_sld hA rfl rfl rfl hX j1 ?_
  refine qm_wp_ok hA [1030] 12 _ _ _ _ _ _ ⟨rfl, 6, 617, _, g_image hG h v hz (xs (nI (6 * i) + 1).toNatClampNeg), ⟨by omega, by omega⟩, ?_⟩
  rintro _ h1 ⟨_, rfl, ⟨y, rfl⟩, k2⟩
  refine sp_sld hA rfl rfl rfl hX j1 ?_
  refine qm_wp_ok hA [1052] 12 _ _ _ _ _ _ ⟨rfl, 0, 0, _, k2, ⟨by omega, by omega⟩, ?_⟩
  rintro _ h2 ⟨rfl, v2, z2⟩
  exact ⟨fun _ => k h2 _ _ v2 z2 (by omega) (by omega), fun q => absurd rfl q⟩
set_option maxRecDepth 100000 in
theorem lc_30 {G : qm_G} (hG : G.2.2.2.2 = true) {nm : String} {z : qm_Z} (hA : qm_At G true (mLw nm) z 21 600000 7302250 (fun _ _ => False)) {L : Nat} {xs : Nat → Int32} (hX : SCR G z L xs) (h : qm_H) (v : INV h) (hz : h.2.2.2.2 + 8 < 1000000) {i : Nat} (hi : 6 * i + 6 ≤ L) (hL : L ≤ 3072) {c s : Nat} (hc : c + 8 ≤ 600000) (hs : s + 700 ≤ 7302250) (k : NXT G nm z i c s h) : qm_PW G (mLw nm) z 1035 c s [vr 1000031, vr 0, vr 26, vi (nI (6 * i))] [] h := by
  have j1 := scr_in1 hi hL
  refine qm_wp_ok hA [1040] 8 _ _ _ _ _ _ ?_
  refine sp_sld hA rfl rfl rfl hX j1 ?_
  refine qm_wp_ok hA [1047] 12 _ _ _ _ _ _ ⟨rfl, 0, 0, _, g_again hG h v (xs (nI (6 * i) + 1).toNatClampNeg), ⟨by omega, by omega⟩, ?_⟩
  rintro _ h1 ⟨_, rfl, ⟨y, rfl⟩, k2⟩
  refine sp_sld hA rfl rfl rfl hX j1 ?_
  refine qm_wp_ok hA [1052] 12 _ _ _ _ _ _ ⟨rfl, 0, 0, _, k2, ⟨by omega, by omega⟩, ?_⟩
  rintro _ h2 ⟨rfl, v2, z2⟩
  exact ⟨fun _ => k h2 _ _ v2 z2 (by omega) (by omega), fun q => absurd rfl q⟩
