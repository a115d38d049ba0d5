/-! the law's script and its calls -/
/-- the script -/
def SCR (G : qm_G) (z : qm_Z) (L : Nat) (xs : Nat → Int32) : Prop := va_X (G.2.2.2.1 31) L xs (qm_S z) (qm_S z).heap ∧ G.2.2.2.1 31 < (qm_S z).heap.size ∧ ¬ qm_A G (G.2.2.2.1 31)
theorem sp_sld {G : qm_G} {b : Bool} {M : qm_M} {z : qm_Z} {d C S i c s : Nat} {uQ : Option Value → qm_H → Prop} {Lc : qm_L} {st : List Value} {h : qm_H} (hA : qm_At G b M z d C S uQ) {e : qm_I} (hi : M.2.2[i]? = some e) (he : e.2.1 = .iaload) (hlen : qm_len e = 1) {L : Nat} {xs : Nat → Int32} (hX : SCR G z L xs) {x : Int32} (hin : vp_in x L) (k : qm_PW G M z (i + 1) c s Lc (.int (xs x.toNatClampNeg) :: st) h) : qm_PW G M z i c s Lc (.int x :: .ref 1000031 :: st) h := by
  obtain ⟨hd, hn⟩ := sp_at hA hi he hlen rfl
  obtain ⟨hC, hb, -, hZ, hok⟩ := hA
  intro H locs ls l1 l2 hR hS hl
  have e1 : qm_mv G (.ref (1000000 + 31)) = .ref (G.2.2.2.1 31) := congrArg Value.ref (qm_ad_c 31)
  have em : ((.int x :: .ref 1000031 :: st : List Value).map (qm_mv G)) = .int x :: .ref (G.2.2.2.1 31) :: st.map (qm_mv G) := by
    rw [List.map_cons, List.map_cons, e1]; rfl
  rw [em]
  exact va_sld hC.1 hC.2.1 hX.1 hX.2.1 hX.2.2 hS hin hd (qm_nx hn k l1 l2 hR hS hl)
theorem sp_slen {G : qm_G} {b : Bool} {M : qm_M} {z : qm_Z} {d C S i c s : Nat} {uQ : Option Value → qm_H → Prop} {Lc : qm_L} {st : List Value} {h : qm_H} (hA : qm_At G b M z d C S uQ) {e : qm_I} (hi : M.2.2[i]? = some e) (he : e.2.1 = .arraylength) (hlen : qm_len e = 1) {L : Nat} {xs : Nat → Int32} (hX : SCR G z L xs) (k : qm_PW G M z (i + 1) c s Lc (.int (nI L) :: st) h) : qm_PW G M z i c s Lc (.ref 1000031 :: st) h := by
  obtain ⟨hd, hn⟩ := sp_at hA hi he hlen rfl
  obtain ⟨hC, hb, -, hZ, hok⟩ := hA
  intro H locs ls l1 l2 hR hS hl
  have e1 : qm_mv G (.ref (1000000 + 31)) = .ref (G.2.2.2.1 31) := congrArg Value.ref (qm_ad_c 31)
  have em : ((.ref 1000031 :: st : List Value).map (qm_mv G)) = .ref (G.2.2.2.1 31) :: st.map (qm_mv G) := by
    rw [List.map_cons, e1]
  rw [em]
  exact va_slen hC.1 hC.2.1 hX.1 hX.2.1 hX.2.2 hS hd (qm_nx hn k l1 l2 hR hS hl)
theorem scr_in1 {i L : Nat} (hi : 6 * i + 6 ≤ L) (hL : L ≤ 3072) : vp_in (nI (6 * i) + 1) L := by rw [nI_1]; exact vp_in_nI (by omega) (by omega)
theorem scr_in2 {i L : Nat} (hi : 6 * i + 6 ≤ L) (hL : L ≤ 3072) : vp_in (nI (6 * i) + 2) L := by rw [show (2 : Int32) = nI 2 from rfl, nI_add]; exact vp_in_nI (by omega) (by omega)
theorem scr_in3 {i L : Nat} (hi : 6 * i + 6 ≤ L) (hL : L ≤ 3072) : vp_in (nI (6 * i) + 3) L := by rw [show (3 : Int32) = nI 3 from rfl, nI_add]; exact vp_in_nI (by omega) (by omega)
theorem scr_in4 {i L : Nat} (hi : 6 * i + 6 ≤ L) (hL : L ≤ 3072) : vp_in (nI (6 * i) + 4) L := by rw [show (4 : Int32) = nI 4 from rfl, nI_add]; exact vp_in_nI (by omega) (by omega)
theorem scr_in5 {i L : Nat} (hi : 6 * i + 6 ≤ L) (hL : L ≤ 3072) : vp_in (nI (6 * i) + 5) L := by rw [show (5 : Int32) = nI 5 from rfl, nI_add]; exact vp_in_nI (by omega) (by omega)
theorem lc_self (y : Int64) : lg_cmp y y = 0 := (lg_cmp_eq y y).mpr rfl
def NXT (G : qm_G) (nm : String) (z : qm_Z) (i c s : Nat) (h : qm_H) : Prop := ∀ h2 c' s', INV h2 → h2.2.2.2.2 ≤ h.2.2.2.2 + 8 → c' ≤ c + 8 → s' ≤ s + 617 → qm_PW G (mLw nm) z 1052 c' s' [vr 1000031, vr 0, vr 26, vi (nI (6 * i))] [] h2
theorem lc_0 {G : qm_G} (hG : G.2.2.2.2 = true) {nm : String} {z : qm_Z} (hA : qm_At G true (mLw nm) z 21 600000 7302250 (fun _ _ => False)) {L : Nat} {xs : Nat → Int32} (hX : SCR G z L xs) (h : qm_H) (v : INV h) (hz : h.2.2.2.2 + 8 < 1000000) {i : Nat} (hi : 6 * i + 6 ≤ L) (hL : L ≤ 3072) {c s : Nat} (hc : c + 8 ≤ 600000) (hs : s + 700 ≤ 7302250) (k : NXT G nm z i c s h) : qm_PW G (mLw nm) z 22 c s [vr 1000031, vr 0, vr 26, vi (nI (6 * i))] [] h := by
  have j1 := scr_in1 hi hL
  have j2 := scr_in2 hi hL
  have j3 := scr_in3 hi hL
  have j4 := scr_in4 hi hL
  have j5 := scr_in5 hi hL
  refine qm_wp_ok hA [27] 8 _ _ _ _ _ _ ?_
  refine sp_sld hA rfl rfl rfl hX j1 ?_
  refine qm_wp_ok hA [32] 8 _ _ _ _ _ _ ?_
  refine sp_sld hA rfl rfl rfl hX j2 ?_
  refine qm_wp_ok hA [37] 8 _ _ _ _ _ _ ?_
  refine sp_sld hA rfl rfl rfl hX j3 ?_
  refine qm_wp_ok hA [42] 8 _ _ _ _ _ _ ?_
  refine sp_sld hA rfl rfl rfl hX j4 ?_
  refine qm_wp_ok hA [47] 8 _ _ _ _ _ _ ?_
  refine sp_sld hA rfl rfl rfl hX j5 ?_
  refine qm_wp_ok hA [54] 12 _ _ _ _ _ _ ⟨rfl, 0, 0, _, g_feed hG h v (xs (nI (6 * i) + 1).toNatClampNeg) (xs (nI (6 * i) + 2).toNatClampNeg) (xs (nI (6 * i) + 3).toNatClampNeg) (xs (nI (6 * i) + 4).toNatClampNeg) (xs (nI (6 * i) + 5).toNatClampNeg), ⟨by omega, by omega⟩, ?_⟩
  rintro _ h1 ⟨_, rfl, ⟨y, rfl⟩, k2⟩
  refine sp_sld hA rfl rfl rfl hX j1 ?_
  refine qm_wp_ok hA [59] 8 _ _ _ _ _ _ ?_
  refine sp_sld hA rfl rfl rfl hX j2 ?_
  refine qm_wp_ok hA [64] 8 _ _ _ _ _ _ ?_
  refine sp_sld hA rfl rfl rfl hX j3 ?_
  refine qm_wp_ok hA [69] 8 _ _ _ _ _ _ ?_
  refine sp_sld hA rfl rfl rfl hX j4 ?_
  refine qm_wp_ok hA [74] 8 _ _ _ _ _ _ ?_
  refine sp_sld hA rfl rfl rfl hX j5 ?_
  refine qm_wp_ok hA [1052] 12 _ _ _ _ _ _ ⟨rfl, 0, 0, _, k2, ⟨by omega, by omega⟩, ?_⟩
  rintro _ h2 ⟨rfl, v2, z2⟩
  exact ⟨fun _ => k h2 _ _ v2 z2 (by omega) (by omega), fun q => absurd rfl q⟩
theorem lc_1 {G : qm_G} (hG : G.2.2.2.2 = true) {nm : String} {z : qm_Z} (hA : qm_At G true (mLw nm) z 21 600000 7302250 (fun _ _ => False)) {L : Nat} {xs : Nat → Int32} (hX : SCR G z L xs) (h : qm_H) (v : INV h) (hz : h.2.2.2.2 + 8 < 1000000) {i : Nat} (hi : 6 * i + 6 ≤ L) (hL : L ≤ 3072) {c s : Nat} (hc : c + 8 ≤ 600000) (hs : s + 700 ≤ 7302250) (k : NXT G nm z i c s h) : qm_PW G (mLw nm) z 79 c s [vr 1000031, vr 0, vr 26, vi (nI (6 * i))] [] h := by
  have j1 := scr_in1 hi hL
  refine qm_wp_ok hA [84] 8 _ _ _ _ _ _ ?_
  refine sp_sld hA rfl rfl rfl hX j1 ?_
  refine qm_wp_ok hA [91] 12 _ _ _ _ _ _ ⟨rfl, 0, 0, _, g_end hG h v (xs (nI (6 * i) + 1).toNatClampNeg), ⟨by omega, by omega⟩, ?_⟩
  rintro _ h1 ⟨_, rfl, ⟨y, rfl⟩, k2⟩
  refine sp_sld hA rfl rfl rfl hX j1 ?_
  refine qm_wp_ok hA [1052] 12 _ _ _ _ _ _ ⟨rfl, 0, 0, _, k2, ⟨by omega, by omega⟩, ?_⟩
  rintro _ h2 ⟨rfl, v2, z2⟩
  exact ⟨fun _ => k h2 _ _ v2 z2 (by omega) (by omega), fun q => absurd rfl q⟩
theorem lc_2 {G : qm_G} (hG : G.2.2.2.2 = true) {nm : String} {z : qm_Z} (hA : qm_At G true (mLw nm) z 21 600000 7302250 (fun _ _ => False)) {L : Nat} {xs : Nat → Int32} (hX : SCR G z L xs) (h : qm_H) (v : INV h) (hz : h.2.2.2.2 + 8 < 1000000) {i : Nat} (hi : 6 * i + 6 ≤ L) (hL : L ≤ 3072) {c s : Nat} (hc : c + 8 ≤ 600000) (hs : s + 700 ≤ 7302250) (k : NXT G nm z i c s h) : qm_PW G (mLw nm) z 96 c s [vr 1000031, vr 0, vr 26, vi (nI (6 * i))] [] h := by
  have j1 := scr_in1 hi hL
  have j2 := scr_in2 hi hL
  refine qm_wp_ok hA [101] 8 _ _ _ _ _ _ ?_
  refine sp_sld hA rfl rfl rfl hX j1 ?_
  refine qm_wp_ok hA [106] 8 _ _ _ _ _ _ ?_
  refine sp_sld hA rfl rfl rfl hX j2 ?_
  refine qm_wp_ok hA [113] 12 _ _ _ _ _ _ ⟨rfl, 8, 602, _, g_text hG h v hz (xs (nI (6 * i) + 1).toNatClampNeg) (xs (nI (6 * i) + 2).toNatClampNeg), ⟨by omega, by omega⟩, ?_⟩
  rintro _ h1 ⟨_, rfl, ⟨y, rfl⟩, k2⟩
  refine sp_sld hA rfl rfl rfl hX j1 ?_
  refine qm_wp_ok hA [118] 8 _ _ _ _ _ _ ?_
  refine sp_sld hA rfl rfl rfl hX j2 ?_
  refine qm_wp_ok hA [1052] 12 _ _ _ _ _ _ ⟨rfl, 0, 0, _, k2, ⟨by omega, by omega⟩, ?_⟩
  rintro _ h2 ⟨rfl, v2, z2⟩
  exact ⟨fun _ => k h2 _ _ v2 z2 (by omega) (by omega), fun q => absurd rfl q⟩
theorem lc_3 {G : qm_G} (hG : G.2.2.2.2 = true) {nm : String} {z : qm_Z} (hA : qm_At G true (mLw nm) z 21 600000 7302250 (fun _ _ => False)) {L : Nat} {xs : Nat → Int32} (hX : SCR G z L xs) (h : qm_H) (v : INV h) (hz : h.2.2.2.2 + 8 < 1000000) {i : Nat} (hi : 6 * i + 6 ≤ L) (hL : L ≤ 3072) {c s : Nat} (hc : c + 8 ≤ 600000) (hs : s + 700 ≤ 7302250) (k : NXT G nm z i c s h) : qm_PW G (mLw nm) z 123 c s [vr 1000031, vr 0, vr 26, vi (nI (6 * i))] [] h := by
  have j1 := scr_in1 hi hL
  refine qm_wp_ok hA [128] 8 _ _ _ _ _ _ ?_
  refine sp_sld hA rfl rfl rfl hX j1 ?_
  refine qm_wp_ok hA [135] 12 _ _ _ _ _ _ ⟨rfl, 0, 0, _, g_fault hG h v (xs (nI (6 * i) + 1).toNatClampNeg), ⟨by omega, by omega⟩, ?_⟩
  rintro _ h1 ⟨_, rfl, ⟨y, rfl⟩, k2⟩
  refine sp_sld hA rfl rfl rfl hX j1 ?_
  refine qm_wp_ok hA [1052] 12 _ _ _ _ _ _ ⟨rfl, 0, 0, _, k2, ⟨by omega, by omega⟩, ?_⟩
  rintro _ h2 ⟨rfl, v2, z2⟩
  exact ⟨fun _ => k h2 _ _ v2 z2 (by omega) (by omega), fun q => absurd rfl q⟩
theorem lc_4 {G : qm_G} (hG : G.2.2.2.2 = true) {nm : String} {z : qm_Z} (hA : qm_At G true (mLw nm) z 21 600000 7302250 (fun _ _ => False)) {L : Nat} {xs : Nat → Int32} (hX : SCR G z L xs) (h : qm_H) (v : INV h) (hz : h.2.2.2.2 + 8 < 1000000) {i : Nat} (hi : 6 * i + 6 ≤ L) (hL : L ≤ 3072) {c s : Nat} (hc : c + 8 ≤ 600000) (hs : s + 700 ≤ 7302250) (k : NXT G nm z i c s h) : qm_PW G (mLw nm) z 140 c s [vr 1000031, vr 0, vr 26, vi (nI (6 * i))] [] h := by
  have j1 := scr_in1 hi hL
  have j2 := scr_in2 hi hL
  refine qm_wp_ok hA [145] 8 _ _ _ _ _ _ ?_
  refine sp_sld hA rfl rfl rfl hX j1 ?_
  refine qm_wp_ok hA [150] 8 _ _ _ _ _ _ ?_
  refine sp_sld hA rfl rfl rfl hX j2 ?_
  refine qm_wp_ok hA [157] 12 _ _ _ _ _ _ ⟨rfl, 0, 0, _, g_town hG h v (xs (nI (6 * i) + 1).toNatClampNeg) (xs (nI (6 * i) + 2).toNatClampNeg), ⟨by omega, by omega⟩, ?_⟩
  rintro _ h1 ⟨_, rfl, ⟨y, rfl⟩, k2⟩
  refine sp_sld hA rfl rfl rfl hX j1 ?_
  refine qm_wp_ok hA [162] 8 _ _ _ _ _ _ ?_
  refine sp_sld hA rfl rfl rfl hX j2 ?_
  refine qm_wp_ok hA [1052] 12 _ _ _ _ _ _ ⟨rfl, 0, 0, _, k2, ⟨by omega, by omega⟩, ?_⟩
  rintro _ h2 ⟨rfl, v2, z2⟩
  exact ⟨fun _ => k h2 _ _ v2 z2 (by omega) (by omega), fun q => absurd rfl q⟩
theorem lc_5 {G : qm_G} (hG : G.2.2.2.2 = true) {nm : String} {z : qm_Z} (hA : qm_At G true (mLw nm) z 21 600000 7302250 (fun _ _ => False)) {L : Nat} {xs : Nat → Int32} (hX : SCR G z L xs) (h : qm_H) (v : INV h) (hz : h.2.2.2.2 + 8 < 1000000) {i : Nat} (hi : 6 * i + 6 ≤ L) (hL : L ≤ 3072) {c s : Nat} (hc : c + 8 ≤ 600000) (hs : s + 700 ≤ 7302250) (k : NXT G nm z i c s h) : qm_PW G (mLw nm) z 167 c s [vr 1000031, vr 0, vr 26, vi (nI (6 * i))] [] h := by
  have j1 := scr_in1 hi hL
  have j2 := scr_in2 hi hL
  have j3 := scr_in3 hi hL
  refine qm_wp_ok hA [172] 8 _ _ _ _ _ _ ?_
  refine sp_sld hA rfl rfl rfl hX j1 ?_
  refine qm_wp_ok hA [177] 8 _ _ _ _ _ _ ?_
  refine sp_sld hA rfl rfl rfl hX j2 ?_
  refine qm_wp_ok hA [182] 8 _ _ _ _ _ _ ?_
  refine sp_sld hA rfl rfl rfl hX j3 ?_
  refine qm_wp_ok hA [189] 12 _ _ _ _ _ _ ⟨rfl, 0, 0, _, g_deed hG h v (xs (nI (6 * i) + 1).toNatClampNeg) (xs (nI (6 * i) + 2).toNatClampNeg) (xs (nI (6 * i) + 3).toNatClampNeg), ⟨by omega, by omega⟩, ?_⟩
  rintro _ h1 ⟨_, rfl, ⟨y, rfl⟩, k2⟩
  refine sp_sld hA rfl rfl rfl hX j1 ?_
  refine qm_wp_ok hA [194] 8 _ _ _ _ _ _ ?_
  refine sp_sld hA rfl rfl rfl hX j2 ?_
  refine qm_wp_ok hA [199] 8 _ _ _ _ _ _ ?_
  refine sp_sld hA rfl rfl rfl hX j3 ?_
  refine qm_wp_ok hA [1052] 12 _ _ _ _ _ _ ⟨rfl, 0, 0, _, k2, ⟨by omega, by omega⟩, ?_⟩
  rintro _ h2 ⟨rfl, v2, z2⟩
  exact ⟨fun _ => k h2 _ _ v2 z2 (by omega) (by omega), fun q => absurd rfl q⟩
theorem lc_6 {G : qm_G} (hG : G.2.2.2.2 = true) {nm : String} {z : qm_Z} (hA : qm_At G true (mLw nm) z 21 600000 7302250 (fun _ _ => False)) {L : Nat} {xs : Nat → Int32} (hX : SCR G z L xs) (h : qm_H) (v : INV h) (hz : h.2.2.2.2 + 8 < 1000000) {i : Nat} (hi : 6 * i + 6 ≤ L) (hL : L ≤ 3072) {c s : Nat} (hc : c + 8 ≤ 600000) (hs : s + 700 ≤ 7302250) (k : NXT G nm z i c s h) : qm_PW G (mLw nm) z 204 c s [vr 1000031, vr 0, vr 26, vi (nI (6 * i))] [] h := by
  have j1 := scr_in1 hi hL
  have j2 := scr_in2 hi hL
  refine qm_wp_ok hA [209] 8 _ _ _ _ _ _ ?_
  refine sp_sld hA rfl rfl rfl hX j1 ?_
  refine qm_wp_ok hA [214] 8 _ _ _ _ _ _ ?_
  refine sp_sld hA rfl rfl rfl hX j2 ?_
  refine qm_wp_ok hA [221] 12 _ _ _ _ _ _ ⟨rfl, 0, 0, _, g_till hG h v (xs (nI (6 * i) + 1).toNatClampNeg) (xs (nI (6 * i) + 2).toNatClampNeg), ⟨by omega, by omega⟩, ?_⟩
  rintro _ h1 ⟨_, rfl, ⟨y, rfl⟩, k2⟩
  refine sp_sld hA rfl rfl rfl hX j1 ?_
  refine qm_wp_ok hA [226] 8 _ _ _ _ _ _ ?_
  refine sp_sld hA rfl rfl rfl hX j2 ?_
  refine qm_wp_ok hA [1052] 12 _ _ _ _ _ _ ⟨rfl, 0, 0, _, k2, ⟨by omega, by omega⟩, ?_⟩
  rintro _ h2 ⟨rfl, v2, z2⟩
  exact ⟨fun _ => k h2 _ _ v2 z2 (by omega) (by omega), fun q => absurd rfl q⟩
theorem lc_7 {G : qm_G} (hG : G.2.2.2.2 = true) {nm : String} {z : qm_Z} (hA : qm_At G true (mLw nm) z 21 600000 7302250 (fun _ _ => False)) {L : Nat} {xs : Nat → Int32} (hX : SCR G z L xs) (h : qm_H) (v : INV h) (hz : h.2.2.2.2 + 8 < 1000000) {i : Nat} (hi : 6 * i + 6 ≤ L) (hL : L ≤ 3072) {c s : Nat} (hc : c + 8 ≤ 600000) (hs : s + 700 ≤ 7302250) (k : NXT G nm z i c s h) : qm_PW G (mLw nm) z 231 c s [vr 1000031, vr 0, vr 26, vi (nI (6 * i))] [] h := by
  have j1 := scr_in1 hi hL
  have j2 := scr_in2 hi hL
  have j3 := scr_in3 hi hL
  have j4 := scr_in4 hi hL
  refine qm_wp_ok hA [236] 8 _ _ _ _ _ _ ?_
  refine sp_sld hA rfl rfl rfl hX j1 ?_
  refine qm_wp_ok hA [241] 8 _ _ _ _ _ _ ?_
  refine sp_sld hA rfl rfl rfl hX j2 ?_
  refine qm_wp_ok hA [246] 8 _ _ _ _ _ _ ?_
  refine sp_sld hA rfl rfl rfl hX j3 ?_
  refine qm_wp_ok hA [251] 8 _ _ _ _ _ _ ?_
  refine sp_sld hA rfl rfl rfl hX j4 ?_
  refine qm_wp_ok hA [258] 12 _ _ _ _ _ _ ⟨rfl, 0, 0, _, g_state hG h v (xs (nI (6 * i) + 1).toNatClampNeg) (xs (nI (6 * i) + 2).toNatClampNeg) (xs (nI (6 * i) + 3).toNatClampNeg) (xs (nI (6 * i) + 4).toNatClampNeg), ⟨by omega, by omega⟩, ?_⟩
  rintro _ h1 ⟨_, rfl, ⟨y, rfl⟩, k2⟩
  refine sp_sld hA rfl rfl rfl hX j1 ?_
  refine qm_wp_ok hA [263] 8 _ _ _ _ _ _ ?_
  refine sp_sld hA rfl rfl rfl hX j2 ?_
  refine qm_wp_ok hA [268] 8 _ _ _ _ _ _ ?_
  refine sp_sld hA rfl rfl rfl hX j3 ?_
  refine qm_wp_ok hA [273] 8 _ _ _ _ _ _ ?_
  refine sp_sld hA rfl rfl rfl hX j4 ?_
  refine qm_wp_ok hA [1052] 12 _ _ _ _ _ _ ⟨rfl, 0, 0, _, k2, ⟨by omega, by omega⟩, ?_⟩
  rintro _ h2 ⟨rfl, v2, z2⟩
  exact ⟨fun _ => k h2 _ _ v2 z2 (by omega) (by omega), fun q => absurd rfl q⟩
