/-! the class: a word's letters -/
/-- the letter k of the word j -/
def wl (j k : Nat) : Int32 := (qm_SB.getD j []).getD k 0
def wn (j : Nat) : Nat := qm_SLn.getD j 0
theorem wn_le : ∀ j, j < 12 → wn j ≤ 7 ∧ 1 ≤ wn j := by decide
theorem wl_ok : ∀ j, j < 12 → ∀ k, k < 7 → ((wl j k &&& 255).toUInt32 % 65536).toInt32 = wl j k ∧ narrow .char (.int (wl j k)) = .int (wl j k) := by decide +kernel
theorem sp_i2c {G : qm_G} {b : Bool} {M : qm_M} {z : qm_Z} {d C S i c s : Nat} {uQ : Option Value → qm_H → Prop} {L : qm_L} {st : List Value} {h : qm_H} (hA : qm_At G b M z d C S uQ) {e : qm_I} (hi : M.2.2[i]? = some e) (he : e.2.1 = .i2c) (hlen : qm_len e = 1) {x v : Int32} (hv : (x.toUInt32 % 65536).toInt32 = v) (k : qm_PW G M z (i + 1) c s L (.int v :: st) h) : qm_PW G M z i c s L (.int x :: st) h := by
  obtain ⟨hd, hn⟩ := sp_at hA hi he hlen rfl
  obtain ⟨hC, hb, ⟨hdF, hdL, hCR, hSR⟩, hZ, hok⟩ := hA
  exact fun H locs ls h1 h2 hR hS hl => lv_i2c hC.1 hC.2.1 hd hv (qm_nx hn k h1 h2 hR hS hl)
theorem j_pci {G : qm_G} (hG : G.2.2.2.2 = true) (d : Nat) (h : qm_H) {k n p : Nat} (hk : k < n) (hn : n < 2 ^ 31) : qm_Ev G d 0 0 qyJ3_checkIndex_8e157 [.int (nI k), .int (nI n), .ref p] h (fun r h' => r = some (.int (nI k)) ∧ h = h') := by
  refine qm_Ev.run (M := mJ3_checkIndex_8e157) okJ3_checkIndex_8e157 rfl hG fun z => ?_
  exact ⟨fun q => absurd q (nI_pos (by omega)), fun _ => ⟨fun _ => ⟨trivial, rfl, rfl⟩, fun q => absurd (nI_lt hk hn) q⟩⟩
theorem j_pcn {G : qm_G} (hG : G.2.2.2.2 = true) (d : Nat) (h : qm_H) {k n : Nat} (hk : k < n) (hn : n < 2 ^ 31) : qm_Ev G d 0 0 qyJ3_checkIndex_8e157 [.int (nI k), .int (nI n), .null] h (fun r h' => r = some (.int (nI k)) ∧ h = h') := by
  refine qm_Ev.run (M := mJ3_checkIndex_8e157) okJ3_checkIndex_8e157 rfl hG fun z => ?_
  exact ⟨fun q => absurd q (nI_pos (by omega)), fun _ => ⟨fun _ => ⟨trivial, rfl, rfl⟩, fun q => absurd (nI_lt hk hn) q⟩⟩
theorem j_ci {G : qm_G} (hG : G.2.2.2.2 = true) (d : Nat) (h : qm_H) {k n : Nat} (hk : k < n) (hn : n < 2 ^ 31) : qm_Ev G (d + 1) 0 0 qyJ0_checkIndex_df160 [.int (nI k), .int (nI n)] h (fun r h' => r = none ∧ h = h') := by
  refine qm_Ev.by (M := mJ0_checkIndex_df160) okJ0_checkIndex_df160 (Nat.le_of_ble_eq_true rfl) hG fun z hA => ?_
  refine qm_wp_ok hA [2] 10 _ _ _ _ _ _ ?_
  refine sp_gfm hA rfl rfl rfl (k1 := 436) (by decide +kernel) ?_ ?_
  · refine qm_wp_ok hA [] 10 _ _ _ _ _ _ ⟨0, 0, _, j_pcn hG d h hk hn, ⟨Nat.le_refl _, Nat.le_refl _⟩, ?_⟩
    rintro _ _ ⟨rfl, rfl⟩
    exact ⟨rfl, rfl, rfl⟩
  · refine qm_wp_ok hA [] 10 _ _ _ _ _ _ ⟨0, 0, _, j_pci hG d h hk hn, ⟨Nat.le_refl _, Nat.le_refl _⟩, ?_⟩
    rintro _ _ ⟨rfl, rfl⟩
    exact ⟨rfl, rfl, rfl⟩
theorem j_ch1 {G : qm_G} (hG : G.2.2.2.2 = true) (d : Nat) (h : qm_H) {j k : Nat} (hj : j < 12) (hk : k < wn j) : qm_Ev G (d + 2) 0 0 qyJ1_charAt_3b067 [.ref (sV j), .int (nI k)] h (fun r h' => r = some (.int (wl j k)) ∧ h = h') := by
  have hw := (wn_le j hj).1
  have hw2 : wn j < 2 ^ 31 := by omega
  refine qm_Ev.by (M := mJ1_charAt_3b067) okJ1_charAt_3b067 (Nat.le_of_ble_eq_true rfl) hG fun z hA => ?_
  refine qm_wp_ok hA [2] 10 _ _ _ _ _ _ ?_
  refine sp_vlen hA rfl rfl rfl hj ?_
  refine qm_wp_ok hA [6] 10 _ _ _ _ _ _ ⟨0, 0, _, j_ci hG d h (n := wn j) hk hw2, ⟨Nat.le_refl _, Nat.le_refl _⟩, ?_⟩
  rintro _ _ ⟨rfl, rfl⟩
  refine sp_vb hA rfl rfl rfl hj (vp_in_nI hk hw2 : vp_in (nI k) (wn j)) ?_
  rw [nI_clamp (by omega)]
  refine qm_wp_ok hA [9] 10 _ _ _ _ _ _ ?_
  obtain ⟨o1, o2⟩ := wl_ok j hj k (by omega)
  refine sp_i2c hA rfl rfl rfl o1 ?_
  exact sp_ret hA rfl rfl rfl (ty := .char) rfl o2 ⟨rfl, rfl⟩
theorem j_charAt {G : qm_G} (hG : G.2.2.2.2 = true) (d : Nat) (h : qm_H) {j k : Nat} (hj : j < 12) (hk : k < wn j) : qm_Ev G (d + 3) 0 0 qyJ0_charAt_5068e [.ref (sR j), .int (nI k)] h (fun r h' => r = some (.int (wl j k)) ∧ h = h') := by
  have hw := (wn_le j hj).1
  refine qm_Ev.by (M := mJ0_charAt_5068e) okJ0_charAt_5068e (Nat.le_of_ble_eq_true rfl) hG fun z hA => ?_
  refine qm_wp_ok hA [1] 10 _ _ _ _ _ _ ?_
  refine sp_vstr (as := []) (n := 0) hA rfl rfl rfl hj (y := qyJ0_isLatin1_aae02) (cok_S (k1 := 429) (k2 := 124) (k3 := 426) (by decide +kernel) (by decide +kernel) (by decide +kernel) (by decide +kernel) (by decide +kernel) rfl) (qm_hs_in (w := 427) (by decide +kernel)) (qm_hs_in (w := 428) (by decide +kernel)) (j_isLatin1 hG _ h hj) rfl (Nat.le_of_ble_eq_true rfl) (Nat.le_refl _) (Nat.le_refl _) ?_
  rintro _ _ ⟨rfl, rfl⟩
  refine qm_wp_ok hA [4] 10 _ _ _ _ _ _ ⟨fun q => absurd q (by decide), fun _ => ?_⟩
  refine sp_gfv hA rfl rfl rfl (k1 := 1738) (by decide +kernel) hj ?_
  refine qm_wp_ok hA [7] 10 _ _ _ _ _ _ ⟨0, 0, _, j_ch1 hG d h hj hk, ⟨Nat.le_refl _, Nat.le_refl _⟩, ?_⟩
  rintro _ _ ⟨rfl, rfl⟩
  exact sp_ret hA rfl rfl rfl (ty := .char) rfl (wl_ok j hj k (by omega)).2 ⟨rfl, rfl⟩
theorem c_nameOf {G : qm_G} (hG : G.2.2.2.2 = true) (d : Nat) (h : qm_H) {j : Nat} (hj : j < 12) : qm_Ev G d 0 0 qyX2_nameOf [.int (nI j)] h (fun r h' => r = some (.ref (sR j)) ∧ h = h') := by
  refine qm_Ev.by (M := mX2_nameOf) okX2_nameOf (Nat.le_of_ble_eq_true rfl) hG fun z hA => ?_
  have m : ∀ c, c < 12 → j = c → qm_PW G mX2_nameOf z (2 + 2 * c) 0 0 [vi (nI j)] [] (h) := by
    intro c hc e
    subst e
    rcases (by omega : j = 0 ∨ j = 1 ∨ j = 2 ∨ j = 3 ∨ j = 4 ∨ j = 5 ∨ j = 6 ∨ j = 7 ∨ j = 8 ∨ j = 9 ∨ j = 10 ∨ j = 11) with e | e | e | e | e | e | e | e | e | e | e | e <;> subst e <;> exact sp_ldcS hA rfl rfl rfl rfl rfl (qm_wp_ok hA [] 10 _ _ _ _ _ _ ⟨⟨_, rfl⟩, rfl, rfl⟩)
  have eq : ∀ {c : Nat}, c < 12 → nI j = nI c → j = c := fun hc q => (nI_eq (by omega) (by omega)).mp q
  refine qm_wp_ok hA [2, 4, 6, 8, 10, 12, 14, 16, 18, 20, 22, 24] 10 _ _ _ _ _ _ ⟨⟨fun q => m 0 (by decide) (eq (by decide) q), fun q => m 1 (by decide) (eq (by decide) q), fun q => m 2 (by decide) (eq (by decide) q), fun q => m 3 (by decide) (eq (by decide) q), fun q => m 4 (by decide) (eq (by decide) q), fun q => m 5 (by decide) (eq (by decide) q), fun q => m 6 (by decide) (eq (by decide) q), fun q => m 7 (by decide) (eq (by decide) q), fun q => m 8 (by decide) (eq (by decide) q), fun q => m 9 (by decide) (eq (by decide) q), fun q => m 10 (by decide) (eq (by decide) q), trivial⟩, fun (q : (nI j).toInt < 0 ∨ (11 : Int) ≤ (nI j).toInt) => m 11 (by decide) ?_⟩
  rw [nI_toInt (by omega)] at q
  omega
