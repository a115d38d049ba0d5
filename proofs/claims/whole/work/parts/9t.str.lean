/-! special instructions: the words of the reader, as the JDK keeps them -/
def sR (j : Nat) : Nat := 1000000 + (6 + j)
def sV (j : Nat) : Nat := 1000000 + (18 + j)
section Str
variable {G : qm_G} {b : Bool} {M : qm_M} {z : qm_Z} {d C S i c s : Nat} {uQ : Option Value → qm_H → Prop} {L : qm_L} {st : List Value} {h : qm_H}
theorem mv_sR (j : Nat) : qm_mv G (.ref (sR j)) = .ref (G.2.2.2.1 (6 + j)) := congrArg Value.ref (qm_ad_c (6 + j))
theorem mv_sV (j : Nat) : qm_mv G (.ref (sV j)) = .ref (G.2.2.2.1 (18 + j)) := congrArg Value.ref (qm_ad_c (18 + j))
theorem sp_ldcS (hA : qm_At G b M z d C S uQ) (hM : M.1 = RX2) {e : qm_I} {idx : Nat} (hi : M.2.2[i]? = some e) (he : e.2.1 = .ldc idx) (hlen : qm_len e = 2) {j : Nat} {tx : String} (hq : qm_SW[j]? = some (idx, tx)) (k : qm_PW G M z (i + 1) c s L (.ref (sR j) :: st) h) : qm_PW G M z i c s L st h := by
  obtain ⟨hd, hn⟩ := sp_at hA hi he hlen rfl
  obtain ⟨hC, hb, ⟨hdF, hdL, hCR, hSR⟩, hZ, hok⟩ := hA
  intro H locs ls h1 h2 hR hS hl
  have hz := hC.2.2.2.2.2.2.2.2.2.1.2.2.2.1 j _ hq
  have kk := qm_nx hn k h1 h2 hR hS hl
  rw [List.map_cons, mv_sR] at kk
  exact va_ldcS hC.1 hC.2.1 (by rw [← hM]; exact hC.2.2.2.1) hz hd kk
theorem sp_gcs (hA : qm_At G b M z d C S uQ) {e : qm_I} {idx : Nat} (hi : M.2.2[i]? = some e) (he : e.2.1 = .getstatic idx) (hlen : qm_len e = 3) {k1 : Nat} (g1 : qm_hs (Cond.fieldLink M.1 idx "java/lang/String" "COMPACT_STRINGS" "Z") k1 = true) (k : qm_PW G M z (i + 1) c s L (.int 1 :: st) h) : qm_PW G M z i c s L st h := by
  obtain ⟨hd, hn⟩ := sp_at hA hi he hlen rfl
  obtain ⟨hC, hb, ⟨hdF, hdL, hCR, hSR⟩, hZ, hok⟩ := hA
  intro H locs ls h1 h2 hR hS hl
  have hz := hC.2.2.2.2.2.2.2.2.2.1.2.2.2.2.2.1
  exact va_gets hC.1 hC.2.1 hz hS hC.2.2.2.1 (hC.2.2.2.2.1 _ (qm_hs_in g1)) (fun _ q => q) hd (qm_nx hn k h1 h2 hR hS hl)
theorem sp_gfm (hA : qm_At G b M z d C S uQ) {e : qm_I} {idx : Nat} (hi : M.2.2[i]? = some e) (he : e.2.1 = .getstatic idx) (hlen : qm_len e = 3) {k1 : Nat} (g1 : qm_hs (Cond.fieldLink M.1 idx "jdk/internal/util/Preconditions" "SIOOBE_FORMATTER" "Ljava/util/function/BiFunction;") k1 = true) (kn : qm_PW G M z (i + 1) c s L (.null :: st) h) (k : qm_PW G M z (i + 1) c s L (.ref (1000000 + 30) :: st) h) : qm_PW G M z i c s L st h := by
  obtain ⟨hd, hn⟩ := sp_at hA hi he hlen rfl
  obtain ⟨hC, hb, ⟨hdF, hdL, hCR, hSR⟩, hZ, hok⟩ := hA
  intro H locs ls h1 h2 hR hS hl
  have hz := hC.2.2.2.2.2.2.2.2.2.1.2.2.2.2.2.2.1
  rcases hz with hz | hz
  · exact va_gets hC.1 hC.2.1 hz hS hC.2.2.2.1 (hC.2.2.2.2.1 _ (qm_hs_in g1)) (fun _ q => q) hd (qm_nx hn kn h1 h2 hR hS hl)
  · have kk := qm_nx hn k h1 h2 hR hS hl
    have e1 : qm_mv G (.ref (1000000 + 30)) = .ref (G.2.2.2.1 30) := congrArg Value.ref (qm_ad_c 30)
    rw [List.map_cons, e1] at kk
    exact va_gets hC.1 hC.2.1 hz hS hC.2.2.2.1 (hC.2.2.2.2.1 _ (qm_hs_in g1)) (fun _ q => q) hd kk
theorem sp_gfv (hA : qm_At G b M z d C S uQ) {e : qm_I} {idx : Nat} (hi : M.2.2[i]? = some e) (he : e.2.1 = .getfield idx) (hlen : qm_len e = 3) {k1 : Nat} (g1 : qm_hs (Cond.fieldLink M.1 idx "java/lang/String" "value" "[B") k1 = true) {j : Nat} (hj : j < 12) (k : qm_PW G M z (i + 1) c s L (.ref (sV j) :: st) h) : qm_PW G M z i c s L (.ref (sR j) :: st) h := by
  obtain ⟨hd, hn⟩ := sp_at hA hi he hlen rfl
  obtain ⟨hC, hb, ⟨hdF, hdL, hCR, hSR⟩, hZ, hok⟩ := hA
  intro H locs ls h1 h2 hR hS hl
  have hz := ((hC.2.2.2.2.2.2.2.2.2.1.2.2.2.2.1).1 j hj).2.2.1
  have kk := qm_nx hn k h1 h2 hR hS hl
  rw [List.map_cons, mv_sV] at kk
  rw [List.map_cons, mv_sR]
  exact vk_getf hC.1 hC.2.1 hz hS hC.2.2.2.1 (hC.2.2.2.2.1 _ (qm_hs_in g1)) (fun _ q => q) hd kk
theorem sp_gfc (hA : qm_At G b M z d C S uQ) {e : qm_I} {idx : Nat} (hi : M.2.2[i]? = some e) (he : e.2.1 = .getfield idx) (hlen : qm_len e = 3) {k1 : Nat} (g1 : qm_hs (Cond.fieldLink M.1 idx "java/lang/String" "coder" "B") k1 = true) {j : Nat} (hj : j < 12) (k : qm_PW G M z (i + 1) c s L (.int 0 :: st) h) : qm_PW G M z i c s L (.ref (sR j) :: st) h := by
  obtain ⟨hd, hn⟩ := sp_at hA hi he hlen rfl
  obtain ⟨hC, hb, ⟨hdF, hdL, hCR, hSR⟩, hZ, hok⟩ := hA
  intro H locs ls h1 h2 hR hS hl
  have hz := ((hC.2.2.2.2.2.2.2.2.2.1.2.2.2.2.1).1 j hj).2.1
  have kk := qm_nx hn k h1 h2 hR hS hl
  rw [List.map_cons, mv_sR]
  exact vk_getf hC.1 hC.2.1 hz hS hC.2.2.2.1 (hC.2.2.2.2.1 _ (qm_hs_in g1)) (fun _ q => q) hd kk
theorem sp_vlen (hA : qm_At G b M z d C S uQ) {e : qm_I} (hi : M.2.2[i]? = some e) (he : e.2.1 = .arraylength) (hlen : qm_len e = 1) {j : Nat} (hj : j < 12) (k : qm_PW G M z (i + 1) c s L (.int (nI (qm_SLn.getD j 0)) :: st) h) : qm_PW G M z i c s L (.ref (sV j) :: st) h := by
  obtain ⟨hd, hn⟩ := sp_at hA hi he hlen rfl
  obtain ⟨hC, hb, ⟨hdF, hdL, hCR, hSR⟩, hZ, hok⟩ := hA
  intro H locs ls h1 h2 hR hS hl
  have hz := ((hC.2.2.2.2.2.2.2.2.2.1.2.2.2.2.1).1 j hj).2.2.2
  have kk := qm_nx hn k h1 h2 hR hS hl
  rw [List.map_cons, mv_sV]
  exact va_tlen hC.1 hC.2.1 hz hS rfl hd kk
theorem sp_vb (hA : qm_At G b M z d C S uQ) {e : qm_I} (hi : M.2.2[i]? = some e) (he : e.2.1 = .baload) (hlen : qm_len e = 1) {j : Nat} (hj : j < 12) {x : Int32} (hin : vp_in x (qm_SLn.getD j 0)) (k : qm_PW G M z (i + 1) c s L (.int ((qm_SB.getD j []).getD x.toNatClampNeg 0) :: st) h) : qm_PW G M z i c s L (.int x :: .ref (sV j) :: st) h := by
  obtain ⟨hd, hn⟩ := sp_at hA hi he hlen rfl
  obtain ⟨hC, hb, ⟨hdF, hdL, hCR, hSR⟩, hZ, hok⟩ := hA
  intro H locs ls h1 h2 hR hS hl
  have hz := ((hC.2.2.2.2.2.2.2.2.2.1.2.2.2.2.1).1 j hj).2.2.2
  have kk := qm_nx hn k h1 h2 hR hS hl
  rw [List.map_cons, List.map_cons, mv_sV]
  exact va_tb hC.1 hC.2.1 hz hS hin rfl hd kk
theorem sp_ret (hA : qm_At G b M z d C S uQ) {e : qm_I} (hi : M.2.2[i]? = some e) (he : e.2.1 = .ireturn) (hlen : qm_len e = 1) {ty : FieldType} (hty : M.2.1.2.2.2 = some ty) {x : Int32} (hx : narrow ty (.int x) = .int x) (k : uQ (some (.int x)) h) : qm_PW G M z i c s L [.int x] h := by
  obtain ⟨hC, hb, ⟨hdF, hdL, hCR, hSR⟩, hZ, hok⟩ := hA
  obtain ⟨hd, -, -, -⟩ := qm_okM_at hok hi
  rw [he, hlen] at hd
  intro H locs ls h1 h2 hR hS hl
  exact qm_iretW hC (hZ.resolve_right (fun q => q _ _ k)) hR hS h1 h2 hty hx k hd
theorem sp_vstr (hA : qm_At G b M z (d + 1) C S uQ) {e : qm_I} {idx : Nat} (hi : M.2.2[i]? = some e) (he : e.2.1 = .invokevirtual idx) (hlen : qm_len e = 3) {j n C1 S1 : Nat} (hj : j < 12) {y : qm_CI} (hk : qm_cok M.1 idx n y) (hin : Cond.instanceMethod y.1 ∈ qm_tb) (hse : Cond.selects "java/lang/String" y.1 y.1 ∈ qm_tb) {as rs : List Value} {Q1 : Option Value → qm_H → Prop} (hE : qm_Ev G d C1 S1 y (.ref (sR j) :: as) h Q1) (hn : as.length = n) (hcat : (rs.map fun v => v.category).sum ≤ 8) (hc1 : c + C1 ≤ C) (hs1 : s + S1 ≤ S) (k : ∀ v h', Q1 v h' → qm_PW G M z (i + 1) (c + C1) (s + S1) L (v.toList ++ rs) h') : qm_PW G M z i c s L (as.reverse ++ .ref (sR j) :: rs) h := by
  obtain ⟨hd, hnx⟩ := sp_at hA hi he hlen rfl
  obtain ⟨hC, hb, ⟨hdF, hdL, hCR, hSR⟩, hZ, hok⟩ := hA
  intro H locs ls h1 h2 hR hS hl
  have hts := hC.2.2.2.2.1
  have hS8 := hC.2.2.2.2.2.2.2.2.2.1.2.2.2.2.1
  refine qm_after (rest := rs.map (qm_mv G)) (va_runV (As := as.map (qm_mv G)) (b := qm_ad G (sR j)) (C := "java/lang/String") ⟨hC.1, hC.2.1, hC.2.2.1, hC.2.2.2.1, hts⟩ (hE z.2.1) ⟨qm_callB hC hk hdF hdL, hts _ hin, hts _ hse⟩ ⟨qm_blind _ h, ?_, qm_pre hC hR hS (.ref (sR j) :: as)⟩ rfl (by rw [List.length_map]; exact hn) hl.1 (by rw [List.map_append, List.map_reverse]; rfl) ?_ hd ⟨Nat.le_trans hc1 hCR, Nat.le_trans hs1 hSR⟩) hS (fun v h' H1 locs1 q1 q2 q3 => ?_)
  · rw [show qm_ad G (sR j) = G.2.2.2.1 (6 + j) from qm_ad_c (6 + j)]
    exact vk_recv (adK := fun i => G.2.2.2.1 (6 + i)) (i := j) hS8 hj hS
  · refine lv_room ?_
    rw [List.map_map]
    refine Nat.le_trans (Nat.le_of_eq ?_) hcat
    congr 1
    exact List.map_congr_left fun v _ => qm_mv_cat G v
  · have kk := qm_nx hnx (k v h' q1) (Nat.le_trans hc1 hCR) (Nat.le_trans hs1 hSR) q2 q3 hl
    rw [List.map_append] at kk
    cases v <;> exact kk
end Str
theorem cok_S {own : String} {idx n k1 k2 k3 : Nat} {y : qm_CI} (g1 : qm_hs (Cond.code y.1 y.2.1 y.2.2.1 y.2.2.2) k1 = true) (g2 : qm_hs (Cond.initialized y.1.cls) k2 = true) (g3 : y.1.cls ≠ "java/lang/invoke/MethodHandle" ∧ y.1.cls ≠ "java/lang/invoke/VarHandle") (g4 : (parseMethodDescriptor y.1.desc).map (fun d => d.parameters.length) = some n) (g5 : qm_hs (Cond.methodLink own idx y.1) k3 = true) (g6 : Nat.ble y.2.2.1 22 = true) : qm_cok own idx n y := ⟨qm_hs_in g1, qm_hs_in g2, g3, g4, qm_hs_in g5, Nat.le_of_ble_eq_true g6⟩
theorem j_coder {G : qm_G} (hG : G.2.2.2.2 = true) (d : Nat) (h : qm_H) {j : Nat} (hj : j < 12) : qm_Ev G d 0 0 qyJ0_coder_7d493 [.ref (sR j)] h (fun r h' => r = some (.int 0) ∧ h = h') := by
  refine qm_Ev.by (M := mJ0_coder_7d493) okJ0_coder_7d493 (Nat.le_of_ble_eq_true rfl) hG fun z hA => ?_
  refine sp_gcs hA rfl rfl rfl (k1 := 420) (by decide +kernel) ?_
  refine qm_wp_ok hA [3] 10 _ _ _ _ _ _ ⟨fun q => absurd q (by decide), fun _ => ?_⟩
  refine sp_gfc hA rfl rfl rfl (k1 := 1739) (by decide +kernel) hj ?_
  refine qm_wp_ok hA [6] 10 _ _ _ _ _ _ ?_
  exact sp_ret hA rfl rfl rfl (ty := .byte) rfl rfl ⟨rfl, rfl⟩
theorem j_isLatin1 {G : qm_G} (hG : G.2.2.2.2 = true) (d : Nat) (h : qm_H) {j : Nat} (hj : j < 12) : qm_Ev G d 0 0 qyJ0_isLatin1_aae02 [.ref (sR j)] h (fun r h' => r = some (.int 1) ∧ h = h') := by
  refine qm_Ev.by (M := mJ0_isLatin1_aae02) okJ0_isLatin1_aae02 (Nat.le_of_ble_eq_true rfl) hG fun z hA => ?_
  refine sp_gcs hA rfl rfl rfl (k1 := 420) (by decide +kernel) ?_
  refine qm_wp_ok hA [3] 10 _ _ _ _ _ _ ⟨fun q => absurd q (by decide), fun _ => ?_⟩
  refine sp_gfc hA rfl rfl rfl (k1 := 1739) (by decide +kernel) hj ?_
  exact qm_wp_ok hA [] 10 _ _ _ _ _ _ ⟨fun q => absurd rfl q, fun _ => ⟨rfl, rfl, rfl⟩⟩
theorem j_length {G : qm_G} (hG : G.2.2.2.2 = true) (d : Nat) (h : qm_H) {j : Nat} (hj : j < 12) : qm_Ev G (d + 1) 0 0 qyJ0_length_8abf5 [.ref (sR j)] h (fun r h' => r = some (.int (nI (qm_SLn.getD j 0))) ∧ h = h') := by
  refine qm_Ev.by (M := mJ0_length_8abf5) okJ0_length_8abf5 (Nat.le_of_ble_eq_true rfl) hG fun z hA => ?_
  refine qm_wp_ok hA [1] 10 _ _ _ _ _ _ ?_
  refine sp_gfv hA rfl rfl rfl (k1 := 1738) (by decide +kernel) hj ?_
  refine sp_vlen hA rfl rfl rfl hj ?_
  refine qm_wp_ok hA [4] 10 _ _ _ _ _ _ ?_
  refine sp_vstr (as := []) (n := 0) hA rfl rfl rfl hj (y := qyJ0_coder_7d493) (cok_S (k1 := 419) (k2 := 124) (k3 := 416) (by decide +kernel) (by decide +kernel) (by decide +kernel) (by decide +kernel) (by decide +kernel) rfl) (qm_hs_in (w := 417) (by decide +kernel)) (qm_hs_in (w := 418) (by decide +kernel)) (j_coder hG d h hj) rfl (Nat.le_of_ble_eq_true rfl) (Nat.le_refl _) (Nat.le_refl _) ?_
  rintro _ _ ⟨rfl, rfl⟩
  refine qm_wp_ok hA [] 10 _ _ _ _ _ _ ⟨trivial, congV ?_, rfl⟩
  exact (by decide +kernel : ∀ j, j < 12 → nI (qm_SLn.getD j 0) >>> ((0 : Int32) &&& 31) = nI (qm_SLn.getD j 0)) j hj
