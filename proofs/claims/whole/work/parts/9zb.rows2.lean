/-! the class: new rows -/
theorem sk_hi {p : Nat} (hp : 51 ≤ p) : (bif true then qm_SKK[p]? else none) = none := List.getElem?_eq_none hp
theorem is_hi {h : qm_H} {p kd : Nat} (hp : 51 ≤ p) : qm_is true h p kd ↔ p < h.2.2.2.2 ∧ (h.2.2.2.1 p).1 = kd := by
  unfold qm_is
  rw [sk_hi hp]
theorem kn_hi {h : qm_H} {p : Nat} (hp : 51 ≤ p) : qm_kn true h p = h.2.2.2.1 p := by
  unfold qm_kn
  rw [sk_hi hp]
theorem rd_hi {h : qm_H} {p k : Nat} (hp : 51 ≤ p) : qm_rd true h p k = h.2.2.1 p k := by
  unfold qm_rd
  have e : (bif true then ((qm_SK[p]?).bind (fun r => r[k]?)).join else none) = none := by
    rw [List.getElem?_eq_none (Nat.le_trans qm_SKle hp)]
    rfl
  rw [e]
/-- what a new row's making leaves -/
def NR (h h2 : qm_H) (Q m : Nat) : Prop := gr [] 2 h h2 ∧ qm_is true h2 Q 2 ∧ h2.1 Q 0 = nI m ∧ qm_rd true h2 Q 1 = some (Q + 1) ∧ qm_is true h2 (Q + 1) 10 ∧ qm_kn true h2 (Q + 1) = (10, 4 * m)
theorem c_rowsInit {G : qm_G} (hG : G.2.2.2.2 = true) (d : Nat) (h : qm_H) {Q m : Nat} (hQ : h.2.2.2.2 = Q + 1) (h5 : 51 ≤ Q) (hq : qm_is true h Q 2) (hm : m ≤ 150) (hz : Q + 1 < 1000000) : qm_Ev G (d + 1) 1 (4 * m) qyX3_init [.ref Q, .int (nI m)] h (fun r h' => r = none ∧ h' = qm_sr (qm_nw (qm_si h Q 0 (nI m)) 10 (4 * m)) Q 1 (some (Q + 1))) := by
  have e4 : (4 : Int32) * nI m = nI (4 * m) := by rw [show (4 : Int32) = nI 4 from rfl, pk_mul]
  have ec : ((4 : Int32) * nI m).toNatClampNeg = 4 * m := by rw [e4, nI_clamp (by omega)]
  refine qm_Ev.by (M := mX3_init) okX3_init (Nat.le_of_ble_eq_true rfl) hG fun z hA => ?_
  refine qm_wp_ok hA [10] 30 _ _ _ _ _ _ ⟨hq, trivial, (by rw [e4]; exact nI_pos (by omega) : ¬ (4 : Int32) * nI m < 0), (by rw [ec]; omega : ((4 : Int32) * nI m).toNatClampNeg ≤ 100000), (by show h.2.2.2.2 < _; omega), Nat.le_refl _, (by rw [ec]; omega : 0 + ((4 : Int32) * nI m).toNatClampNeg ≤ 4 * m), ?_⟩
  have g10 : qm_PW G mX3_init z 10 1 (4 * m) [vr Q, vi (nI m)] [.ref (Q + 1), .ref Q] (qm_nw (qm_si h Q 0 (nI m)) 10 (4 * m)) := by
    have i1 : qm_is true (qm_nw (qm_si h Q 0 (nI m)) 10 (4 * m)) Q 2 := by
      rw [is_hi h5] at hq ⊢
      refine ⟨by show Q < h.2.2.2.2 + 1; omega, ?_⟩
      show (va_up h.2.2.2.1 h.2.2.2.2 (10, 4 * m) Q).1 = 2
      rw [up_n _ _ (by omega)]; exact hq.2
    have i2 : qm_wr true Q 1 (some (Q + 1)) := by
      unfold qm_wr
      have e : (bif true then ((qm_SK[Q]?).bind (fun r => r[1]?)).join else none) = none := by
        rw [List.getElem?_eq_none (Nat.le_trans qm_SKle h5)]
        rfl
      rw [e]; trivial
    exact qm_wp_ok hA [] 10 _ _ _ _ _ _ ⟨i1, i2, rfl, rfl, rfl⟩
  have e1 : (qm_si h Q 0 (nI m)).2.2.2.2 = Q + 1 := hQ
  rw [← ec, ← e1] at g10
  have g11 : qm_PW G mX3_init z 10 1 (0 + ((4 : Int32) * nI m).toNatClampNeg) [vr Q, vi (nI m)] [.ref (qm_si h Q 0 (nI m)).2.2.2.2, .ref Q] (qm_nw (qm_si h Q 0 (nI m)) 10 ((4 : Int32) * nI m).toNatClampNeg) := by
    rw [Nat.zero_add]
    exact g10
  exact g11
theorem NR_of {h : qm_H} {m : Nat} (h5 : 51 ≤ h.2.2.2.2) : NR h (qm_sr (qm_nw (qm_si (qm_nw h 2 0) h.2.2.2.2 0 (nI m)) 10 (4 * m)) h.2.2.2.2 1 (some (h.2.2.2.2 + 1))) h.2.2.2.2 m := by
  obtain ⟨Q, hQ⟩ : ∃ Q, Q = h.2.2.2.2 := ⟨_, rfl⟩
  rw [← hQ] at h5 ⊢
  have ne : ∀ q, q < Q → q ≠ Q ∧ q ≠ Q + 1 := fun q hq => ⟨by omega, by omega⟩
  have k1 : (qm_sr (qm_nw (qm_si (qm_nw h 2 0) Q 0 (nI m)) 10 (4 * m)) Q 1 (some (Q + 1))).2.2.2.2 = Q + 2 := by rw [hQ]; rfl
  have k2 : (qm_sr (qm_nw (qm_si (qm_nw h 2 0) Q 0 (nI m)) 10 (4 * m)) Q 1 (some (Q + 1))).2.2.2.1 = va_up (va_up h.2.2.2.1 Q (2, 0)) (Q + 1) (10, 4 * m) := by rw [hQ]; rfl
  have k3 : (qm_sr (qm_nw (qm_si (qm_nw h 2 0) Q 0 (nI m)) 10 (4 * m)) Q 1 (some (Q + 1))).1 = va_up (va_up (va_up h.1 Q (fun _ => 0)) Q (va_up (va_up h.1 Q (fun _ => 0) Q) 0 (nI m))) (Q + 1) (fun _ => 0) := by rw [hQ]; rfl
  have k4 : (qm_sr (qm_nw (qm_si (qm_nw h 2 0) Q 0 (nI m)) 10 (4 * m)) Q 1 (some (Q + 1))).2.1 = va_up (va_up h.2.1 Q (fun _ => 0)) (Q + 1) (fun _ => 0) := by rw [hQ]; rfl
  have k5 : (qm_sr (qm_nw (qm_si (qm_nw h 2 0) Q 0 (nI m)) 10 (4 * m)) Q 1 (some (Q + 1))).2.2.1 = va_up (va_up (va_up h.2.2.1 Q (fun _ => none)) (Q + 1) (fun _ => none)) Q (va_up ((va_up (va_up h.2.2.1 Q (fun _ => none)) (Q + 1) (fun _ => none)) Q) 1 (some (Q + 1))) := by rw [hQ]; rfl
  refine ⟨⟨by rw [k1, ← hQ], fun q hq => ?_⟩, ?_, ?_, ?_, ?_, ?_⟩
  · obtain ⟨n1, n2⟩ := ne q (by omega)
    rw [k2, k3, k4, k5]
    refine ⟨fun _ => ?_, ?_, ?_, ?_⟩
    · rw [up_n _ _ n2, up_n _ _ n1, up_n _ _ n1]
    · rw [up_n _ _ n2, up_n _ _ n1]
    · rw [up_n _ _ n1, up_n _ _ n2, up_n _ _ n1]
    · rw [up_n _ _ n2, up_n _ _ n1]
  · rw [is_hi h5, k1, k2, up_n _ _ (by omega), up_s]; exact ⟨by omega, rfl⟩
  · rw [k3, up_n _ _ (by omega), up_s, up_s]
  · rw [rd_hi h5, k5, up_s, up_s]
  · rw [is_hi (by omega), k1, k2, up_s]; exact ⟨by omega, rfl⟩
  · rw [kn_hi (by omega), k2, up_s]
/-- the rows that a text's lines become -/
def RW4 (h : qm_H) (Q f : Nat) (acc : List (Nat × (Nat → Int32))) (m : Nat) : Prop := ∀ k, k < m → h.1 (Q + 1) (4 * k) = nI (lat acc k).1 - nI f ∧ ∀ i, 1 ≤ i → i ≤ 3 → h.1 (Q + 1) (4 * k + i) = (lat acc k).2 i
theorem NR.sb {h h2 h3 : qm_H} {Q m : Nat} (k : NR h h2 Q m) (hQ : Q = h.2.2.2.2) (a : sb [Q + 1] h2 h3) : NR h h3 Q m := by
  obtain ⟨k1, k2, k3, k4, k5, k6⟩ := k
  exact ⟨k1.new a (by omega), qm_is_sb a k2, by rw [a.2 Q (fun z => by have := List.mem_singleton.mp z; omega)]; exact k3, by rw [qm_rd_sb a]; exact k4, qm_is_sb a k5, by rw [qm_kn_sb a]; exact k6⟩
theorem c_toRows {G : qm_G} (hG : G.2.2.2.2 = true) (d : Nat) (h : qm_H) {acc : List (Nat × (Nat → Int32))} {f : Nat} (hS : LNS h acc) (h5 : 51 ≤ h.2.2.2.2) (hz : h.2.2.2.2 + 2 < 1000000) : qm_Ev G (d + 2) 2 (2 + 4 * acc.length) qyX2_toRows [.ref 8, .int (nI f)] h (fun r h' => r = some (.ref h.2.2.2.2) ∧ NR h h' h.2.2.2.2 acc.length ∧ RW4 h' h.2.2.2.2 f acc acc.length) := by
  obtain ⟨s1, s2, s3⟩ := hS
  obtain ⟨m, hm⟩ : ∃ m, m = acc.length := ⟨_, rfl⟩
  obtain ⟨Q, hQ⟩ : ∃ Q, Q = h.2.2.2.2 := ⟨_, rfl⟩
  rw [← hm] at s1 s2 s3
  rw [← hm, ← hQ]
  rw [← hQ] at h5 hz
  have u8 : (qm_nw h 2 0).1 8 = h.1 8 := up_n _ _ (by omega)
  refine qm_Ev.by (M := mX2_toRows) okX2_toRows (Nat.le_of_ble_eq_true rfl) hG fun z hA => ?_
  refine qm_wp_ok hA [6] 20 _ _ _ _ _ _ ⟨(by omega : h.2.2.2.2 < 1000000), (by omega : 0 + 1 ≤ 2), (by omega : 0 + 2 ≤ 2 + 4 * m), rfl, ?_⟩
  have e1 : (qm_nw h 2 0).1 8 3 = nI m := by rw [u8, s1]
  refine sp_mmin hA rfl rfl rfl (k1 := 366) (by decide +kernel) (Nat.le_of_ble_eq_true rfl) ?_
  refine sp_mmax hA rfl rfl rfl (k1 := 580) (by decide +kernel) (Nat.le_of_ble_eq_true rfl) ?_
  have ev : (if (0 : Int32) < (if nI 150 < (qm_nw h 2 0).1 8 3 then nI 150 else (qm_nw h 2 0).1 8 3) then (if nI 150 < (qm_nw h 2 0).1 8 3 then nI 150 else (qm_nw h 2 0).1 8 3) else 0) = nI m := by
    rw [e1, if_neg (Int32.not_lt.mpr (nI_le s2 (by decide)))]
    by_cases c : m = 0
    · rw [c]; rfl
    · exact if_pos (nI_lt (a := 0) (by omega) (by omega))
  have g8 : qm_PW G mX2_toRows z 8 1 2 [vr 8, vi (nI f), vu, vu] [.int (nI m), .ref Q, .ref Q] (qm_nw h 2 0) := by
    have q1 : (qm_nw h 2 0).2.2.2.2 = Q + 1 := by rw [hQ]; rfl
    have q2 : qm_is true (qm_nw h 2 0) Q 2 := (is_hi h5).mpr ⟨by rw [q1]; omega, by
      show (va_up h.2.2.2.1 h.2.2.2.2 (2, 0) Q).1 = 2
      rw [← hQ, up_s]⟩
    refine qm_wp_ok hA [12] 20 _ _ _ _ _ _ ⟨1, 4 * m, _, c_rowsInit hG d (qm_nw h 2 0) q1 h5 q2 s2 (by omega), ⟨Nat.le_refl _, Nat.le_refl _⟩, ?_⟩
    rintro _ h2 ⟨rfl, eh2⟩
    have N2 : NR h h2 Q m := by
      have := NR_of (h := h) (m := m) (by omega)
      rw [← hQ] at this
      rw [eh2]; exact this
    have l9 : h2.1 9 = h.1 9 := (N2.1.2 9 (by omega)).1 (by simp)
    refine qm_for (P := fun k => ∀ h', sb [Q + 1] h2 h' → RW4 h' Q f acc k → qm_PW G mX2_toRows z 12 2 (2 + 4 * m) [vr 8, vi (nI f), vr Q, vi (nI k)] [] h') (N := m) ?_ ?_ h2 sb.rf (fun k hk => absurd hk (Nat.not_lt_zero _))
    · intro h' a1 a2
      have N3 := N2.sb hQ a1
      exact qm_wp_ok hA [] 20 _ _ _ _ _ _ ⟨N3.2.1, fun _ => ⟨⟨_, rfl⟩, rfl, N3, a2⟩, fun (y : ¬ h'.1 Q 0 ≤ nI m) => absurd (by rw [N3.2.2.1]; exact Int32.le_refl _) y⟩
    · intro k hk nx h' a1 a2
      obtain ⟨N1, N3, N4, N5, N6, N7⟩ := N2.sb hQ a1
      obtain ⟨l1, l2, l3⟩ := s3 k hk
      have r9 : h'.1 9 = h.1 9 := by rw [a1.2 9 (fun z => by have := List.mem_singleton.mp z; omega)]; exact l9
      have ek : (4 : Int32) * nI k = nI (4 * k) := by rw [show (4 : Int32) = nI 4 from rfl, pk_mul]
      refine qm_wp_ok hA [27] 30 _ _ _ _ _ _ ⟨N3, fun (y : h'.1 Q 0 ≤ nI k) => absurd y (by rw [N4]; exact nI_ge hk (by omega)), fun _ => ⟨rfl, _, rfl, N3, _, N5, ?_⟩⟩
      refine sp_cpn hA rfl rfl rfl (k1 := 599) (by decide +kernel) (Nat.le_of_ble_eq_true rfl) (kd := 10) (a := 4 * k) (a' := 4 * k) (m := 4) (p := 9) (q := Q + 1) (Or.inl rfl) (show qm_is true h' 9 10 from rfl) N6 ek ek rfl (by omega) (by omega) (by decide) (show 4 * k + 4 ≤ 600 by omega) (by rw [N7]; show 4 * k + 4 ≤ 4 * m; omega) (fun z => absurd z (by decide)) ?_
      intro h3 b1 b2 b3 b4
      have a3 : sb [Q + 1] h' h3 := ⟨b1, fun q hq => b2 q (fun e => hq (by rw [e]; exact List.mem_singleton.mpr rfl))⟩
      obtain ⟨M1, M3, M4, M5, M6, M7⟩ := N2.sb hQ (a1.tr a3)
      have hin : vp_in ((4 : Int32) * nI k) (qm_kn true h3 (Q + 1)).2 := by rw [ek, M7]; exact vp_in_nI (by show 4 * k < 4 * m; omega) (by show 4 * m < _; omega)
      have ec : ((4 : Int32) * nI k).toNatClampNeg = 4 * k := by rw [ek, nI_clamp (by omega)]
      have v0 : h3.1 (Q + 1) (4 * k) = nI (lat acc k).1 := by
        have t : h3.1 (Q + 1) (4 * k) = h'.1 9 (4 * k) := b3 0 (by decide)
        rw [t, r9, l1]
      have k2 := nx (qm_si h3 (Q + 1) (4 * k) (nI (lat acc k).1 - nI f)) ((a1.tr a3).si (List.mem_singleton.mpr rfl)) (fun j hj => by
        by_cases e : j = k
        · rw [e]
          refine ⟨si_s _ _ _ _, fun i i1 i3 => ?_⟩
          rw [si_o _ _ _ (by omega), b3 i (by omega), r9, l3 i i1 i3]
        · obtain ⟨u1, u2⟩ := a2 j (by omega)
          refine ⟨by rw [si_o _ _ _ (by omega), b4 _ (by omega)]; exact u1, fun i i1 i3 => ?_⟩
          rw [si_o _ _ _ (by omega), b4 _ (by omega)]; exact u2 i i1 i3)
      rw [← nI_1 k, ← v0, ← ec] at k2
      exact qm_wp_ok hA [12] 30 _ _ _ _ _ _ ⟨M3, _, M5, M6, hin, M6, hin, k2⟩
  rw [← ev, hQ] at g8
  exact g8
