/-! the class: a town out of a text's lines -/
theorem lat_tk {acc : List (Nat × (Nat → Int32))} {k : Nat} (h : k < acc.length) : acc.take (k + 1) = acc.take k ++ [lat acc k] := by
  rw [List.take_succ, lat, List.getD_eq_getElem?_getD, List.getElem?_eq_getElem h]; rfl
theorem cnt_tk (acc : List (Nat × (Nat → Int32))) (k : Nat) : cnt 0 (acc.take k) ≤ cnt 0 acc := by
  rw [cnt, cnt]
  conv => rhs; rw [← List.take_append_drop k acc, List.filter_append, List.length_append]
  exact Nat.le_add_right _ _
theorem TI.nw (h : qm_H) : TI h (qm_nw h 6 0) h.2.2.2.2 0 := by
  refine ⟨rfl, up_s _ _ _, fun q hq => ⟨up_n _ _ (by omega), up_n _ _ (by omega), up_n _ _ (by omega), up_n _ _ (by omega)⟩, fun j a b => by omega, ?_, fun a => by omega, fun i a b => by omega⟩
  show va_up h.1 h.2.2.2.2 (fun _ => 0) h.2.2.2.2 0 = 0
  rw [up_s]
theorem c_toTown {G : qm_G} (hG : G.2.2.2.2 = true) (d : Nat) (h : qm_H) {B : Nat → Nat} {L : Nat} {acc : List (Nat × (Nat → Int32))} {flt : Nat × Nat} {a : Nat} (hp : prs0 B L 0 = .ok (acc, flt, a)) (h0 : (rdF B L 0).1 = 0) (hS : LNS h acc) (h5 : 51 ≤ h.2.2.2.2) (hz : h.2.2.2.2 + 8 < 1000000) : qm_Ev G (d + 3) 8 109 qyX2_toTown [.ref 8] h (fun r h' => r = some (.ref h.2.2.2.2) ∧ gr [] 8 h h' ∧ TO h' h.2.2.2.2 (rdT B L 0) (nn (rdT B L 0))) := by
  obtain ⟨s1, s2, s3⟩ := hS
  obtain ⟨acc', flt', a', e1, e2, e3, e4, e5⟩ := rd_acc h0
  rw [hp] at e1
  obtain ⟨rfl, rfl, rfl⟩ : acc = acc' ∧ flt = flt' ∧ a = a' := by
    have := Except.ok.inj e1
    exact ⟨(Prod.mk.inj this).1, (Prod.mk.inj (Prod.mk.inj this).2).1, (Prod.mk.inj (Prod.mk.inj this).2).2⟩
  have e4 : cnt 0 acc ≤ 6 := e4
  have e5 := e5 rfl
  have eT : rdT B L 0 = cls (tdf 0 acc (tdI 0)) := by rw [rdT, hp]; rfl
  have lv : ∀ k, ∀ l, l ∈ acc.take k → LV 0 l := fun k l hl => e3 l (List.mem_of_mem_take hl)
  have V := fun k => TVI_all (acc.take k).length (acc.take k) rfl (lv k) (Nat.le_trans (cnt_tk acc k) e4)
  have I := TVI_all acc.length acc rfl e3 e4
  have en : nn (rdT B L 0) = cnt 0 acc := by rw [nn, eT, (cls_at _ I.2.2.2.1).1 0 (by omega), I.1, nI_clamp (by omega)]
  have h9 : ∀ j, cnt 0 acc ≤ j → j < 6 → tdf 0 acc (tdI 0) (19 + j) = 0 := fun j a b => by
    obtain ⟨s, z1, z2, z3⟩ := I.2.2.2.2.2.1 j b
    rw [I.1] at e5
    rcases Nat.eq_zero_or_pos s with q | q
    · rw [z2, q]; rfl
    · exact absurd (Int32.le_trans (nI_le a (by omega)) (z3 (by omega))) e5
  rw [en, eT]
  obtain ⟨P, hP⟩ : ∃ P, P = h.2.2.2.2 := ⟨_, rfl⟩
  obtain ⟨m, hm⟩ : ∃ m, m = acc.length := ⟨_, rfl⟩
  rw [← hm] at s1 s2 s3
  rw [← hP]
  rw [← hP] at h5 hz
  have ti : TI h (qm_nw h 6 0) P 0 := by rw [hP]; exact TI.nw h
  refine qm_Ev.by (M := mX2_toTown) okX2_toTown (Nat.le_of_ble_eq_true rfl) hG fun z hA => ?_
  have g2 : qm_PW G mX2_toTown z 2 1 9 [vr 8, vu, vu] [.ref P, .ref P] (qm_nw h 6 0) := by
    refine qm_wp_ok hA [6] 20 _ _ _ _ _ _ ⟨7, 100, _, c_townInit hG (d + 1) (qm_nw h 6 0) h5 (by omega) ti, ⟨by decide, by decide⟩, ?_⟩
    rintro _ h7 ⟨rfl, t7, c7⟩
    obtain ⟨H7, K7⟩ := t7.th h5
    obtain ⟨u1, u2, u3, u4, u5, u6, u7⟩ := t7
    refine qm_for (P := fun k => ∀ h', sb (TS5 P) h7 h' → TK h' P (tdf 0 (acc.take k) (tdI 0)) → qm_PW G mX2_toTown z 6 8 109 [vr 8, vr P, vi (nI k)] [] h') (N := m) ?_ ?_ h7 sb.rf (by rw [List.take_zero]; exact K7)
    · intro h' a1 a2
      have H1 := H7.sb a1
      rw [hm, List.take_length] at a2
      have e8 : h'.1 8 3 = nI m := by rw [a1.2 8 (fun z => by simp [TS5] at z; omega), (u3 8 (by omega)).1]; exact s1
      have tz : ∀ i, 6 ≤ i → i ≤ 7 → ∀ j, h'.1 (P + i) j = 0 := fun i i1 i2 j => by rw [a1.2 (P + i) (fun z => by simp [TS5] at z; omega)]; exact u7 i (by omega) i2 j
      refine qm_wp_ok hA [] 20 _ _ _ _ _ _ ⟨rfl, fun _ => ⟨H1.2.1, 0, 0, _, c_settle hG d h' (n := cnt 0 acc) H1 a2 e4 I.1 (fun f hf => ?_) I.2.2.2.1 h9 (fun j _ => tz 6 (by decide) (by decide) j) (tz 7 (by decide) (by decide) 0) (by rw [a1.1]; exact c7), ⟨by decide, by decide⟩, ?_⟩, fun (y : ¬ h'.1 8 3 ≤ nI m) => absurd (by rw [e8]; exact Int32.le_refl _) y⟩
      · obtain ⟨v, v1, v2⟩ := I.2.2.1 f hf
        rw [wN, v2, nI_clamp (by omega)]
        exact ⟨v1, rfl⟩
      · rintro _ h8 ⟨rfl, t8, f8⟩
        refine ⟨⟨_, rfl⟩, rfl, ⟨?_, fun q hq => ?_⟩, t8⟩
        · rw [f8.1, a1.1, u1, hP]
        · rw [← hP] at hq
          obtain ⟨x1, x2, x3, x4⟩ := u3 q hq
          have y1 := a1.2 q (fun z => by simp [TS5] at z; omega)
          obtain ⟨z1, z2⟩ := f8.2 q hq
          exact ⟨fun _ => by rw [z1, y1, x1], by rw [z2, a1.1, x2], by rw [f8.1, a1.1, x3], by rw [f8.1, a1.1, x4]⟩
    · intro k hk nx h' a1 a2
      have H1 := H7.sb a1
      obtain ⟨l1, l2, l3⟩ := s3 k hk
      have e8 : h'.1 8 3 = nI m := by rw [a1.2 8 (fun z => by simp [TS5] at z; omega), (u3 8 (by omega)).1]; exact s1
      have e9 : h'.1 9 = h.1 9 := by rw [a1.2 9 (fun z => by simp [TS5] at z; omega), (u3 9 (by omega)).1]
      have ek : (4 : Int32) * nI k = nI (4 * k) := by rw [show (4 : Int32) = nI 4 from rfl, pk_mul]
      have c0 : ((4 : Int32) * nI k).toNatClampNeg = 4 * k := by rw [ek, nI_clamp (by omega)]
      have c1 : ((4 : Int32) * nI k + 1).toNatClampNeg = 4 * k + 1 := by rw [ek, nI_1, nI_clamp (by omega)]
      have c2 : ((4 : Int32) * nI k + 2).toNatClampNeg = 4 * k + 2 := by rw [ek, show (2 : Int32) = nI 2 from rfl, nI_add, nI_clamp (by omega)]
      have i0 : vp_in ((4 : Int32) * nI k) 600 := by rw [ek]; exact vp_in_nI (by omega) (by decide)
      have i1 : vp_in ((4 : Int32) * nI k + 1) 600 := by rw [ek, nI_1]; exact vp_in_nI (by omega) (by decide)
      have i2 : vp_in ((4 : Int32) * nI k + 2) 600 := by rw [ek, show (2 : Int32) = nI 2 from rfl, nI_add]; exact vp_in_nI (by omega) (by decide)
      have hl : LV 0 (lat acc k) := e3 _ (lat_in (by omega))
      have tn := lat_tk (acc := acc) (k := k) (by omega)
      have cn := cnt_a 0 (acc.take k) (lat acc k)
      rw [← tn] at cn
      have t : qm_Ev G (d + 2) 0 0 qyX8_take [.ref P, .int (h'.1 9 ((4 : Int32) * nI k).toNatClampNeg), .int (h'.1 9 ((4 : Int32) * nI k + 1).toNatClampNeg), .int (h'.1 9 ((4 : Int32) * nI k + 2).toNatClampNeg)] h' (fun r h'' => r = none ∧ TK h'' P (td 0 (lat acc k).1 (lat acc k).2 (tdf 0 (acc.take k) (tdI 0))) ∧ sb (TS5 P) h' h'') := by
        rw [c0, c1, c2, e9, l1, l3 1 (by decide) (by decide), l3 2 (by decide) (by decide)]
        exact c_take hG (d + 2) h' H1 a2 (V k).1 hl (fun w0 => by
          have := cnt_tk acc (k + 1)
          rw [cn, w0, if_pos (by decide)] at this
          omega)
      refine qm_wp_ok hA [6] 40 _ _ _ _ _ _ ⟨rfl, fun (y : h'.1 8 3 ≤ nI k) => absurd y (by rw [e8]; exact nI_ge hk (by omega)), fun _ => ⟨fun (y : nI 150 ≤ nI k) => absurd y (nI_ge (by omega) (by decide)), fun _ => ⟨rfl, _, rfl, rfl, i0, rfl, _, rfl, rfl, i1, rfl, _, rfl, rfl, i2, H1.2.1, 0, 0, _, t, ⟨by decide, by decide⟩, ?_⟩⟩⟩
      rintro _ h2 ⟨rfl, k2, b2⟩
      have := nx h2 (a1.tr b2) (by rw [tn, tdf_a]; exact k2)
      rw [← nI_1 k] at this
      exact this
  rw [hP] at g2
  exact qm_wp_ok hA [2] 10 _ _ _ _ _ _ ⟨(by omega : h.2.2.2.2 < 1000000), (by decide : 0 + 1 ≤ 8), (by decide : 0 + 9 ≤ 109), g2⟩
