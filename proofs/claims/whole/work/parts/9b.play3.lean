/-! the class: beginning, playing -/
theorem sp_cpn {G : qm_G} {b : Bool} {M : qm_M} {z : qm_Z} {d C S i c s : Nat} {uQ : Option Value → qm_H → Prop} {L : qm_L} {st : List Value} {h : qm_H} (hA : qm_At G b M z (d + 1) C S uQ) {e : qm_I} {idx : Nat} (hi : M.2.2[i]? = some e) (he : e.2.1 = .invokestatic idx) (hlen : qm_len e = 3) {k1 : Nat} (g1 : qm_hs (Cond.methodLink M.1 idx arraycopyName) k1 = true) (hcat : (st.map fun v => v.category).sum ≤ 8) {p q a a' m kd : Nat} (hkd : kd = 10 ∨ kd = 9) (hp : qm_is b h p kd) (hq : qm_is b h q kd) {x y n : Int32} (hx : x = nI a) (hy : y = nI a') (hn : n = nI m) (h1 : a < 2 ^ 31) (h2 : a' < 2 ^ 31) (h3 : m < 2 ^ 31) (h4 : a + m ≤ (qm_kn b h p).2) (h5 : a' + m ≤ (qm_kn b h q).2) (hfit : kd = 9 → ∀ j, j < m → ∃ u, u < 256 ∧ h.1 p (a + j) = byI u)
    (k : ∀ h2 : qm_H, h2.2 = h.2 → (∀ r, r ≠ q → h2.1 r = h.1 r) → (∀ j, j < m → h2.1 q (a' + j) = h.1 p (a + j)) → (∀ j, j < a' ∨ a' + m ≤ j → h2.1 q j = h.1 q j) → qm_PW G M z (i + 1) c s L st h2) : qm_PW G M z i c s L (.int n :: .int y :: .ref q :: .int x :: .ref p :: st) h := by
  subst hx; subst hy; subst hn
  have e1 : (nI a).toNatClampNeg = a := nI_clamp h1
  have e2 : (nI a').toNatClampNeg = a' := nI_clamp h2
  have e3 : (nI m).toNatClampNeg = m := nI_clamp h3
  have kk := k (qm_cp h p q a a' m) rfl (fun r hr => up_n _ _ hr) (fun j hj => by
    show va_up h.1 q _ q (a' + j) = _
    rw [up_s, pk_cpy_in (Nat.le_add_right _ _) (Nat.add_lt_add_left hj _), Nat.add_sub_cancel_left]) (fun j hj => by
    show va_up h.1 q _ q j = _
    rw [up_s, pk_cpy_out hj])
  have fb : ∀ u, u < 256 → fits .byte (.int (byI u)) = true := fun u _ => pk_fb (nI u)
  rcases hkd with e | e <;> subst e
  · exact sp_copy hA hi he hlen g1 hcat (kd := 10) (Or.inl ⟨rfl, rfl, rfl⟩) hp hq (nI_pos h1) (nI_pos h2) (nI_pos h3) (by rw [e1, e3]; exact h4) (by rw [e2, e3]; exact h5) (fun _ _ => rfl) (by rw [e1, e2, e3]; exact kk)
  · exact sp_copy hA hi he hlen g1 hcat (kd := 9) (Or.inr ⟨rfl, rfl, rfl⟩) hp hq (nI_pos h1) (nI_pos h2) (nI_pos h3) (by rw [e1, e3]; exact h4) (by rw [e2, e3]; exact h5) (fun j hj => by
      rw [e3] at hj
      obtain ⟨u, u1, u2⟩ := hfit rfl j hj
      rw [e1, u2]; exact fb u u1) (by rw [e1, e2, e3]; exact kk)
theorem c_fill {G : qm_G} (hG : G.2.2.2.2 = true) (d : Nat) (h : qm_H) {q : Nat} (hq : qm_is true h q 10) (hl : (qm_kn true h q).2 = 6) (x : Int32) : qm_Ev G d 0 0 qyJ7_fill_53178 [.ref q, .int x] h (fun r h' => r = none ∧ (∀ j, j < 6 → h'.1 q j = x) ∧ sb [q] h h') := by
  refine qm_Ev.by (M := mJ7_fill_53178) okJ7_fill_53178 (Nat.le_of_ble_eq_true rfl) hG fun z hA => ?_
  refine qm_wp_ok hA [5] 20 _ _ _ _ _ _ ?_
  refine ⟨hq, ?_⟩
  have e : nI 6 = Int32.ofNat (qm_kn true h q).2 := by rw [hl]; rfl
  have start := qm_for (P := fun i => ∀ h', sb [q] h h' → (∀ j, j < i → h'.1 q j = x) → qm_PW G mJ7_fill_53178 z 5 0 0 [vr q, vi x, vi (nI i), vi (nI 6)] [] (h')) (N := 6) ?_ ?_
  · have st := start h sb.rf (fun j hj => absurd hj (Nat.not_lt_zero _))
    rw [e] at st
    exact st
  · intro h' a b
    exact qm_wp_ok hA [] 20 _ _ _ _ _ _ ⟨fun _ => ⟨rfl, rfl, b, a⟩, fun z => absurd (by decide) z⟩
  · intro i hi key h' a b
    have hin : vp_in (nI i) (qm_kn true h' q).2 := by rw [qm_kn_sb a, hl]; exact vp_in_nI hi (by decide)
    have k2 := key (qm_si h' q i x) (a.si (List.mem_singleton.mpr rfl)) (fun j hj => by
      rw [si_row]
      by_cases z : j = i
      · rw [z, up_s]
      · rw [up_n _ _ z]; exact b j (by omega))
    have ei : i = (nI i).toNatClampNeg := (nI_clamp (by omega)).symm
    rw [← nI_1] at k2
    refine qm_wp_ok hA [5] 30 _ _ _ _ _ _ ⟨fun z => absurd z (nI_ge hi (by decide)), fun _ => ⟨qm_is_sb a hq, hin, ?_⟩⟩
    rw [← ei]
    exact k2
def PL : List Nat := [10, 11, 12, 13, 14, 15, 16]
theorem PL51 : ∀ q, q ∈ PL → q < 51 := by decide
def bg1 (h : qm_H) (n : Nat) : qm_H := qm_si (qm_si (qm_si (qm_si (qm_si (qm_si (qm_si h 10 0 0) 10 1 (-1)) 10 2 0) 10 6 (nI n)) 10 7 0) 10 8 0) 10 9 0
def bgc (h : qm_H) (w : Nat → Int32) : qm_H := (fun q => if q = 11 then (fun p => w (13 + p)) else if q = 15 then (fun p => w (19 + p)) else if q = 14 then (fun _ => 1) else if q = 12 ∨ q = 13 ∨ q = 16 then (fun _ => 0) else h.1 q, h.2)
theorem c_begin {G : qm_G} (hG : G.2.2.2.2 = true) (d : Nat) (h : qm_H) {P n : Nat} {w : Nat → Int32} (t : TO h P w n) (v : VT w n) : qm_Ev G (d + 1) 0 0 qyX1_begin [.ref 10, .ref P] h (fun r h' => r = none ∧ cps h' = s_init w ∧ h'.1 10 0 = 0 ∧ h'.1 10 1 = -1 ∧ h'.1 10 6 = nI n ∧ sb PL h h') := by
  refine qm_Ev.al hG (uQ := fun r h' => r = none ∧ (∀ j, j < 6 → h'.1 11 j = w (13 + j) ∧ h'.1 15 j = w (19 + j) ∧ h'.1 14 j = 1 ∧ h'.1 12 j = 0 ∧ h'.1 13 j = 0 ∧ h'.1 16 j = 0) ∧ h'.1 10 = (bg1 h n).1 10 ∧ sb PL h h') ?_ ?_
  · have sp : ∀ p k x h1, sb PL h h1 → p ∈ PL → sb PL h (qm_si h1 p k x) := fun p k x h1 a b => a.si b
    have s0 : sb PL h (bg1 h n) := sp _ _ _ _ (sp _ _ _ _ (sp _ _ _ _ (sp _ _ _ _ (sp _ _ _ _ (sp _ _ _ _ (sp _ _ _ _ sb.rf (by decide)) (by decide)) (by decide)) (by decide)) (by decide)) (by decide)) (by decide)
    have epp : h.1 P 0 = nI n := t.pp
    have hP : P ≠ 10 := by have := t.1.1; omega
    have t1 : TO (bg1 h n) P w n := t.sb s0 PL51
    refine qm_Ev.by (M := mX1_begin) okX1_begin (Nat.le_of_ble_eq_true rfl) hG fun z hA => ?_
    refine qm_wp_ok hA [22] 60 _ _ _ _ _ _ ⟨rfl, trivial, rfl, trivial, rfl, trivial, t.is, rfl, trivial, rfl, trivial, rfl, trivial, rfl, trivial, ?_⟩
    have ep2 : (qm_si (qm_si (qm_si h 10 0 0) 10 1 (-1)) 10 2 0).1 P 0 = nI n := by
      rw [si_ne _ _ _ hP, si_ne _ _ _ hP, si_ne _ _ _ hP]; exact epp
    have go : qm_PW G mX1_begin z 22 0 0 [vr 10, vr P] [] (bg1 h n) := by
      refine qm_wp_ok hA [29] 20 _ _ _ _ _ _ ⟨t1.is, _, t1.rd (k := 3) (by decide) (by decide), rfl, _, rfl, ?_⟩
      refine sp_cpn hA rfl rfl rfl (k1 := 647) (by decide +kernel) (Nat.le_of_ble_eq_true rfl) (kd := 10) (a := 0) (a' := 0) (m := 6) (q := 11) (Or.inl rfl) (t1.ar (k := 3) (by decide) (by decide)) rfl rfl rfl rfl (by decide) (by decide) (by decide) (by rw [(t1.2.2.2.1 3 (by decide) (by decide)).2.2]; decide) (Nat.le_refl _) (fun q => absurd q (by decide)) ?_
      intro h2 d2 k2 c2 _
      have s2 : sb PL h h2 := ⟨d2.trans s0.1, fun q hq => (k2 q (fun z => hq (by rw [z]; decide))).trans (s0.2 q hq)⟩
      have t2 : TO h2 P w n := t.sb s2 PL51
      have c11 : ∀ j, j < 6 → h2.1 11 j = w (13 + j) := fun j hj => by
        have := c2 j hj
        rw [Nat.zero_add] at this
        exact this.trans (t1.2.2.2.2.1 j hj).2.2.1
      refine qm_wp_ok hA [37] 20 _ _ _ _ _ _ ⟨t2.is, _, t2.rd (k := 4) (by decide) (by decide), rfl, _, rfl, ?_⟩
      refine sp_cpn hA rfl rfl rfl (k1 := 647) (by decide +kernel) (Nat.le_of_ble_eq_true rfl) (kd := 10) (a := 0) (a' := 0) (m := 6) (q := 15) (Or.inl rfl) (t2.ar (k := 4) (by decide) (by decide)) rfl rfl rfl rfl (by decide) (by decide) (by decide) (by rw [(t2.2.2.2.1 4 (by decide) (by decide)).2.2]; decide) (Nat.le_refl _) (fun q => absurd q (by decide)) ?_
      intro h3 d3 k3 c3 _
      have s3 : sb PL h h3 := ⟨d3.trans s2.1, fun q hq => (k3 q (fun z => hq (by rw [z]; decide))).trans (s2.2 q hq)⟩
      have c15 : ∀ j, j < 6 → h3.1 15 j = w (19 + j) := fun j hj => by
        have := c3 j hj
        rw [Nat.zero_add] at this
        exact this.trans (t2.2.2.2.2.1 j hj).2.2.2.1
      refine qm_wp_ok hA [] 60 _ _ _ _ _ _ ⟨rfl, _, rfl, 0, 0, _, c_fill hG _ h3 (q := 12) rfl rfl 0, ⟨Nat.le_refl _, Nat.le_refl _⟩, ?_⟩
      rintro _ h4 ⟨rfl, f4, s4⟩
      refine ⟨rfl, _, rfl, 0, 0, _, c_fill hG _ h4 (q := 13) rfl rfl 0, ⟨Nat.le_refl _, Nat.le_refl _⟩, ?_⟩
      rintro _ h5 ⟨rfl, f5, s5⟩
      refine ⟨rfl, _, rfl, 0, 0, _, c_fill hG _ h5 (q := 14) rfl rfl 1, ⟨Nat.le_refl _, Nat.le_refl _⟩, ?_⟩
      rintro _ h6 ⟨rfl, f6, s6⟩
      refine ⟨rfl, _, rfl, 0, 0, _, c_fill hG _ h6 (q := 16) rfl rfl 0, ⟨Nat.le_refl _, Nat.le_refl _⟩, ?_⟩
      rintro _ h7 ⟨rfl, f7, s7⟩
      have n4 : ∀ q, q ≠ 12 → h4.1 q = h3.1 q := fun q hq => s4.2 q (by simpa using hq)
      have n5 : ∀ q, q ≠ 13 → h5.1 q = h4.1 q := fun q hq => s5.2 q (by simpa using hq)
      have n6 : ∀ q, q ≠ 14 → h6.1 q = h5.1 q := fun q hq => s6.2 q (by simpa using hq)
      have n7 : ∀ q, q ≠ 16 → h7.1 q = h6.1 q := fun q hq => s7.2 q (by simpa using hq)
      refine ⟨rfl, rfl, fun j hj => ⟨?_, ?_, ?_, ?_, ?_, f7 j hj⟩, ?_, ?_⟩
      · rw [n7 11 (by decide), n6 11 (by decide), n5 11 (by decide), n4 11 (by decide), k3 11 (by decide)]; exact c11 j hj
      · rw [n7 15 (by decide), n6 15 (by decide), n5 15 (by decide), n4 15 (by decide)]; exact c15 j hj
      · rw [n7 14 (by decide)]; exact f6 j hj
      · rw [n7 12 (by decide), n6 12 (by decide), n5 12 (by decide)]; exact f4 j hj
      · rw [n7 13 (by decide), n6 13 (by decide)]; exact f5 j hj
      · rw [n7 10 (by decide), n6 10 (by decide), n5 10 (by decide), n4 10 (by decide), k3 10 (by decide), k2 10 (by decide)]
      · exact (((s3.tr (s4.mono (by decide))).tr (s5.mono (by decide))).tr (s6.mono (by decide))).tr (s7.mono (by decide))
    have go2 : qm_PW G mX1_begin z 22 0 0 [vr 10, vr P] [] (qm_si (qm_si (qm_si (qm_si (qm_si (qm_si (qm_si h 10 0 0) 10 1 (-1)) 10 2 0) 10 6 ((qm_si (qm_si (qm_si h 10 0 0) 10 1 (-1)) 10 2 0).1 P 0)) 10 7 0) 10 8 0) 10 9 0) := by
      rw [ep2]; exact go
    exact go2
  · rintro _ h1 ⟨rfl, f, r10, s⟩
    refine ⟨bgc h1 w, ⟨rfl, fun p => ?_⟩, rfl, ?_, ?_, ?_, ?_, s.1, fun q hq => ?_⟩
    · by_cases e11 : p = 11
      · exact Or.inr ⟨6, by rw [e11]; rfl, fun j hj => by rw [e11]; exact (f j hj).1.symm⟩
      · by_cases e15 : p = 15
        · exact Or.inr ⟨6, by rw [e15]; rfl, fun j hj => by rw [e15]; exact (f j hj).2.1.symm⟩
        · by_cases e14 : p = 14
          · exact Or.inr ⟨6, by rw [e14]; rfl, fun j hj => by rw [e14]; exact (f j hj).2.2.1.symm⟩
          · by_cases e12 : p = 12
            · exact Or.inr ⟨6, by rw [e12]; rfl, fun j hj => by rw [e12]; exact (f j hj).2.2.2.1.symm⟩
            · by_cases e13 : p = 13
              · exact Or.inr ⟨6, by rw [e13]; rfl, fun j hj => by rw [e13]; exact (f j hj).2.2.2.2.1.symm⟩
              · by_cases e16 : p = 16
                · exact Or.inr ⟨6, by rw [e16]; rfl, fun j hj => by rw [e16]; exact (f j hj).2.2.2.2.2.symm⟩
                · left
                  show (if p = 11 then _ else _) = _
                  rw [if_neg e11, if_neg e15, if_neg e14, if_neg (fun z => z.elim e12 (fun z => z.elim e13 e16))]
    · have r : ∀ k, h1.1 10 k = (bg1 h n).1 10 k := fun k => congrFun r10 k
      show (_, _, _, _, _, _, h1.1 10 7, h1.1 10 8, h1.1 10 9, h1.1 10 2) = _
      rw [r 7, r 8, r 9, r 2]
      rfl
    · show h1.1 10 0 = _
      rw [r10]; rfl
    · show h1.1 10 1 = _
      rw [r10]; rfl
    · show h1.1 10 6 = _
      rw [r10]; rfl
    · have h11 : ∀ z, z ∈ PL → q ≠ z := fun z hz e => hq (by rw [e]; exact hz)
      show (if q = 11 then _ else _) = _
      rw [if_neg (h11 11 (by decide)), if_neg (h11 15 (by decide)), if_neg (h11 14 (by decide)), if_neg (fun z => z.elim (h11 12 (by decide)) (fun z => z.elim (h11 13 (by decide)) (h11 16 (by decide))))]
      exact s.2 q hq
