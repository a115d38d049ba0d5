/-! the class: null into an array; one Told becomes another -/
theorem sp_aasn {G : qm_G} {b : Bool} {M : qm_M} {z : qm_Z} {d C S i c s : Nat} {uQ : Option Value → qm_H → Prop} {L : qm_L} {st : List Value} {h : qm_H} (hA : qm_At G b M z d C S uQ) {e : qm_I} (hi : M.2.2[i]? = some e) (he : e.2.1 = .aastore) (hlen : qm_len e = 1) {p kd : Nat} {j : Int32} (hkd : kd = 12 ∨ kd = 13 ∨ kd = 14) (hp : qm_is b h p kd) (hin : vp_in j (qm_kn b h p).2) (hw : qm_wr b p j.toNatClampNeg none) (k : qm_PW G M z (i + 1) c s L st (qm_sr h p j.toNatClampNeg none)) : qm_PW G M z i c s L (.null :: .int j :: .ref p :: st) h := by
  obtain ⟨hd, hn⟩ := sp_at hA hi he hlen rfl
  obtain ⟨hC, hb, -, hZ, hok⟩ := hA
  subst hb
  intro H locs ls l1 l2 hR hS hl
  have h9 : ¬ kd < 9 := by omega
  obtain ⟨e1, e2⟩ := hR.arr hp h9
  have em : ((.null :: .int j :: .ref p :: st : List Value).map (qm_mv G)) = .null :: .int j :: .ref (G.2.2.1 + p) :: st.map (qm_mv G) := by
    rw [← e1]; rfl
  rw [em]
  have het : qm_et kd = 2 := by unfold qm_et; rw [if_neg (by omega)]
  have fin : ∀ {C : String}, ArrOfT (qm_S z) (G.2.1 kd) (.object C) → qm_W z H locs c s (F0 z.2.2.2.2.2.1 (qm_pc M i) ls (.null :: .int j :: .ref (G.2.2.1 + p) :: st.map (qm_mv G))) := by
    intro C hC1
    refine va_WaastN hC.1 hC.2.1 e2 (hC1 _ _) (fun q => by cases q) (by rw [arrV_size]; exact hin) rfl rfl hd fun H1 e z1 oq => ?_
    obtain ⟨f1, f2⟩ := qm_ast_fin hR hS h9 hp (h' := qm_sr h p j.toNatClampNeg none) (v := .null) rfl rfl (fun q k t => by
      rw [qm_vl_sr hw, het]; rfl) e z1 oq
    exact qm_nx hn k l1 l2 f1 f2 hl
  rcases hkd with rfl | rfl | rfl
  · exact fin (qm_tyK hC (k := 3) rfl).1
  · exact fin (qm_tyK hC (k := 4) rfl).1
  · exact fin (qm_tyK hC (k := 5) rfl).1
/-- places whose references are no constants -/
def FR (p : Nat) : Prop := p = 3 ∨ p = 4 ∨ p = 5 ∨ p = 7 ∨ 51 ≤ p
theorem fr_n {p : Nat} (f : FR p) (k : Nat) : ((qm_SK[p]?).bind (fun r => r[k]?)).join = none := by
  rcases f with rfl | rfl | rfl | rfl | f
  · rfl
  · rfl
  · rfl
  · rfl
  · rw [List.getElem?_eq_none (show qm_SK.length ≤ p from f)]; rfl
theorem rd_fr {p : Nat} (f : FR p) (h : qm_H) (k : Nat) : qm_rd true h p k = h.2.2.1 p k := by
  unfold qm_rd
  rw [cond_true, fr_n f k]
theorem wr_fr {p : Nat} (f : FR p) (k : Nat) (o : Option Nat) : qm_wr true p k o := by
  unfold qm_wr
  rw [cond_true, fr_n f k]
  trivial
theorem sr_s (h : qm_H) (p k : Nat) (v : Option Nat) : (qm_sr h p k v).2.2.1 p k = v := by
  show va_up h.2.2.1 p _ p k = v
  rw [up_s, up_s]
theorem sr_o (h : qm_H) {p q k j : Nat} (v : Option Nat) (e : q ≠ p ∨ j ≠ k) : (qm_sr h p k v).2.2.1 q j = h.2.2.1 q j := by
  show va_up h.2.2.1 p _ q j = _
  by_cases c : q = p
  · subst c
    rw [up_s, up_n _ _ (e.resolve_left (fun z => z rfl))]
  · rw [up_n _ _ c]
/-- the Told at A has become the one at O -/
def BE (A O : Nat) (h h' : qm_H) : Prop := ge (TLi A) (TLr A) 0 h h' ∧ (∀ j, j < 600 → h'.1 (A + 1) j = h.1 (O + 1) j) ∧ (h'.1 A 1 = h.1 O 1 ∧ h'.1 A 2 = h.1 O 2 ∧ h'.1 A 3 = h.1 O 3) ∧ (∀ s, s < 3 → h'.1 (A + 5) s = h.1 (O + 5) s) ∧ ∀ k, 2 ≤ k → k ≤ 4 → ∀ t, t < 2 → h'.2.2.1 (A + k) t = h.2.2.1 (O + k) t
theorem c_become {G : qm_G} (hG : G.2.2.2.2 = true) (d : Nat) (h : qm_H) {A O : Nat} (hT : TL h A) (hO : TL h O) (hd : A + 6 ≤ O ∨ O + 6 ≤ A) (fA : ∀ k, 2 ≤ k → k ≤ 4 → FR (A + k)) (fO : ∀ k, 2 ≤ k → k ≤ 4 → FR (O + k)) {B : Nat → Nat} (hB : TP (h.1 (O + 1)) B) (hv : ∀ t, t < 2 → ∀ k, 2 ≤ k → k ≤ 4 → ∀ Q, h.2.2.1 (O + k) t = some Q → Q < h.2.2.2.2 ∧ qm_is true h Q (if k = 2 then 6 else 2)) : qm_Ev G (d + 1) 0 0 qyX7_become [.ref A, .ref O] h (fun r h' => r = none ∧ BE A O h h') := by
  obtain ⟨tz, t2, ⟨r1, r2, r3, r4, r5⟩, ⟨i1, i2, i3, i4, i5⟩, k1, k2, k3, k4, k5⟩ := id hT
  obtain ⟨oz, o2, ⟨s1, s2, s3, s4, s5⟩, ⟨j1, j2, j3, j4, j5⟩, l1, l2, l3, l4, l5⟩ := id hO
  have nT : A ∉ TLr A := fun z => by simp [TLr] at z
  have nO : ∀ k, k ≤ 5 → O + k ∉ TLr A ∧ O + k ∉ TLi A := fun k hk => ⟨fun z => by simp [TLr] at z; omega, fun z => by simp [TLi] at z; omega⟩
  refine qm_Ev.by (M := mX7_become) okX7_become (Nat.le_of_ble_eq_true rfl) hG fun z hA => ?_
  refine qm_wp_ok hA [7] 20 _ _ _ _ _ _ ⟨o2, _, s1, t2, _, r1, ?_⟩
  refine sp_cpn hA rfl rfl rfl (k1 := 1075) (by decide +kernel) (Nat.le_of_ble_eq_true rfl) (kd := 9) (a := 0) (a' := 0) (m := 600) (p := O + 1) (q := A + 1) (Or.inr rfl) j1 i1 rfl rfl rfl (by decide) (by decide) (by decide) (by rw [l1]; decide) (by rw [k1]; decide) (fun _ j hj => ⟨B j, (hB j hj).2, by rw [Nat.zero_add]; exact (hB j hj).1⟩) ?_
  intro h1 b1 b2 b3 b4
  have a1 : sb [A + 1] h h1 := ⟨b1, fun q hq => b2 q (fun e => hq (by rw [e]; exact List.mem_singleton.mpr rfl))⟩
  have g1 : ge (TLi A) (TLr A) 0 h h1 := (ge.sb a1).mono (fun q hq => by simp at hq; simp [TLi, hq]) (fun q hq => by simp at hq)
  have T1 := hT.ge g1 nT
  have O1 := hO.ge g1 (nO 0 (by decide)).1
  obtain ⟨h2, hh2⟩ : ∃ h2, h2 = qm_si (qm_si (qm_si h1 A 1 (h1.1 O 1)) A 2 ((qm_si h1 A 1 (h1.1 O 1)).1 O 2)) A 3 ((qm_si (qm_si h1 A 1 (h1.1 O 1)) A 2 ((qm_si h1 A 1 (h1.1 O 1)).1 O 2)).1 O 3) := ⟨_, rfl⟩
  have g2 : ge (TLi A) (TLr A) 0 h h2 := by
    rw [hh2]
    exact ((g1.si (by simp [TLi])).si (by simp [TLi])).si (by simp [TLi])
  have nAO : O ≠ A := by omega
  have e0 : h1.1 O = h.1 O := b2 O (by omega)
  have v1 : h2.1 A 1 = h.1 O 1 := by rw [hh2, si_o _ _ _ (by decide), si_o _ _ _ (by decide), si_s, e0]
  have v2 : h2.1 A 2 = h.1 O 2 := by rw [hh2, si_o _ _ _ (by decide), si_s, si_ne _ _ _ nAO, e0]
  have v3 : h2.1 A 3 = h.1 O 3 := by rw [hh2, si_s, si_ne _ _ _ nAO, si_ne _ _ _ nAO, e0]
  have ot : ∀ q, q ≠ A → q ≠ A + 1 → h2.1 q = h.1 q := fun q x y => by rw [hh2, si_ne _ _ _ x, si_ne _ _ _ x, si_ne _ _ _ x, b2 q y]
  have vt : ∀ j, j < 600 → h2.1 (A + 1) j = h.1 (O + 1) j := fun j hj => by
    have := b3 j hj
    rw [Nat.zero_add] at this
    rw [hh2, si_ne _ _ _ (by omega), si_ne _ _ _ (by omega), si_ne _ _ _ (by omega), this]
  have loop : qm_PW G mX7_become z 22 0 0 [vr A, vr O, vi (nI 0)] [] (h2) := by
    refine qm_for (P := fun t => ∀ h', ge (TLi A) (TLr A) 0 h h' → h'.1 = h2.1 → (∀ k, 2 ≤ k → k ≤ 4 → ∀ j, j < t → h'.2.2.1 (A + k) j = h.2.2.1 (O + k) j) → qm_PW G mX7_become z 22 0 0 [vr A, vr O, vi (nI t)] [] (h')) (N := 2) ?_ ?_ h2 g2 rfl (fun k _ _ j hj => absurd hj (Nat.not_lt_zero _))
    · intro h' c1 c2 c3
      have T2 := hT.ge c1 nT
      have O2 := hO.ge c1 (nO 0 (by decide)).1
      refine qm_wp_ok hA [58] 20 _ _ _ _ _ _ ⟨fun _ => ⟨O2.2.1, _, O2.2.2.1.2.2.2.2, T2.2.1, _, T2.2.2.1.2.2.2.2, ?_⟩, fun q => absurd (by decide) q⟩
      refine sp_cpn hA rfl rfl rfl (k1 := 1075) (by decide +kernel) (Nat.le_of_ble_eq_true rfl) (kd := 10) (a := 0) (a' := 0) (m := 3) (p := O + 5) (q := A + 5) (Or.inl rfl) O2.2.2.2.1.2.2.2.2 T2.2.2.2.1.2.2.2.2 rfl rfl rfl (by decide) (by decide) (by decide) (by rw [O2.2.2.2.2.2.2.2.2]; decide) (by rw [T2.2.2.2.2.2.2.2.2]; decide) (fun z => absurd z (by decide)) ?_
      intro h3 d1 d2 d3 d4
      have a3 : sb [A + 5] h' h3 := ⟨d1, fun q hq => d2 q (fun e => hq (by rw [e]; exact List.mem_singleton.mpr rfl))⟩
      have g3 : ge (TLi A) (TLr A) 0 h h3 := c1.tr (n := 0) ((ge.sb a3).mono (fun q hq => by simp at hq; simp [TLi, hq]) (fun q hq => by simp at hq))
      have eA : h3.1 A = h2.1 A := by rw [d2 A (by omega), c2]
      refine qm_wp_ok hA [] 10 _ _ _ _ _ _ ⟨rfl, rfl, g3, fun j hj => ?_, ⟨by rw [eA]; exact v1, by rw [eA]; exact v2, by rw [eA]; exact v3⟩, fun s hs => ?_, fun k x y t ht => ?_⟩
      · rw [d2 (A + 1) (by omega), c2]; exact vt j hj
      · have := d3 s hs
        rw [Nat.zero_add] at this
        rw [this, c2, ot (O + 5) (by omega) (by omega)]
      · rw [d1]; exact c3 k x y t ht
    · intro t ht nx h' c1 c2 c3
      have T2 := hT.ge c1 nT
      have O2 := hO.ge c1 (nO 0 (by decide)).1
      have et : (nI t).toNatClampNeg = t := nI_clamp (by omega)
      have in2 : vp_in (nI t) 2 := vp_in_nI ht (by decide)
      have eo : ∀ k, 2 ≤ k → k ≤ 4 → ∀ H : qm_H, (∀ q, q ∉ TLr A → H.2.2.1 q = h'.2.2.1 q) → qm_rd true H (O + k) (nI t).toNatClampNeg = h.2.2.1 (O + k) t := fun k x y H hH => by
        rw [rd_fr (fO k x y), et, hH _ (nO k (by omega)).1, (c1.2 (O + k) (by omega)).2.2.1 (nO k (by omega)).1]
      have hv2 : ∀ k, 2 ≤ k → k ≤ 4 → ∀ Q, h.2.2.1 (O + k) t = some Q → qm_is true h' Q (if k = 2 then 6 else 2) := fun k x y Q e => is_ge c1 (hv t ht k x y Q e).1 (hv t ht k x y Q e).2
      obtain ⟨p2, q2⟩ : ∃ o, o = h.2.2.1 (O + 2) t := ⟨_, rfl⟩
      obtain ⟨p3, q3⟩ : ∃ o, o = h.2.2.1 (O + 3) t := ⟨_, rfl⟩
      obtain ⟨p4, q4⟩ : ∃ o, o = h.2.2.1 (O + 4) t := ⟨_, rfl⟩
      obtain ⟨h3, hh3⟩ : ∃ h3, h3 = qm_sr h' (A + 2) (nI t).toNatClampNeg p2 := ⟨_, rfl⟩
      obtain ⟨h4, hh4⟩ : ∃ h4, h4 = qm_sr h3 (A + 3) (nI t).toNatClampNeg p3 := ⟨_, rfl⟩
      obtain ⟨h5, hh5⟩ : ∃ h5, h5 = qm_sr h4 (A + 4) (nI t).toNatClampNeg p4 := ⟨_, rfl⟩
      have f3 : ge (TLi A) (TLr A) 0 h' h3 := by rw [hh3]; exact ge.rf.sr (by simp [TLr])
      have f4 : ge (TLi A) (TLr A) 0 h' h4 := by rw [hh4]; exact f3.sr (by simp [TLr])
      have f5 : ge (TLi A) (TLr A) 0 h' h5 := by rw [hh5]; exact f4.sr (by simp [TLr])
      have T3 := T2.ge f3 nT
      have O3 := O2.ge f3 (nO 0 (by decide)).1
      have T4 := T2.ge f4 nT
      have O4 := O2.ge f4 (nO 0 (by decide)).1
      have m3 : ∀ q, q ∉ TLr A → h3.2.2.1 q = h'.2.2.1 q := fun q hq => by rw [hh3]; exact up_n _ _ (fun e => hq (by rw [e]; simp [TLr]))
      have m4 : ∀ q, q ∉ TLr A → h4.2.2.1 q = h'.2.2.1 q := fun q hq => by rw [hh4]; exact (up_n _ _ (fun e => hq (by rw [e]; simp [TLr]))).trans (m3 q hq)
      have k := nx h5 (c1.tr (n := 0) f5) (by rw [hh5, hh4, hh3]; exact c2) (fun k x y j hj => by
        rw [hh5, hh4, hh3, et]
        by_cases e : j = t
        · subst e
          rcases (by omega : k = 2 ∨ k = 3 ∨ k = 4) with z | z | z <;> subst z
          · rw [sr_o _ _ (Or.inl (by omega)), sr_o _ _ (Or.inl (by omega)), sr_s, q2]
          · rw [sr_o _ _ (Or.inl (by omega)), sr_s, q3]
          · rw [sr_s, q4]
        · rw [sr_o _ _ (Or.inr e), sr_o _ _ (Or.inr e), sr_o _ _ (Or.inr e)]
          exact c3 k x y j (by omega))
      rw [← nI_1 t] at k
      have g49 : qm_PW G mX7_become z 49 0 0 [vr A, vr O, vi (nI t)] [] (h5) := qm_wp_ok hA [22] 10 _ _ _ _ _ _ k
      have g48 : qm_PW G mX7_become z 48 0 0 [vr A, vr O, vi (nI t)] [va_rf p4, .int (nI t), .ref (A + 4)] (h4) := by
        rw [hh5] at g49
        have wi : vp_in (nI t) (qm_kn true h4 (A + 4)).2 := by rw [T4.2.2.2.2.2.2.2.1]; exact in2
        cases e : p4 with
        | none =>
          rw [e] at g49
          exact sp_aasn hA rfl rfl rfl (kd := 12) (Or.inl rfl) T4.2.2.2.1.2.2.2.1 wi (wr_fr (fA 4 (by decide) (by decide)) _ _) g49
        | some Q =>
          rw [e] at g49
          exact qm_wp_ok hA [49] 3 _ _ _ _ _ _ ⟨T4.2.2.2.1.2.2.2.1, is_ge f4 (Nat.lt_of_lt_of_eq (hv t ht 4 (by decide) (by decide) Q (by rw [← q4, e])).1 c1.1.symm) (hv2 4 (by decide) (by decide) Q (by rw [← q4, e])), wi, wr_fr (fA 4 (by decide) (by decide)) _ _, g49⟩
      have g41 : qm_PW G mX7_become z 41 0 0 [vr A, vr O, vi (nI t)] [] (h4) := qm_wp_ok hA [48] 20 _ _ _ _ _ _ ⟨T4.2.1, _, T4.2.2.1.2.2.2.1, O4.2.1, _, O4.2.2.1.2.2.2.1, O4.2.2.2.1.2.2.2.1, (by rw [O4.2.2.2.2.2.2.2.1]; exact in2), p4, (by rw [q4]; exact eo 4 (by decide) (by decide) h4 m4), g48⟩
      have g40 : qm_PW G mX7_become z 40 0 0 [vr A, vr O, vi (nI t)] [va_rf p3, .int (nI t), .ref (A + 3)] (h3) := by
        rw [hh4] at g41
        have wi : vp_in (nI t) (qm_kn true h3 (A + 3)).2 := by rw [T3.2.2.2.2.2.2.1]; exact in2
        cases e : p3 with
        | none =>
          rw [e] at g41
          exact sp_aasn hA rfl rfl rfl (kd := 12) (Or.inl rfl) T3.2.2.2.1.2.2.1 wi (wr_fr (fA 3 (by decide) (by decide)) _ _) g41
        | some Q =>
          rw [e] at g41
          exact qm_wp_ok hA [41] 3 _ _ _ _ _ _ ⟨T3.2.2.2.1.2.2.1, is_ge f3 (Nat.lt_of_lt_of_eq (hv t ht 3 (by decide) (by decide) Q (by rw [← q3, e])).1 c1.1.symm) (hv2 3 (by decide) (by decide) Q (by rw [← q3, e])), wi, wr_fr (fA 3 (by decide) (by decide)) _ _, g41⟩
      have g33 : qm_PW G mX7_become z 33 0 0 [vr A, vr O, vi (nI t)] [] (h3) := qm_wp_ok hA [40] 20 _ _ _ _ _ _ ⟨T3.2.1, _, T3.2.2.1.2.2.1, O3.2.1, _, O3.2.2.1.2.2.1, O3.2.2.2.1.2.2.1, (by rw [O3.2.2.2.2.2.2.1]; exact in2), p3, (by rw [q3]; exact eo 3 (by decide) (by decide) h3 m3), g40⟩
      have g32 : qm_PW G mX7_become z 32 0 0 [vr A, vr O, vi (nI t)] [va_rf p2, .int (nI t), .ref (A + 2)] (h') := by
        rw [hh3] at g33
        have wi : vp_in (nI t) (qm_kn true h' (A + 2)).2 := by rw [T2.2.2.2.2.2.1]; exact in2
        cases e : p2 with
        | none =>
          rw [e] at g33
          exact sp_aasn hA rfl rfl rfl (kd := 14) (Or.inr (Or.inr rfl)) T2.2.2.2.1.2.1 wi (wr_fr (fA 2 (by decide) (by decide)) _ _) g33
        | some Q =>
          rw [e] at g33
          exact qm_wp_ok hA [33] 3 _ _ _ _ _ _ ⟨T2.2.2.2.1.2.1, hv2 2 (by decide) (by decide) Q (by rw [← q2, e]), wi, wr_fr (fA 2 (by decide) (by decide)) _ _, g33⟩
      exact qm_wp_ok hA [32] 20 _ _ _ _ _ _ ⟨fun q => absurd q (nI_ge ht (by decide)), fun _ => ⟨T2.2.1, _, T2.2.2.1.2.1, O2.2.1, _, O2.2.2.1.2.1, O2.2.2.2.1.2.1, (by rw [O2.2.2.2.2.2.1]; exact in2), p2, (by rw [q2]; exact eo 2 (by decide) (by decide) h' (fun _ _ => rfl)), g32⟩⟩
  rw [hh2] at loop
  exact qm_wp_ok hA [22] 20 _ _ _ _ _ _ ⟨O1.2.1, T1.2.1, trivial, O1.2.1, T1.2.1, trivial, O1.2.1, T1.2.1, trivial, loop⟩
