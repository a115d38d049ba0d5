/-! the class: a town takes a line -/
def TH (h : qm_H) (P : Nat) : Prop := (51 ≤ P ∧ P + 8 ≤ h.2.2.2.2) ∧ qm_is true h P 6 ∧ ∀ k, 1 ≤ k → k ≤ 7 → qm_rd true h P k = some (P + k) ∧ qm_is true h (P + k) 10 ∧ (qm_kn true h (P + k)).2 = if k = 7 then 64 else 6
theorem TH.sb {S : List Nat} {h h' : qm_H} {P : Nat} (t : TH h P) (a : sb S h h') : TH h' P := by
  obtain ⟨⟨t1, t2⟩, t3, t5⟩ := t
  refine ⟨⟨t1, by rw [a.1]; exact t2⟩, qm_is_sb a t3, fun k h1 h2 => ?_⟩
  obtain ⟨x, y, z⟩ := t5 k h1 h2
  exact ⟨by rw [qm_rd_sb a]; exact x, qm_is_sb a y, by rw [qm_kn_sb a]; exact z⟩
def TK (h : qm_H) (P : Nat) (T : Nat → Int32) : Prop := h.1 P 0 = T 0 ∧ ∀ j, j < 6 → h.1 (P + 1) j = T (1 + j) ∧ h.1 (P + 2) j = T (7 + j) ∧ h.1 (P + 3) j = T (13 + j) ∧ h.1 (P + 4) j = T (19 + j) ∧ h.1 (P + 5) j = T (25 + j)
def TS5 (P : Nat) : List Nat := [P, P + 1, P + 2, P + 3, P + 4, P + 5]
theorem TS5_in {P k : Nat} (hk : k ≤ 5) : P + k ∈ TS5 P := by
  rcases (by omega : k = 0 ∨ k = 1 ∨ k = 2 ∨ k = 3 ∨ k = 4 ∨ k = 5) with e | e | e | e | e | e <;> subst e <;> simp [TS5]
/-- a number more in the row k of a town -/
theorem TK.put {h : qm_H} {P : Nat} {T : Nat → Int32} (t : TK h P T) {k i : Nat} (hk : 1 ≤ k) (hk5 : k ≤ 5) (hi : i < 6) (v : Int32) : TK (qm_si h (P + k) i v) P (va_up T (1 + 6 * (k - 1) + i) v) := by
  obtain ⟨t0, t1⟩ := t
  have ro : ∀ q, 1 ≤ q → q ≤ 5 → ∀ j, j < 6 → h.1 (P + q) j = T (1 + 6 * (q - 1) + j) → (qm_si h (P + k) i v).1 (P + q) j = va_up T (1 + 6 * (k - 1) + i) v (1 + 6 * (q - 1) + j) := fun q q1 q5 j hj e => by
    by_cases c : q = k
    · subst c
      by_cases d : j = i
      · rw [d, si_s, up_s]
      · rw [si_o _ _ _ d, up_n _ _ (by omega)]; exact e
    · rw [si_ne _ _ _ (by omega), up_n _ _ (by omega)]; exact e
  refine ⟨by rw [si_ne _ _ _ (by omega), up_n _ _ (by omega)]; exact t0, fun j hj => ?_⟩
  obtain ⟨a1, a2, a3, a4, a5⟩ := t1 j hj
  exact ⟨ro 1 (by decide) (by decide) j hj a1, ro 2 (by decide) (by decide) j hj a2, ro 3 (by decide) (by decide) j hj a3, ro 4 (by decide) (by decide) j hj a4, ro 5 (by decide) (by decide) j hj a5⟩
theorem TK.put0 {h : qm_H} {P : Nat} {T : Nat → Int32} (t : TK h P T) (v : Int32) : TK (qm_si h P 0 v) P (va_up T 0 v) := by
  obtain ⟨t0, t1⟩ := t
  refine ⟨by rw [si_s, up_s], fun j hj => ?_⟩
  rw [si_ne _ _ _ (by omega), si_ne _ _ _ (by omega), si_ne _ _ _ (by omega), si_ne _ _ _ (by omega), si_ne _ _ _ (by omega), up_n _ _ (by omega), up_n _ _ (by omega), up_n _ _ (by omega), up_n _ _ (by omega), up_n _ _ (by omega)]
  exact t1 j hj
theorem c_take {G : qm_G} (hG : G.2.2.2.2 = true) (d : Nat) (h : qm_H) {P n w : Nat} {T vs : Nat → Int32} (hH : TH h P) (hK : TK h P T) (h0 : T 0 = nI n) (hl : LV 0 (w, vs)) (hn : w = 0 → n < 6) : qm_Ev G d 0 0 qyX8_take [.ref P, .int (nI w), .int (vs 1), .int (vs 2)] h (fun r h' => r = none ∧ TK h' P (td 0 w vs T) ∧ sb (TS5 P) h h') := by
  obtain ⟨l1, l2, -, -⟩ := hl
  have hw : w = 0 ∨ w = 1 ∨ w = 2 ∨ w = 3 ∨ w = 4 := by
    have : w ∈ [0, 1, 2, 3, 4] := l1
    simpa using this
  have rd := fun k (a : 1 ≤ k) (b : k ≤ 7) => (hH.2.2 k a b).1
  have ar := fun k (a : 1 ≤ k) (b : k ≤ 7) => (hH.2.2 k a b).2.1
  have ln : ∀ k, 1 ≤ k → k ≤ 6 → ∀ i, i < 6 → vp_in (nI i) (qm_kn true h (P + k)).2 := fun k a b i hi => by
    rw [(hH.2.2 k a (by omega)).2.2, if_neg (by omega)]; exact vp_in_nI hi (by decide)
  have hp : h.1 P 0 = nI n := by rw [hK.1, h0]
  by_cases hw0 : w = 0
  · subst hw0
    have hn := hn rfl
    have q1 := hK.put (k := 3) (by decide) (by decide) hn (vs 1)
    have hin : vp_in (h.1 P 0) (qm_kn true h (P + 3)).2 := by rw [hp]; exact ln 3 (by decide) (by decide) n hn
    have ec : (h.1 P 0).toNatClampNeg = n := by rw [hp, nI_clamp (by omega)]
    refine qm_Ev.run (M := mX8_take) okX8_take rfl hG fun z => ?_
    refine ⟨fun q => absurd rfl q, fun _ => ⟨hH.2.1, fun (q : nI 6 ≤ h.1 P 0) => absurd q (by rw [hp]; exact nI_ge hn (by decide)), fun _ => ⟨hH.2.1, _, rd 3 (by decide) (by decide), hH.2.1, ar 3 (by decide) (by decide), hin, hH.2.1, hH.2.1, trivial, rfl, rfl, ?_, ?_⟩⟩⟩
    · have etd : td 0 0 vs T = va_up (va_up T (13 + n) (vs 1)) 0 (nI n + 1) := by rw [td, if_pos rfl, tdT, if_pos rfl, h0, if_pos (show nI n < (6 : Int32) from nI_lt (b := 6) hn (by decide)), nI_clamp (by omega)]
      rw [etd]
      show TK (qm_si (qm_si h (P + 3) (h.1 P 0).toNatClampNeg (vs 1)) P 0 ((qm_si h (P + 3) (h.1 P 0).toNatClampNeg (vs 1)).1 P 0 + 1)) P _
      rw [ec, si_ne h n (vs 1) (show P ≠ P + 3 by omega), hp]
      exact q1.put0 _
    · exact (sb.rf.si (TS5_in (k := 3) (by decide))).si (TS5_in (k := 0) (by decide))
  · have hmo : mo w 1 = 5 ∧ 2 ≤ nu w := (by decide : ∀ w, w < 5 → ¬ w = 0 → mo w 1 = 5 ∧ 2 ≤ nu w) w (by omega) hw0
    obtain ⟨v, v1, v2⟩ := l2 1 (by decide) (by have := hmo.2; show 1 ≤ nu w; omega)
    obtain ⟨u, u1, u2⟩ := l2 2 (by decide) hmo.2
    have v1 : v ≤ 5 := by have := hmo.1; have v1 : v ≤ mo w 1 := v1; omega
    have v2 : vs 1 = nI v := v2
    have u2 : vs 2 = nI u := u2
    have ev : (nI v).toNatClampNeg = v := nI_clamp (by omega)
    rw [v2, u2]
    have go : ∀ k, 1 ≤ k → k ≤ 5 → ∀ x, td 0 w vs T = va_up T (1 + 6 * (k - 1) + v) x → TK (qm_si h (P + k) (nI v).toNatClampNeg x) P (td 0 w vs T) ∧ sb (TS5 P) h (qm_si h (P + k) (nI v).toNatClampNeg x) := fun k a b x e => by
      rw [ev, e]
      exact ⟨hK.put a b (by omega) x, sb.rf.si (TS5_in b)⟩
    have c0 : ¬ nI v < 0 := nI_pos (by omega)
    have c6 : ¬ nI 6 ≤ nI v := nI_ge (by omega) (by decide)
    have c7 : nI v < nI 6 := nI_lt (by omega) (by decide)
    have bd : ∀ k, 2 ≤ k → td 0 k vs T = va_up T (bs0 k + v) (T (bs0 k + v) ||| ((1 : Int32) <<< (nI u &&& 31))) := fun k hk => by
      rw [td, if_pos rfl, tdT, if_neg (by omega), if_neg (by omega), v2, u2, ev]
    have bd1 : td 0 1 vs T = va_up T (1 + v) (nI u) := by rw [td, if_pos rfl, tdT, if_neg (by decide), if_pos rfl, v2, u2, ev]
    rcases (by omega : w = 1 ∨ w = 2 ∨ w = 3 ∨ w = 4) with e | e | e | e <;> subst e
    · have g := go 1 (by decide) (by decide) (nI u) bd1
      refine qm_Ev.run (M := mX8_take) okX8_take rfl hG fun z => ?_
      exact ⟨fun _ => ⟨fun q => absurd q c0, fun _ => ⟨fun q => absurd q c6, fun _ => ⟨fun _ => ⟨fun q => absurd rfl q, fun _ => ⟨hH.2.1, _, rd 1 (by decide) (by decide), ar 1 (by decide) (by decide), ln 1 (by decide) (by decide) v (by omega), rfl, rfl, g⟩⟩, fun q => absurd c7 q⟩⟩⟩, fun q => absurd q (by decide)⟩
    · have g := go 2 (by decide) (by decide) (T (7 + v) ||| ((1 : Int32) <<< (nI u &&& 31))) (bd 2 (by decide))
      have r : h.1 (P + 2) (nI v).toNatClampNeg = T (7 + v) := by rw [ev]; exact (hK.2 v (by omega)).2.1
      rw [← r] at g
      refine qm_Ev.run (M := mX8_take) okX8_take rfl hG fun z => ?_
      exact ⟨fun _ => ⟨fun q => absurd q c0, fun _ => ⟨fun q => absurd q c6, fun _ => ⟨fun _ => ⟨fun _ => ⟨fun q => absurd rfl q, fun _ => ⟨hH.2.1, _, rd 2 (by decide) (by decide), ar 2 (by decide) (by decide), ln 2 (by decide) (by decide) v (by omega), ar 2 (by decide) (by decide), ln 2 (by decide) (by decide) v (by omega), rfl, rfl, g⟩⟩, fun q => absurd q (by decide)⟩, fun q => absurd c7 q⟩⟩⟩, fun q => absurd q (by decide)⟩
    · have g := go 4 (by decide) (by decide) (T (19 + v) ||| ((1 : Int32) <<< (nI u &&& 31))) (bd 3 (by decide))
      have r : h.1 (P + 4) (nI v).toNatClampNeg = T (19 + v) := by rw [ev]; exact (hK.2 v (by omega)).2.2.2.1
      rw [← r] at g
      refine qm_Ev.run (M := mX8_take) okX8_take rfl hG fun z => ?_
      exact ⟨fun _ => ⟨fun q => absurd q c0, fun _ => ⟨fun q => absurd q c6, fun _ => ⟨fun _ => ⟨fun _ => ⟨fun _ => ⟨fun q => absurd rfl q, fun _ => ⟨hH.2.1, _, rd 4 (by decide) (by decide), ar 4 (by decide) (by decide), ln 4 (by decide) (by decide) v (by omega), ar 4 (by decide) (by decide), ln 4 (by decide) (by decide) v (by omega), rfl, rfl, g⟩⟩, fun q => absurd q (by decide)⟩, fun q => absurd q (by decide)⟩, fun q => absurd c7 q⟩⟩⟩, fun q => absurd q (by decide)⟩
    · have g := go 5 (by decide) (by decide) (T (25 + v) ||| ((1 : Int32) <<< (nI u &&& 31))) (bd 4 (by decide))
      have r : h.1 (P + 5) (nI v).toNatClampNeg = T (25 + v) := by rw [ev]; exact (hK.2 v (by omega)).2.2.2.2
      rw [← r] at g
      refine qm_Ev.run (M := mX8_take) okX8_take rfl hG fun z => ?_
      exact ⟨fun _ => ⟨fun q => absurd q c0, fun _ => ⟨fun q => absurd q c6, fun _ => ⟨fun _ => ⟨fun _ => ⟨fun _ => ⟨fun _ => ⟨fun q => absurd rfl q, fun _ => ⟨hH.2.1, _, rd 5 (by decide) (by decide), ar 5 (by decide) (by decide), ln 5 (by decide) (by decide) v (by omega), ar 5 (by decide) (by decide), ln 5 (by decide) (by decide) v (by omega), rfl, rfl, g⟩⟩, fun q => absurd q (by decide)⟩, fun q => absurd q (by decide)⟩, fun q => absurd q (by decide)⟩, fun q => absurd c7 q⟩⟩⟩, fun q => absurd q (by decide)⟩
