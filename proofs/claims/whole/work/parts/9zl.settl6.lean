/-! the class: a town settles -/
theorem clG_iff (T : Nat → Int32) (s f : Nat) : ∀ n, (clG T s f n = true ↔ ∀ g, g < n → bit (T (7 + f)) (nI g) = true → s.testBit f = true → s.testBit g = true)
  | 0 => ⟨fun _ g hg => absurd hg (Nat.not_lt_zero _), fun _ => rfl⟩
  | n + 1 => by
    rw [clG, Bool.and_eq_true, clG_iff T s f n]
    constructor
    · rintro ⟨a, b⟩ g hg x y
      by_cases e : g < n
      · exact a g e x y
      · obtain rfl : g = n := by omega
        rw [if_pos x, y] at b
        simpa using b
    · intro a
      refine ⟨fun g hg => a g (by omega), ?_⟩
      have := a n (by omega)
      cases x : bit (T (7 + f)) (nI n) with
      | false => rfl
      | true =>
        rw [if_pos rfl]
        cases y : s.testBit f with
        | false => rfl
        | true => rw [this x y]; rfl
theorem clH_iff (T : Nat → Int32) (s : Nat) : ∀ n, (clH T s n = true ↔ ∀ f, f < n → ∀ g, g < 6 → bit (T (7 + f)) (nI g) = true → s.testBit f = true → s.testBit g = true)
  | 0 => ⟨fun _ f hf => absurd hf (Nat.not_lt_zero _), fun _ => rfl⟩
  | n + 1 => by
    rw [clH, Bool.and_eq_true, clH_iff T s n, clG_iff]
    constructor
    · rintro ⟨a, b⟩ f hf
      by_cases e : f < n
      · exact a f e
      · obtain rfl : f = n := by omega
        exact b
    · intro a
      exact ⟨fun f hf => a f (by omega), a n (by omega)⟩
theorem t64 {s k : Nat} (hs : s < 64) (hk : 6 ≤ k) : s.testBit k = false := Nat.testBit_lt_two_pow (Nat.lt_of_lt_of_le hs (Nat.pow_le_pow_right (by decide : 0 < 2) hk))
theorem clH_eq {T : Nat → Int32} (hT : ∀ f, f < 6 → ∃ s, s < 64 ∧ T (7 + f) = nI s) {s : Nat} (hs : s < 64) : clH T s 6 = decide (s_closed T (nI s) 6 = nI s) := by
  have key : clH T s 6 = true ↔ s_closed T (nI s) 6 = nI s := by
    rw [clH_iff]
    constructor
    · intro a
      obtain ⟨u, u1, u2⟩ := s_closed_lt hT hs 6 (Nat.le_refl _)
      rw [u2]
      refine congrArg nI (Nat.eq_of_testBit_eq fun k => ?_)
      by_cases hk : k < 6
      · have q := s_closed_b (w := T) (S := nI s) (k := k) (by omega) 6 (Nat.le_refl _)
        rw [u2, bit_n _ (by omega), bit_n _ (by omega)] at q
        rw [Bool.eq_iff_iff, q]
        refine ⟨?_, Or.inl⟩
        rintro (x | ⟨f, f1, f2, f3⟩)
        · exact x
        · rw [bit_n _ (by omega)] at f2
          exact a f f1 k hk f3 f2
      · rw [t64 u1 (by omega), t64 hs (by omega)]
    · intro a f hf g hg x y
      have q := (s_closed_b (w := T) (S := nI s) (k := g) (by omega) 6 (Nat.le_refl _)).mpr (Or.inr ⟨f, hf, by rw [bit_n _ (by omega)]; exact y, x⟩)
      rw [a, bit_n _ (by omega)] at q
      exact q
  cases c : clH T s 6 with
  | true => exact (decide_eq_true (key.mp c)).symm
  | false => exact (decide_eq_false (fun q => by rw [key.mpr q] at c; exact absurd c (by decide))).symm
theorem hbN_co {w w' : Nat → Int32} {p : Nat} : ∀ n, (∀ o, o < n → w (25 + o) = w' (25 + o)) → hbN w p n = hbN w' p n
  | 0, _ => rfl
  | n + 1, e => by rw [hbN, hbN, hbN_co n (fun o ho => e o (by omega)), s_hears, s_hears, e n (by omega)]
theorem worthN_co {w w' : Nat → Int32} {S : Int32} : ∀ n, (∀ o, o < n → w (1 + o) = w' (1 + o)) → worthN w S n = worthN w' S n
  | 0, _ => rfl
  | n + 1, e => by rw [worthN, worthN, worthN_co n (fun o ho => e o (by omega)), wN, wN, e n (by omega)]
/-- nothing before the place P -/
def fz (P : Nat) (h h' : qm_H) : Prop := h'.2.2 = h.2.2 ∧ ∀ q, q < P → h'.1 q = h.1 q ∧ h'.2.1 q = h.2.1 q
theorem fz.rf {P : Nat} {h : qm_H} : fz P h h := ⟨rfl, fun _ _ => ⟨rfl, rfl⟩⟩
theorem fz.tr {P : Nat} {h h1 h2 : qm_H} (a : fz P h h1) (b : fz P h1 h2) : fz P h h2 := ⟨b.1.trans a.1, fun q hq => ⟨(b.2 q hq).1.trans (a.2 q hq).1, (b.2 q hq).2.trans (a.2 q hq).2⟩⟩
theorem fz.sb {P : Nat} {S : List Nat} {h h' : qm_H} (a : sb S h h') (hS : ∀ q, q ∈ S → P ≤ q) : fz P h h' := ⟨by rw [a.1], fun q hq => ⟨a.2 q (fun z => by have := hS q z; omega), by rw [a.1]⟩⟩
theorem fz.sl {P : Nat} {h h' : qm_H} (a : SL P h h') : fz P h h' := ⟨a.2.2, fun q hq => ⟨by rw [a.1], a.2.1 q (by omega)⟩⟩
theorem c_settle {G : qm_G} (hG : G.2.2.2.2 = true) (d : Nat) (h : qm_H) {P n : Nat} {T : Nat → Int32} (hH : TH h P) (hK : TK h P T) (hn : n ≤ 6) (h0 : T 0 = nI n) (hw : VW T) (hT : ∀ f, f < 6 → ∃ s, s < 64 ∧ T (7 + f) = nI s) (h9 : ∀ j, n ≤ j → j < 6 → T (19 + j) = 0) (h6 : ∀ j, j < 6 → h.1 (P + 6) j = 0) (h7 : h.1 (P + 7) 0 = 0) (h8 : h.2.1 P 8 = -1) : qm_Ev G (d + 2) 0 0 qyX8_settle [.ref P] h (fun r h' => r = none ∧ TO h' P (cls T) n ∧ fz P h h') := by
  refine qm_Ev.by (M := mX8_settle) okX8_settle (Nat.le_of_ble_eq_true rfl) hG fun z hA => ?_
  obtain ⟨b1, b2, -⟩ := clB_at T hT 6 (Nat.le_refl _)
  obtain ⟨c1, c2, c3⟩ := cls_at T hT
  obtain ⟨B, hB⟩ : ∃ B, B = clB T 6 := ⟨_, rfl⟩
  rw [← hB] at b1 b2 c2 c3
  have B0 : B 0 = nI n := by rw [b1 0 (by omega)]; exact h0
  have w1 : ∀ j, j < 6 → T (1 + j) = nI (wN B j) := fun j hj => by rw [wN, b1 (1 + j) (by omega)]; exact (hw j hj).2
  have g2 : qm_PW G mX8_settle z 2 0 0 [vr P, vi (nI 0), vu] [] (h) := by
    refine st_a hG hA hH hK fun h1 s1 K1 => ?_
    rw [← hB] at K1
    have H1 := hH.sb s1
    have g36 : qm_PW G mX8_settle z 36 0 0 [vr P, vi (nI 0), vu] [] (h1) := by
      refine st_b hG hA hn H1 K1 B0 (fun j hj => by rw [s1.2 _ (fun z => by simp at z)]; exact h6 j hj) fun h2 s2 => ?_
      obtain ⟨s2, v2⟩ := s2
      have H2 := H1.sb s2
      have K2 : ∀ j, j < 6 → h2.1 (P + 1) j = T (1 + j) ∧ h2.1 (P + 2) j = B (7 + j) ∧ h2.1 (P + 3) j = T (13 + j) ∧ h2.1 (P + 5) j = T (25 + j) := fun j hj => by
        obtain ⟨k1, k2, k3, k4, k5⟩ := K1.2 j hj
        rw [s2.2 (P + 1) (fun z => by simp at z), s2.2 (P + 2) (fun z => by simp at z), s2.2 (P + 3) (fun z => by simp at z), s2.2 (P + 5) (fun z => by simp at z)]
        exact ⟨by rw [k1, b1 _ (by omega)], k2, by rw [k3, b1 _ (by omega)], by rw [k5, b1 _ (by omega)]⟩
      refine st_c hG hA H2 (T := B) (fun j hj => by rw [(K2 j hj).1]; exact w1 j hj) (by rw [s2.2 _ (fun z => by simp at z), s1.2 _ (fun z => by simp at z)]; exact h7) fun h3 s3 v3 => ?_
      have H3 := H2.sb s3
      refine st_d hG hA H3 (T := B) (fun f hf => by rw [s3.2 _ (fun z => by simp at z)]; exact (K2 f hf).2.1) (by rw [s3.1, s2.1, s1.1]; exact h8) fun h4 s4 v4 => ?_
      have H4 := H3.sl s4
      have fr : fz P h h4 := (((fz.sb s1 (fun q hq => by simp at hq; omega)).tr (fz.sb s2 (fun q hq => by simp at hq; omega))).tr (fz.sb s3 (fun q hq => by simp at hq; omega))).tr (fz.sl s4)
      have e3 : ∀ q, q ≠ P + 7 → h4.1 q = h2.1 q := fun q hq => by rw [s4.1]; exact s3.2 q (fun z => hq (by simpa using z))
      refine qm_wp_ok hA [] 10 _ _ _ _ _ _ ⟨rfl, rfl, ⟨H4.1, H4.2.1, ?_, H4.2.2, fun j hj => ?_, fun s hs => ?_, fun s hs => ?_⟩, fr⟩
      · rw [e3 P (by omega), s2.2 P (fun z => by simp at z), K1.1]; exact B0
      · obtain ⟨k1, k2, k3, k5⟩ := K2 j hj
        obtain ⟨k4, k6⟩ := v2 j hj
        rw [e3 (P + 1) (by omega), e3 (P + 2) (by omega), e3 (P + 3) (by omega), e3 (P + 4) (by omega), e3 (P + 5) (by omega), e3 (P + 6) (by omega), k1, k2, k3, k4, k5, k6]
        refine ⟨(c1 _ (by omega)).symm, (c2 j hj).symm, (c1 _ (by omega)).symm, ?_, (c1 _ (by omega)).symm, ?_⟩
        · rw [c3 j hj, b1 (19 + j) (by omega)]
          by_cases x : j < n
          · rw [if_pos x]
          · rw [if_neg x, h9 j (by omega) hj, s_closed_0 B 6 (Nat.le_refl _)]
        · rw [hbN_co (w := B) (w' := cls T) n (fun o ho => by rw [b1 (25 + o) (by omega), c1 (25 + o) (by omega)])]
      · rw [s4.1, v3 s hs, worthN_co (w := B) (w' := cls T) 6 (fun o ho => by rw [b1 (1 + o) (by omega), c1 (1 + o) (by omega)])]
      · have := v4 s hs
        rw [clH_eq b2 hs, s_closed_co 6 (fun f hf => (c2 f hf).symm)] at this
        exact this
    exact qm_wp_ok hA [36] 10 _ _ _ _ _ _ g36
  exact qm_wp_ok hA [2] 10 _ _ _ _ _ _ g2
