/-! worth, what is learnt, the best: as plain numbers -/
def wN (w : Nat → Int32) (f : Nat) : Nat := (w (1 + f)).toNatClampNeg
def VW (w : Nat → Int32) : Prop := ∀ f, f < 6 → wN w f ≤ 20 ∧ w (1 + f) = nI (wN w f)
theorem VT.w {w : Nat → Int32} {n : Nat} (h : VT w n) : VW w := fun f hf => by
  obtain ⟨v, v1, v2⟩ := h.2.2.1 f hf
  rw [wN, v2, nI_clamp (by omega)]
  exact ⟨v1, rfl⟩
def worthN (w : Nat → Int32) (set : Int32) : Nat → Nat
  | 0 => 0
  | f + 1 => worthN w set f + (if bit set (nI f) then wN w f else 0)
theorem worth_N {w : Nat → Int32} (hw : VW w) (set : Int32) : ∀ k, k ≤ 6 → s_worth w set k = nI (worthN w set k) ∧ worthN w set k ≤ 20 * k
  | 0, _ => ⟨rfl, Nat.le_refl _⟩
  | k + 1, hk => by
    obtain ⟨i1, i2⟩ := worth_N hw set k (by omega)
    obtain ⟨v1, v2⟩ := hw k (by omega)
    rw [s_worth, worthN, i1]
    split
    · rw [v2, nI_add]
      exact ⟨rfl, by omega⟩
    · exact ⟨by rw [Nat.add_zero]; exact Int32.add_zero _, by omega⟩
def learntN (w mi : Nat → Int32) (p f : Nat) : Nat → Nat
  | 0 => 0
  | o + 1 => learntN w mi p f o + (if s_hears w o p then worthN w (s_whole w f &&& (mi o ^^^ -1)) 6 else 0)
theorem learnt_N {w : Nat → Int32} (hw : VW w) (mi : Nat → Int32) (p f : Nat) : ∀ k, s_learnt w mi p f k = nI (learntN w mi p f k) ∧ learntN w mi p f k ≤ 120 * k
  | 0 => ⟨rfl, Nat.le_refl _⟩
  | k + 1 => by
    obtain ⟨i1, i2⟩ := learnt_N hw mi p f k
    obtain ⟨j1, j2⟩ := worth_N hw (s_whole w f &&& (mi k ^^^ -1)) 6 (Nat.le_refl _)
    rw [s_learnt, learntN, i1]
    split
    · rw [j1, nI_add]
      exact ⟨rfl, by omega⟩
    · exact ⟨by rw [Nat.add_zero]; exact Int32.add_zero _, by omega⟩
def bestN (w mi : Nat → Int32) (n p : Nat) : Nat → Option (Nat × Nat)
  | 0 => none
  | f + 1 => if bit (mi p) (nI f) then (match bestN w mi n p f with
    | none => some (f, learntN w mi p f n)
    | some (b, v) => if v < learntN w mi p f n then some (f, learntN w mi p f n) else some (b, v)) else bestN w mi n p f
def oi1 (o : Option (Nat × Nat)) : Int32 := match o with
  | none => -1
  | some (b, _) => nI b
def oi2 (o : Option (Nat × Nat)) : Int32 := match o with
  | none => -1
  | some (_, v) => nI v
theorem nI_m1 {v : Nat} (h : v < 2 ^ 31) : ¬ nI v ≤ -1 := fun q => nI_pos h (Int32.lt_of_le_of_lt q (by decide))
theorem m1_nI {v : Nat} (h : v < 2 ^ 31) : (-1 : Int32) ≤ nI v := Int32.le_trans (by decide : (-1 : Int32) ≤ 0) (nI_pos' h)
theorem best_N {w : Nat → Int32} (hw : VW w) (mi : Nat → Int32) {n : Nat} (hn : n ≤ 6) (p : Nat) : ∀ k, k ≤ 6 → s_best w mi n p k = (oi1 (bestN w mi n p k), oi2 (bestN w mi n p k)) ∧ ∀ b v, bestN w mi n p k = some (b, v) → b < k ∧ v ≤ 720
  | 0, _ => ⟨rfl, fun b v q => absurd q (by rw [bestN]; simp)⟩
  | k + 1, hk => by
    obtain ⟨i1, i2⟩ := best_N hw mi hn p k (by omega)
    obtain ⟨j1, j2⟩ := learnt_N hw mi p k n
    rw [s_best, i1, s_by, j1]
    by_cases hb : bit (mi p) (nI k) = true
    · rw [if_pos hb]
      cases q : bestN w mi n p k with
      | none =>
        have e : bestN w mi n p (k + 1) = some (k, learntN w mi p k n) := by rw [bestN, if_pos hb, q]
        rw [e]
        refine ⟨?_, fun b v z => ?_⟩
        · show (if nI _ ≤ -1 then -1 else nI k, mx (-1) (nI _)) = (nI k, nI _)
          rw [if_neg (nI_m1 (by omega)), mx, if_pos (m1_nI (by omega))]
        · have := Option.some.inj z
          injection this with z1 z2
          omega
      | some bv =>
        obtain ⟨b, v⟩ := bv
        obtain ⟨k1, k2⟩ := i2 b v q
        have e : bestN w mi n p (k + 1) = if v < learntN w mi p k n then some (k, learntN w mi p k n) else some (b, v) := by rw [bestN, if_pos hb, q]
        rw [e]
        by_cases c : v < learntN w mi p k n
        · rw [if_pos c]
          refine ⟨?_, fun b v z => ?_⟩
          · show (if nI (learntN w mi p k n) ≤ nI v then nI b else nI k, mx (nI v) (nI (learntN w mi p k n))) = (nI k, nI (learntN w mi p k n))
            rw [if_neg (nI_ge c (by omega)), mx, if_pos (nI_le (by omega) (by omega))]
          · have := Option.some.inj z
            injection this with z1 z2
            omega
        · rw [if_neg c]
          refine ⟨?_, fun b v z => ?_⟩
          · show (if nI (learntN w mi p k n) ≤ nI v then nI b else nI k, mx (nI v) (nI (learntN w mi p k n))) = (nI b, nI v)
            rw [if_pos (nI_le (by omega) (by omega)), mx]
            by_cases c2 : v = learntN w mi p k n
            · rw [← c2, if_pos (Int32.le_refl _)]
            · rw [if_neg (nI_ge (by omega) (by omega))]
          · have := Option.some.inj z
            injection this with z1 z2
            omega
    · rw [if_neg hb]
      have e : bestN w mi n p (k + 1) = bestN w mi n p k := by rw [bestN, if_neg hb]
      rw [e]
      refine ⟨?_, fun b v z => by have := i2 b v z; omega⟩
      cases q : bestN w mi n p k with
      | none => rfl
      | some bv =>
        obtain ⟨b, v⟩ := bv
        obtain ⟨k1, k2⟩ := i2 b v q
        show (if -1 ≤ nI v then nI b else nI k, mx (nI v) (-1)) = (nI b, nI v)
        rw [if_pos (m1_nI (by omega)), mx, if_neg (nI_m1 (by omega))]
def bgN (w mi : Nat → Int32) (n p : Nat) : Nat := match bestN w mi n p 6 with
  | none => 0
  | some (_, v) => v
theorem bg_N {w : Nat → Int32} (hw : VW w) (mi : Nat → Int32) {n : Nat} (hn : n ≤ 6) (p : Nat) : mx 0 (s_best w mi n p 6).2 = nI (bgN w mi n p) ∧ bgN w mi n p ≤ 720 := by
  obtain ⟨i1, i2⟩ := best_N hw mi hn p 6 (Nat.le_refl _)
  rw [i1, bgN]
  cases q : bestN w mi n p 6 with
  | none => exact ⟨rfl, Nat.zero_le _⟩
  | some bv =>
    obtain ⟨b, v⟩ := bv
    have := (i2 b v q).2
    exact ⟨by show mx 0 (nI v) = nI v; rw [mx, if_pos (nI_pos' (by omega))], this⟩
