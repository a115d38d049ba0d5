/-! plays that are alike in their first six places go on alike -/
def e6 (f g : Nat → Int32) : Prop := ∀ j, j < 6 → f j = g j
theorem e6.up {f g : Nat → Int32} (a : e6 f g) (k : Nat) {v v' : Int32} (hv : v = v') : e6 (va_up f k v) (va_up g k v') := by
  intro j hj
  unfold va_up
  split
  · exact hv
  · exact a j hj
def eq6 (a b : PSt) : Prop := e6 a.1 b.1 ∧ e6 a.2.1 b.2.1 ∧ e6 a.2.2.1 b.2.2.1 ∧ e6 a.2.2.2.1 b.2.2.2.1 ∧ e6 a.2.2.2.2.1 b.2.2.2.2.1 ∧ e6 a.2.2.2.2.2.1 b.2.2.2.2.2.1 ∧ a.2.2.2.2.2.2 = b.2.2.2.2.2.2
theorem eq6.rf (a : PSt) : eq6 a a := ⟨fun _ _ => rfl, fun _ _ => rfl, fun _ _ => rfl, fun _ _ => rfl, fun _ _ => rfl, fun _ _ => rfl, rfl⟩
theorem eq6.sm {a b : PSt} (h : eq6 a b) : eq6 b a := ⟨fun j hj => (h.1 j hj).symm, fun j hj => (h.2.1 j hj).symm, fun j hj => (h.2.2.1 j hj).symm, fun j hj => (h.2.2.2.1 j hj).symm, fun j hj => (h.2.2.2.2.1 j hj).symm, fun j hj => (h.2.2.2.2.2.1 j hj).symm, h.2.2.2.2.2.2.symm⟩
theorem eq6.tr {a b c : PSt} (h : eq6 a b) (k : eq6 b c) : eq6 a c := ⟨fun j hj => (h.1 j hj).trans (k.1 j hj), fun j hj => (h.2.1 j hj).trans (k.2.1 j hj), fun j hj => (h.2.2.1 j hj).trans (k.2.2.1 j hj), fun j hj => (h.2.2.2.1 j hj).trans (k.2.2.2.1 j hj), fun j hj => (h.2.2.2.2.1 j hj).trans (k.2.2.2.2.1 j hj), fun j hj => (h.2.2.2.2.2.1 j hj).trans (k.2.2.2.2.2.1 j hj), h.2.2.2.2.2.2.trans k.2.2.2.2.2.2⟩
theorem q_learns {a b : PSt} (h : eq6 a b) {p : Nat} (hp : p < 6) (set : Int32) : eq6 (s_learns a p set) (s_learns b p set) := by
  obtain ⟨h1, h2, h3, h4, h5, h6, h7⟩ := h
  refine ⟨h1, h2, h3.up p (by rw [h3 p hp]), h4.up p ?_, h5, h6, h7⟩
  rw [up_s, up_s, h3 p hp, h4 p hp]
theorem q_tellOn {a b : PSt} (h : eq6 a b) (w : Nat → Int32) (p f : Nat) : ∀ n, n ≤ 6 → eq6 (s_tellOn w p f a n) (s_tellOn w p f b n)
  | 0, _ => h
  | n + 1, hn => by
    have ih := q_tellOn h w p f n (by omega)
    rw [s_tellOn, s_tellOn]
    split
    · exact q_learns ih (by omega) _
    · exact ih
theorem q_tells {a b : PSt} (h : eq6 a b) (w : Nat → Int32) {n p f : Nat} (hn : n ≤ 6) (hp : p < 6) (hf : f < 6) : (s_tells w n p f a).1 = (s_tells w n p f b).1 ∧ eq6 (s_tells w n p f a).2 (s_tells w n p f b).2 := by
  obtain ⟨h1, h2, h3, h4, h5, h6, h7⟩ := id h
  unfold s_tells
  rw [h1 p hp, h3 p hp]
  split
  · exact ⟨rfl, h⟩
  · split
    · refine ⟨rfl, ?_⟩
      dsimp only
      refine q_tellOn ?_ w p f n hn
      refine ⟨h1.up p rfl, h2, h3, h4, h5, h6.up f (by rw [h6 f hf]), ?_⟩
      dsimp only
      rw [h7]
    · exact ⟨rfl, h⟩
theorem q_ask1 {a b : PSt} (h : eq6 a b) (w : Nat → Int32) (p f : Nat) {o : Nat} (ho : o < 6) : eq6 (s_ask1 w p f o a) (s_ask1 w p f o b) := by
  obtain ⟨h1, h2, h3, h4, h5, h6, h7⟩ := id h
  unfold s_ask1
  rw [h3 o ho, h4 o ho]
  split
  · split
    · exact h
    · split
      · obtain ⟨g1, g2, g3, g4, g5, g6, g7⟩ := q_learns h ho (s_whole w f)
        refine ⟨g1, g2, g3, g4, g5, g6, ?_⟩
        unfold s_gue
        dsimp only
        rw [g7]
      · refine ⟨h1, h2, h3, h4.up o (by rw [h4 o ho]), h5, h6, h7⟩
  · exact h
theorem q_asks {a b : PSt} (h : eq6 a b) (w : Nat → Int32) (p f : Nat) : ∀ n, n ≤ 6 → eq6 (s_asks w p f a n) (s_asks w p f b n)
  | 0, _ => h
  | n + 1, hn => q_ask1 (q_asks h w p f n (by omega)) w p f (by omega)
theorem q_sells {a b : PSt} (h : eq6 a b) {n p : Nat} (hn : n ≤ 6) (hp : p < 6) (o c : Int32) : (s_sells n p o c a).1 = (s_sells n p o c b).1 ∧ eq6 (s_sells n p o c a).2 (s_sells n p o c b).2 := by
  obtain ⟨h1, h2, h3, h4, h5, h6, h7⟩ := id h
  unfold s_sells
  by_cases hb : 0 ≤ o ∧ o ≤ nI n - 1
  · obtain ⟨q, hq, rfl⟩ := in_of hb.1 hb.2 (by omega)
    have hq6 : q < 6 := by omega
    have k1 : e6 (va_up a.1 p (a.1 p - 1)) (va_up b.1 p (b.1 p - 1)) := h1.up p (by rw [h1 p hp])
    have k2 : e6 (va_up a.2.1 q (a.2.1 q - c)) (va_up b.2.1 q (b.2.1 q - c)) := h2.up q (by rw [h2 q hq6])
    rw [if_pos hb, if_pos hb, nI_clamp (by omega), h1 p hp, h2 q hq6]
    split
    · exact ⟨rfl, h⟩
    · split
      · refine ⟨rfl, ?_, ?_, h3, h4, h5, h6, h7⟩
        · rw [h1 p hp] at k1
          exact k1.up q (by rw [k1 q hq6])
        · rw [h2 q hq6] at k2
          exact k2.up p (by rw [k2 p hp])
      · exact ⟨rfl, h⟩
  · rw [if_neg hb, if_neg hb]
    exact ⟨rfl, h⟩
theorem q_eveOn {a b : PSt} (h : eq6 a b) : ∀ n, n ≤ 6 → eq6 (s_eveOn a n) (s_eveOn b n)
  | 0, _ => h
  | n + 1, hn => by
    obtain ⟨h1, h2, h3, h4, h5, h6, h7⟩ := q_eveOn h n (by omega)
    rw [s_eveOn, s_eveOn]
    unfold s_eve1
    refine ⟨h1.up n rfl, h2, h3, h4.up n rfl, h5.up n (by rw [h5 n (by omega), h1 n (by omega)]), h6, ?_⟩
    dsimp only
    rw [h7, h1 n (by omega)]
theorem q_eve {a b : PSt} (h : eq6 a b) {n : Nat} (hn : n ≤ 6) : eq6 (s_eve n a) (s_eve n b) := by
  obtain ⟨h1, h2, h3, h4, h5, h6, h7⟩ := q_eveOn h n hn
  refine ⟨h1, h2, h3, h4, h5, h6, ?_⟩
  unfold s_eve
  dsimp only
  rw [h7]
theorem q_does {a b : PSt} (h : eq6 a b) (w : Nat → Int32) {n wh : Nat} (hn : n ≤ 6) (x y c : Int32) (hy : wh < 3 → ∃ f, f < 6 ∧ y = nI f) : (s_does w n wh x y c a).1 = (s_does w n wh x y c b).1 ∧ eq6 (s_does w n wh x y c a).2 (s_does w n wh x y c b).2 := by
  unfold s_does
  by_cases h4 : wh = 4
  · rw [if_pos h4, if_pos h4]
    exact ⟨rfl, q_eve h hn⟩
  · rw [if_neg h4, if_neg h4]
    by_cases hb : 0 ≤ x ∧ x ≤ nI n - 1
    · obtain ⟨p, hp, rfl⟩ := in_of hb.1 hb.2 (by omega)
      rw [if_pos hb, if_pos hb, nI_clamp (by omega)]
      by_cases h0 : wh = 0
      · obtain ⟨f, hf, rfl⟩ := hy (by omega)
        rw [if_pos h0, if_pos h0, nI_clamp (by omega)]
        exact q_tells h w hn (by omega) hf
      · rw [if_neg h0, if_neg h0]
        by_cases h1 : wh = 1
        · rw [if_pos h1, if_pos h1]
          exact ⟨rfl, q_asks h w p _ n hn⟩
        · rw [if_neg h1, if_neg h1]
          by_cases h2 : wh = 2
          · rw [if_pos h2, if_pos h2]
            exact ⟨rfl, q_learns h (by omega) _⟩
          · rw [if_neg h2, if_neg h2]
            exact q_sells h hn (by omega) y c
    · rw [if_neg hb, if_neg hb]
      exact ⟨rfl, h⟩
theorem q_deed {a b : PSt} (h : eq6 a b) (w : Nat → Int32) {n m k : Nat} (hn : n ≤ 6) {yr : Nat → Int32} (hV : VY yr m) (hk : k < m) : (s_deed w n yr k a).1 = (s_deed w n yr k b).1 ∧ eq6 (s_deed w n yr k a).2 (s_deed w n yr k b).2 := by
  obtain ⟨wh, hw, e, hf⟩ := hV.2.2 k hk
  unfold s_deed
  rw [e, nI_clamp (by omega)]
  exact q_does h w hn _ _ _ hf
theorem q_play (w : Nat → Int32) {n m : Nat} (hn : n ≤ 6) {yr : Nat → Int32} (hV : VY yr m) : ∀ (r k : Nat) (a b : PSt), k + r ≤ m → eq6 a b → (s_play w n yr r k a).1 = (s_play w n yr r k b).1 ∧ eq6 (s_play w n yr r k a).2 (s_play w n yr r k b).2
  | 0, k, a, b, _, h => ⟨rfl, h⟩
  | r + 1, k, a, b, hk, h => by
    obtain ⟨e1, e2⟩ := q_deed h w hn hV (by omega : k < m)
    rw [s_play, s_play, e1]
    split
    · exact q_play w hn hV r (k + 1) _ _ (by omega) e2
    · exact ⟨rfl, e2⟩
/-- a play's start -/
def s_init (w : Nat → Int32) : PSt := (fun _ => 1, fun p => w (13 + p), fun p => w (19 + p), fun _ => 0, fun _ => 0, fun _ => 0, 0, 0, 0, 0)
theorem s_hand_init (w : Nat → Int32) (ps : PSt) : eq6 (s_hand w ps) (s_init w) := by
  have key : ∀ n, n ≤ 6 → (∀ j, j < n → (s_handOn w (s_zero ps) n).1 j = 1 ∧ (s_handOn w (s_zero ps) n).2.1 j = w (13 + j) ∧ (s_handOn w (s_zero ps) n).2.2.1 j = w (19 + j) ∧ (s_handOn w (s_zero ps) n).2.2.2.1 j = 0 ∧ (s_handOn w (s_zero ps) n).2.2.2.2.1 j = 0 ∧ (s_handOn w (s_zero ps) n).2.2.2.2.2.1 j = 0) ∧ (s_handOn w (s_zero ps) n).2.2.2.2.2.2 = (0, 0, 0, 0) := by
    intro n
    induction n with
    | zero => intro _; exact ⟨fun j hj => absurd hj (Nat.not_lt_zero j), rfl⟩
    | succ n ih =>
      intro hn
      obtain ⟨i1, i2⟩ := ih (by omega)
      refine ⟨fun j hj => ?_, i2⟩
      rw [s_handOn]
      unfold s_hand1
      dsimp only
      by_cases e : j = n
      · subst e
        simp only [up_s, and_self]
      · simp only [up_n _ _ e]
        exact i1 j (by omega)
  obtain ⟨k1, k2⟩ := key 6 (Nat.le_refl 6)
  exact ⟨fun j hj => (k1 j hj).1, fun j hj => (k1 j hj).2.1, fun j hj => (k1 j hj).2.2.1, fun j hj => (k1 j hj).2.2.2.1, fun j hj => (k1 j hj).2.2.2.2.1, fun j hj => (k1 j hj).2.2.2.2.2, k2⟩
