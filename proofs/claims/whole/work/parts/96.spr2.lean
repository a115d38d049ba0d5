/-! the class: messages, audiences -/
/-- those who know and those who hear them -/
def wh1 (w : Nat → Int32) (n S : Nat) : Nat → Nat
  | 0 => S
  | p + 1 => wh1 w n S p ||| (if S.testBit p then hbN w p n else 0)
def wh2 (w : Nat → Int32) (n : Nat) : Nat → Nat → Nat
  | 0, S => S
  | k + 1, S => wh2 w n k (wh1 w n S n)
theorem wh1_b (w : Nat → Int32) (n S o : Nat) : ∀ p, (wh1 w n S p).testBit o = true ↔ S.testBit o = true ∨ ∃ q, q < p ∧ S.testBit q = true ∧ (hbN w q n).testBit o = true
  | 0 => ⟨Or.inl, fun h => h.elim id (fun ⟨q, hq, _⟩ => absurd hq (Nat.not_lt_zero _))⟩
  | p + 1 => by
    rw [wh1, Nat.testBit_or, Bool.or_eq_true, wh1_b w n S o p]
    constructor
    · rintro ((h | ⟨q, h1, h2, h3⟩) | h)
      · exact Or.inl h
      · exact Or.inr ⟨q, by omega, h2, h3⟩
      · split at h
        · exact Or.inr ⟨p, by omega, by assumption, h⟩
        · rw [Nat.zero_testBit] at h; exact absurd h (by decide)
    · rintro (h | ⟨q, h1, h2, h3⟩)
      · exact Or.inl (Or.inl h)
      · by_cases e : q = p
        · subst e
          exact Or.inr (by rw [if_pos h2]; exact h3)
        · exact Or.inl (Or.inr ⟨q, by omega, h2, h3⟩)
theorem wh1_lt (w : Nat → Int32) {n S : Nat} (hS : S < 2 ^ n) : ∀ p, wh1 w n S p < 2 ^ n
  | 0 => hS
  | p + 1 => by
    rw [wh1]
    have := wh1_lt w hS p
    split
    · exact Nat.or_lt_two_pow this (hbN_lt w p (n := n) n (Nat.le_refl _))
    · rw [Nat.or_zero]; exact this
theorem wh2_lt (w : Nat → Int32) {n : Nat} : ∀ k S, S < 2 ^ n → wh2 w n k S < 2 ^ n
  | 0, S, h => h
  | k + 1, S, h => wh2_lt w k _ (wh1_lt w h n)
theorem hb_lt_n {w : Nat → Int32} {q n o : Nat} (h : (hbN w q n).testBit o = true) : o < n := by
  rw [hbN_b, Bool.and_eq_true, decide_eq_true_eq] at h
  exact h.1
theorem tb_lt {S n q : Nat} (hS : S < 2 ^ n) (h : S.testBit q = true) : q < n := by
  rcases Nat.lt_or_ge q n with z | z
  · exact z
  · rw [Nat.testBit_lt_two_pow (Nat.lt_of_lt_of_le hS (Nat.pow_le_pow_right (by decide) z))] at h
    exact absurd h (by decide)
/-- one round, of a set within the people -/
theorem wh_b {w : Nat → Int32} {n S o : Nat} (hS : S < 2 ^ n) : (wh1 w n S n).testBit o = true ↔ S.testBit o = true ∨ ∃ q, S.testBit q = true ∧ (hbN w q n).testBit o = true := by
  rw [wh1_b]
  constructor
  · rintro (h | ⟨q, h1, h2, h3⟩)
    · exact Or.inl h
    · exact Or.inr ⟨q, h2, h3⟩
  · rintro (h | ⟨q, h2, h3⟩)
    · exact Or.inl h
    · exact Or.inr ⟨q, tb_lt hS h2, h2, h3⟩
theorem wh2_mono {w : Nat → Int32} {n : Nat} : ∀ k A B, A < 2 ^ n → B < 2 ^ n → (∀ o, A.testBit o = true → B.testBit o = true) → ∀ o, (wh2 w n k A).testBit o = true → (wh2 w n k B).testBit o = true
  | 0, A, B, _, _, h, o, z => h o z
  | k + 1, A, B, hA, hB, h, o, z => by
    refine wh2_mono k _ _ (wh1_lt w hA n) (wh1_lt w hB n) (fun o' h' => ?_) o z
    rw [wh_b hA] at h'
    rw [wh_b hB]
    rcases h' with h' | ⟨q, h2, h3⟩
    · exact Or.inl (h o' h')
    · exact Or.inr ⟨q, h q h2, h3⟩
theorem wh2_ge {w : Nat → Int32} {n : Nat} : ∀ k A, A < 2 ^ n → ∀ o, A.testBit o = true → (wh2 w n k A).testBit o = true
  | 0, A, _, o, z => z
  | k + 1, A, hA, o, z => wh2_ge k _ (wh1_lt w hA n) o ((wh_b hA).mpr (Or.inl z))
/-- what comes of a set comes of one of its tellers -/
theorem wh2_one {w : Nat → Int32} {n : Nat} (hn : n ≤ 6) : ∀ k A o, A < 2 ^ n → (wh2 w n (k + 1) A).testBit o = true → A.testBit o = true ∨ ∃ q, A.testBit q = true ∧ (wh2 w n k (A ||| hbN w q n)).testBit o = true
  | 0, A, o, hA, h => by
    rcases (wh_b hA).mp h with h | ⟨q, h2, h3⟩
    · exact Or.inl h
    · exact Or.inr ⟨q, h2, by show (A ||| hbN w q n).testBit o = true; rw [Nat.testBit_or, h3, Bool.or_true]⟩
  | k + 1, A, o, hA, h => by
    have hl : ∀ q, A ||| hbN w q n < 2 ^ n := fun q => Nat.or_lt_two_pow hA (hb64 w q hn).1
    have hW := wh1_lt w hA n
    rcases wh2_one hn k (wh1 w n A n) o hW h with h | ⟨q, h2, h3⟩
    · rcases (wh_b hA).mp h with h | ⟨q, h2, h3⟩
      · exact Or.inl h
      · exact Or.inr ⟨q, h2, wh2_ge (k + 1) _ (hl q) o (by rw [Nat.testBit_or, h3, Bool.or_true])⟩
    · -- q comes of A by one round: by r, or is in A
      have hl1 : wh1 w n A n ||| hbN w q n < 2 ^ n := Nat.or_lt_two_pow hW (hb64 w q hn).1
      -- o comes of a single one
      have single : ∀ k B o, B < 2 ^ n → (wh2 w n k B).testBit o = true → ∃ r, B.testBit r = true ∧ (wh2 w n k (2 ^ r)).testBit o = true := by
        intro k
        induction k with
        | zero => intro B o _ z; exact ⟨o, z, by show (2 ^ o).testBit o = true; rw [Nat.testBit_two_pow]; exact decide_eq_true rfl⟩
        | succ k ih =>
          intro B o hB z
          obtain ⟨r, r1, r2⟩ := ih _ o (wh1_lt w hB n) z
          have h2r : ∀ r, r < n → 2 ^ r < 2 ^ n := fun r hr => Nat.pow_lt_pow_right (by decide) hr
          have hrn := tb_lt (wh1_lt w hB n) r1
          rcases (wh_b hB).mp r1 with r1 | ⟨s, s1, s2⟩
          · exact ⟨r, r1, wh2_mono k (2 ^ r) _ (h2r r hrn) (wh1_lt w (h2r r hrn) n) (fun o' ho' => (wh_b (h2r r hrn)).mpr (Or.inl ho')) o r2⟩
          · have hsn := tb_lt hB s1
            refine ⟨s, s1, wh2_mono k (2 ^ r) _ (h2r r hrn) (wh1_lt w (h2r s hsn) n) (fun o' ho' => ?_) o r2⟩
            rw [Nat.testBit_two_pow, decide_eq_true_eq] at ho'
            rw [wh_b (h2r s hsn)]
            refine Or.inr ⟨s, by rw [Nat.testBit_two_pow]; exact decide_eq_true rfl, by rw [← ho']; exact s2⟩
      obtain ⟨r, r1, r2⟩ := single (k + 2) A o hA h
      have hrn := tb_lt hA r1
      have h2r : 2 ^ r < 2 ^ n := Nat.pow_lt_pow_right (by decide) hrn
      refine Or.inr ⟨r, r1, wh2_mono (k + 1) (wh1 w n (2 ^ r) n) _ (wh1_lt w h2r n) (hl r) (fun o' ho' => ?_) o r2⟩
      rw [wh_b h2r] at ho'
      rw [Nat.testBit_or, Bool.or_eq_true]
      rcases ho' with z | ⟨s, s1, s2⟩
      · rw [Nat.testBit_two_pow, decide_eq_true_eq] at z
        rw [← z]; exact Or.inl r1
      · rw [Nat.testBit_two_pow, decide_eq_true_eq] at s1
        rw [← s1] at s2; exact Or.inr s2
theorem and_pow {S p : Nat} : S &&& 2 ^ p = 2 ^ p ↔ S.testBit p = true := by
  constructor
  · intro e
    have : (S &&& 2 ^ p).testBit p = true := by rw [e, Nat.testBit_two_pow]; exact decide_eq_true rfl
    rw [Nat.testBit_and, Bool.and_eq_true] at this
    exact this.1
  · intro e
    apply Nat.eq_of_testBit_eq
    intro i
    rw [Nat.testBit_and, Nat.testBit_two_pow]
    by_cases c : p = i
    · subst c; rw [e]; rfl
    · rw [decide_eq_false c, Bool.and_false]
theorem lf_64 {w : Nat → Int32} {n wt S : Nat} (hn : n ≤ 6) (hS : S < 64) : lf w n wt 64 S = if S &&& wt = wt then some 0 else lfm (lfo w n (lf w n wt 64) S) n := by
  have e : lf w n wt 64 S = if S &&& wt = wt then some 0 else lfm (lfo w n (lf w n wt 63) S) n := rfl
  rw [e]
  split
  · rfl
  · apply lfm_co
    intro p hp
    rw [lfo, lfo]
    split
    · rename_i c
      rw [Bool.and_eq_true, decide_eq_true_eq] at c
      have h1 := or_gt c.2
      have h2 : S ||| hbN w p n < 64 := Nat.or_lt_two_pow (n := 6) hS (hb64 w p hn).2
      rw [lf_st hn 63 _ h2 (by omega)]
    · rfl
theorem omn_le {a b : Option Nat} {v : Nat} (h : b = some v) : ∃ u, u ≤ v ∧ omn a b = some u := by
  subst h
  cases a with
  | none => exact ⟨v, Nat.le_refl _, rfl⟩
  | some x => exact ⟨min x v, Nat.min_le_right _ _, rfl⟩
theorem omn_le' {a b : Option Nat} {v : Nat} (h : a = some v) : ∃ u, u ≤ v ∧ omn a b = some u := by
  subst h
  cases b with
  | none => exact ⟨v, Nat.le_refl _, rfl⟩
  | some x => exact ⟨min v x, Nat.min_le_left _ _, rfl⟩
theorem lfm_ex {o : Nat → Option Nat} {p v : Nat} (h : o p = some v) : ∀ n, p < n → ∃ u, u ≤ v ∧ lfm o n = some u
  | 0, hp => absurd hp (Nat.not_lt_zero _)
  | n + 1, hp => by
    rw [lfm]
    by_cases e : p = n
    · subst e; exact omn_le h
    · obtain ⟨u, u1, u2⟩ := lfm_ex h n (by omega)
      obtain ⟨x, x1, x2⟩ := omn_le' (b := o n) u2
      exact ⟨x, by omega, x2⟩
theorem msg_a {w : Nat → Int32} {n p : Nat} (hn : n ≤ 6) : ∀ k S, S < 2 ^ n → (wh2 w n k S).testBit p = true → ∃ v, v ≤ k ∧ lf w n (2 ^ p) 64 S = some v
  | 0, S, hS, h => ⟨0, Nat.le_refl _, by rw [lf_64 hn (by have := (p64 hn).1; omega), if_pos (and_pow.mpr (show S.testBit p = true from h))]⟩
  | k + 1, S, hS, h => by
    have h64 := (p64 hn).1
    rcases wh2_one hn k S p hS h with z | ⟨q, q1, q2⟩
    · exact ⟨0, Nat.zero_le _, by rw [lf_64 hn (by omega), if_pos (and_pow.mpr z)]⟩
    · have hl : S ||| hbN w q n < 2 ^ n := Nat.or_lt_two_pow hS (hb64 w q hn).1
      obtain ⟨v, v1, v2⟩ := msg_a hn k _ hl q2
      have hq := tb_lt hS q1
      by_cases e : S ||| hbN w q n = S
      · rw [e] at v2; exact ⟨v, by omega, v2⟩
      · rw [lf_64 hn (by omega)]
        split
        · exact ⟨0, Nat.zero_le _, rfl⟩
        · have : lfo w n (lf w n (2 ^ p) 64) S q = some (v + 1) := by
            rw [lfo, bit_n _ (by omega), q1, decide_eq_true e, v2]; rfl
          obtain ⟨u, u1, u2⟩ := lfm_ex this n hq
          exact ⟨u, by omega, u2⟩
theorem msg_b {w : Nat → Int32} {n p : Nat} (hn : n ≤ 6) : ∀ k S v, S < 2 ^ n → lf w n (2 ^ p) k S = some v → (wh2 w n v S).testBit p = true
  | 0, S, v, _, h => by rw [lf] at h; exact absurd h (by simp)
  | k + 1, S, v, hS, h => by
    rw [lf] at h
    split at h
    · rename_i c
      rw [← Option.some.inj h]; exact and_pow.mp c
    · obtain ⟨⟨q, hq, h⟩, -⟩ := lfm_some h
      rw [lfo] at h
      split at h
      · rename_i c
        rw [Bool.and_eq_true, bit_n _ (by omega)] at c
        have hl : S ||| hbN w q n < 2 ^ n := Nat.or_lt_two_pow hS (hb64 w q hn).1
        cases z : lf w n (2 ^ p) k (S ||| hbN w q n) with
        | none => rw [z] at h; exact absurd h (by simp)
        | some u =>
          rw [z] at h
          have hv : u + 1 = v := Option.some.inj h
          subst hv
          have ih := msg_b hn k _ u hl z
          refine wh2_mono u _ _ hl (wh1_lt w hS n) (fun o ho => ?_) p ih
          rw [Nat.testBit_or, Bool.or_eq_true] at ho
          rw [wh_b hS]
          rcases ho with ho | ho
          · exact Or.inl ho
          · exact Or.inr ⟨q, c.1, ho⟩
      · exact absurd h (by simp)
theorem pop_or : ∀ a, a < 64 → ∀ b, b < 64 → ¬ a ||| b = a → pop a < pop (a ||| b) := by decide +kernel
theorem pop_n : ∀ n, n < 7 → ∀ s, s < 64 → s < 2 ^ n → pop s ≤ n := by decide +kernel
theorem lf_pop {w : Nat → Int32} {n wt : Nat} (hn : n ≤ 6) : ∀ k S v, S < 2 ^ n → lf w n wt k S = some v → v + pop S ≤ n
  | 0, S, v, _, h => by rw [lf] at h; exact absurd h (by simp)
  | k + 1, S, v, hS, h => by
    have h64 := (p64 hn).1
    rw [lf] at h
    split at h
    · rw [← Option.some.inj h, Nat.zero_add]; exact pop_n n (by omega) S (by omega) hS
    · obtain ⟨⟨q, hq, h⟩, -⟩ := lfm_some h
      rw [lfo] at h
      split at h
      · rename_i c
        rw [Bool.and_eq_true, decide_eq_true_eq] at c
        have hl : S ||| hbN w q n < 2 ^ n := Nat.or_lt_two_pow hS (hb64 w q hn).1
        cases z : lf w n wt k (S ||| hbN w q n) with
        | none => rw [z] at h; exact absurd h (by simp)
        | some u =>
          rw [z] at h
          have hv : u + 1 = v := Option.some.inj h
          have ih := lf_pop hn k _ u hl z
          have := pop_or S (by omega) _ (hb64 w q hn).2 c.2
          omega
      · exact absurd h (by simp)
theorem c_withHearers {G : qm_G} (hG : G.2.2.2.2 = true) (d : Nat) (h : qm_H) {P n : Nat} {w : Nat → Int32} (t : TO h P w n) (v : VT w n) {S : Nat} : qm_Ev G (d + 1) 0 0 qyX6_withHearers [.ref P, .int (nI S)] h (fun r h' => r = some (.int (nI (wh1 w n S n))) ∧ h = h') := by
  have hn := v.1
  refine qm_Ev.by (M := mX6_withHearers) okX6_withHearers (Nat.le_of_ble_eq_true rfl) hG fun z hA => ?_
  refine qm_wp_ok hA [4] 20 _ _ _ _ _ _ ?_
  refine qm_for (P := fun p => qm_PW G mX6_withHearers z 4 0 0 [vr P, vi (nI S), vi (nI (wh1 w n S p)), vi (nI p)] [] h) (N := n) ?_ ?_
  · exact qm_wp_ok hA [] 20 _ _ _ _ _ _ ⟨t.is, fun _ => ⟨trivial, rfl, rfl⟩, fun (q : ¬ h.1 P 0 ≤ nI n) => absurd (by rw [t.pp]; exact Int32.le_refl _) q⟩
  · intro p hp key
    rw [← nI_1, wh1, ← fa_or] at key
    refine qm_wp_ok hA [4] 40 _ _ _ _ _ _ ⟨t.is, fun (z0 : h.1 P 0 ≤ nI p) => absurd z0 (by rw [t.pp]; exact nI_ge (by omega) (by omega)), fun _ => ⟨0, 0, _, c_isIn hG d h (nI S) (nI p), ⟨Nat.le_refl _, Nat.le_refl _⟩, ?_⟩⟩
    rintro _ _ ⟨rfl, rfl⟩
    refine b2_eq (fun hb => ⟨t.is, _, t.rd (k := 6) (by decide) (by decide), t.ar (k := 6) (by decide) (by decide), t.ln (k := 6) (by decide) (by decide) (by omega), ?_⟩) (fun hb => ?_)
    · rw [bit_n _ (by omega)] at hb
      rw [if_pos hb, ← t.hb hp hn] at key
      exact key
    · rw [bit_n _ (by omega)] at hb
      rw [if_neg (by rw [hb]; decide)] at key
      exact key
theorem wh2_s (w : Nat → Int32) (n : Nat) : ∀ k S, wh2 w n (k + 1) S = wh1 w n (wh2 w n k S) n
  | 0, S => rfl
  | k + 1, S => wh2_s w n k (wh1 w n S n)
theorem c_steps {G : qm_G} (hG : G.2.2.2.2 = true) (d : Nat) (h : qm_H) {P n : Nat} {w : Nat → Int32} (t : TO h P w n) (v : VT w n) {S p : Nat} (hS : S < 2 ^ n) (hp : p < n) : qm_Ev G (d + 2) 0 0 qyX6_steps [.ref P, .int (nI S), .int (nI p)] h (fun r h' => r = some (.int (match lf w n (2 ^ p) 64 S with
    | none => -1
    | some v => nI v)) ∧ h = h') := by
  have hn := v.1
  have h64 := (p64 hn).1
  refine qm_Ev.by (M := mX6_steps) okX6_steps (Nat.le_of_ble_eq_true rfl) hG fun z hA => ?_
  refine qm_wp_ok hA [4] 20 _ _ _ _ _ _ ?_
  refine (qm_for (P := fun k => (∀ j, j < k → (wh2 w n j S).testBit p = false) → qm_PW G mX6_steps z 4 0 0 [vr P, vi (nI S), vi (nI p), vi (nI (wh2 w n k S)), vi (nI k)] [] h) (N := n + 1) ?_ ?_) (fun j hj => absurd hj (Nat.not_lt_zero _))
  · intro hj
    refine qm_wp_ok hA [] 20 _ _ _ _ _ _ ⟨t.is, fun _ => ⟨trivial, congV ?_, rfl⟩, fun (q : ¬ h.1 P 0 < nI (n + 1)) => absurd (by rw [t.pp]; exact nI_lt (by omega) (by omega)) q⟩
    cases z : lf w n (2 ^ p) 64 S with
    | none => rfl
    | some u =>
      have h1 := lf_pop hn 64 S u hS z
      have h2 := msg_b hn 64 S u hS z
      rw [hj u (by omega)] at h2
      exact absurd h2 (by decide)
  · intro k hk key hj
    refine qm_wp_ok hA [4] 40 _ _ _ _ _ _ ⟨t.is, fun (z0 : h.1 P 0 < nI k) => absurd z0 (by rw [t.pp]; exact nI_nlt (by omega) (by omega)), fun _ => ⟨0, 0, _, c_isIn hG _ h (nI (wh2 w n k S)) (nI p), ⟨Nat.le_refl _, Nat.le_refl _⟩, ?_⟩⟩
    rintro _ _ ⟨rfl, rfl⟩
    refine b2_eq (fun hb => ⟨trivial, congV ?_, rfl⟩) (fun hb => ⟨0, 0, _, c_withHearers hG d h t v, ⟨Nat.le_refl _, Nat.le_refl _⟩, ?_⟩)
    · rw [bit_n _ (by omega)] at hb
      obtain ⟨u, u1, u2⟩ := msg_a hn k S hS hb
      rw [u2]
      have h2 := msg_b hn 64 S u hS u2
      rcases Nat.lt_or_ge u k with z | z
      · rw [hj u z] at h2; exact absurd h2 (by decide)
      · show nI k = nI u
        rw [show u = k by omega]
    · rintro _ _ ⟨rfl, rfl⟩
      rw [bit_n _ (by omega)] at hb
      have k2 := key (fun j hj2 => by
        by_cases e : j = k
        · rw [e]; exact hb
        · exact hj j (by omega))
      rw [← nI_1, wh2_s] at k2
      exact k2
/-! audiences -/
theorem wh2_st {w : Nat → Int32} {n : Nat} {S : Nat} (h : wh1 w n S n = S) : ∀ k, wh2 w n k S = S
  | 0 => rfl
  | k + 1 => by rw [wh2, h]; exact wh2_st h k
theorem wh1_or {w : Nat → Int32} {n S : Nat} (hS : S < 2 ^ n) : S ||| wh1 w n S n = wh1 w n S n := by
  apply Nat.eq_of_testBit_eq
  intro i
  rw [Nat.testBit_or]
  cases c : S.testBit i with
  | false => rfl
  | true => rw [(wh_b hS).mpr (Or.inl c)]; rfl
theorem wh2_pop {w : Nat → Int32} {n : Nat} (hn : n ≤ 6) : ∀ k S, S < 2 ^ n → wh1 w n (wh2 w n k S) n = wh2 w n k S ∨ k + pop S ≤ pop (wh2 w n k S)
  | 0, S, hS => Or.inr (by rw [wh2, Nat.zero_add]; exact Nat.le_refl _)
  | k + 1, S, hS => by
    have h64 := (p64 hn).1
    have hl := wh2_lt w k S hS
    rw [wh2_s]
    rcases wh2_pop hn k S hS with e | e
    · rw [e]; exact Or.inl e
    · by_cases c : wh1 w n (wh2 w n k S) n = wh2 w n k S
      · rw [c]; exact Or.inl c
      · have hl2 := wh1_lt w hl n
        have o := wh1_or (w := w) hl
        have := pop_or (wh2 w n k S) (by omega) (wh1 w n (wh2 w n k S) n) (by omega) (by rw [o]; exact c)
        rw [o] at this
        exact Or.inr (by omega)
theorem pop_1 : ∀ p, p < 6 → 1 ≤ pop (2 ^ p) := by decide
theorem wh2_cl {w : Nat → Int32} {n p : Nat} (hn : n ≤ 6) (hp : p < n) : wh1 w n (wh2 w n n (2 ^ p)) n = wh2 w n n (2 ^ p) := by
  have h64 := (p64 hn).1
  have h2 : 2 ^ p < 2 ^ n := Nat.pow_lt_pow_right (by decide) hp
  have hl := wh2_lt w n _ h2
  rcases wh2_pop (w := w) hn n (2 ^ p) h2 with e | e
  · exact e
  · have h1 := pop_n n (by omega) _ (by omega) hl
    have := pop_1 p (by omega)
    omega
/-- one round of the reference -/
def rc1 (w : Nat → Int32) (S : Nat) : Nat → Nat
  | 0 => S
  | o + 1 => rc1 w S o ||| (if w (25 + o) &&& nI (rc1 w S o) = 0 then 0 else 2 ^ o)
theorem rc_N {w : Nat → Int32} {S : Nat} : ∀ o, o ≤ 6 → s_reach1 w (nI S) o = nI (rc1 w S o)
  | 0, _ => rfl
  | o + 1, ho => by
    rw [s_reach1, rc1, rc_N o (by omega), ← fa_or]
    split
    · rfl
    · rw [(s_pow (by omega : o ≤ 6)).2]
def rc2 (w : Nat → Int32) (n : Nat) : Nat → Nat → Nat
  | 0, S => S
  | r + 1, S => rc1 w (rc2 w n r S) n
theorem rc2_N {w : Nat → Int32} {n p : Nat} (hn : n ≤ 6) (hp : p < 6) : ∀ r, s_reach w n p r = nI (rc2 w n r (2 ^ p))
  | 0 => (s_pow (by omega : p ≤ 6)).2
  | r + 1 => by rw [s_reach, rc2_N hn hp r, rc_N n hn, rc2]
theorem hr_and {w : Nat → Int32} {n : Nat} (v : VT w n) {o S : Nat} (ho : o < 6) (hS : S < 64) : ¬ w (25 + o) &&& nI S = 0 ↔ ∃ q, S.testBit q = true ∧ s_hears w o q = true := by
  obtain ⟨s, -, s1, s2⟩ := v.he ho
  have hx : s &&& S < 64 := Nat.lt_of_le_of_lt Nat.and_le_left s1
  rw [s2, fa_and]
  constructor
  · intro c
    have c : ¬ s &&& S = 0 := fun z => c (by rw [z]; rfl)
    obtain ⟨i, hi⟩ := Nat.exists_testBit_of_ne_zero c
    rw [Nat.testBit_and, Bool.and_eq_true] at hi
    have h6 := tb_lt (n := 6) hS hi.2
    exact ⟨i, hi.2, by rw [s_hears, s2, bit_n _ (by omega)]; exact hi.1⟩
  · rintro ⟨q, q1, q2⟩ e
    have h6 := tb_lt (n := 6) hS q1
    rw [s_hears, s2, bit_n _ (by omega)] at q2
    have e : s &&& S = 0 := (nI_eq (b := 0) (by omega) (by decide)).mp e
    have : (s &&& S).testBit q = true := by rw [Nat.testBit_and, q1, q2]; rfl
    rw [e, Nat.zero_testBit] at this
    exact absurd this (by decide)
theorem rc1_in {w : Nat → Int32} {n : Nat} (v : VT w n) {C : Nat} (hC : C < 2 ^ n) (hcl : wh1 w n C n = C) {S : Nat} (hS : S < 2 ^ n) (hSC : ∀ i, S.testBit i = true → C.testBit i = true) : ∀ o, o ≤ n → rc1 w S o < 2 ^ n ∧ (∀ i, (rc1 w S o).testBit i = true → C.testBit i = true) ∧ (∀ i, S.testBit i = true → (rc1 w S o).testBit i = true)
  | 0, _ => ⟨hS, hSC, fun i h => h⟩
  | o + 1, ho => by
    have hn := v.1
    have h64 := (p64 hn).1
    obtain ⟨i1, i2, i3⟩ := rc1_in v hC hcl hS hSC o (by omega)
    rw [rc1]
    split
    · rw [Nat.or_zero]; exact ⟨i1, i2, i3⟩
    · rename_i c
      obtain ⟨q, q1, q2⟩ := (hr_and v (by omega) (by omega)).mp c
      refine ⟨Nat.or_lt_two_pow i1 (Nat.pow_lt_pow_right (by decide) (by omega)), fun i h => ?_, fun i h => by rw [Nat.testBit_or, i3 i h]; rfl⟩
      rw [Nat.testBit_or, Bool.or_eq_true] at h
      rcases h with h | h
      · exact i2 i h
      · rw [Nat.testBit_two_pow, decide_eq_true_eq] at h
        rw [← hcl, wh_b hC]
        exact Or.inr ⟨q, i2 q q1, by rw [← h, hbN_b, decide_eq_true (by omega : o < n), q2]; rfl⟩
theorem rc1_ge {w : Nat → Int32} {n : Nat} (v : VT w n) {S : Nat} (hS : S < 2 ^ n) : ∀ m, m ≤ n → rc1 w S m < 2 ^ n ∧ (∀ i, S.testBit i = true → (rc1 w S m).testBit i = true) ∧ ∀ o, o < m → (∃ q, S.testBit q = true ∧ s_hears w o q = true) → (rc1 w S m).testBit o = true
  | 0, _ => ⟨hS, fun i h => h, fun o ho => absurd ho (Nat.not_lt_zero _)⟩
  | m + 1, hm => by
    have hn := v.1
    have h64 := (p64 hn).1
    obtain ⟨i1, i2, i3⟩ := rc1_ge v hS m (by omega)
    refine ⟨?_, fun i h => by rw [rc1, Nat.testBit_or, i2 i h]; rfl, fun o ho hq => ?_⟩
    · rw [rc1]
      split
      · rw [Nat.or_zero]; exact i1
      · exact Nat.or_lt_two_pow i1 (Nat.pow_lt_pow_right (by decide) (by omega))
    · rw [rc1, Nat.testBit_or]
      by_cases e : o = m
      · subst e
        obtain ⟨q, q1, q2⟩ := hq
        rw [if_neg ((hr_and v (by omega) (by omega)).mpr ⟨q, i2 q q1, q2⟩), Nat.testBit_two_pow, decide_eq_true rfl, Bool.or_true]
      · rw [i3 o (by omega) hq]; rfl
theorem rc2_in {w : Nat → Int32} {n : Nat} (v : VT w n) {C : Nat} (hC : C < 2 ^ n) (hcl : wh1 w n C n = C) {S : Nat} (hS : S < 2 ^ n) (hSC : ∀ i, S.testBit i = true → C.testBit i = true) : ∀ r, rc2 w n r S < 2 ^ n ∧ ∀ i, (rc2 w n r S).testBit i = true → C.testBit i = true
  | 0 => ⟨hS, hSC⟩
  | r + 1 => by
    obtain ⟨i1, i2⟩ := rc2_in v hC hcl hS hSC r
    obtain ⟨j1, j2, -⟩ := rc1_in v hC hcl i1 i2 n (Nat.le_refl _)
    exact ⟨j1, j2⟩
theorem rc2_ge {w : Nat → Int32} {n : Nat} (v : VT w n) {S : Nat} (hS : S < 2 ^ n) : ∀ r, rc2 w n r S < 2 ^ n ∧ ∀ i, (wh2 w n r S).testBit i = true → (rc2 w n r S).testBit i = true
  | 0 => ⟨hS, fun i h => h⟩
  | r + 1 => by
    obtain ⟨i1, i2⟩ := rc2_ge v hS r
    obtain ⟨j1, j2, j3⟩ := rc1_ge v i1 n (Nat.le_refl _)
    refine ⟨j1, fun i h => ?_⟩
    rw [wh2_s, wh_b (wh2_lt w r S hS)] at h
    rcases h with h | ⟨q, q1, q2⟩
    · exact j2 i (i2 i h)
    · rw [hbN_b, Bool.and_eq_true, decide_eq_true_eq] at q2
      exact j3 i q2.1 ⟨q, i2 q q1, q2.2⟩
theorem aud {w : Nat → Int32} {n p : Nat} (v : VT w n) (hp : p < n) : s_reach w n p 6 = nI (wh2 w n n (2 ^ p)) := by
  have hn := v.1
  have h2 : 2 ^ p < 2 ^ n := Nat.pow_lt_pow_right (by decide) hp
  rw [rc2_N hn (by omega)]
  congr 1
  apply Nat.eq_of_testBit_eq
  intro i
  rw [Bool.eq_iff_iff]
  constructor
  · exact (rc2_in v (wh2_lt w n _ h2) (wh2_cl hn hp) h2 (fun i h => wh2_ge n _ h2 i h) 6).2 i
  · intro h
    refine (rc2_ge v h2 6).2 i ?_
    have : ∀ k, wh2 w n (n + k) (2 ^ p) = wh2 w n n (2 ^ p) := by
      intro k
      induction k with
      | zero => rfl
      | succ k ih => rw [show n + (k + 1) = (n + k) + 1 from rfl, wh2_s, ih]; exact wh2_cl hn hp
    have e := this (6 - n)
    rw [show n + (6 - n) = 6 by omega] at e
    rw [e]; exact h
theorem c_audience {G : qm_G} (hG : G.2.2.2.2 = true) (d : Nat) (h : qm_H) {P n : Nat} {w : Nat → Int32} (t : TO h P w n) (v : VT w n) {p : Nat} (hp : p < n) : qm_Ev G (d + 2) 0 0 qyX6_audience [.ref P, .int (nI p)] h (fun r h' => r = some (.int (s_reach w n p 6)) ∧ h = h') := by
  have hn := v.1
  rw [aud v hp]
  refine qm_Ev.by (M := mX6_audience) okX6_audience (Nat.le_of_ble_eq_true rfl) hG fun z hA => ?_
  refine qm_wp_ok hA [6] 20 _ _ _ _ _ _ ?_
  have start := qm_for (P := fun k => qm_PW G mX6_audience z 6 0 0 [vr P, vi (nI p), vi (nI (wh2 w n k (2 ^ p))), vi (nI k)] [] h) (N := n) ?_ ?_
  · rw [wh2, ← (s_pow (by omega : p ≤ 6)).2] at start
    exact start
  · exact qm_wp_ok hA [] 20 _ _ _ _ _ _ ⟨t.is, fun _ => ⟨trivial, rfl, rfl⟩, fun (q : ¬ h.1 P 0 ≤ nI n) => absurd (by rw [t.pp]; exact Int32.le_refl _) q⟩
  · intro k hk key
    rw [← nI_1, wh2_s] at key
    refine qm_wp_ok hA [6] 40 _ _ _ _ _ _ ⟨t.is, fun (z0 : h.1 P 0 ≤ nI k) => absurd z0 (by rw [t.pp]; exact nI_ge (by omega) (by omega)), fun _ => ⟨0, 0, _, c_withHearers hG d h t v, ⟨Nat.le_refl _, Nat.le_refl _⟩, ?_⟩⟩
    rintro _ _ ⟨rfl, rfl⟩
    exact key
