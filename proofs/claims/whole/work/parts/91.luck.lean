/-! the class: luck -/
theorem bit_1 {f k : Nat} (hf : f < 6) (hk : k < 32) : bit ((1 : Int32) <<< (nI f &&& 31)) (nI k) = decide (f = k) := by
  rw [(s_pow (by omega : f ≤ 6)).2, bit_n _ hk, Nat.testBit_two_pow]
theorem bit_hi {x : Int32} {s k : Nat} (hx : x = nI s) (hs : s < 64) (h6 : 6 ≤ k) (hk : k < 32) : bit x (nI k) = false := by
  rw [hx, bit_n _ hk]
  exact Nat.testBit_lt_two_pow (Nat.lt_of_lt_of_le hs (Nat.pow_le_pow_right (n := 2) (by decide) h6))
theorem fresh_0 {w : Nat → Int32} {n : Nat} (v : VT w n) {q f : Nat} (hq : q < 6) (hf : f < 6) : (s_whole w f &&& (mi0 w q ^^^ -1)) = 0 ↔ bit (mi0 w q) (nI f) = true := by
  constructor
  · intro e
    have h1 : bit (s_whole w f &&& (mi0 w q ^^^ -1)) (nI f) = false := by rw [e, bit_0 (by omega)]
    rw [bit_and _ _ (by omega), bit_not _ (by omega), s_whole, bit_or _ _ (by omega), bit_1 hf (by omega), decide_eq_true rfl, Bool.true_or, Bool.true_and] at h1
    simpa using h1
  · intro hb
    obtain ⟨s, s1, s2⟩ := v.wh hf
    apply bit_ext
    intro k hk
    rw [bit_and _ _ hk, bit_not _ hk, bit_0 hk]
    rcases Nat.lt_or_ge k 6 with h6 | h6
    · cases c : bit (s_whole w f) (nI k) with
      | false => rfl
      | true =>
        rw [s_whole, bit_or _ _ hk, bit_1 hf hk, Bool.or_eq_true, decide_eq_true_eq] at c
        have : bit (mi0 w q) (nI k) = true := by
          rcases c with c | c
          · rw [← c]; exact hb
          · exact v.2.2.2.2.2.2.2.2 q f k hq hf h6 hb c
        rw [this]; rfl
    · rw [bit_hi s2 s1 h6 hk]; rfl
theorem fresh_N {w : Nat → Int32} {n : Nat} (v : VT w n) {q p : Nat} (hq : q < 6) : ∀ k, k ≤ 6 → s_fresh w (mi0 w) q p k = if s_hears w q p then onesN (mi0 w p &&& (mi0 w q ^^^ -1)) k else 0
  | 0, _ => by rw [s_fresh, onesN]; split <;> rfl
  | k + 1, hk => by
    rw [s_fresh, fresh_N v hq k (by omega), onesN, bit_and _ _ (by omega), bit_not _ (by omega)]
    have f0 := fresh_0 v hq (by omega : k < 6)
    simp only [f0]
    cases q1 : s_hears w q p <;> cases q2 : bit (mi0 w p) (nI k) <;> cases q3 : bit (mi0 w q) (nI k) <;> simp
theorem sixty : ∀ a, a ≤ 6 → ∀ k, k ≤ 6 → 0 < a → 60 / a * k = 60 * k / a := by decide
theorem c_luck60 {G : qm_G} (hG : G.2.2.2.2 = true) (d : Nat) (h : qm_H) {P n : Nat} {w : Nat → Int32} (t : TO h P w n) (v : VT w n) {q : Nat} (hq : q < n) : qm_Ev G (d + 1) 0 0 qyX8_sixtiethsOfLuck [.ref P, .int (nI q)] h (fun r h' => r = some (.long (lN (s_lucks w (mi0 w) q n))) ∧ h = h') := by
  have hn := v.1
  refine qm_Ev.by (M := mX8_sixtiethsOfLuck) okX8_sixtiethsOfLuck (Nat.le_of_ble_eq_true rfl) hG fun z hA => ?_
  refine qm_wp_ok hA [10] 20 _ _ _ _ _ _ ?_
  refine ⟨t.is, 0, 0, _, c_has hG d h t hn (nI q), ⟨Nat.le_refl _, Nat.le_refl _⟩, ?_⟩
  rintro _ _ ⟨rfl, rfl⟩
  rw [inb_n (by omega) hq]
  refine ⟨fun _ => ?_, fun c => absurd c (by decide)⟩
  refine qm_for (P := fun p => qm_PW G mX8_sixtiethsOfLuck z 10 0 0 [vr P, vi (nI q), vl (lN (s_lucks w (mi0 w) q p)), vu, vi (nI p), vu] [] h) (N := n) ?_ ?_
  · exact qm_wp_ok hA [] 20 _ _ _ _ _ _ ⟨t.is, fun _ => ⟨rfl, rfl, rfl⟩, fun (q : ¬ h.1 P 0 ≤ nI n) => absurd (by rw [t.pp]; exact Int32.le_refl _) q⟩
  · intro p hp key
    rw [← nI_1, s_lucks, fresh_N v (by omega) 6 (Nat.le_refl _)] at key
    have e4 : h.1 (P + 4) (nI p).toNatClampNeg = mi0 w p := (t.at (by omega : p < 6)).2.2.2.1
    have e4q : h.1 (P + 4) (nI q).toNatClampNeg = mi0 w q := (t.at (by omega : q < 6)).2.2.2.1
    obtain ⟨s, s1, s2⟩ := v.kn (by omega : p < 6)
    obtain ⟨u, u1, u2⟩ := lt_and s2 s1 (mi0 w q ^^^ -1)
    have a6 := onesN_le (mi0 w p) 6
    have k6 := onesN_le (mi0 w p &&& (mi0 w q ^^^ -1)) 6
    refine qm_wp_ok hA [10] 80 _ _ _ _ _ _ ⟨t.is, fun (z0 : h.1 P 0 ≤ nI p) => absurd z0 (by rw [t.pp]; exact nI_ge hp (by omega)), fun _ => ⟨t.is, _, t.rd (k := 4) (by decide) (by decide), t.ar (k := 4) (by decide) (by decide), t.ln (k := 4) (by decide) (by decide) (by omega), 0, 0, _, c_bcX hG _ h _ (e4.trans s2) s1, ⟨Nat.le_refl _, Nat.le_refl _⟩, ?_⟩⟩
    rintro _ _ ⟨rfl, rfl⟩
    rw [e4, ones_N]
    refine ⟨t.is, _, t.rd (k := 5) (by decide) (by decide), t.ar (k := 5) (by decide) (by decide), t.ln (k := 5) (by decide) (by decide) (by omega), 0, 0, _, c_isIn hG d h _ (nI p), ⟨Nat.le_refl _, Nat.le_refl _⟩, ?_⟩
    rintro _ _ ⟨rfl, rfl⟩
    rw [(t.at (by omega : q < 6)).2.2.2.2.1]
    refine b2_eq (fun hb => ?_) (fun hb => ?_)
    · rw [if_pos (show s_hears w q p = true from hb)] at key
      refine ⟨fun (c : nI (onesN (mi0 w p) 6) ≤ 0) => ?_, fun (c : ¬ nI (onesN (mi0 w p) 6) ≤ 0) => ?_⟩
      · have a0 : onesN (mi0 w p) 6 = 0 := by
          have := (nI_leI (b := 0) (by omega) (by decide)).mp c
          omega
        rw [a0, Nat.div_zero, Nat.add_zero] at key
        exact key.mask [true, true, true, true, true, false]
      · have a0 : 0 < onesN (mi0 w p) 6 := by
          rcases Nat.eq_zero_or_pos (onesN (mi0 w p) 6) with z | z
          · rw [z] at c; exact absurd (Int32.le_refl _) c
          · exact z
        refine ⟨nI_ne0 a0 (by omega), t.is, _, t.rd (k := 4) (by decide) (by decide), t.ar (k := 4) (by decide) (by decide), t.ln (k := 4) (by decide) (by decide) (by omega), t.is, _, t.rd (k := 4) (by decide) (by decide), t.ar (k := 4) (by decide) (by decide), t.ln (k := 4) (by decide) (by decide) (by omega), 0, 0, _, c_bcX hG _ h _ (show h.1 (P + 4) (nI p).toNatClampNeg &&& (h.1 (P + 4) (nI q).toNatClampNeg ^^^ -1) = nI u by rw [e4, e4q, u2]) u1, ⟨Nat.le_refl _, Nat.le_refl _⟩, ?_⟩
        rintro _ _ ⟨rfl, rfl⟩
        rw [← sixty _ a6 _ k6 a0, ← lN_add] at key
        have ev : ((60 : Int32) / nI (onesN (mi0 w p) 6) * ones (h.1 (P + 4) (nI p).toNatClampNeg &&& (h.1 (P + 4) (nI q).toNatClampNeg ^^^ -1)) 6).toInt64 = lN (60 / onesN (mi0 w p) 6 * onesN (mi0 w p &&& (mi0 w q ^^^ -1)) 6) := by
          rw [e4, e4q, ones_N, show (60 : Int32) = nI 60 from rfl, pk_div (by decide) a0 (by omega), pk_mul, nI_l]
          have := Nat.mul_le_mul (Nat.div_le_self 60 (onesN (mi0 w p) 6)) k6
          omega
        rw [← ev] at key
        exact key.mask [true, true, true, true, true, false]
    · rw [if_neg (by rw [show s_hears w q p = false from hb]; decide), Nat.mul_zero, Nat.zero_div, Nat.add_zero] at key
      exact key.mask [true, true, true, true, true, false]
