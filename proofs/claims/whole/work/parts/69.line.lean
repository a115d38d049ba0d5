/-! the reference: faults, numbers; words by their numbers -/
theorem tB_le {B : Nat → Nat} {L a : Nat} (ha : a ≤ L) : a ≤ tB B L a ∧ tB B L a ≤ L := by
  obtain ⟨b1, b2, b3⟩ := ru_spec (p := pB B L) L a (fun j hj => pB_no (by omega))
  rw [← tB] at b1 b2 b3
  refine ⟨b1, ?_⟩
  rcases Nat.lt_or_ge L (tB B L a) with e | e
  · have := b2 L ha e
    rw [pB_no (Nat.le_refl _)] at this
    exact absurd this (by decide)
  · exact e
theorem ru_le {p : Nat → Bool} {L b : Nat} (hp : ∀ j, L ≤ j → p j = false) (hb : b ≤ L) : b ≤ ru p L b ∧ ru p L b ≤ L ∧ (p b = true → b < ru p L b) ∧ ∀ j, b ≤ j → j < ru p L b → p j = true := by
  obtain ⟨e1, e2, e3⟩ := ru_spec (p := p) L b (fun j hj => hp j (by omega))
  refine ⟨e1, ?_, fun h => ?_, e2⟩
  · rcases Nat.lt_or_ge L (ru p L b) with q | q
    · have := e2 L hb q
      rw [hp L (Nat.le_refl _)] at this
      exact absurd this (by decide)
    · exact q
  · rcases Nat.lt_or_ge b (ru p L b) with q | q
    · exact q
    · rw [show ru p L b = b by omega] at e3
      rw [e3] at h
      exact absurd h (by decide)
theorem tE_lt {B : Nat → Nat} {L a : Nat} (ha : a ≤ L) : tB B L a ≤ tE B L a ∧ tE B L a ≤ L ∧ (tK B L a ≠ 0 → tB B L a < tE B L a) ∧ (tK B L a = 2 → ∀ j, tB B L a ≤ j → j < tE B L a → pL B L j = true) ∧ (tK B L a = 3 → tE B L a - tB B L a ≤ 2 ∧ ∀ j, tB B L a ≤ j → j < tE B L a → pD B L j = true) ∧ tK B L a ≤ 4 := by
  obtain ⟨b1, b2⟩ := tB_le (B := B) ha
  rw [tE, tK]
  obtain ⟨b, hb⟩ : ∃ b, b = tB B L a := ⟨_, rfl⟩
  rw [← hb] at b2 ⊢
  rw [tKE]
  by_cases c1 : b < L
  · rw [if_pos c1]
    by_cases c2 : pL B L b = true
    · rw [if_pos c2]
      obtain ⟨r1, r2, r3, r4⟩ := ru_le (p := pL B L) (L := L) (fun j hj => pL_no hj) b2
      exact ⟨r1, r2, fun _ => r3 c2, fun _ => r4, fun q => absurd (show 2 = 3 from q) (by decide), (by decide : 2 ≤ 4)⟩
    · rw [if_neg c2]
      by_cases c3 : pD B L b = true
      · rw [if_pos c3]
        obtain ⟨r1, r2, r3, r4⟩ := ru_le (p := pD B L) (L := L) (fun j hj => pD_no hj) b2
        refine ⟨r1, r2, fun _ => r3 c3, fun q => ?_, fun q => ⟨?_, r4⟩, ?_⟩
        · exfalso
          have q : (if ru (pD B L) L b - b ≤ 2 then 3 else 1) = 2 := q
          split at q <;> omega
        · have q : (if ru (pD B L) L b - b ≤ 2 then 3 else 1) = 3 := q
          split at q
          · assumption
          · omega
        · show (if ru (pD B L) L b - b ≤ 2 then 3 else 1) ≤ 4
          split <;> omega
      · rw [if_neg c3]
        refine ⟨by show b ≤ b + 1; omega, by show b + 1 ≤ L; omega, fun _ => by show b < b + 1; omega, fun q => ?_, fun q => ?_, ?_⟩
        · exfalso
          have q : (if B b = 59 then 4 else 1) = 2 := q
          split at q <;> omega
        · exfalso
          have q : (if B b = 59 then 4 else 1) = 3 := q
          split at q <;> omega
        · show (if B b = 59 then 4 else 1) ≤ 4
          split <;> omega
  · rw [if_neg c1]
    exact ⟨Nat.le_refl _, b2, fun q => absurd rfl q, fun q => absurd (show 0 = 2 from q) (by decide), fun q => absurd (show 0 = 3 from q) (by decide), (by decide : 0 ≤ 4)⟩
theorem tV_le {B : Nat → Nat} {L a : Nat} (ha : a ≤ L) (h : tK B L a = 3) : tV B L a ≤ 99 := by
  obtain ⟨e1, e2, -, -, e5, -⟩ := tE_lt (B := B) ha
  obtain ⟨e6, e7⟩ := e5 h
  rw [tV]
  refine (nv_le (B := B) (b := tB B L a) _ fun j hj => ?_).1
  have := e7 (tB B L a + j) (by omega) (by omega)
  rw [pD, Bool.and_eq_true, Bool.and_eq_true, decide_eq_true_eq, decide_eq_true_eq, decide_eq_true_eq] at this
  exact this.2
/-! words -/
def wr (B : Nat → Nat) (b : Nat) : Nat → List Nat
  | 0 => []
  | n + 1 => B (b + n) :: wr B b n
def hr : List Nat → Nat
  | [] => 0
  | x :: l => x + 256 * hr l
def nm (i : Nat) : List Nat := match i with
  | 0 => [110, 111, 115, 114, 101, 112]
  | 1 => [104, 116, 114, 111, 119]
  | 2 => [115, 119, 111, 108, 108, 111, 102]
  | 3 => [115, 119, 111, 110, 107]
  | 4 => [115, 114, 97, 101, 104]
  | 5 => [108, 108, 101, 116]
  | 6 => [107, 115, 97]
  | 7 => [101, 101, 115]
  | 8 => [108, 108, 101, 115]
  | 9 => [101, 118, 101]
  | 10 => [100, 101, 107, 115, 97]
  | _ => [100, 108, 111, 116]
def wc (i : Nat) : Int64 := lN (hr (nm i))
theorem hr_inj : ∀ l l' : List Nat, (∀ x, x ∈ l → 0 < x ∧ x < 256) → (∀ x, x ∈ l' → 0 < x ∧ x < 256) → hr l = hr l' → l = l'
  | [], [], _, _, _ => rfl
  | [], y :: l', _, h2, e => by have := h2 y List.mem_cons_self; rw [hr, hr] at e; omega
  | x :: l, [], h1, _, e => by have := h1 x List.mem_cons_self; rw [hr, hr] at e; omega
  | x :: l, y :: l', h1, h2, e => by
    have := h1 x List.mem_cons_self
    have := h2 y List.mem_cons_self
    rw [hr, hr] at e
    rw [show x = y by omega, hr_inj l l' (fun z hz => h1 z (List.mem_cons_of_mem _ hz)) (fun z hz => h2 z (List.mem_cons_of_mem _ hz)) (by omega)]
theorem hr_lt : ∀ l : List Nat, (∀ x, x ∈ l → x < 256) → hr l < 256 ^ l.length
  | [], _ => by rw [hr]; exact Nat.one_pos
  | x :: l, h => by
    have h1 := hr_lt l (fun z hz => h z (List.mem_cons_of_mem _ hz))
    have h2 := h x List.mem_cons_self
    rw [hr, List.length_cons, Nat.pow_succ]
    omega
theorem wr_len (B : Nat → Nat) (b : Nat) : ∀ n, (wr B b n).length = n
  | 0 => rfl
  | n + 1 => by rw [wr, List.length_cons, wr_len B b n]
theorem wr_mem {B : Nat → Nat} {b x : Nat} : ∀ {n}, x ∈ wr B b n → ∃ j, j < n ∧ x = B (b + j)
  | 0, h => by rw [wr] at h; cases h
  | n + 1, h => by
    rw [wr] at h
    rcases List.mem_cons.mp h with e | e
    · exact ⟨n, by omega, e⟩
    · obtain ⟨j, h1, h2⟩ := wr_mem e
      exact ⟨j, by omega, h2⟩
theorem lb_v (n : Nat) : (lN n).toBitVec = BitVec.ofNat 64 n := rfl
theorem lb_n {n : Nat} (h : n < 2 ^ 64) : (lN n).toBitVec.toNat = n := by
  rw [lb_v, BitVec.toNat_ofNat]
  exact Nat.mod_eq_of_lt h
theorem l_sh8 (x : Nat) (y : Nat) (hy : y < 256) : (lN x <<< ((8 : Int32).toInt64 &&& 63)) ||| (nI y).toInt64 = lN (256 * x + y) := by
  rw [nI_l (by omega)]
  apply Int64.toBitVec_inj.1
  rw [Int64.toBitVec_or, Int64.toBitVec_shiftLeft, lb_v, lb_v, lb_v]
  have e8 : (((8 : Int32).toInt64 &&& 63).toBitVec.smod 64).toNat = 8 := by decide
  apply BitVec.eq_of_getLsbD_eq
  intro i hi
  rw [BitVec.getLsbD_or, BitVec.shiftLeft_eq', e8, BitVec.getLsbD_shiftLeft, BitVec.getLsbD_ofNat, BitVec.getLsbD_ofNat, BitVec.getLsbD_ofNat]
  rw [show 256 * x + y = 2 ^ 8 * x + y from rfl, Nat.testBit_two_pow_mul_add x (by omega : y < 2 ^ 8) i]
  by_cases c : i < 8
  · simp [c, hi]
  · have : y.testBit i = false := Nat.testBit_lt_two_pow (Nat.lt_of_lt_of_le hy (by
      calc 256 = 2 ^ 8 := rfl
        _ ≤ 2 ^ i := Nat.pow_le_pow_right (by decide) (by omega)))
    simp [c, hi, this]
    omega
theorem hs_N {B : Nat → Nat} {b : Nat} : ∀ n, (∀ j, j < n → B (b + j) < 256) → hs B b n = lN (hr (wr B b n))
  | 0, _ => rfl
  | n + 1, h => by
    rw [hs, hs_N n (fun j hj => h j (by omega)), l_sh8 _ _ (h n (by omega)), wr, hr, Nat.add_comm]
def wrd (B : Nat → Nat) (L a : Nat) : List Nat := if tK B L a = 2 then wr B (tB B L a) (tE B L a - tB B L a) else []
def hv (B : Nat → Nat) (L a : Nat) : Int64 := if tK B L a = 2 then wH B (tB B L a) (tE B L a) else 0
theorem nm_ok : ∀ i, i < 12 → (∀ x, x ∈ nm i → 0 < x ∧ x < 256) ∧ (nm i).length ≤ 8 ∧ nm i ≠ [] ∧ hr (nm i) < 2 ^ 63 ∧ hr (nm i) ≠ 0 := by decide
theorem hv_w {B : Nat → Nat} {L a : Nat} (ha : a ≤ L) {i : Nat} (hi : i < 12) : hv B L a = wc i ↔ wrd B L a = nm i := by
  obtain ⟨n1, n2, n3, n4, n5⟩ := nm_ok i hi
  rw [hv, wrd]
  by_cases c : tK B L a = 2
  · rw [if_pos c, if_pos c]
    obtain ⟨e1, e2, -, e4, -⟩ := tE_lt (B := B) ha
    have hl : ∀ j, j < tE B L a - tB B L a → 97 ≤ B (tB B L a + j) ∧ B (tB B L a + j) ≤ 122 := fun j hj => by
      have := e4 c (tB B L a + j) (by omega) (by omega)
      rw [pL, Bool.and_eq_true, Bool.and_eq_true, decide_eq_true_eq, decide_eq_true_eq, decide_eq_true_eq] at this
      exact this.2
    have hm : ∀ x, x ∈ wr B (tB B L a) (tE B L a - tB B L a) → 0 < x ∧ x < 256 := fun x hx => by
      obtain ⟨j, j1, j2⟩ := wr_mem hx
      have := hl j j1
      omega
    rw [wH]
    by_cases c8 : tE B L a - tB B L a ≤ 8
    · rw [if_pos c8, hs_N _ (fun j hj => by have := hl j hj; omega), wc]
      constructor
      · intro q
        refine hr_inj _ _ hm n1 ?_
        have h1 := hr_lt (wr B (tB B L a) (tE B L a - tB B L a)) (fun x hx => (hm x hx).2)
        rw [wr_len] at h1
        have h2 : hr (wr B (tB B L a) (tE B L a - tB B L a)) < 2 ^ 64 := Nat.lt_of_lt_of_le h1 (by
          calc 256 ^ (tE B L a - tB B L a) ≤ 256 ^ 8 := Nat.pow_le_pow_right (by decide) c8
            _ = 2 ^ 64 := by decide)
        have := congrArg (fun v => v.toBitVec.toNat) q
        simp only [lb_n h2, lb_n (show hr (nm i) < 2 ^ 64 by omega)] at this
        exact this
      · intro q
        rw [q]
    · rw [if_neg c8]
      constructor
      · intro q
        exfalso
        rw [wc, show (0 : Int64) = lN 0 from rfl] at q
        have := congrArg (fun v => v.toBitVec.toNat) q
        simp only [lb_n (show 0 < 2 ^ 64 by decide), lb_n (show hr (nm i) < 2 ^ 64 by omega)] at this
        omega
      · intro q
        have := congrArg List.length q
        rw [wr_len] at this
        omega
  · rw [if_neg c, if_neg c]
    constructor
    · intro q
      exfalso
      rw [wc, show (0 : Int64) = lN 0 from rfl] at q
      have := congrArg (fun v => v.toBitVec.toNat) q
      simp only [lb_n (show 0 < 2 ^ 64 by decide), lb_n (show hr (nm i) < 2 ^ 64 by omega)] at this
      omega
    · intro q
      exact absurd q.symm n3
