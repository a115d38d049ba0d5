/-! how many bits: the JDK's counts -/
def pcN (x : Nat) : Nat → Nat
  | 0 => 0
  | k + 1 => pcN x k + (if x.testBit k then 1 else 0)
def mk8 (c : Nat) : Nat → Nat
  | 0 => 0
  | k + 1 => c + 256 * mk8 c k
def g1 (k x : Nat) : Nat := x - (x / 2 &&& mk8 85 k)
def g2 (k x : Nat) : Nat := (x &&& mk8 51 k) + (x / 4 &&& mk8 51 k)
def g3 (k x : Nat) : Nat := (x + x / 16) &&& mk8 15 k
def p8 (b : Nat) : Nat := ((((b - (b / 2 &&& 85)) &&& 51) + ((b - (b / 2 &&& 85)) / 4 &&& 51)) + (((b - (b / 2 &&& 85)) &&& 51) + ((b - (b / 2 &&& 85)) / 4 &&& 51)) / 16) &&& 15
theorem and_by {c : Nat} (hc : c < 256) (x m : Nat) : x &&& (c + 256 * m) = (x % 256 &&& c) + 256 * (x / 256 &&& m) := by
  have h1 : (x &&& (c + 256 * m)) / 2 ^ 8 = x / 2 ^ 8 &&& (c + 256 * m) / 2 ^ 8 := Nat.and_div_two_pow
  have h2 : (x &&& (c + 256 * m)) % 2 ^ 8 = (x % 2 ^ 8) &&& ((c + 256 * m) % 2 ^ 8) := Nat.and_mod_two_pow
  have e1 : (c + 256 * m) / 2 ^ 8 = m := by omega
  have e2 : (c + 256 * m) % 2 ^ 8 = c := by omega
  rw [e1] at h1
  rw [e2] at h2
  have h3 := Nat.div_add_mod (x &&& (c + 256 * m)) (2 ^ 8)
  have e3 : (2 : Nat) ^ 8 = 256 := rfl
  rw [e3] at h1 h2 h3
  omega
theorem d85 : ∀ b, b < 256 → ∀ e, e < 2 → (b / 2 + 128 * e) &&& 85 = b / 2 &&& 85 := by decide +kernel
theorem d51 : ∀ b, b < 256 → ∀ e, e < 4 → (b / 4 + 64 * e) &&& 51 = b / 4 &&& 51 := by decide +kernel
theorem d51l : ∀ b, b < 256 → (b &&& 51) + (b / 4 &&& 51) ≤ 102 ∧ ((b &&& 51) + (b / 4 &&& 51)) % 16 ≤ 6 := by decide +kernel
theorem d15 : ∀ u, u < 103 → ∀ e, e < 7 → (u + u / 16 + 16 * e) &&& 15 = (u + u / 16) &&& 15 := by decide +kernel
theorem d8 : ∀ b, b < 256 → p8 b = pcN b 8 ∧ p8 b ≤ 8 := by decide +kernel
theorem and_le1 (a b : Nat) : a &&& b ≤ a := Nat.and_le_left
theorem g1_s (k b q : Nat) (hb : b < 256) : g1 (k + 1) (b + 256 * q) = (b - (b / 2 &&& 85)) + 256 * g1 k q := by
  rw [g1, mk8, and_by (by decide)]
  have e1 : (b + 256 * q) / 2 % 256 = b / 2 + 128 * (q % 2) := by omega
  have e2 : (b + 256 * q) / 2 / 256 = q / 2 := by omega
  rw [e1, e2, d85 b hb _ (Nat.mod_lt _ (by decide)), g1]
  have h1 := and_le1 (b / 2) 85
  have h2 := and_le1 (q / 2) (mk8 85 k)
  omega
theorem g2_s (k c r : Nat) (hc : c < 256) : g2 (k + 1) (c + 256 * r) = ((c &&& 51) + (c / 4 &&& 51)) + 256 * g2 k r := by
  rw [g2, mk8, and_by (by decide), and_by (by decide)]
  have e1 : (c + 256 * r) / 4 % 256 = c / 4 + 64 * (r % 4) := by omega
  have e2 : (c + 256 * r) / 4 / 256 = r / 4 := by omega
  have e3 : (c + 256 * r) % 256 = c := by omega
  have e4 : (c + 256 * r) / 256 = r := by omega
  rw [e1, e2, e3, e4, d51 c hc _ (Nat.mod_lt _ (by decide)), g2]
  omega
theorem g2_m (k r : Nat) : g2 k r % 16 ≤ 6 := by
  cases k with
  | zero => rw [g2, mk8, Nat.and_zero, Nat.and_zero]; decide
  | succ k =>
    have e : r = r % 256 + 256 * (r / 256) := by omega
    rw [e, g2_s k _ _ (Nat.mod_lt _ (by decide))]
    have := (d51l (r % 256) (Nat.mod_lt _ (by decide))).2
    omega
theorem g3_s (k u v : Nat) (hu : u ≤ 102) (hv : v % 16 ≤ 6) : g3 (k + 1) (u + 256 * v) = ((u + u / 16) &&& 15) + 256 * g3 k v := by
  rw [g3, mk8, and_by (by decide)]
  have e1 : (u + 256 * v + (u + 256 * v) / 16) % 256 = u + u / 16 + 16 * (v % 16) := by omega
  have e2 : (u + 256 * v + (u + 256 * v) / 16) / 256 = v + v / 16 := by omega
  rw [e1, e2, d15 u (by omega) _ (by omega), g3]
theorem g123 (k b q : Nat) (hb : b < 256) : g3 (k + 1) (g2 (k + 1) (g1 (k + 1) (b + 256 * q))) = p8 b + 256 * g3 k (g2 k (g1 k q)) := by
  have hc : b - (b / 2 &&& 85) < 256 := by omega
  rw [g1_s k b q hb, g2_s k _ _ hc, g3_s k _ _ (d51l _ hc).1 (g2_m k _)]
  rfl
def by8 (x j : Nat) : Nat := x / 256 ^ j % 256
theorem g8 (x : Nat) (hx : x < 2 ^ 64) : g3 8 (g2 8 (g1 8 x)) = p8 (by8 x 0) + 256 * (p8 (by8 x 1) + 256 * (p8 (by8 x 2) + 256 * (p8 (by8 x 3) + 256 * (p8 (by8 x 4) + 256 * (p8 (by8 x 5) + 256 * (p8 (by8 x 6) + 256 * (p8 (by8 x 7)))))))) := by
  have hb : ∀ y j, by8 y j < 256 := fun y j => Nat.mod_lt _ (by decide)
  have key : x = by8 x 0 + 256 * (by8 x 1 + 256 * (by8 x 2 + 256 * (by8 x 3 + 256 * (by8 x 4 + 256 * (by8 x 5 + 256 * (by8 x 6 + 256 * (by8 x 7 + 256 * 0))))))) := by
    simp only [by8, Nat.reducePow]
    omega
  have e0 : g3 0 (g2 0 (g1 0 0)) = 0 := rfl
  have h0 := hb x 0
  have h1 := hb x 1
  have h2 := hb x 2
  have h3 := hb x 3
  have h4 := hb x 4
  have h5 := hb x 5
  have h6 := hb x 6
  have h7 := hb x 7
  generalize by8 x 0 = b0 at *
  generalize by8 x 1 = b1 at *
  generalize by8 x 2 = b2' at *
  generalize by8 x 3 = b3 at *
  generalize by8 x 4 = b4 at *
  generalize by8 x 5 = b5 at *
  generalize by8 x 6 = b6 at *
  generalize by8 x 7 = b7 at *
  rw [key, g123 7 _ _ h0, g123 6 _ _ h1, g123 5 _ _ h2, g123 4 _ _ h3, g123 3 _ _ h4, g123 2 _ _ h5, g123 1 _ _ h6, g123 0 _ _ h7, e0, Nat.mul_zero, Nat.add_zero]
theorem pcN_8 (x : Nat) : ∀ m, pcN x (8 + m) = pcN (x % 256) 8 + pcN (x / 256) m
  | 0 => by
    have h : ∀ k, k ≤ 8 → pcN x k = pcN (x % 256) k := by
      intro k
      induction k with
      | zero => intro _; rfl
      | succ k ih =>
        intro hk
        have e : (x % 2 ^ 8).testBit k = (decide (k < 8) && x.testBit k) := Nat.testBit_mod_two_pow x 8 k
        rw [decide_eq_true (by omega : k < 8), Bool.true_and] at e
        rw [pcN, pcN, ih (by omega), show x % 256 = x % 2 ^ 8 from rfl, e]
    rw [Nat.add_zero, h 8 (Nat.le_refl _)]; rfl
  | m + 1 => by
    have e : (x / 2 ^ 8).testBit m = x.testBit (8 + m) := by rw [Nat.testBit_div_two_pow, Nat.add_comm]
    rw [show 8 + (m + 1) = (8 + m) + 1 from rfl, pcN, pcN_8 x m, pcN, show x / 256 = x / 2 ^ 8 from rfl, e]
    omega
theorem pcN_64 (x : Nat) (hx : x < 2 ^ 64) : pcN x 64 = p8 (by8 x 0) + p8 (by8 x 1) + p8 (by8 x 2) + p8 (by8 x 3) + p8 (by8 x 4) + p8 (by8 x 5) + p8 (by8 x 6) + p8 (by8 x 7) := by
  have hb : ∀ j, p8 (by8 x j) = pcN (x / 256 ^ j % 256) 8 := fun j => (d8 _ (Nat.mod_lt _ (by decide))).1
  have e : ∀ j, x / 256 ^ j / 256 = x / 256 ^ (j + 1) := fun j => by rw [Nat.div_div_eq_div_mul, Nat.pow_succ]
  have s : ∀ j m, pcN (x / 256 ^ j) (8 + m) = p8 (by8 x j) + pcN (x / 256 ^ (j + 1)) m := fun j m => by rw [pcN_8, hb, e]
  have e0 : x = x / 256 ^ 0 := by rw [Nat.pow_zero, Nat.div_one]
  have : pcN x 64 = pcN (x / 256 ^ 0) (8 + (8 + (8 + (8 + (8 + (8 + (8 + (8 + 0)))))))) := by rw [← e0]
  rw [this, s, s, s, s, s, s, s, s, pcN]
  omega
def ul (x : Int64) (k : Int32) : Int64 := (x.toUInt64 >>> (k.toInt64.toUInt64 &&& Int64.toUInt64 63)).toInt64
theorem ul_n (x : Int64) (s : Int32) (k : Nat) (hs : ((s.toInt64.toUInt64 &&& Int64.toUInt64 63).toBitVec % 64).toNat = k) : (ul x s).toBitVec.toNat = x.toBitVec.toNat / 2 ^ k := by
  have e : (ul x s).toBitVec = x.toBitVec >>> k := by
    rw [← hs]
    exact UInt64.toBitVec_shiftRight _ _
  rw [e, BitVec.toNat_ushiftRight, Nat.shiftRight_eq_div_pow]
def lb1 (x : Int64) : Int64 := x - (ul x 1 &&& 6148914691236517205)
def lb2 (x : Int64) : Int64 := (x &&& 3689348814741910323) + (ul x 2 &&& 3689348814741910323)
def lb3 (x : Int64) : Int64 := (x + ul x 4) &&& 1085102592571150095
def lb4 (x : Int64) : Int64 := x + ul x 8
def lb5 (x : Int64) : Int64 := x + ul x 16
def lb6 (x : Int64) : Int64 := x + ul x 32
def lbc (x : Int64) : Int32 := (lb6 (lb5 (lb4 (lb3 (lb2 (lb1 x)))))).toInt32 &&& 127
theorem n64 (x : Int64) : x.toBitVec.toNat < 2 ^ 64 := x.toBitVec.isLt
theorem lb1_n (x : Int64) : (lb1 x).toBitVec.toNat = g1 8 x.toBitVec.toNat := by
  have e1 : (ul x 1 &&& 6148914691236517205).toBitVec.toNat = x.toBitVec.toNat / 2 &&& mk8 85 8 := by
    rw [Int64.toBitVec_and, BitVec.toNat_and, ul_n x 1 1 (by decide)]
    rfl
  rw [lb1, Int64.toBitVec_sub, BitVec.toNat_sub_of_le, e1]
  · rfl
  · rw [BitVec.le_def, e1]
    have := and_le1 (x.toBitVec.toNat / 2) (mk8 85 8)
    omega
theorem lb2_n (x : Int64) : (lb2 x).toBitVec.toNat = g2 8 x.toBitVec.toNat := by
  have e1 : (ul x 2 &&& 3689348814741910323).toBitVec.toNat = x.toBitVec.toNat / 4 &&& mk8 51 8 := by
    rw [Int64.toBitVec_and, BitVec.toNat_and, ul_n x 2 2 (by decide)]
    rfl
  have e2 : (x &&& 3689348814741910323).toBitVec.toNat = x.toBitVec.toNat &&& mk8 51 8 := by
    rw [Int64.toBitVec_and, BitVec.toNat_and]
    rfl
  have h1 : x.toBitVec.toNat / 4 &&& mk8 51 8 ≤ mk8 51 8 := Nat.and_le_right
  have h2 : x.toBitVec.toNat &&& mk8 51 8 ≤ mk8 51 8 := Nat.and_le_right
  have h3 : mk8 51 8 = 3689348814741910323 := rfl
  rw [lb2, Int64.toBitVec_add, BitVec.toNat_add, e1, e2, Nat.mod_eq_of_lt (by omega), g2]
theorem lb3_n (x : Int64) (hx : x.toBitVec.toNat < 2 ^ 63) : (lb3 x).toBitVec.toNat = g3 8 x.toBitVec.toNat := by
  rw [lb3, Int64.toBitVec_and, BitVec.toNat_and, Int64.toBitVec_add, BitVec.toNat_add, ul_n x 4 4 (by decide), Nat.mod_eq_of_lt (by omega)]
  rfl
theorem lbs_n (x : Int64) (s : Int32) (k : Nat) (hs : ((s.toInt64.toUInt64 &&& Int64.toUInt64 63).toBitVec % 64).toNat = k) (hk : 1 ≤ k) (hx : x.toBitVec.toNat < 2 ^ 63) : (x + ul x s).toBitVec.toNat = x.toBitVec.toNat + x.toBitVec.toNat / 2 ^ k := by
  have h1 : x.toBitVec.toNat / 2 ^ k ≤ x.toBitVec.toNat := Nat.div_le_self _ _
  rw [Int64.toBitVec_add, BitVec.toNat_add, ul_n x s k hs, Nat.mod_eq_of_lt (by omega)]
theorem lbc_N (x : Int64) : lbc x = nI (pcN x.toBitVec.toNat 64) := by
  have hx := n64 x
  have q1 := lb1_n x
  have q2 := lb2_n (lb1 x)
  rw [q1] at q2
  have b2' : (lb2 (lb1 x)).toBitVec.toNat < 2 ^ 63 := by
    rw [q2, g2]
    have h1 : g1 8 x.toBitVec.toNat / 4 &&& mk8 51 8 ≤ mk8 51 8 := Nat.and_le_right
    have h2 : g1 8 x.toBitVec.toNat &&& mk8 51 8 ≤ mk8 51 8 := Nat.and_le_right
    have h3 : mk8 51 8 = 3689348814741910323 := rfl
    omega
  have q3 := lb3_n _ b2'
  rw [q2, g8 _ hx] at q3
  have c : ∀ j, p8 (by8 x.toBitVec.toNat j) ≤ 8 := fun j => (d8 _ (Nat.mod_lt _ (by decide))).2
  have c0 := c 0
  have c1 := c 1
  have c2 := c 2
  have c3 := c 3
  have c4 := c 4
  have c5 := c 5
  have c6 := c 6
  have c7 := c 7
  rw [pcN_64 _ hx]
  generalize p8 (by8 x.toBitVec.toNat 0) = a0 at *
  generalize p8 (by8 x.toBitVec.toNat 1) = a1 at *
  generalize p8 (by8 x.toBitVec.toNat 2) = a2 at *
  generalize p8 (by8 x.toBitVec.toNat 3) = a3 at *
  generalize p8 (by8 x.toBitVec.toNat 4) = a4 at *
  generalize p8 (by8 x.toBitVec.toNat 5) = a5 at *
  generalize p8 (by8 x.toBitVec.toNat 6) = a6 at *
  generalize p8 (by8 x.toBitVec.toNat 7) = a7 at *
  rw [lbc]
  generalize lb3 (lb2 (lb1 x)) = y at *
  have q4 : (lb4 y).toBitVec.toNat = y.toBitVec.toNat + y.toBitVec.toNat / 2 ^ 8 := lbs_n y 8 8 (by decide) (by decide) (by omega)
  have q5 : (lb5 (lb4 y)).toBitVec.toNat = (lb4 y).toBitVec.toNat + (lb4 y).toBitVec.toNat / 2 ^ 16 := lbs_n _ 16 16 (by decide) (by decide) (by omega)
  have q6 : (lb6 (lb5 (lb4 y))).toBitVec.toNat = (lb5 (lb4 y)).toBitVec.toNat + (lb5 (lb4 y)).toBitVec.toNat / 2 ^ 32 := lbs_n _ 32 32 (by decide) (by decide) (by omega)
  generalize lb6 (lb5 (lb4 y)) = u at *
  have e : u.toInt32 &&& 127 = nI (u.toInt32.toBitVec.toNat % 2 ^ 7) := pk_and _ 7 rfl
  have e2 : u.toInt32.toBitVec.toNat = u.toBitVec.toNat % 2 ^ 32 := by
    rw [Int64.toBitVec_toInt32, BitVec.toNat_signExtend_of_le (by decide)]
    rw [BitVec.toNat_setWidth]
  rw [e, e2]
  congr 1
  generalize y.toBitVec.toNat = Y at *
  generalize (lb4 y).toBitVec.toNat = Y4 at *
  generalize (lb5 (lb4 y)).toBitVec.toNat = Y5 at *
  generalize u.toBitVec.toNat = U at *
  have r4 : Y4 = (a0 + a1) + 256 * ((a1 + a2) + 256 * ((a2 + a3) + 256 * ((a3 + a4) + 256 * ((a4 + a5) + 256 * ((a5 + a6) + 256 * ((a6 + a7) + 256 * a7)))))) := by omega
  have r5 : Y5 = (a0 + a1 + a2 + a3) + 256 * ((a1 + a2 + a3 + a4) + 256 * ((a2 + a3 + a4 + a5) + 256 * ((a3 + a4 + a5 + a6) + 256 * ((a4 + a5 + a6 + a7) + 256 * ((a5 + a6 + a7) + 256 * ((a6 + a7) + 256 * a7)))))) := by omega
  omega
theorem c_lbc {G : qm_G} (hG : G.2.2.2.2 = true) (d : Nat) (h : qm_H) (x : Int64) : qm_Ev G d 0 0 qyJ13_bitCount_95d88 [.long x] h (fun r h' => r = some (.int (nI (pcN x.toBitVec.toNat 64))) ∧ h = h') := by
  refine qm_Ev.run (M := mJ13_bitCount_95d88) okJ13_bitCount_95d88 rfl hG fun z => ?_
  exact ⟨trivial, congV (lbc_N x), rfl⟩
def us (x k : Int32) : Int32 := (x.toUInt32 >>> (k.toUInt32 &&& Int32.toUInt32 31)).toInt32
def bc1 (x : Int32) : Int32 := x - (us x 1 &&& 1431655765)
def bc2 (x : Int32) : Int32 := (x &&& 858993459) + (us x 2 &&& 858993459)
def bc3 (x : Int32) : Int32 := (x + us x 4) &&& 252645135
def bc4 (x : Int32) : Int32 := x + us x 8
def bc5 (x : Int32) : Int32 := x + us x 16
def bcI (x : Int32) : Int32 := bc5 (bc4 (bc3 (bc2 (bc1 x)))) &&& 63
theorem bcI_d : ∀ s, s < 64 → bcI (nI s) = ones (nI s) 6 := by decide +kernel
theorem c_bc {G : qm_G} (hG : G.2.2.2.2 = true) (d : Nat) (h : qm_H) {s : Nat} (hs : s < 64) : qm_Ev G d 0 0 qyJ6_bitCount_0f7a4 [.int (nI s)] h (fun r h' => r = some (.int (ones (nI s) 6)) ∧ h = h') := by
  refine qm_Ev.run (M := mJ6_bitCount_0f7a4) okJ6_bitCount_0f7a4 rfl hG fun z => ?_
  exact ⟨trivial, congV (bcI_d s hs), rfl⟩
theorem c_bcX {G : qm_G} (hG : G.2.2.2.2 = true) (d : Nat) (h : qm_H) {s : Nat} (x : Int32) (hx : x = nI s) (hs : s < 64) : qm_Ev G d 0 0 qyJ6_bitCount_0f7a4 [.int x] h (fun r h' => r = some (.int (ones x 6)) ∧ h = h') := by
  subst hx
  exact c_bc hG d h hs
def tz (s : Nat) : Nat := if s.testBit 0 then 0 else if s.testBit 1 then 1 else if s.testBit 2 then 2 else if s.testBit 3 then 3 else if s.testBit 4 then 4 else 5
theorem c_tz {G : qm_G} (hG : G.2.2.2.2 = true) (d : Nat) (h : qm_H) {s : Nat} (hs : s < 64) (h0 : 0 < s) : qm_Ev G d 0 0 qyJ6_numberOfTrailingZeros_0f7a4 [.int (nI s)] h (fun r h' => r = some (.int (nI (tz s))) ∧ h = h') := by
  refine qm_Ev.run (M := mJ6_numberOfTrailingZeros_0f7a4) okJ6_numberOfTrailingZeros_0f7a4 rfl hG fun z => ?_
  refine ⟨fun c => ?_, fun c => ?_⟩
  · refine ⟨fun c1 => ?_, fun c1 => ?_⟩
    · refine ⟨fun c2 => ?_, fun c2 => ?_⟩
      · refine ⟨fun c3 => ?_, fun c3 => ?_⟩
        · refine ⟨fun c4 => ?_, fun c4 => ?_⟩
          · exact ⟨trivial, congV (by clear hG; revert s; decide +kernel), rfl⟩
          · exact ⟨trivial, congV (by clear hG; revert s; decide +kernel), rfl⟩
        · refine ⟨fun c4 => ?_, fun c4 => ?_⟩
          · exact ⟨trivial, congV (by clear hG; revert s; decide +kernel), rfl⟩
          · exact ⟨trivial, congV (by clear hG; revert s; decide +kernel), rfl⟩
      · exact absurd c2 (by clear hG c2; revert s; decide +kernel)
    · exact absurd c1 (by clear hG c1; revert s; decide +kernel)
  · exact ⟨trivial, congV (by clear hG; revert s; decide +kernel), rfl⟩
