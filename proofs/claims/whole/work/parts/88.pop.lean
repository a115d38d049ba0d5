/-! how many bits: the JDK's counts -/
def pcN (x : Nat) : Nat → Nat
  | 0 => 0
  | k + 1 => pcN x k + (if x.testBit k then 1 else 0)
def mk8 (c : Nat) : Nat → Nat
  | 0 => 0
  | k + 1 => c + 256 * mk8 c k
def g1 (k x : Nat) : Nat := x - (x / 2 &&& mk8 85 k)
def g2 (k x : Nat) : Nat := (x &&& mk8 51 k) + (x / 4 &&& mk8 51 k)
def g3 (k x : Nat) : Nat := (x + x / 16) &&& mk8 15 k
def p8 (b : Nat) : Nat := ((((b - (b / 2 &&& 85)) &&& 51) + ((b - (b / 2 &&& 85)) / 4 &&& 51)) + (((b - (b / 2 &&& 85)) &&& 51) + ((b - (b / 2 &&& 85)) / 4 &&& 51)) / 16) &&& 15
theorem and_by {c : Nat} (hc : c < 256) (x m : Nat) : x &&& (c + 256 * m) = (x % 256 &&& c) + 256 * (x / 256 &&& m) := by
  have h1 : (x &&& (c + 256 * m)) / 2 ^ 8 = x / 2 ^ 8 &&& (c + 256 * m) / 2 ^ 8 := Nat.and_div_two_pow
  have h2 : (x &&& (c + 256 * m)) % 2 ^ 8 = (x % 2 ^ 8) &&& ((c + 256 * m) % 2 ^ 8) := Nat.and_mod_two_pow
  have e1 : (c + 256 * m) / 2 ^ 8 = m := by omega
  have e2 : (c + 256 * m) % 2 ^ 8 = c := by omega
  rw [e1] at h1
  rw [e2] at h2
  have h3 := Nat.div_add_mod (x &&& (c + 256 * m)) (2 ^ 8)
  have e3 : (2 : Nat) ^ 8 = 256 := rfl
  rw [e3] at h1 h2 h3
  omega
theorem d85 : ∀ b, b < 256 → ∀ e, e < 2 → (b / 2 + 128 * e) &&& 85 = b / 2 &&& 85 := by decide +kernel
theorem d51 : ∀ b, b < 256 → ∀ e, e < 4 → (b / 4 + 64 * e) &&& 51 = b / 4 &&& 51 := by decide +kernel
theorem d51l : ∀ b, b < 256 → (b &&& 51) + (b / 4 &&& 51) ≤ 102 ∧ ((b &&& 51) + (b / 4 &&& 51)) % 16 ≤ 6 := by decide +kernel
theorem d15 : ∀ u, u < 103 → ∀ e, e < 7 → (u + u / 16 + 16 * e) &&& 15 = (u + u / 16) &&& 15 := by decide +kernel
theorem d8 : ∀ b, b < 256 → p8 b = pcN b 8 ∧ p8 b ≤ 8 := by decide +kernel
theorem and_le1 (a b : Nat) : a &&& b ≤ a := Nat.and_le_left
theorem g1_s (k b q : Nat) (hb : b < 256) : g1 (k + 1) (b + 256 * q) = (b - (b / 2 &&& 85)) + 256 * g1 k q := by
  rw [g1, mk8, and_by (by decide)]
  have e1 : (b + 256 * q) / 2 % 256 = b / 2 + 128 * (q % 2) := by omega
  have e2 : (b + 256 * q) / 2 / 256 = q / 2 := by omega
  rw [e1, e2, d85 b hb _ (Nat.mod_lt _ (by decide)), g1]
  have h1 := and_le1 (b / 2) 85
  have h2 := and_le1 (q / 2) (mk8 85 k)
  omega
theorem g2_s (k c r : Nat) (hc : c < 256) : g2 (k + 1) (c + 256 * r) = ((c &&& 51) + (c / 4 &&& 51)) + 256 * g2 k r := by
  rw [g2, mk8, and_by (by decide), and_by (by decide)]
  have e1 : (c + 256 * r) / 4 % 256 = c / 4 + 64 * (r % 4) := by omega
  have e2 : (c + 256 * r) / 4 / 256 = r / 4 := by omega
  have e3 : (c + 256 * r) % 256 = c := by omega
  have e4 : (c + 256 * r) / 256 = r := by omega
  rw [e1, e2, e3, e4, d51 c hc _ (Nat.mod_lt _ (by decide)), g2]
  omega
theorem g2_m (k r : Nat) : g2 k r % 16 ≤ 6 := by
  cases k with
  | zero => rw [g2, mk8, Nat.and_zero, Nat.and_zero]; decide
  | succ k =>
    have e : r = r % 256 + 256 * (r / 256) := by omega
    rw [e, g2_s k _ _ (Nat.mod_lt _ (by decide))]
    have := (d51l (r % 256) (Nat.mod_lt _ (by decide))).2
    omega
theorem g3_s (k u v : Nat) (hu : u ≤ 102) (hv : v % 16 ≤ 6) : g3 (k + 1) (u + 256 * v) = ((u + u / 16) &&& 15) + 256 * g3 k v := by
  rw [g3, mk8, and_by (by decide)]
  have e1 : (u + 256 * v + (u + 256 * v) / 16) % 256 = u + u / 16 + 16 * (v % 16) := by omega
  have e2 : (u + 256 * v + (u + 256 * v) / 16) / 256 = v + v / 16 := by omega
  rw [e1, e2, d15 u (by omega) _ (by omega), g3]
theorem g123 (k b q : Nat) (hb : b < 256) : g3 (k + 1) (g2 (k + 1) (g1 (k + 1) (b + 256 * q))) = p8 b + 256 * g3 k (g2 k (g1 k q)) := by
  have hc : b - (b / 2 &&& 85) < 256 := by omega
  rw [g1_s k b q hb, g2_s k _ _ hc, g3_s k _ _ (d51l _ hc).1 (g2_m k _)]
  rfl
def pb8 : Nat → Nat → Nat
  | 0, _ => 0
  | k + 1, x => p8 (x % 256) + 256 * pb8 k (x / 256)
def sb8 : Nat → Nat → Nat
  | 0, _ => 0
  | k + 1, x => p8 (x % 256) + sb8 k (x / 256)
theorem g_pb : ∀ k x, x < 256 ^ k → g3 k (g2 k (g1 k x)) = pb8 k x
  | 0, x, h => by
    rw [g3, mk8, Nat.and_zero, pb8]
  | k + 1, x, h => by
    have e : x = x % 256 + 256 * (x / 256) := by omega
    have hq : x / 256 < 256 ^ k := by
      rw [Nat.pow_succ] at h
      exact Nat.div_lt_of_lt_mul (by rw [Nat.mul_comm]; exact h)
    have key := g123 k (x % 256) (x / 256) (Nat.mod_lt _ (by decide))
    rw [← e, g_pb k _ hq] at key
    rw [key, pb8]
theorem pcN_m (x : Nat) : ∀ k, k ≤ 8 → pcN x k = pcN (x % 256) k
  | 0, _ => rfl
  | k + 1, hk => by
    have e : (x % 2 ^ 8).testBit k = (decide (k < 8) && x.testBit k) := Nat.testBit_mod_two_pow x 8 k
    rw [decide_eq_true (by omega : k < 8), Bool.true_and] at e
    have e2 : x % 256 = x % 2 ^ 8 := rfl
    rw [pcN, pcN, pcN_m x k (by omega), e2, e]
theorem pcN_8 (x : Nat) : ∀ m, pcN x (8 + m) = pcN (x % 256) 8 + pcN (x / 256) m
  | 0 => by rw [Nat.add_zero, pcN_m x 8 (Nat.le_refl _), pcN.eq_1 (x / 256), Nat.add_zero]
  | m + 1 => by
    have e : (x / 2 ^ 8).testBit m = x.testBit (8 + m) := by rw [Nat.testBit_div_two_pow, Nat.add_comm]
    have e2 : x / 256 = x / 2 ^ 8 := rfl
    have ih := pcN_8 x m
    have s1 : pcN x (8 + (m + 1)) = pcN x (8 + m) + (if x.testBit (8 + m) then 1 else 0) := rfl
    have s2 : pcN (x / 256) (m + 1) = pcN (x / 256) m + (if (x / 256).testBit m then 1 else 0) := rfl
    rw [s1, s2, ih, e2, e, Nat.add_assoc]
theorem pc_sb : ∀ k x, pcN x (8 * k) = sb8 k x
  | 0, x => rfl
  | k + 1, x => by
    rw [show 8 * (k + 1) = 8 + 8 * k by omega, pcN_8, pc_sb k, sb8, (d8 (x % 256) (Nat.mod_lt _ (by decide))).1]
theorem pack {a0 a1 a2 a3 a4 a5 a6 a7 : Nat} (c0 : a0 ≤ 8) (c1 : a1 ≤ 8) (c2 : a2 ≤ 8) (c3 : a3 ≤ 8) (c4 : a4 ≤ 8) (c5 : a5 ≤ 8) (c6 : a6 ≤ 8) (c7 : a7 ≤ 8) {R7 R6 R5 R4 R3 R2 R1 Y Y4 Y5 U : Nat} (e7 : R7 = a7) (e6 : R6 = a6 + 256 * R7) (e5 : R5 = a5 + 256 * R6) (e4 : R4 = a4 + 256 * R5) (e3 : R3 = a3 + 256 * R4) (e2 : R2 = a2 + 256 * R3) (e1 : R1 = a1 + 256 * R2) (e0 : Y = a0 + 256 * R1) (f4 : Y4 = Y + Y / 256) (f5 : Y5 = Y4 + Y4 / 65536) (f6 : U = Y5 + Y5 / 4294967296) : U % 128 = a0 + a1 + a2 + a3 + a4 + a5 + a6 + a7 := by
  have h1 : Y / 256 = R1 := by omega
  have h2 : Y4 / 65536 = R2 + R3 := by omega
  have h3 : Y5 / 4294967296 = R4 + R5 + R6 + R7 := by omega
  omega
def ul (x : Int64) (k : Int32) : Int64 := (x.toUInt64 >>> (k.toInt64.toUInt64 &&& Int64.toUInt64 63)).toInt64
theorem ul_n (x : Int64) (s : Int32) (k : Nat) (hs : ((s.toInt64.toUInt64 &&& Int64.toUInt64 63).toBitVec % 64).toNat = k) : (ul x s).toBitVec.toNat = x.toBitVec.toNat / 2 ^ k := by
  have e : (ul x s).toBitVec = x.toBitVec >>> k := by
    rw [← hs]
    exact UInt64.toBitVec_shiftRight _ _
  rw [e, BitVec.toNat_ushiftRight, Nat.shiftRight_eq_div_pow]
def lb1 (x : Int64) : Int64 := x - (ul x 1 &&& 6148914691236517205)
def lb2 (x : Int64) : Int64 := (x &&& 3689348814741910323) + (ul x 2 &&& 3689348814741910323)
def lb3 (x : Int64) : Int64 := (x + ul x 4) &&& 1085102592571150095
def lb4 (x : Int64) : Int64 := x + ul x 8
def lb5 (x : Int64) : Int64 := x + ul x 16
def lb6 (x : Int64) : Int64 := x + ul x 32
def lbc (x : Int64) : Int32 := (lb6 (lb5 (lb4 (lb3 (lb2 (lb1 x)))))).toInt32 &&& 127
theorem n64 (x : Int64) : x.toBitVec.toNat < 2 ^ 64 := x.toBitVec.isLt
theorem c85 : (6148914691236517205 : Int64).toBitVec.toNat = mk8 85 8 := by decide +kernel
theorem c51 : (3689348814741910323 : Int64).toBitVec.toNat = mk8 51 8 := by decide +kernel
theorem c15 : (1085102592571150095 : Int64).toBitVec.toNat = mk8 15 8 := by decide +kernel
theorem m51 : mk8 51 8 = 3689348814741910323 := by decide +kernel
theorem lb1_n (x : Int64) : (lb1 x).toBitVec.toNat = g1 8 x.toBitVec.toNat := by
  have e1 : (ul x 1 &&& 6148914691236517205).toBitVec.toNat = x.toBitVec.toNat / 2 &&& mk8 85 8 := by
    rw [Int64.toBitVec_and, BitVec.toNat_and, ul_n x 1 1 (by decide), c85, Nat.pow_one]
  have h1 := and_le1 (x.toBitVec.toNat / 2) (mk8 85 8)
  have h2 : x.toBitVec.toNat / 2 ≤ x.toBitVec.toNat := Nat.div_le_self _ _
  rw [lb1, Int64.toBitVec_sub, BitVec.toNat_sub_of_le, e1, g1]
  rw [BitVec.le_def, e1]
  exact Nat.le_trans h1 h2
theorem lb2_n (x : Int64) : (lb2 x).toBitVec.toNat = g2 8 x.toBitVec.toNat := by
  have e1 : (ul x 2 &&& 3689348814741910323).toBitVec.toNat = x.toBitVec.toNat / 4 &&& mk8 51 8 := by
    rw [Int64.toBitVec_and, BitVec.toNat_and, ul_n x 2 2 (by decide), c51]
  have e2 : (x &&& 3689348814741910323).toBitVec.toNat = x.toBitVec.toNat &&& mk8 51 8 := by
    rw [Int64.toBitVec_and, BitVec.toNat_and, c51]
  have h1 : x.toBitVec.toNat / 4 &&& mk8 51 8 ≤ mk8 51 8 := Nat.and_le_right
  have h2 : x.toBitVec.toNat &&& mk8 51 8 ≤ mk8 51 8 := Nat.and_le_right
  have h3 := m51
  rw [lb2, Int64.toBitVec_add, BitVec.toNat_add, e1, e2, g2, Nat.mod_eq_of_lt]
  generalize x.toBitVec.toNat / 4 &&& mk8 51 8 = u at *
  generalize x.toBitVec.toNat &&& mk8 51 8 = v at *
  rw [h3] at h1 h2
  clear e1 e2 h3
  omega
theorem lb3_n (x : Int64) (hx : x.toBitVec.toNat < 2 ^ 63) : (lb3 x).toBitVec.toNat = g3 8 x.toBitVec.toNat := by
  have h1 : x.toBitVec.toNat / 2 ^ 4 ≤ x.toBitVec.toNat := Nat.div_le_self _ _
  rw [lb3, Int64.toBitVec_and, BitVec.toNat_and, Int64.toBitVec_add, BitVec.toNat_add, ul_n x 4 4 (by decide), Nat.mod_eq_of_lt (by omega), c15, g3]
theorem lbs_n (x : Int64) (s : Int32) (k : Nat) (hs : ((s.toInt64.toUInt64 &&& Int64.toUInt64 63).toBitVec % 64).toNat = k) (hx : x.toBitVec.toNat < 2 ^ 63) : (x + ul x s).toBitVec.toNat = x.toBitVec.toNat + x.toBitVec.toNat / 2 ^ k := by
  have h1 : x.toBitVec.toNat / 2 ^ k ≤ x.toBitVec.toNat := Nat.div_le_self _ _
  rw [Int64.toBitVec_add, BitVec.toNat_add, ul_n x s k hs, Nat.mod_eq_of_lt]
  generalize x.toBitVec.toNat / 2 ^ k = u at *
  omega
theorem lbc_N (x : Int64) : lbc x = nI (pcN x.toBitVec.toNat 64) := by
  have hx := n64 x
  have q1 := lb1_n x
  have q2 := lb2_n (lb1 x)
  rw [q1] at q2
  have b2' : (lb2 (lb1 x)).toBitVec.toNat < 2 ^ 63 := by
    rw [q2, g2]
    have h1 : g1 8 x.toBitVec.toNat / 4 &&& mk8 51 8 ≤ mk8 51 8 := Nat.and_le_right
    have h2 : g1 8 x.toBitVec.toNat &&& mk8 51 8 ≤ mk8 51 8 := Nat.and_le_right
    have h3 := m51
    generalize g1 8 x.toBitVec.toNat / 4 &&& mk8 51 8 = u at *
    generalize g1 8 x.toBitVec.toNat &&& mk8 51 8 = v at *
    rw [h3] at h1 h2
    clear q1 q2 h3
    omega
  have q3 := lb3_n _ b2'
  rw [q2, g_pb 8 _ hx] at q3
  have pe := pc_sb 8 x.toBitVec.toNat
  rw [show 8 * 8 = 64 from rfl] at pe
  rw [pe]
  clear q1 q2 b2' pe
  have c : ∀ y, p8 (y % 256) ≤ 8 := fun y => (d8 _ (Nat.mod_lt _ (by decide))).2
  generalize x.toBitVec.toNat = X at *
  have c0 := c X
  have c1 := c (X / 256)
  have c2 := c (X / 256 / 256)
  have c3 := c (X / 256 / 256 / 256)
  have c4 := c (X / 256 / 256 / 256 / 256)
  have c5 := c (X / 256 / 256 / 256 / 256 / 256)
  have c6 := c (X / 256 / 256 / 256 / 256 / 256 / 256)
  have c7 := c (X / 256 / 256 / 256 / 256 / 256 / 256 / 256)
  clear c hx
  simp only [pb8, sb8] at q3 ⊢
  rw [lbc]
  generalize lb3 (lb2 (lb1 x)) = y at *
  generalize p8 (X % 256) = a0 at *
  generalize p8 (X / 256 % 256) = a1 at *
  generalize p8 (X / 256 / 256 % 256) = a2 at *
  generalize p8 (X / 256 / 256 / 256 % 256) = a3 at *
  generalize p8 (X / 256 / 256 / 256 / 256 % 256) = a4 at *
  generalize p8 (X / 256 / 256 / 256 / 256 / 256 % 256) = a5 at *
  generalize p8 (X / 256 / 256 / 256 / 256 / 256 / 256 % 256) = a6 at *
  generalize p8 (X / 256 / 256 / 256 / 256 / 256 / 256 / 256 % 256) = a7 at *
  have hy : y.toBitVec.toNat ≤ 600000000000000000 := by omega
  have q4 : (lb4 y).toBitVec.toNat = y.toBitVec.toNat + y.toBitVec.toNat / 2 ^ 8 := lbs_n y 8 8 (by decide) (by clear q3; omega)
  have h4 : (lb4 y).toBitVec.toNat ≤ 700000000000000000 := by clear q3; omega
  have q5 : (lb5 (lb4 y)).toBitVec.toNat = (lb4 y).toBitVec.toNat + (lb4 y).toBitVec.toNat / 2 ^ 16 := lbs_n _ 16 16 (by decide) (by clear q3 q4; omega)
  have h5 : (lb5 (lb4 y)).toBitVec.toNat ≤ 800000000000000000 := by clear q3 q4; omega
  have q6 : (lb6 (lb5 (lb4 y))).toBitVec.toNat = (lb5 (lb4 y)).toBitVec.toNat + (lb5 (lb4 y)).toBitVec.toNat / 2 ^ 32 := lbs_n _ 32 32 (by decide) (by clear q3 q4 q5; omega)
  generalize lb6 (lb5 (lb4 y)) = u at *
  have e : u.toInt32 &&& 127 = nI (u.toInt32.toBitVec.toNat % 2 ^ 7) := pk_and _ 7 rfl
  have e2 : u.toInt32.toBitVec.toNat = u.toBitVec.toNat % 2 ^ 32 := by
    rw [Int64.toBitVec_toInt32, BitVec.signExtend_eq_setWidth_of_le _ (by decide), BitVec.toNat_setWidth]
  have fin := pack c0 c1 c2 c3 c4 c5 c6 c7 rfl rfl rfl rfl rfl rfl rfl q3 q4 q5 q6
  rw [e, e2]
  congr 1
  clear q3 q4 q5 q6 hy h4 h5 e e2
  omega
set_option maxRecDepth 100000 in
theorem c_lbc {G : qm_G} (hG : G.2.2.2.2 = true) (d : Nat) (h : qm_H) (x : Int64) : qm_Ev G d 0 0 qyJ13_bitCount_95d88 [.long x] h (fun r h' => r = some (.int (nI (pcN x.toBitVec.toNat 64))) ∧ h = h') := by
  refine qm_Ev.run (M := mJ13_bitCount_95d88) okJ13_bitCount_95d88 rfl hG fun z => ?_
  exact ⟨trivial, congV (lbc_N x), rfl⟩
def us (x k : Int32) : Int32 := (x.toUInt32 >>> (k.toUInt32 &&& Int32.toUInt32 31)).toInt32
def bc1 (x : Int32) : Int32 := x - (us x 1 &&& 1431655765)
def bc2 (x : Int32) : Int32 := (x &&& 858993459) + (us x 2 &&& 858993459)
def bc3 (x : Int32) : Int32 := (x + us x 4) &&& 252645135
def bc4 (x : Int32) : Int32 := x + us x 8
def bc5 (x : Int32) : Int32 := x + us x 16
def bcI (x : Int32) : Int32 := bc5 (bc4 (bc3 (bc2 (bc1 x)))) &&& 63
theorem bcI_d : ∀ s, s < 64 → bcI (nI s) = ones (nI s) 6 := by decide +kernel
theorem c_bc {G : qm_G} (hG : G.2.2.2.2 = true) (d : Nat) (h : qm_H) {s : Nat} (hs : s < 64) : qm_Ev G d 0 0 qyJ6_bitCount_0f7a4 [.int (nI s)] h (fun r h' => r = some (.int (ones (nI s) 6)) ∧ h = h') := by
  refine qm_Ev.run (M := mJ6_bitCount_0f7a4) okJ6_bitCount_0f7a4 rfl hG fun z => ?_
  exact ⟨trivial, congV (bcI_d s hs), rfl⟩
theorem c_bcX {G : qm_G} (hG : G.2.2.2.2 = true) (d : Nat) (h : qm_H) {s : Nat} (x : Int32) (hx : x = nI s) (hs : s < 64) : qm_Ev G d 0 0 qyJ6_bitCount_0f7a4 [.int x] h (fun r h' => r = some (.int (ones x 6)) ∧ h = h') := by
  subst hx
  exact c_bc hG d h hs
def tz (s : Nat) : Nat := if s.testBit 0 then 0 else if s.testBit 1 then 1 else if s.testBit 2 then 2 else if s.testBit 3 then 3 else if s.testBit 4 then 4 else 5
def tzX (s : Nat) : Int32 := (nI s ^^^ -1) &&& (nI s - 1)
theorem tzX_d : ∀ s, s < 64 → 0 < s → (tz s = 0 ∧ tzX s = nI 0) ∨ (tz s = 1 ∧ tzX s = nI 1) ∨ (tz s = 2 ∧ tzX s = nI 3) ∨ (tz s = 3 ∧ tzX s = nI 7) ∨ (tz s = 4 ∧ tzX s = nI 15) ∨ (tz s = 5 ∧ tzX s = nI 31) := by decide +kernel
theorem c_tz {G : qm_G} (hG : G.2.2.2.2 = true) (d : Nat) (h : qm_H) {s : Nat} (hs : s < 64) (h0 : 0 < s) : qm_Ev G d 0 0 qyJ6_numberOfTrailingZeros_0f7a4 [.int (nI s)] h (fun r h' => r = some (.int (nI (tz s))) ∧ h = h') := by
  rcases tzX_d s hs h0 with ⟨e, he⟩ | ⟨e, he⟩ | ⟨e, he⟩ | ⟨e, he⟩ | ⟨e, he⟩ | ⟨e, he⟩
  · rw [e]
    refine qm_Ev.run (M := mJ6_numberOfTrailingZeros_0f7a4) okJ6_numberOfTrailingZeros_0f7a4 rfl hG fun z => ?_
    refine ⟨fun (c : 0 < tzX s) => absurd c (by rw [he]; decide), fun _ => ⟨trivial, congV ?_, rfl⟩⟩
    show tzX s &&& 32 = nI 0
    rw [he]; decide
  · rw [e]
    refine qm_Ev.run (M := mJ6_numberOfTrailingZeros_0f7a4) okJ6_numberOfTrailingZeros_0f7a4 rfl hG fun z => ?_
    refine ⟨fun _ => ⟨fun _ => ⟨fun _ => ⟨fun _ => ⟨fun _ => ⟨trivial, congV ?_, rfl⟩, fun (c : ¬ tzX s ≤ 4) => absurd (by rw [he]; decide) c⟩, fun (c : ¬ tzX s ≤ 16) => absurd (by rw [he]; decide) c⟩, fun (c : ¬ tzX s ≤ 256) => absurd (by rw [he]; decide) c⟩, fun (c : ¬ tzX s ≤ 65536) => absurd (by rw [he]; decide) c⟩, fun (c : ¬ 0 < tzX s) => absurd (by rw [he]; decide) c⟩
    show (1 : Int32) + us (tzX s) 1 = nI 1
    rw [he]; decide
  · rw [e]
    refine qm_Ev.run (M := mJ6_numberOfTrailingZeros_0f7a4) okJ6_numberOfTrailingZeros_0f7a4 rfl hG fun z => ?_
    refine ⟨fun _ => ⟨fun _ => ⟨fun _ => ⟨fun _ => ⟨fun _ => ⟨trivial, congV ?_, rfl⟩, fun (c : ¬ tzX s ≤ 4) => absurd (by rw [he]; decide) c⟩, fun (c : ¬ tzX s ≤ 16) => absurd (by rw [he]; decide) c⟩, fun (c : ¬ tzX s ≤ 256) => absurd (by rw [he]; decide) c⟩, fun (c : ¬ tzX s ≤ 65536) => absurd (by rw [he]; decide) c⟩, fun (c : ¬ 0 < tzX s) => absurd (by rw [he]; decide) c⟩
    show (1 : Int32) + us (tzX s) 1 = nI 2
    rw [he]; decide
  · rw [e]
    refine qm_Ev.run (M := mJ6_numberOfTrailingZeros_0f7a4) okJ6_numberOfTrailingZeros_0f7a4 rfl hG fun z => ?_
    refine ⟨fun _ => ⟨fun _ => ⟨fun _ => ⟨fun _ => ⟨fun (c : tzX s ≤ 4) => absurd c (by rw [he]; decide), fun _ => ⟨trivial, congV ?_, rfl⟩⟩, fun (c : ¬ tzX s ≤ 16) => absurd (by rw [he]; decide) c⟩, fun (c : ¬ tzX s ≤ 256) => absurd (by rw [he]; decide) c⟩, fun (c : ¬ tzX s ≤ 65536) => absurd (by rw [he]; decide) c⟩, fun (c : ¬ 0 < tzX s) => absurd (by rw [he]; decide) c⟩
    show (1 : Int32) + 2 + us (us (tzX s) 2) 1 = nI 3
    rw [he]; decide
  · rw [e]
    refine qm_Ev.run (M := mJ6_numberOfTrailingZeros_0f7a4) okJ6_numberOfTrailingZeros_0f7a4 rfl hG fun z => ?_
    refine ⟨fun _ => ⟨fun _ => ⟨fun _ => ⟨fun _ => ⟨fun (c : tzX s ≤ 4) => absurd c (by rw [he]; decide), fun _ => ⟨trivial, congV ?_, rfl⟩⟩, fun (c : ¬ tzX s ≤ 16) => absurd (by rw [he]; decide) c⟩, fun (c : ¬ tzX s ≤ 256) => absurd (by rw [he]; decide) c⟩, fun (c : ¬ tzX s ≤ 65536) => absurd (by rw [he]; decide) c⟩, fun (c : ¬ 0 < tzX s) => absurd (by rw [he]; decide) c⟩
    show (1 : Int32) + 2 + us (us (tzX s) 2) 1 = nI 4
    rw [he]; decide
  · rw [e]
    refine qm_Ev.run (M := mJ6_numberOfTrailingZeros_0f7a4) okJ6_numberOfTrailingZeros_0f7a4 rfl hG fun z => ?_
    refine ⟨fun _ => ⟨fun _ => ⟨fun _ => ⟨fun (c : tzX s ≤ 16) => absurd c (by rw [he]; decide), fun _ => ⟨fun _ => ⟨trivial, congV ?_, rfl⟩, fun (c : ¬ us (tzX s) 4 ≤ 4) => absurd (by rw [he]; decide) c⟩⟩, fun (c : ¬ tzX s ≤ 256) => absurd (by rw [he]; decide) c⟩, fun (c : ¬ tzX s ≤ 65536) => absurd (by rw [he]; decide) c⟩, fun (c : ¬ 0 < tzX s) => absurd (by rw [he]; decide) c⟩
    show (1 : Int32) + 4 + us (us (tzX s) 4) 1 = nI 5
    rw [he]; decide
