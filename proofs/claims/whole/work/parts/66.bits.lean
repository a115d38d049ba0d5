/-! bits -/
theorem bit_sh : ∀ k, k < 32 → ((nI k &&& 31).toBitVec.smod 32).toNat = k := by decide
theorem bit_t (x : Int32) {k : Nat} (hk : k < 32) : bit x (nI k) = x.toBitVec.getLsbD k := by
  have h1 : (x >>> (nI k &&& 31)).toBitVec = x.toBitVec.sshiftRight k := by
    rw [Int32.toBitVec_shiftRight, BitVec.sshiftRight', bit_sh k hk]
  rw [bit, Bool.eq_iff_iff, decide_eq_true_eq, ← Int32.toBitVec_inj, Int32.toBitVec_and, h1]
  have h0 : (x.toBitVec.sshiftRight k).getLsbD 0 = x.toBitVec.getLsbD k := by
    rw [BitVec.getLsbD_sshiftRight]
    simp [hk]
  rw [← h0]
  constructor
  · intro q
    have := congrArg (fun v => v.getLsbD 0) q
    simpa using this
  · intro q
    apply BitVec.eq_of_getLsbD_eq
    intro i hi
    show (BitVec.sshiftRight x.toBitVec k &&& 1#32).getLsbD i = (1#32).getLsbD i
    rw [BitVec.getLsbD_and, BitVec.getLsbD_one]
    by_cases e : i = 0
    · subst e; rw [q]; rfl
    · simp [e]
theorem bit_or (a b : Int32) {k : Nat} (hk : k < 32) : bit (a ||| b) (nI k) = (bit a (nI k) || bit b (nI k)) := by
  rw [bit_t _ hk, bit_t _ hk, bit_t _ hk, Int32.toBitVec_or, BitVec.getLsbD_or]
theorem bit_and (a b : Int32) {k : Nat} (hk : k < 32) : bit (a &&& b) (nI k) = (bit a (nI k) && bit b (nI k)) := by
  rw [bit_t _ hk, bit_t _ hk, bit_t _ hk, Int32.toBitVec_and, BitVec.getLsbD_and]
theorem bit_not (a : Int32) {k : Nat} (hk : k < 32) : bit (a ^^^ -1) (nI k) = !bit a (nI k) := by
  rw [bit_t _ hk, bit_t _ hk, Int32.toBitVec_xor, BitVec.getLsbD_xor]
  have : (-1 : Int32).toBitVec.getLsbD k = true := by
    have : ∀ k, k < 32 → (-1 : Int32).toBitVec.getLsbD k = true := by decide
    exact this k hk
  rw [this, Bool.xor_true]
theorem bit_0 {k : Nat} (hk : k < 32) : bit 0 (nI k) = false := by
  have : ∀ k, k < 32 → bit 0 (nI k) = false := by decide
  exact this k hk
theorem bit_n (s : Nat) {k : Nat} (hk : k < 32) : bit (nI s) (nI k) = s.testBit k := by
  rw [bit_t _ hk]
  show (BitVec.ofNat 32 s).getLsbD k = _
  rw [BitVec.getLsbD_ofNat]
  simp [hk]
theorem bit_ext {a b : Int32} (h : ∀ k, k < 32 → bit a (nI k) = bit b (nI k)) : a = b := by
  apply Int32.toBitVec_inj.1
  apply BitVec.eq_of_getLsbD_eq
  intro i hi
  have := h i hi
  rw [bit_t _ hi, bit_t _ hi] at this
  exact this
theorem worth_co {w : Nat → Int32} {a b : Int32} : ∀ k, k ≤ 6 → (∀ f, f < 6 → bit a (nI f) = bit b (nI f)) → worthN w a k = worthN w b k
  | 0, _, _ => rfl
  | k + 1, hk, h => by rw [worthN, worthN, worth_co k (by omega) h, h k (by omega)]
theorem worth_add {w : Nat → Int32} {a b c : Int32} : ∀ k, k ≤ 6 → (∀ f, f < 6 → bit c (nI f) = (bit a (nI f) || bit b (nI f)) ∧ (bit a (nI f) && bit b (nI f)) = false) → worthN w c k = worthN w a k + worthN w b k
  | 0, _, _ => rfl
  | k + 1, hk, h => by
    obtain ⟨h1, h2⟩ := h k (by omega)
    rw [worthN, worthN, worthN, worth_add k (by omega) h, h1]
    cases q1 : bit a (nI k)
    · cases q2 : bit b (nI k)
      · show _ + 0 = (_ + 0) + (_ + 0); omega
      · show _ + wN w k = (_ + 0) + (_ + wN w k); omega
    · cases q2 : bit b (nI k)
      · show _ + wN w k = (_ + wN w k) + (_ + 0); omega
      · rw [q1, q2] at h2; exact absurd h2 (by decide)
