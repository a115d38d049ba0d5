/-! the class: rows; sets as the bits of a long -/
def RO (h : qm_H) (Q c : Nat) (w : Nat → Int32) (m : Nat) : Prop := (51 ≤ Q ∧ Q + 2 ≤ h.2.2.2.2) ∧ qm_is true h Q 2 ∧ h.1 Q 0 = nI m ∧ qm_rd true h Q 1 = some (Q + 1) ∧ qm_is true h (Q + 1) 10 ∧ (qm_kn true h (Q + 1)).2 = 4 * m ∧ ∀ k, k < m → ∀ j, j < c → h.1 (Q + 1) (4 * k + j) = w (1 + c * k + j)
theorem RO.sb {S : List Nat} {h h' : qm_H} {Q c m : Nat} {w : Nat → Int32} (t : RO h Q c w m) (a : sb S h h') (hS : ∀ q, q ∈ S → q < 51) : RO h' Q c w m := by
  obtain ⟨⟨t1, t2⟩, t3, t4, t5, t6, t7, t8⟩ := t
  have e : ∀ q, 51 ≤ q → h'.1 q = h.1 q := fun q hq => a.2 q (fun z => by have := hS q z; omega)
  exact ⟨⟨t1, by rw [a.1]; exact t2⟩, qm_is_sb a t3, by rw [e Q t1]; exact t4, by rw [qm_rd_sb a]; exact t5, qm_is_sb a t6, by rw [qm_kn_sb a]; exact t7, fun k hk j hj => by rw [e _ (by omega)]; exact t8 k hk j hj⟩
theorem c_at {G : qm_G} (hG : G.2.2.2.2 = true) (d : Nat) (h : qm_H) {Q c m : Nat} {w : Nat → Int32} (t : RO h Q c w m) (hm : m ≤ 40) (hc : c ≤ 4) {k j : Nat} (hk : k < m) (hj : j < c) : qm_Ev G d 0 0 qyX3_at [.ref Q, .int (nI k), .int (nI j)] h (fun r h' => r = some (.int (w (1 + c * k + j))) ∧ h = h') := by
  obtain ⟨⟨t1, t2⟩, t3, t4, t5, t6, t7, t8⟩ := t
  have e : (4 : Int32) * nI k + nI j = nI (4 * k + j) := by rw [show (4 : Int32) = nI 4 from rfl, pk_mul, nI_add]
  refine qm_Ev.run (M := mX3_at) okX3_at rfl hG fun z => ?_
  refine ⟨fun q => absurd q (nI_pos (by omega)), fun _ => ⟨t3, fun (q : h.1 Q 0 ≤ nI k) => absurd q (by rw [t4]; exact nI_ge hk (by omega)), fun _ => ⟨fun q => absurd q (nI_pos (by omega)), fun _ => ⟨fun _ => ?_, fun q => absurd (nI_le (b := 3) (by omega) (by decide)) q⟩⟩⟩⟩
  refine ⟨t3, _, t5, t6, (show vp_in ((4 : Int32) * nI k + nI j) (qm_kn true h (Q + 1)).2 by rw [e, t7]; exact vp_in_nI (by omega) (by omega)), trivial, congV ?_, rfl⟩
  show h.1 (Q + 1) ((4 : Int32) * nI k + nI j).toNatClampNeg = _
  rw [e, nI_clamp (by omega)]
  exact t8 k hk j hj
theorem c_rowsAnswer {G : qm_G} (hG : G.2.2.2.2 = true) (d : Nat) (h : qm_H) {Q c m : Nat} {w : Nat → Int32} (t : RO h Q c w m) (hm : m ≤ 40) (hc : c ≤ 4) (a b : Int32) : qm_Ev G (d + 1) 0 0 qyX3_answer [.ref Q, .int a, .int b, .int (nI c)] h (fun r h' => r = some (.int (s_cell w c m a b)) ∧ h = h') := by
  have t0 := t
  obtain ⟨⟨t1, t2⟩, t3, t4, t5, t6, t7, t8⟩ := t
  have ia := inb_lt (a := a) (n := m) (by omega)
  have ib := inb_lt (a := b) (n := c) (by omega)
  have tail : ¬ a = -1 → qm_Ev G (d + 1) 0 0 qyX3_answer [.ref Q, .int a, .int b, .int (nI c)] h (fun r h' => r = some (.int (s_cell w c m a b)) ∧ h = h') := fun hne => by
    have er : s_cell w c m a b = if inb a m && inb b c then w (1 + c * a.toNatClampNeg + b.toNatClampNeg) else -2 := by rw [s_cell, if_neg hne]
    rw [er]
    refine qm_Ev.run (M := mX3_answer) okX3_answer rfl hG fun z => ?_
    refine ⟨fun _ => ?_, fun q => absurd q hne⟩
    refine ⟨fun q => ⟨trivial, congV ?_, rfl⟩, fun q1 => ⟨t3, fun (q : h.1 Q 0 ≤ a) => ⟨trivial, congV ?_, rfl⟩, fun (q2 : ¬ h.1 Q 0 ≤ a) => ⟨fun q => ⟨trivial, congV ?_, rfl⟩, fun q3 => ⟨fun q4 => ?_, fun q4 => ⟨trivial, congV ?_, rfl⟩⟩⟩⟩⟩
    · rw [ia, decide_eq_false (Int32.not_le.mpr q), Bool.false_and, Bool.false_and]; rfl
    · rw [t4] at q
      rw [ia, decide_eq_false (Int32.not_lt.mpr q), Bool.and_false, Bool.false_and]; rfl
    · rw [ib, decide_eq_false (Int32.not_le.mpr q), Bool.false_and, Bool.and_false]; rfl
    · rw [t4] at q2
      have ja : inb a m = true := by rw [ia, decide_eq_true (Int32.not_lt.mp q1), decide_eq_true (Int32.not_le.mp q2)]; rfl
      have jb : inb b c = true := by rw [ib, decide_eq_true (Int32.not_lt.mp q3), decide_eq_true q4]; rfl
      obtain ⟨k, k1, k2⟩ := inb_e (by omega) ja
      obtain ⟨j, j1, j2⟩ := inb_e (by omega) jb
      refine ⟨t3, 0, 0, _, (by rw [k2, j2]; exact c_at hG d h t0 hm hc k1 j1), ⟨Nat.le_refl _, Nat.le_refl _⟩, ?_⟩
      rintro _ _ ⟨rfl, rfl⟩
      refine ⟨trivial, congV ?_, rfl⟩
      rw [ja, jb, k2, j2, nI_clamp (by omega), nI_clamp (by omega)]
      rfl
    · rw [ib, decide_eq_false q4, Bool.and_false, Bool.and_false]; rfl
  by_cases hne : a = -1
  · have er : s_cell w c m a b = if b = 0 then nI m else -2 := by rw [s_cell, if_pos hne]
    rw [er]
    refine qm_Ev.run (M := mX3_answer) okX3_answer rfl hG fun z => ?_
    refine ⟨fun q => absurd hne q, fun _ => ⟨fun q => ⟨fun _ => ⟨trivial, congV (by rw [if_neg q]), rfl⟩, fun z => absurd (show a < 0 by rw [hne]; decide) z⟩, fun q => ⟨t3, trivial, congV ?_, rfl⟩⟩⟩
    rw [if_pos q]; exact t4
  · exact tail hne
def LB (x : Int64) (s : Nat) : Bool := x.toBitVec.getLsbD s
theorem LB_and (x y : Int64) (s : Nat) : LB (x &&& y) s = (LB x s && LB y s) := by
  rw [LB, Int64.toBitVec_and, BitVec.getLsbD_and]; rfl
theorem LB_not (x : Int64) {s : Nat} (hs : s < 64) : LB (x ^^^ -1) s = !LB x s := by
  have e : (-1 : Int64).toBitVec = BitVec.allOnes 64 := by decide
  rw [LB, Int64.toBitVec_xor, BitVec.getLsbD_xor, e, BitVec.getLsbD_allOnes, decide_eq_true hs, Bool.xor_true]; rfl
theorem LB_t (x : Int64) (s : Nat) : x.toBitVec.toNat.testBit s = LB x s := rfl
theorem LB_hav : ∀ f, f < 6 → ∀ s, s < 64 → LB (qm_stl f) s = s.testBit f := by decide +kernel
theorem LB_0 {x : Int64} (h : ∀ s, s < 64 → LB x s = false) : x = 0 := by
  apply Int64.toBitVec_inj.mp
  apply BitVec.eq_of_getLsbD_eq
  intro i hi
  have := h i hi
  rw [LB] at this
  rw [this]
  show false = (0#64).getLsbD i
  rw [BitVec.getLsbD_zero]
theorem LB_z (s : Nat) : LB 0 s = false := by
  show (0#64).getLsbD s = false
  rw [BitVec.getLsbD_zero]
theorem lcmp0 (x : Int64) : lg_cmp x 0 = 0 ↔ x = 0 := lg_cmp_eq x 0
