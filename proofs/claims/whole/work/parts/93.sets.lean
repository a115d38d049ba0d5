/-! the class: the sets that fit -/
theorem sh_mask : ∀ k, k < 64 → (((nI k).toInt64.toUInt64 &&& Int64.toUInt64 63).toBitVec % 64).toNat = k := by decide +kernel
theorem land1 (y : Int64) : y &&& 1 = 0 ↔ LB y 0 = false := by
  constructor
  · intro e
    have : LB (y &&& 1) 0 = false := by rw [e, LB_z]
    rw [LB_and, show LB 1 0 = true by decide, Bool.and_true] at this
    exact this
  · intro e
    apply LB_0
    intro s hs
    rw [LB_and]
    rcases Nat.eq_zero_or_pos s with z | z
    · rw [z, e]; rfl
    · have : ∀ s, s < 64 → 0 < s → LB 1 s = false := by decide +kernel
      rw [this s hs z, Bool.and_false]
theorem ul_bit (x : Int64) {k : Nat} (hk : k < 64) : LB (ul x (nI k)) 0 = LB x k := by
  rw [← LB_t, ul_n x (nI k) k (sh_mask k hk), ← LB_t, Nat.testBit_div_two_pow, Nat.zero_add]
theorem c_setsHas {G : qm_G} (hG : G.2.2.2.2 = true) (d : Nat) (h : qm_H) (x : Int64) {k : Nat} (hk : k < 64) : qm_Ev G d 0 0 qyX5_has [.long x, .int (nI k)] h (fun r h' => r = some (.int (b2 (LB x k))) ∧ h = h') := by
  refine qm_Ev.run (M := mX5_has) okX5_has rfl hG fun z => ?_
  refine ⟨fun (q : lg_cmp (ul x (nI k) &&& 1) 0 = 0) => ⟨rfl, ?_, rfl⟩, fun (q : ¬ lg_cmp (ul x (nI k) &&& 1) 0 = 0) => ⟨rfl, ?_, rfl⟩⟩
  · have := (land1 _).mp ((lcmp0 _).mp q)
    rw [ul_bit x hk] at this
    rw [this]; rfl
  · have : LB x k = true := by
      cases z : LB x k with
      | true => rfl
      | false =>
        rw [← ul_bit x hk] at z
        exact absurd ((lcmp0 _).mpr ((land1 _).mpr z)) q
    rw [this]; rfl
/-- the bits of x are the sets that fit -/
def FX (w lg : Nat → Int32) (m : Nat) (x : Int64) : Prop := ∀ s, s < 64 → LB x s = s_fit w lg (nI s) m
theorem stl_f {f : Nat} (hf : f < 6) : (fun j => Value.long (qm_stl j)) (nI f).toNatClampNeg = .long (qm_stl f) := by
  show Value.long (qm_stl (nI f).toNatClampNeg) = _
  rw [nI_clamp (by omega)]
theorem c_fitting {G : qm_G} (hG : G.2.2.2.2 = true) (d : Nat) (h : qm_H) {P n Q m : Nat} {w lg : Nat → Int32} (t : TO h P w n) (l : RO h Q 2 lg m) (hV : VL lg m) : qm_Ev G (d + 1) 0 0 qyX5_fitting [.ref P, .ref Q] h (fun r h' => ∃ x, r = some (.long x) ∧ FX w lg m x ∧ h = h') := by
  obtain ⟨hm, -, hL⟩ := hV
  refine qm_Ev.by (M := mX5_fitting) okX5_fitting (Nat.le_of_ble_eq_true rfl) hG fun z hA => ?_
  refine qm_wp_ok hA [5] 20 _ _ _ _ _ _ ?_
  refine ⟨t.is, ?_⟩
  have start : ∀ s, s < 64 → LB (h.2.1 P 8) s = s_fit w lg (nI s) 0 := fun s hs => t.2.2.2.2.2.2 s hs
  refine (qm_for (P := fun k => ∀ x, (∀ s, s < 64 → LB x s = s_fit w lg (nI s) k) → qm_PW G mX5_fitting z 5 0 0 [vr P, vr Q, vl x, vu, vi (nI k), vu] [] h) (N := m) ?_ ?_) _ start
  · intro x hx
    exact qm_wp_ok hA [] 20 _ _ _ _ _ _ ⟨l.2.1, fun _ => ⟨rfl, x, rfl, hx, rfl⟩, fun (q : ¬ h.1 Q 0 ≤ nI m) => absurd (by rw [l.2.2.1]; exact Int32.le_refl _) q⟩
  · intro k hk key x hx
    obtain ⟨ha, f, hf, ef⟩ := hL k hk
    refine qm_wp_ok hA [5, 23, 29] 40 _ _ _ _ _ _ ⟨l.2.1, fun (q : h.1 Q 0 ≤ nI k) => absurd q (by rw [l.2.2.1]; exact nI_ge hk (by omega)), fun _ => ⟨l.2.1, 0, 0, _, c_at hG d h l (by omega) (by decide) hk (by decide : 1 < 2), ⟨Nat.le_refl _, Nat.le_refl _⟩, ?_⟩⟩
    rintro _ _ ⟨rfl, rfl⟩
    rw [ef]
    refine ⟨0, 0, _, c_isFact hG d h (nI f), ⟨Nat.le_refl _, Nat.le_refl _⟩, ?_⟩
    rintro _ _ ⟨rfl, rfl⟩
    rw [inb_n (by decide) hf]
    refine ⟨fun q => absurd q (by decide), fun _ => ⟨l.2.1, 0, 0, _, c_at hG d h l (by omega) (by decide) hk (by decide : 0 < 2), ⟨Nat.le_refl _, Nat.le_refl _⟩, ?_⟩⟩
    rintro _ _ ⟨rfl, rfl⟩
    rw [Nat.add_zero]
    have hb : ∀ s, s < 64 → bit (nI s) (lg (1 + 2 * k + 1)) = s.testBit f := fun s hs => by rw [ef, bit_n _ (by omega)]
    refine ⟨fun (c : ¬ lg (1 + 2 * k) = 0) => ?_, fun (c : lg (1 + 2 * k) = 0) => ?_⟩
    · have c1 := ha.resolve_left c
      refine sp_getsN hA rfl rfl rfl 0 rfl (k1 := 883) (host := "OneStatement") (by decide +kernel) ?_
      refine qm_wp_ok hA [31] 20 _ _ _ _ _ _ ?_
      refine sp_tl hA rfl rfl rfl 0 rfl (vp_in_nI hf (by decide)) (stl_f hf) ?_
      have := key (x &&& qm_stl f) (fun s hs => by rw [LB_and, hx s hs, LB_hav f hf s hs, s_fit, hb s hs, c1]; cases s.testBit f <;> rfl)
      rw [← nI_1] at this
      exact qm_wp_ok hA [5] 20 _ _ _ _ _ _ (this.mask [true, true, true, true, true, false])
    · refine sp_getsN hA rfl rfl rfl 0 rfl (k1 := 883) (host := "OneStatement") (by decide +kernel) ?_
      refine qm_wp_ok hA [25] 20 _ _ _ _ _ _ ?_
      refine sp_tl hA rfl rfl rfl 0 rfl (vp_in_nI hf (by decide)) (stl_f hf) ?_
      have := key (x &&& (qm_stl f ^^^ -1)) (fun s hs => by rw [LB_and, hx s hs, LB_not _ hs, LB_hav f hf s hs, s_fit, hb s hs, c]; cases s.testBit f <;> rfl)
      rw [← nI_1] at this
      exact qm_wp_ok hA [5] 20 _ _ _ _ _ _ (this.mask [true, true, true, true, true, false])
/-! counting -/
def cnB (p : Nat → Bool) : Nat → Nat
  | 0 => 0
  | k + 1 => cnB p k + (if p k then 1 else 0)
theorem cnB_co {p p' : Nat → Bool} : ∀ k, (∀ j, j < k → p j = p' j) → cnB p k = cnB p' k
  | 0, _ => rfl
  | k + 1, h => by rw [cnB, cnB, cnB_co k (fun j hj => h j (by omega)), h k (by omega)]
theorem cnB_le (p : Nat → Bool) : ∀ k, cnB p k ≤ k
  | 0 => Nat.le_refl _
  | k + 1 => by rw [cnB]; have := cnB_le p k; split <;> omega
theorem pcN_c (x : Int64) : ∀ k, pcN x.toBitVec.toNat k = cnB (LB x) k
  | 0 => rfl
  | k + 1 => by rw [pcN, cnB, pcN_c x k, LB_t]
theorem cnB_sp {p q : Nat → Bool} : ∀ k, cnB (fun j => p j && q j) k + cnB (fun j => p j && !q j) k = cnB p k
  | 0 => rfl
  | k + 1 => by
    have := cnB_sp (p := p) (q := q) k
    rw [cnB, cnB, cnB]
    cases p k <;> cases q k <;> simp <;> omega
section Lay
variable {w lg : Nat → Int32} {m : Nat}
theorem lay_c (a : Nat → Int32) : ∀ k, (s_lay w lg m a k).1 = cnB (fun s => s_fit w lg (nI s) m) k
  | 0 => rfl
  | k + 1 => by
    rw [s_lay, cnB, ← lay_c a k]
    split <;> rfl
theorem lay_at (a : Nat → Int32) {b : Nat} (hb : s_fit w lg (nI b) m = true) : ∀ k, b < k → (s_lay w lg m a k).2 (s_lay w lg m a b).1 = nI b ∧ (s_lay w lg m a b).1 < (s_lay w lg m a k).1
  | 0, h => by omega
  | k + 1, h => by
    by_cases e : b = k
    · subst e
      rw [s_lay, if_pos hb]
      exact ⟨up_s _ _ _, by show _ < _ + 1; omega⟩
    · obtain ⟨i1, i2⟩ := lay_at a hb k (by omega)
      rw [s_lay]
      split
      · exact ⟨by show va_up _ _ _ _ = _; rw [up_n _ _ (by omega)]; exact i1, by show _ < _ + 1; omega⟩
      · exact ⟨i1, i2⟩
/-- what is laid is laid once -/
theorem lay_in (a : Nat → Int32) : ∀ k j, j < (s_lay w lg m a k).1 → ∃ b, b < k ∧ s_fit w lg (nI b) m = true ∧ (s_lay w lg m a b).1 = j
  | 0, j, h => absurd h (Nat.not_lt_zero _)
  | k + 1, j, h => by
    rw [s_lay] at h
    split at h
    · rename_i c
      have h : j < (s_lay w lg m a k).1 + 1 := h
      by_cases e : j = (s_lay w lg m a k).1
      · exact ⟨k, by omega, c, e.symm⟩
      · obtain ⟨b, b1, b2', b3⟩ := lay_in a k j (by omega)
        exact ⟨b, by omega, b2', b3⟩
    · obtain ⟨b, b1, b2', b3⟩ := lay_in a k j h
      exact ⟨b, by omega, b2', b3⟩
theorem manyN_co {a a' : Nat → Int32} {f : Int32} : ∀ c, (∀ j, j < c → a j = a' j) → manyN a f c = manyN a' f c
  | 0, _ => rfl
  | c + 1, h => by rw [manyN, manyN, manyN_co c (fun j hj => h j (by omega)), h c (by omega)]
theorem lay_many (a : Nat → Int32) {f : Nat} (hf : f < 6) : ∀ k, k ≤ 64 → manyN (s_lay w lg m a k).2 (nI f) (s_lay w lg m a k).1 = cnB (fun s => s_fit w lg (nI s) m && s.testBit f) k
  | 0, _ => rfl
  | k + 1, hk => by
    rw [cnB, ← lay_many a hf k (by omega), s_lay]
    cases c : s_fit w lg (nI k) m
    · rw [if_neg (by decide), Bool.false_and, if_neg (by decide), Nat.add_zero]
    · rw [if_pos rfl, Bool.true_and]
      show manyN (va_up (s_lay w lg m a k).2 (s_lay w lg m a k).1 (nI k)) (nI f) ((s_lay w lg m a k).1 + 1) = _
      rw [manyN, up_s, bit_n _ (by omega), manyN_co (a' := (s_lay w lg m a k).2) _ (fun j hj => by rw [up_n _ _ (by omega)])]
end Lay
theorem FX.c {w lg : Nat → Int32} {m : Nat} {x : Int64} (h : FX w lg m x) : pcN x.toBitVec.toNat 64 = (FL w lg m).1 := by
  rw [pcN_c, FL, lay_c]
  exact cnB_co 64 (fun j hj => h j hj)
theorem FX.m {w lg : Nat → Int32} {m : Nat} {x : Int64} (h : FX w lg m x) {f : Nat} (hf : f < 6) : pcN (x &&& qm_stl f).toBitVec.toNat 64 = manyN (FL w lg m).2 (nI f) (FL w lg m).1 := by
  rw [pcN_c, FL, lay_many _ hf 64 (Nat.le_refl _)]
  exact cnB_co 64 (fun j hj => by rw [LB_and, h j hj, LB_hav f hf j hj])
theorem FX.mn {w lg : Nat → Int32} {m : Nat} {x : Int64} (h : FX w lg m x) {f : Nat} (hf : f < 6) : pcN (x &&& (qm_stl f ^^^ -1)).toBitVec.toNat 64 = (FL w lg m).1 - manyN (FL w lg m).2 (nI f) (FL w lg m).1 := by
  have e1 := h.m hf
  have e2 := h.c
  rw [pcN_c] at e1 e2
  rw [pcN_c, ← e1, ← e2]
  have := cnB_sp (p := LB x) (q := LB (qm_stl f)) 64
  rw [cnB_co (p := LB (x &&& qm_stl f)) (p' := fun j => LB x j && LB (qm_stl f) j) 64 (fun j hj => LB_and _ _ _), cnB_co (p := LB (x &&& (qm_stl f ^^^ -1))) (p' := fun j => LB x j && !LB (qm_stl f) j) 64 (fun j hj => by rw [LB_and, LB_not _ hj])]
  omega
theorem FX.z {w lg : Nat → Int32} {m : Nat} {x : Int64} (h : FX w lg m x) : x = 0 ↔ (FL w lg m).1 = 0 := by
  rw [← h.c, pcN_c]
  constructor
  · intro e
    have : ∀ k, cnB (LB 0) k = 0 := by
      intro k
      induction k with
      | zero => rfl
      | succ k ih => rw [cnB, ih, LB_z]; rfl
    rw [e]; exact this 64
  · intro e
    have : ∀ k, cnB (LB x) k = 0 → ∀ s, s < k → LB x s = false := by
      intro k
      induction k with
      | zero => intro _ s hs; omega
      | succ k ih =>
        intro z s hs
        rw [cnB] at z
        by_cases q : s = k
        · subst q
          cases c : LB x s with
          | false => rfl
          | true => rw [c, if_pos rfl] at z; omega
        · exact ih (by omega) s (by omega)
    exact LB_0 (this 64 e)
