/-! the class: fractions, saving -/
theorem c_commonOf {G : qm_G} (hG : G.2.2.2.2 = true) (d : Nat) (h : qm_H) {a b : Nat} (ha : a < 2 ^ 63) (hb : b < 2 ^ 63) : qm_Ev G d 0 0 qyX0_commonOf [.long (lN a), .long (lN b)] h (fun r h' => r = some (.long (lN (Nat.gcd a b))) ∧ h = h') := by
  refine qm_Ev.by (M := mX0_commonOf) okX0_commonOf (Nat.le_of_ble_eq_true rfl) hG fun z hA => ?_
  refine qm_wp_ok hA [6] 20 _ _ _ _ _ _ ?_
  have exit0 : ∀ i x, i ≤ 199 → x = Nat.gcd a b → qm_PW G mX0_commonOf z 6 0 0 [vl (lN a), vu, vl (lN b), vu, vl (lN x), vu, vl (lN 0), vu, vi (nI i), vu, vu] [] h := fun i x hi hx => by
    exact qm_wp_ok hA [] 20 _ _ _ _ _ _ ⟨fun q => absurd q (nI_ge (by omega : i < 200) (by decide)), fun _ => ⟨fun _ => ⟨rfl, by rw [hx], rfl⟩, fun q => absurd ((lg_cmp_eq _ _).mpr rfl) q⟩⟩
  have step : ∀ i x y, i ≤ 199 → 0 < y → x < 2 ^ 63 → y < 2 ^ 63 → qm_PW G mX0_commonOf z 6 0 0 [vl (lN a), vu, vl (lN b), vu, vl (lN y), vu, vl (lN (x % y)), vu, vi (nI (i + 1)), vu, vu] [] h → qm_PW G mX0_commonOf z 6 0 0 [vl (lN a), vu, vl (lN b), vu, vl (lN x), vu, vl (lN y), vu, vi (nI i), vu, vu] [] h := fun i x y hi h0 hx hy key => by
    have hne : ¬ lN y = lN 0 := fun q => by have := (pk_lEQ hy (by decide)).mp q; omega
    rw [← nI_1, ← pk_lRem hx h0 hy] at key
    exact qm_wp_ok hA [6] 40 _ _ _ _ _ _ ⟨fun q => absurd q (nI_ge (by omega : i < 200) (by decide)), fun _ => ⟨fun q => absurd ((lg_cmp_eq _ _).mp q) hne, fun _ => ⟨hne, key.mask [true, true, true, true, true, true, true, true, true, false, false]⟩⟩⟩
  have loop : ∀ k i x y, y ≤ x → x < 2 ^ 63 → x * y < 2 ^ k → i + k ≤ 199 → Nat.gcd x y = Nat.gcd a b → qm_PW G mX0_commonOf z 6 0 0 [vl (lN a), vu, vl (lN b), vu, vl (lN x), vu, vl (lN y), vu, vi (nI i), vu, vu] [] h := by
    intro k
    induction k with
    | zero =>
      intro i x y hyx hx hp hi hg
      have hy : y = 0 := by
        rcases Nat.eq_zero_or_pos y with z | z
        · exact z
        · have := Nat.mul_pos (by omega : 0 < x) z; omega
      subst hy
      rw [Nat.gcd_zero_right] at hg
      exact exit0 i x (by omega) hg
    | succ k ih =>
      intro i x y hyx hx hp hi hg
      rcases Nat.eq_zero_or_pos y with z | z
      · subst z
        rw [Nat.gcd_zero_right] at hg
        exact exit0 i x (by omega) hg
      · have hm := Nat.mod_lt x z
        have h1 : x % y + y * (x / y) = x := Nat.mod_add_div x y
        have h2 : y * 1 ≤ y * (x / y) := Nat.mul_le_mul_left y (Nat.div_pos hyx z)
        have h3 : 2 * (x % y) ≤ x := by omega
        have h4 : y * (2 * (x % y)) ≤ y * x := Nat.mul_le_mul_left y h3
        have h5 : y * (2 * (x % y)) = 2 * (y * (x % y)) := by rw [Nat.mul_left_comm]
        rw [Nat.mul_comm x y] at hp
        rw [Nat.pow_succ] at hp
        refine step i x y (by omega) z hx (by omega) (ih (i + 1) y (x % y) (by omega) (by omega) (by omega) (by omega) ?_)
        rw [← hg, Nat.gcd_comm y, ← Nat.gcd_rec, Nat.gcd_comm]
  rcases Nat.eq_zero_or_pos b with z | z
  · subst z
    exact exit0 0 a (by omega) (Nat.gcd_zero_right a).symm
  · have hm := Nat.mod_lt a z
    refine step 0 a b (by omega) z ha hb (loop 126 1 b (a % b) (by omega) hb ?_ (by omega) ?_)
    · have h1 : b * (a % b) ≤ b * b := Nat.mul_le_mul_left b (by omega)
      have h2 : b * b < 2 ^ 63 * 2 ^ 63 := Nat.mul_lt_mul'' hb hb
      have h3 : (2 : Nat) ^ 63 * 2 ^ 63 = 2 ^ 126 := by decide
      omega
    · rw [Nat.gcd_comm b, ← Nat.gcd_rec, Nat.gcd_comm]
theorem c_part {G : qm_G} (hG : G.2.2.2.2 = true) (d : Nat) (h : qm_H) {a b : Nat} (x y : Int64) (hx : x = lN a) (hy : y = lN b) (ha : a < 2 ^ 63) (hb : b < 2 ^ 63) (hb0 : 0 < b) (u : Bool) : qm_Ev G (d + 1) 0 0 qyX0_part [.long x, .long y, .int (b2 u)] h (fun r h' => r = some (.long (lN ((if u then b else a) / Nat.gcd b a))) ∧ h = h') := by
  subst hx; subst hy
  have g0 : 0 < Nat.gcd a b := Nat.gcd_pos_of_pos_right a hb0
  have g1 : Nat.gcd a b ≤ b := Nat.gcd_le_right a hb0
  have hne : ¬ lN (Nat.gcd a b) = 0 := fun q => by have := (pk_lEQ (b := 0) (by omega) (by decide)).mp q; omega
  refine qm_Ev.run (M := mX0_part) okX0_part rfl hG fun z => ?_
  refine ⟨0, 0, _, c_commonOf hG d h ha hb, ⟨Nat.le_refl _, Nat.le_refl _⟩, ?_⟩
  rintro _ _ ⟨rfl, rfl⟩
  refine ⟨fun _ => ?_, fun (c : ¬ 0 < lg_cmp (lN (Nat.gcd a b)) 0) => absurd ((lg_cmp_gt _ _).mpr ((pk_lLT (a := 0) (by decide) (by omega)).mpr g0)) c⟩
  refine b2_eq (fun hu => ⟨hne, rfl, ?_, rfl⟩) (fun hu => ⟨hne, rfl, ?_, rfl⟩)
  · show some (Value.long (lN b / lN (Nat.gcd a b))) = _
    rw [pk_lDiv hb g0 (by omega), hu, if_pos rfl, Nat.gcd_comm]
  · show some (Value.long (lN a / lN (Nat.gcd a b))) = _
    rw [pk_lDiv ha g0 (by omega), hu, if_neg (by decide), Nat.gcd_comm]
theorem c_sumOfBetter {G : qm_G} (hG : G.2.2.2.2 = true) (d : Nat) (h : qm_H) {m ov un : Nat} (hm : m ≤ 6) (ho : ov < 2 ^ 40) (hu : un < 2 ^ 40) : qm_Ev G (d + 1) 0 0 qyX0_sumOfBetter [.int (nI m), .long (lN ov), .long (lN un)] h (fun r h' => r = some (.long (lN (sv_sum un ov m))) ∧ h = h') := by
  refine qm_Ev.by (M := mX0_sumOfBetter) okX0_sumOfBetter (Nat.le_of_ble_eq_true rfl) hG fun z hA => ?_
  refine qm_wp_ok hA [4] 20 _ _ _ _ _ _ ?_
  refine qm_for (P := fun k => qm_PW G mX0_sumOfBetter z 4 0 0 [vi (nI m), vl (lN ov), vu, vl (lN un), vu, vl (lN (sv_sum un ov k)), vu, vi (nI (k + 1))] [] h) (N := m) ?_ ?_
  · exact qm_wp_ok hA [] 20 _ _ _ _ _ _ ⟨fun _ => ⟨rfl, rfl, rfl⟩, fun q => absurd (nI_lt (by omega) (by omega)) q⟩
  · intro k hk key
    have hw : (k + 1) * un < 2 ^ 63 := by
      have : (k + 1) * un ≤ 6 * un := Nat.mul_le_mul_right un (by omega)
      omega
    have e1 : (nI (k + 1)).toInt64 * lN un = lN ((k + 1) * un) := by rw [nI_l (by omega), lN_mul]
    have em : (if lN ov < (nI (k + 1)).toInt64 * lN un then (nI (k + 1)).toInt64 * lN un else lN ov) = lN (max ((k + 1) * un) ov) := by
      rw [e1]
      by_cases c : ov < (k + 1) * un
      · rw [if_pos ((pk_lLT (by omega) hw).mpr c), Nat.max_eq_left (by omega)]
      · rw [if_neg (fun q => c ((pk_lLT (by omega) hw).mp q)), Nat.max_eq_right (by omega)]
    rw [← nI_1 (k + 1), sv_sum, ← lN_add, ← em] at key
    refine qm_wp_ok hA [4, 13] 40 _ _ _ _ _ _ ⟨fun q => absurd q (nI_nlt (by omega) (by omega)), fun _ => ?_⟩
    refine sp_lmax hA rfl rfl rfl (k1 := 838) (by decide +kernel) (Nat.le_of_ble_eq_true rfl) ?_
    exact qm_wp_ok hA [4] 20 _ _ _ _ _ _ key
theorem sv_up {m sc had : Nat} (h0 : 0 < sc) (hh : had ≤ m * sc) : ∀ r, r ≤ m → (∀ w, 1 ≤ w → w < m - r + 1 → ¬ had ≤ w * sc) → 1 ≤ m → sv_l m sc had r = max 1 ((had + sc - 1) / sc)
  | 0, _, hb, hm => by
    rw [sv_l]
    have h1 : (had + sc - 1) / sc ≤ m := by
      rw [← Nat.lt_succ_iff, Nat.div_lt_iff_lt_mul h0, Nat.succ_mul]
      omega
    rcases Nat.eq_or_lt_of_le hm with e | e
    · omega
    · have := hb (m - 1) (by omega) (by omega)
      have h2 : m ≤ (had + sc - 1) / sc := by
        rw [Nat.le_div_iff_mul_le h0]
        have e2 : m * sc = (m - 1) * sc + sc := by rw [← Nat.succ_mul]; congr 1; omega
        omega
      omega
  | r + 1, hr, hb, hm => by
    rw [sv_l]
    split
    · rename_i c
      have h1 : (had + sc - 1) / sc ≤ m - r := by
        rw [← Nat.lt_succ_iff, Nat.div_lt_iff_lt_mul h0, Nat.succ_mul]
        omega
      by_cases e : m - r = 1
      · omega
      · have := hb (m - r - 1) (by omega) (by omega)
        have h2 : m - r ≤ (had + sc - 1) / sc := by
          rw [Nat.le_div_iff_mul_le h0]
          have e2 : (m - r) * sc = (m - r - 1) * sc + sc := by rw [← Nat.succ_mul]; congr 1; omega
          omega
        omega
    · rename_i c
      refine sv_up h0 hh r (by omega) (fun w w1 w2 => ?_) hm
      by_cases e : w = m - r
      · rw [e]; exact c
      · exact hb w w1 (by omega)
theorem c_upward {G : qm_G} (hG : G.2.2.2.2 = true) (d : Nat) (h : qm_H) {ov un : Nat} (ho : ov < 2 ^ 40) (hu : un < 2 ^ 40) (h0 : 0 < un) : qm_Ev G (d + 1) 0 0 qyX0_upward [.long (lN ov), .long (lN un)] h (fun r h' => r = some (.long (lN (max 1 ((ov + un - 1) / un)))) ∧ h = h') := by
  have hne : ¬ lN un = 0 := fun q => by have := (pk_lEQ (b := 0) (by omega) (by decide)).mp q; omega
  have e : (lN ov + lN un - 1) / lN un = lN ((ov + un - 1) / un) := by
    rw [lN_add, show (1 : Int64) = lN 1 from rfl, lN_sub (by omega), pk_lDiv (by omega) h0 (by omega)]
  have hle : (ov + un - 1) / un ≤ ov + un - 1 := Nat.div_le_self _ _
  have em : (if (lN ov + lN un - 1) / lN un < (1 : Int64) then (1 : Int64) else (lN ov + lN un - 1) / lN un) = lN (max 1 ((ov + un - 1) / un)) := by
    rw [e]
    by_cases c : (ov + un - 1) / un < 1
    · rw [if_pos (show lN ((ov + un - 1) / un) < (1 : Int64) from (pk_lLT (b := 1) (by omega) (by decide)).mpr c), Nat.max_eq_left (by omega)]; rfl
    · rw [if_neg (fun (q : lN ((ov + un - 1) / un) < (1 : Int64)) => c ((pk_lLT (b := 1) (by omega) (by decide)).mp q)), Nat.max_eq_right (by omega)]
  refine qm_Ev.by (M := mX0_upward) okX0_upward (Nat.le_of_ble_eq_true rfl) hG fun z hA => ?_
  refine qm_wp_ok hA [14] 40 _ _ _ _ _ _ ⟨fun _ => ⟨hne, ?_⟩, fun (c : ¬ 0 < lg_cmp (lN un) 0) => absurd ((lg_cmp_gt _ _).mpr ((pk_lLT (a := 0) (by decide) (by omega)).mpr h0)) c⟩
  refine sp_lmax hA rfl rfl rfl (k1 := 838) (by decide +kernel) (Nat.le_of_ble_eq_true rfl) ?_
  refine qm_wp_ok hA [] 20 _ _ _ _ _ _ ⟨rfl, ?_, rfl⟩
  show some (Value.long (if (lN ov + lN un - 1) / lN un < (1 : Int64) then (1 : Int64) else (lN ov + lN un - 1) / lN un)) = _
  rw [em]
theorem b_save {G : qm_G} (hG : G.2.2.2.2 = true) (d : Nat) (h : qm_H) (m n what : Int32) : qm_Ev G (d + 3) 0 0 qyX9_save [.ref 0, .int m, .int n, .int what] h (fun r h' => r = some (.long (p_save m n what)) ∧ h = h') := by
  by_cases hm : 1 ≤ m ∧ m ≤ 6
  · by_cases hn : 1 ≤ n ∧ n ≤ 9
    · by_cases hw : inb what 3 = true
      · obtain ⟨mm, m1, m2, rfl⟩ := in1 (N := 6) rfl (by decide) hm
        obtain ⟨nn', n1, n2, rfl⟩ := in1 (N := 9) rfl (by decide) hn
        obtain ⟨ww, w1, rfl⟩ := inb_e (by decide) hw
        have er : p_save (nI mm) (nI nn') (nI ww) = s_save mm nn' (nI ww) := by
          rw [p_save, decide_eq_true hm, decide_eq_true hn, hw, nI_clamp (by omega), nI_clamp (by omega)]; rfl
        rw [er]
        have bd : ∀ k, k ≤ 9 → (sv mm k).2 ≤ 10077696 ∧ (sv mm k).1 ≤ 60466176 := fun k hk => sv_b m2 hk
        have p0 : ∀ k, 0 < (sv mm k).2 := fun k => by rw [(sv_le mm k).1]; exact Nat.pow_pos (by omega)
        refine qm_Ev.by (M := mX9_save) okX9_save (Nat.le_of_ble_eq_true rfl) hG fun z hA => ?_
        refine qm_wp_ok hA [25] 40 _ _ _ _ _ _ ⟨fun q => absurd q (nI_nlt (a := mm) (b := 1) m1 (by omega)), fun _ => ⟨fun q => absurd q (nI_nlt (a := 6) m2 (by decide)), fun _ => ⟨fun q => absurd q (nI_nlt (a := nn') (b := 1) n1 (by omega)), fun _ => ⟨fun q => absurd q (nI_nlt (a := 9) n2 (by decide)), fun _ => ⟨fun q => absurd q (nI_pos (by omega)), fun _ => ⟨fun _ => ?_, fun q => absurd (nI_le (b := 2) (by omega) (by decide)) q⟩⟩⟩⟩⟩⟩
        have start := qm_for (P := fun k => qm_PW G mX9_save z 25 0 0 [vr 0, vi (nI mm), vi (nI nn'), vi (nI ww), vl (lN (sv mm k).1), vu, vl (lN (sv mm k).2), vu, vi (nI (k + 1))] [] h) (N := nn' - 1) ?_ ?_
        · exact start
        · obtain ⟨b1, b2'⟩ := bd (nn' - 1) (by omega)
          obtain ⟨b3, b4⟩ := bd nn' n2
          have es : sv mm nn' = (sv_sum (sv mm (nn' - 1)).2 (sv mm (nn' - 1)).1 mm, (sv mm (nn' - 1)).2 * mm) := by
            have : nn' = (nn' - 1) + 1 := by omega
            rw [this]; rfl
          have e1 : lN (sv mm (nn' - 1)).2 * (nI mm).toInt64 = lN (sv mm nn').2 := by rw [nI_l (by omega), lN_mul, es]
          have e2 : lN (sv_sum (sv mm (nn' - 1)).2 (sv mm (nn' - 1)).1 mm) = lN (sv mm nn').1 := by rw [es]
          refine qm_wp_ok hA [] 60 _ _ _ _ _ _ ⟨fun _ => ?_, fun (q : ¬ nI nn' ≤ nI (nn' - 1 + 1)) => absurd (nI_le (by omega) (by omega)) q⟩
          refine ⟨fun (c : ¬ nI ww = 2) => ⟨0, 0, _, c_sumOfBetter hG _ h m2 (by omega) (by omega), ⟨Nat.le_refl _, Nat.le_refl _⟩, ?_⟩, fun (c : nI ww = 2) => ⟨0, 0, _, c_upward hG _ h (by omega) (by omega) (p0 _), ⟨Nat.le_refl _, Nat.le_refl _⟩, ?_⟩⟩
          · rintro _ _ ⟨rfl, rfl⟩
            refine ⟨fun (c1 : ¬ nI ww = 1) => ⟨0, 0, _, c_part hG _ h _ _ e2 e1 (by omega) (by omega) (p0 _) false, ⟨Nat.le_refl _, Nat.le_refl _⟩, ?_⟩, fun (c1 : nI ww = 1) => ⟨0, 0, _, c_part hG _ h _ _ e2 e1 (by omega) (by omega) (p0 _) true, ⟨Nat.le_refl _, Nat.le_refl _⟩, ?_⟩⟩
            · rintro _ _ ⟨rfl, rfl⟩
              refine ⟨rfl, ?_, rfl⟩
              rw [s_save, if_neg c, if_neg c1, if_neg (by decide)]
            · rintro _ _ ⟨rfl, rfl⟩
              refine ⟨rfl, ?_, rfl⟩
              rw [s_save, if_neg c, if_pos c1, if_pos rfl]
          · rintro _ _ ⟨rfl, rfl⟩
            refine ⟨rfl, ?_, rfl⟩
            rw [s_save, if_pos c, sv_up (p0 _) (by rw [(sv_le mm (nn' - 1)).1]; exact (sv_le mm (nn' - 1)).2) mm (Nat.le_refl _) (fun w w1 w2 => by omega) m1]
        · intro k hk key
          obtain ⟨b1, b2'⟩ := bd k (by omega)
          have e1 : lN ((sv mm k).2 * mm) = lN (sv mm k).2 * (nI mm).toInt64 := by rw [nI_l (by omega), lN_mul]
          rw [← nI_1 (k + 1), sv, e1] at key
          refine qm_wp_ok hA [25] 40 _ _ _ _ _ _ ⟨fun q => absurd q (nI_ge (by omega) (by omega)), fun _ => ⟨0, 0, _, c_sumOfBetter hG _ h m2 (by omega) (by omega), ⟨Nat.le_refl _, Nat.le_refl _⟩, ?_⟩⟩
          rintro _ _ ⟨rfl, rfl⟩
          exact key
      · have er : p_save m n what = -1 := by
          rw [p_save, show inb what 3 = false by simpa using hw, Bool.and_false]; rfl
        rw [er]
        rw [inb_lt (by decide), Bool.and_eq_true, decide_eq_true_eq, decide_eq_true_eq] at hw
        refine qm_Ev.run (M := mX9_save) okX9_save rfl hG fun z => ?_
        refine ⟨fun _ => ⟨rfl, rfl, rfl⟩, fun _ => ⟨fun _ => ⟨rfl, rfl, rfl⟩, fun _ => ⟨fun _ => ⟨rfl, rfl, rfl⟩, fun _ => ⟨fun _ => ⟨rfl, rfl, rfl⟩, fun _ => ⟨fun _ => ⟨rfl, rfl, rfl⟩, fun (c1 : ¬ what < 0) => ⟨fun (c2 : what ≤ 2) => absurd ⟨Int32.not_lt.mp c1, Int32.lt_of_le_of_lt c2 (by decide)⟩ hw, fun _ => ⟨rfl, rfl, rfl⟩⟩⟩⟩⟩⟩⟩
    · have er : p_save m n what = -1 := by
        rw [p_save, decide_eq_false hn, Bool.and_false, Bool.false_and]; rfl
      rw [er]
      refine qm_Ev.run (M := mX9_save) okX9_save rfl hG fun z => ?_
      exact ⟨fun _ => ⟨rfl, rfl, rfl⟩, fun _ => ⟨fun _ => ⟨rfl, rfl, rfl⟩, fun _ => ⟨fun _ => ⟨rfl, rfl, rfl⟩, fun (c1 : ¬ n < 1) => ⟨fun _ => ⟨rfl, rfl, rfl⟩, fun (c2 : ¬ 9 < n) => absurd ⟨Int32.not_lt.mp c1, Int32.not_lt.mp c2⟩ hn⟩⟩⟩⟩
  · have er : p_save m n what = -1 := by
      rw [p_save, decide_eq_false hm, Bool.false_and, Bool.false_and]; rfl
    rw [er]
    refine qm_Ev.run (M := mX9_save) okX9_save rfl hG fun z => ?_
    exact ⟨fun _ => ⟨rfl, rfl, rfl⟩, fun (c1 : ¬ m < 1) => ⟨fun _ => ⟨rfl, rfl, rfl⟩, fun (c2 : ¬ 6 < m) => absurd ⟨Int32.not_lt.mp c1, Int32.not_lt.mp c2⟩ hm⟩⟩
