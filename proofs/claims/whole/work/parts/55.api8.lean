/-! the reference: fractions; saving -/
theorem e_common {G : qm_G} (hG : G.2.2.2.2 = true) (d : Nat) (h : qm_H) {a b : Nat} (ha : a < 2 ^ 63) (hb : b < 2 ^ 63) : qm_Ev G d 0 0 qyX10_common [.long (lN a), .long (lN b)] h (fun r h' => r = some (.long (lN (Nat.gcd a b))) ∧ h = h') := by
  refine qm_Ev.by (M := mX10_common) okX10_common (Nat.le_of_ble_eq_true rfl) hG fun z hA => ?_
  have loop : ∀ N y x : Nat, y ≤ N → x < 2 ^ 63 → y < 2 ^ 63 → Nat.gcd x y = Nat.gcd a b → qm_PW G mX10_common z 4 0 0 [vl (lN a), vu, vl (lN b), vu, vl (lN x), vu, vl (lN y), vu, vu, vu] [] h := by
    intro N
    induction N with
    | zero =>
      intro y x hy hx hy2 e
      obtain rfl : y = 0 := by omega
      refine qm_wp_ok hA [] 20 _ _ _ _ _ _ ⟨fun _ => ⟨rfl, ?_, rfl⟩, fun q => absurd ((lg_cmp_eq _ _).mpr rfl) q⟩
      rw [← e, Nat.gcd_zero_right]
    | succ N ih =>
      intro y x hy hx hy2 e
      refine qm_wp_ok hA [4] 20 _ _ _ _ _ _ ⟨fun c => ?_, fun c => ?_⟩
      · have c1 : lN y = lN 0 := (lg_cmp_eq _ _).mp c
        have c2 : y = 0 := (pk_lEQ hy2 (by decide)).mp c1
        refine ⟨rfl, ?_, rfl⟩
        rw [← e, c2, Nat.gcd_zero_right]
      · have c1 : ¬ lN y = 0 := fun q => c ((lg_cmp_eq _ _).mpr q)
        have c2 : 0 < y := by
          rcases Nat.eq_zero_or_pos y with q | q
          · exact absurd (by rw [q]; rfl) c1
          · exact q
        have hlt := Nat.mod_lt x c2
        have k := ih (x % y) y (by omega) hy2 (by omega) (by rw [← e, Nat.gcd_comm y, ← Nat.gcd_rec, Nat.gcd_comm])
        refine ⟨c1, ?_⟩
        rw [pk_lRem hx c2 hy2]
        exact qm_PW.mask [true, false, true, false, true, false, true, false, false, false] k
  refine qm_wp_ok hA [4] 20 _ _ _ _ _ _ ?_
  exact qm_PW.mask [true, false, true, false, true, false, true, false, false, false] (loop b b a (Nat.le_refl _) ha hb rfl)
theorem e_part {G : qm_G} (hG : G.2.2.2.2 = true) (d : Nat) (h : qm_H) {a b : Nat} (ha : a < 2 ^ 63) (hb : b < 2 ^ 63) (hb0 : 0 < b) (u : Bool) : qm_Ev G (d + 1) 0 0 qyX10_part [.long (lN a), .long (lN b), .int (b2 u)] h (fun r h' => r = some (.long (lN ((if u then b else a) / Nat.gcd b a))) ∧ h = h') := by
  have g0 : 0 < Nat.gcd b a := Nat.gcd_pos_of_pos_left _ hb0
  have g1 : Nat.gcd b a ≤ b := Nat.gcd_le_left _ hb0
  have gne : ¬ lN (Nat.gcd b a) = 0 := fun q => by have := (pk_lEQ (a := Nat.gcd b a) (b := 0) (by omega) (by decide)).mp q; omega
  refine qm_Ev.run (M := mX10_part) okX10_part rfl hG fun z => ?_
  refine b2_eq (fun hu => ?_) (fun hu => ?_)
  · refine ⟨0, 0, _, e_common hG d h hb ha, ⟨Nat.le_refl _, Nat.le_refl _⟩, ?_⟩
    rintro _ _ ⟨rfl, rfl⟩
    refine ⟨gne, rfl, ?_, rfl⟩
    rw [pk_lDiv hb g0 (by omega), if_pos hu]
  · refine ⟨0, 0, _, e_common hG d h hb ha, ⟨Nat.le_refl _, Nat.le_refl _⟩, ?_⟩
    rintro _ _ ⟨rfl, rfl⟩
    refine ⟨gne, rfl, ?_, rfl⟩
    rw [pk_lDiv ha g0 (by omega), if_neg (by rw [hu]; decide)]
/-- what is had, and the scale, behind so many days -/
def sv_sum (sc had : Nat) : Nat → Nat
  | 0 => 0
  | j + 1 => sv_sum sc had j + max ((j + 1) * sc) had
def sv (m : Nat) : Nat → Nat × Nat
  | 0 => (0, 1)
  | k + 1 => (sv_sum (sv m k).2 (sv m k).1 m, (sv m k).2 * m)
def sv_l (m sc had : Nat) : Nat → Nat
  | 0 => m
  | r + 1 => if had ≤ (m - r) * sc then m - r else sv_l m sc had r
theorem sv_sum_le {sc had B : Nat} (h1 : had ≤ B) : ∀ j, j * sc ≤ B → sv_sum sc had j ≤ j * B
  | 0, _ => by rw [sv_sum]; exact Nat.zero_le _
  | j + 1, h2 => by
    have h3 : j * sc ≤ B := Nat.le_trans (Nat.mul_le_mul_right _ (Nat.le_succ j)) h2
    have ih := sv_sum_le (sc := sc) h1 j h3
    have e : (j + 1) * B = j * B + B := Nat.succ_mul j B
    have : max ((j + 1) * sc) had ≤ B := Nat.max_le.mpr ⟨h2, h1⟩
    rw [sv_sum, e]
    exact Nat.add_le_add ih this
theorem sv_le (m : Nat) : ∀ k, (sv m k).2 = m ^ k ∧ (sv m k).1 ≤ m * m ^ k
  | 0 => ⟨rfl, Nat.zero_le _⟩
  | k + 1 => by
    obtain ⟨i1, i2⟩ := sv_le m k
    refine ⟨by rw [sv, i1, Nat.pow_succ], ?_⟩
    rw [sv, i1]
    have := sv_sum_le (sc := m ^ k) i2 m (Nat.le_refl _)
    rw [Nat.pow_succ, Nat.mul_comm (m ^ k) m]
    exact this
theorem sv_b {m k : Nat} (hm : m ≤ 6) (hk : k ≤ 9) : (sv m k).2 ≤ 10077696 ∧ (sv m k).1 ≤ 60466176 := by
  obtain ⟨h1, h2⟩ := sv_le m k
  have h3 : m ^ k ≤ 6 ^ 9 := by
    rcases Nat.eq_zero_or_pos m with q | q
    · rw [q]
      rcases Nat.eq_zero_or_pos k with q2 | q2
      · rw [q2]; decide
      · rw [Nat.zero_pow q2]; decide
    · exact Nat.le_trans (Nat.pow_le_pow_left hm k) (Nat.pow_le_pow_right (by decide) hk)
  have h4 : m * m ^ k ≤ 6 * 6 ^ 9 := Nat.mul_le_mul hm h3
  have e1 : 6 ^ 9 = 10077696 := by decide
  rw [e1] at h3 h4
  omega
def s_save (m n : Nat) (what : Int32) : Int64 := if what = 2 then lN (sv_l m (sv m (n - 1)).2 (sv m (n - 1)).1 m) else if what = 1 then lN ((sv m n).2 / Nat.gcd (sv m n).2 (sv m n).1) else lN ((sv m n).1 / Nat.gcd (sv m n).2 (sv m n).1)
def p_save (m n what : Int32) : Int64 := if decide (1 ≤ m ∧ m ≤ 6) && decide (1 ≤ n ∧ n ≤ 9) && inb what 3 then s_save m.toNatClampNeg n.toNatClampNeg what else -1
theorem in1 {x : Int32} {N : Nat} {M : Int32} (hM : M = nI N) (hN : N < 2 ^ 31) (h : 1 ≤ x ∧ x ≤ M) : ∃ j, 1 ≤ j ∧ j ≤ N ∧ x = nI j := by
  have h0 : ¬ x < 0 := fun q => absurd (Int32.lt_of_lt_of_le q (by decide : (0 : Int32) ≤ 1)) (Int32.not_lt.mpr h.1)
  obtain ⟨j, hj, e⟩ := nI_of2 (M := M) (n := N) (by rw [hM]; exact nI_toInt hN) h0 h.2
  refine ⟨j, ?_, hj, e⟩
  have := h.1
  rw [e] at this
  exact (nI_leI (a := 1) (b := j) (by decide) (by omega)).mp this
theorem a_save {G : qm_G} (hG : G.2.2.2.2 = true) (d : Nat) (h : qm_H) (m n what : Int32) : qm_Ev G (d + 2) 0 0 qyX10_save [.ref 26, .int m, .int n, .int what] h (fun r h' => r = some (.long (p_save m n what)) ∧ pers h h') := by
  refine qm_Ev.by (M := mX10_save) okX10_save (Nat.le_of_ble_eq_true rfl) hG fun z hA => ?_
  refine qm_wp_ok hA [28] 40 _ _ _ _ _ _ ?_
  refine ⟨rfl, trivial, 0, 0, _, e_in hG (d + 1) (qm_si h 26 0 0) m 1 6, ⟨Nat.le_refl _, Nat.le_refl _⟩, ?_⟩
  rintro _ _ ⟨rfl, rfl⟩
  refine b2_eq (fun hm => ?_) (fun hm => ⟨rfl, by rw [p_save, hm]; rfl, pers.rf.s26⟩)
  refine ⟨0, 0, _, e_in hG (d + 1) (qm_si h 26 0 0) n 1 9, ⟨Nat.le_refl _, Nat.le_refl _⟩, ?_⟩
  rintro _ _ ⟨rfl, rfl⟩
  refine b2_eq (fun hn => ?_) (fun hn => ⟨rfl, by rw [p_save, hn, Bool.and_false]; rfl, pers.rf.s26⟩)
  refine ⟨0, 0, _, e_in hG (d + 1) (qm_si h 26 0 0) what 0 2, ⟨Nat.le_refl _, Nat.le_refl _⟩, ?_⟩
  rintro _ _ ⟨rfl, rfl⟩
  refine b2_ne (fun hw => ?_) (fun hw => ⟨rfl, by rw [p_save, show inb what 3 = false from hw, Bool.and_false]; rfl, pers.rf.s26⟩)
  have hw1 : inb what 3 = true := hw
  obtain ⟨M, hM1, hM6, rfl⟩ := in1 (N := 6) rfl (by decide) (of_decide_eq_true hm)
  obtain ⟨N, hN1, hN9, rfl⟩ := in1 (N := 9) rfl (by decide) (of_decide_eq_true hn)
  have eP : p_save (nI M) (nI N) what = s_save M N what := by
    rw [p_save, hm, hn, hw1, nI_clamp (by omega), nI_clamp (by omega)]; rfl
  obtain ⟨h1, hh1⟩ : ∃ x, x = qm_si h 26 0 0 := ⟨_, rfl⟩
  have fin : pers h h1 := by rw [hh1]; exact pers.rf.s26
  rw [← hh1]
  obtain ⟨lst, hlst⟩ : ∃ lst : Nat → Nat, lst = fun k => if k = 0 then 1 else sv_l M (sv M (k - 1)).2 (sv M (k - 1)).1 M := ⟨_, rfl⟩
  refine qm_PW.mask [true, true, true, true, true, false, true, false, true, true, false, false, false, false] ?_
  have l0 : lst 0 = 1 := by rw [hlst]; rfl
  have start : qm_PW G mX10_save z 28 0 0 [vr 26, vi (nI M), vi (nI N), vi what, vl (lN (sv M 0).1), vu, vl (lN (sv M 0).2), vu, vi (nI (lst 0)), vi (nI 0), vu, vu, vu, vu] [] h1 := by
    refine qm_for (P := fun k => qm_PW G mX10_save z 28 0 0 [vr 26, vi (nI M), vi (nI N), vi what, vl (lN (sv M k).1), vu, vl (lN (sv M k).2), vu, vi (nI (lst k)), vi (nI k), vu, vu, vu, vu] [] h1) (N := N) ?_ ?_
    · obtain ⟨b1, b2'⟩ := sv_b hM6 hN9
      have b3 : 0 < (sv M N).2 := by rw [(sv_le M N).1]; exact Nat.pow_pos hM1
      refine qm_wp_ok hA [] 30 _ _ _ _ _ _ ⟨fun _ => ⟨fun c => ⟨fun c2 => ?_, fun c2 => ?_⟩, fun c => ?_⟩, fun q => absurd (Int32.le_refl _) q⟩
      · refine ⟨0, 0, _, e_part hG d h1 (a := (sv M N).1) (b := (sv M N).2) (by omega) (by omega) b3 false, ⟨Nat.le_refl _, Nat.le_refl _⟩, ?_⟩
        rintro _ _ ⟨rfl, rfl⟩
        exact ⟨rfl, by rw [eP, s_save, if_neg c, if_neg c2]; rfl, fin⟩
      · refine ⟨0, 0, _, e_part hG d h1 (a := (sv M N).1) (b := (sv M N).2) (by omega) (by omega) b3 true, ⟨Nat.le_refl _, Nat.le_refl _⟩, ?_⟩
        rintro _ _ ⟨rfl, rfl⟩
        exact ⟨rfl, by rw [eP, s_save, if_neg c, if_pos c2]; rfl, fin⟩
      · have hl : lst N ≤ 6 ∧ lst N = sv_l M (sv M (N - 1)).2 (sv M (N - 1)).1 M := by
          rw [hlst]
          have : ∀ r, sv_l M (sv M (N - 1)).2 (sv M (N - 1)).1 r ≤ M := by
            intro r
            induction r with
            | zero => exact Nat.le_refl _
            | succ r ih =>
              rw [sv_l]
              split <;> omega
          have h2 := this M
          simp only [if_neg (show ¬ N = 0 by omega)]
          exact ⟨by omega, trivial⟩
        exact ⟨rfl, by rw [eP, s_save, if_pos c, nI_l (by omega), hl.2], fin⟩
    · intro k hk key
      obtain ⟨b1, b2'⟩ := sv_b (k := k) hM6 (by omega)
      obtain ⟨had, hhad⟩ : ∃ x, x = (sv M k).1 := ⟨_, rfl⟩
      obtain ⟨sc, hsc⟩ : ∃ x, x = (sv M k).2 := ⟨_, rfl⟩
      rw [← hhad] at b2'
      rw [← hsc] at b1
      rw [← hhad, ← hsc]
      have e1 : (sv M (k + 1)).1 = sv_sum sc had M := by rw [sv, ← hhad, ← hsc]
      have e2 : (sv M (k + 1)).2 = sc * M := by rw [sv, ← hsc]
      have e3 : lst (k + 1) = sv_l M sc had M := by rw [hlst]; simp only [if_neg (Nat.succ_ne_zero k), Nat.add_sub_cancel]; rw [← hhad, ← hsc]
      rw [e1, e2, e3, ← nI_1, ← lN_mul, ← nI_l (n := M) (by omega)] at key
      refine qm_wp_ok hA [37] 30 _ _ _ _ _ _ ⟨fun q => absurd q (nI_ge hk (by omega)), fun _ => ?_⟩
      have inner : ∀ q r : Nat, r + q = M → ∀ s : Nat, s + sv_sum sc had (M - r) = sv_sum sc had M → qm_PW G mX10_save z 37 0 0 [vr 26, vi (nI M), vi (nI N), vi what, vl (lN had), vu, vl (lN sc), vu, vi (nI (sv_l M sc had r)), vi (nI k), vl (lN s), vu, vi (nI (M - r)), vu] [] h1 := by
        intro q
        induction q with
        | zero =>
          intro r hr s hs
          obtain rfl : r = M := hr
          rw [Nat.sub_self, sv_sum, Nat.add_zero] at hs
          rw [Nat.sub_self, hs]
          refine qm_wp_ok hA [28] 30 _ _ _ _ _ _ ⟨fun _ => ?_, fun q => absurd (by decide) q⟩
          exact qm_PW.mask [true, true, true, true, true, false, true, false, true, true, false, false, false, false] key
        | succ q ih =>
          intro r hr s hs
          obtain ⟨w, hw⟩ : ∃ w, M - r = w + 1 := ⟨M - r - 1, by omega⟩
          rw [hw, sv_sum] at hs
          rw [hw]
          have hwm : (w + 1) * sc < 2 ^ 63 := by
            have : (w + 1) * sc ≤ 6 * 10077696 := Nat.mul_le_mul (by omega) b1
            omega
          have key3 : ∀ (v lv : Nat) (L13 : Option Value), v = max ((w + 1) * sc) had → lv = sv_l M sc had (r + 1) → qm_PW G mX10_save z 37 0 0 [vr 26, vi (nI M), vi (nI N), vi what, vl (lN had), vu, vl (lN sc), vu, vi (nI lv), vi (nI k), vl (lN s + lN v), vu, vi (nI (w + 1) + -1), L13] [] h1 := by
            intro v lv L13 ev el
            have kk := ih (r + 1) (by omega) (s + v) (by rw [show M - (r + 1) = w by omega, ev]; omega)
            rw [show M - (r + 1) = w by omega, ← el] at kk
            rw [lN_add, pk_m1]
            exact qm_PW.mask [true, true, true, true, true, false, true, false, true, true, true, false, true, false] kk
          have eml : (nI (w + 1)).toInt64 * lN sc = lN ((w + 1) * sc) := by rw [nI_l (by omega), lN_mul]
          refine qm_wp_ok hA [37] 60 _ _ _ _ _ _ ⟨fun q => absurd q (nI_nle (by omega) (by omega)), fun _ => ?_⟩
          refine ⟨fun (c : lg_cmp ((nI (w + 1)).toInt64 * lN sc) (lN had) < 0) => ?_, fun (c : ¬ lg_cmp ((nI (w + 1)).toInt64 * lN sc) (lN had) < 0) => ?_⟩
          · rw [eml] at c
            have c1 : ¬ had ≤ (w + 1) * sc := fun q => absurd ((lg_cmp_lt _ _).mp c) (fun q2 => by have := (pk_lLT hwm (by omega)).mp q2; omega)
            refine ⟨fun _ => ⟨fun _ => ?_, fun q => absurd rfl q⟩, fun q => absurd rfl q⟩
            refine key3 had (sv_l M sc had r) (vi 0) (by omega) ?_
            rw [sv_l, hw, if_neg c1]
          · rw [eml] at c
            have c1 : had ≤ (w + 1) * sc := by
              rcases Nat.lt_or_ge ((w + 1) * sc) had with q | q
              · exact absurd ((lg_cmp_lt _ _).mpr ((pk_lLT hwm (by omega)).mpr q)) c
              · exact q
            refine ⟨fun q => absurd q (by decide), fun _ => ⟨fun q => absurd q (by decide), fun _ => ?_⟩⟩
            have kx := key3 ((w + 1) * sc) (w + 1) (vi 1) (by omega) (by rw [sv_l, hw, if_pos c1])
            rw [← eml] at kx
            exact kx
      have kk := inner M 0 (Nat.zero_add M) 0 (by rw [Nat.sub_zero, Nat.zero_add])
      exact qm_PW.mask [true, true, true, true, true, false, true, false, true, true, true, false, true, false] kk
  rw [l0] at start
  exact start
