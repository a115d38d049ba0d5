/-! the class: what is asked of the sets that fit -/
theorem mn_ge {a b : Int32} (h : a ≤ b) : mn a b = a := by
  rw [mn]
  split
  · rfl
  · exact Int32.le_antisymm (Int32.not_lt.mp (by assumption)) h
theorem mn_ng {a b : Int32} (h : ¬ a ≤ b) : mn a b = b := by
  rw [mn, if_neg (fun q => h (Int32.le_of_lt q))]
theorem FL_at {w lg : Nat → Int32} {m b : Nat} (hb : s_fit w lg (nI b) m = true) (h : b < 64) : (FL w lg m).2 (s_lay w lg m (fun _ => 0) b).1 = nI b ∧ (s_lay w lg m (fun _ => 0) b).1 < (FL w lg m).1 := lay_at _ hb 64 h
theorem lay_y {w lg : Nat → Int32} {m : Nat} {a : Nat → Int32} {b : Nat} (hb : s_fit w lg (nI b) m = true) : (s_lay w lg m a (b + 1)).1 = (s_lay w lg m a b).1 + 1 := by
  rw [s_lay, if_pos hb]
theorem lay_n {w lg : Nat → Int32} {m : Nat} {a : Nat → Int32} {b : Nat} (hb : s_fit w lg (nI b) m = false) : (s_lay w lg m a (b + 1)).1 = (s_lay w lg m a b).1 := by
  rw [s_lay, if_neg (by rw [hb]; decide)]
theorem c_nth {G : qm_G} (hG : G.2.2.2.2 = true) (d : Nat) (h : qm_H) {w lg : Nat → Int32} {m : Nat} {x : Int64} (hx : FX w lg m x) {j : Nat} (hj : j < 2 ^ 31) : qm_Ev G (d + 1) 0 0 qyX5_nth [.long x, .int (nI j)] h (fun r h' => r = some (.int (if nI (FL w lg m).1 ≤ nI j then -2 else (FL w lg m).2 j)) ∧ h = h') := by
  have hc := FL_le w lg m
  refine qm_Ev.by (M := mX5_nth) okX5_nth (Nat.le_of_ble_eq_true rfl) hG fun z hA => ?_
  refine qm_wp_ok hA [4] 20 _ _ _ _ _ _ ?_
  refine (qm_for (P := fun b => (s_lay w lg m (fun _ => 0) b).1 ≤ j → qm_PW G mX5_nth z 4 0 0 [vl x, vu, vi (nI j), vi (nI (j - (s_lay w lg m (fun _ => 0) b).1)), vi (nI b)] [] h) (N := 64) ?_ ?_) (Nat.zero_le _)
  · intro hle
    refine qm_wp_ok hA [] 20 _ _ _ _ _ _ ⟨fun _ => ⟨trivial, congV ?_, rfl⟩, fun q => absurd (by decide) q⟩
    rw [if_pos (show nI (FL w lg m).1 ≤ nI j from nI_le hle hj)]
  · intro b hb key hle
    have eb := hx b hb
    refine qm_wp_ok hA [4] 40 _ _ _ _ _ _ ⟨fun q => absurd q (nI_ge hb (by decide)), fun _ => ⟨0, 0, _, c_setsHas hG d h x hb, ⟨Nat.le_refl _, Nat.le_refl _⟩, ?_⟩⟩
    rintro _ _ ⟨rfl, rfl⟩
    refine b2_eq (fun hf => ?_) (fun hf => ?_)
    · rw [hf] at eb
      obtain ⟨f1, f2⟩ := FL_at eb.symm hb
      refine ⟨fun (c : ¬ nI (j - (s_lay w lg m (fun _ => 0) b).1) = 0) => ?_, fun (c : nI (j - (s_lay w lg m (fun _ => 0) b).1) = 0) => ⟨trivial, congV ?_, rfl⟩⟩
      · have hlt : (s_lay w lg m (fun _ => 0) b).1 < j := by
          rcases Nat.lt_or_ge (s_lay w lg m (fun _ => 0) b).1 j with q | q
          · exact q
          · rw [show j - (s_lay w lg m (fun _ => 0) b).1 = 0 by omega] at c; exact absurd rfl c
        rw [lay_y eb.symm] at key
        have k2 := key (by omega)
        rw [← nI_1, ← pk_m1 (j - ((s_lay w lg m (fun _ => 0) b).1 + 1)), show j - ((s_lay w lg m (fun _ => 0) b).1 + 1) + 1 = j - (s_lay w lg m (fun _ => 0) b).1 by omega] at k2
        exact k2
      · have e0 : j - (s_lay w lg m (fun _ => 0) b).1 = 0 := (nI_eq (b := 0) (by omega) (by decide)).mp c
        have ej : j = (s_lay w lg m (fun _ => 0) b).1 := by omega
        rw [if_neg (nI_ge (by omega) (by omega)), ej, f1]
    · rw [hf] at eb
      rw [lay_n eb.symm] at key
      have k2 := key hle
      rw [← nI_1] at k2
      exact k2
/-- the fewest (or most) of the first ones -/
def sfx (w lg : Nat → Int32) (m : Nat) (u : Bool) (b : Nat) : Int32 := if (s_lay w lg m (fun _ => 0) b).1 = 0 then -1 else s_few (FL w lg m).2 u (s_lay w lg m (fun _ => 0) b).1
theorem few_N (a : Nat → Int32) (u : Bool) : ∀ k, ∃ v, v ≤ 6 ∧ s_few a u k = nI v
  | 0 => ⟨_, onesN_le (a 0) 6, ones_N _ 6⟩
  | k + 1 => by
    obtain ⟨v, v1, v2⟩ := few_N a u k
    have o := onesN_le (a k) 6
    rw [s_few, v2, ones_N]
    cases u
    · rw [if_neg (by decide), mn_N (by omega) (by omega)]; exact ⟨_, by omega, rfl⟩
    · rw [if_pos rfl, mx_N (by omega) (by omega)]; exact ⟨_, by omega, rfl⟩
theorem sfx_n {w lg : Nat → Int32} {m : Nat} {u : Bool} {b : Nat} (hb : s_fit w lg (nI b) m = false) : sfx w lg m u (b + 1) = sfx w lg m u b := by
  rw [sfx, sfx, lay_n hb]
theorem sfx_y {w lg : Nat → Int32} {m : Nat} {u : Bool} {b : Nat} (hb : s_fit w lg (nI b) m = true) (h : b < 64) : sfx w lg m u (b + 1) = if (s_lay w lg m (fun _ => 0) b).1 = 0 then ones (nI b) 6 else if u then mx (sfx w lg m u b) (ones (nI b) 6) else mn (sfx w lg m u b) (ones (nI b) 6) := by
  obtain ⟨f1, f2⟩ := FL_at hb h
  rw [sfx, lay_y hb, if_neg (by omega), s_few, f1]
  by_cases c : (s_lay w lg m (fun _ => 0) b).1 = 0
  · rw [if_pos c, c, s_few]
    rw [c] at f1
    rw [f1]
    cases u
    · rw [if_neg (by decide), mn_ge (Int32.le_refl _)]
    · rw [if_pos rfl, mx_le (Int32.le_refl _)]
  · rw [if_neg c, sfx, if_neg c]
theorem ones_1 (x : Int32) : ¬ ones x 6 ≤ -1 := by
  rw [ones_N]
  exact nI_m1 (by have := onesN_le x 6; omega)
theorem c_smallest {G : qm_G} (hG : G.2.2.2.2 = true) (d : Nat) (h : qm_H) {w lg : Nat → Int32} {m : Nat} {x : Int64} (hx : FX w lg m x) : qm_Ev G (d + 1) 0 0 qyX5_smallest [.long x] h (fun r h' => r = some (.int (s_fewest w lg m false)) ∧ h = h') := by
  refine qm_Ev.by (M := mX5_smallest) okX5_smallest (Nat.le_of_ble_eq_true rfl) hG fun z hA => ?_
  refine qm_wp_ok hA [4] 20 _ _ _ _ _ _ ?_
  refine qm_for (P := fun b => qm_PW G mX5_smallest z 4 0 0 [vl x, vu, vi (sfx w lg m false b), vi (nI b)] [] h) (N := 64) ?_ ?_
  · exact qm_wp_ok hA [] 20 _ _ _ _ _ _ ⟨fun _ => ⟨trivial, rfl, rfl⟩, fun q => absurd (by decide) q⟩
  · intro b hb key
    have eb := hx b hb
    rw [← nI_1] at key
    refine qm_wp_ok hA [4] 60 _ _ _ _ _ _ ⟨fun q => absurd q (nI_ge hb (by decide)), fun _ => ⟨0, 0, _, c_setsHas hG d h x hb, ⟨Nat.le_refl _, Nat.le_refl _⟩, ?_⟩⟩
    rintro _ _ ⟨rfl, rfl⟩
    refine b2_eq (fun hf => ?_) (fun hf => ?_)
    · rw [hf] at eb
      rw [sfx_y eb.symm hb] at key
      refine ⟨fun (c : sfx w lg m false b = -1) => ⟨0, 0, _, c_bc hG d h hb, ⟨Nat.le_refl _, Nat.le_refl _⟩, ?_⟩, fun (c : ¬ sfx w lg m false b = -1) => ⟨0, 0, _, c_bc hG d h hb, ⟨Nat.le_refl _, Nat.le_refl _⟩, ?_⟩⟩
      · rintro _ _ ⟨rfl, rfl⟩
        have c0 : (s_lay w lg m (fun _ => 0) b).1 = 0 := by
          rcases Nat.eq_zero_or_pos (s_lay w lg m (fun _ => 0) b).1 with z | z
          · exact z
          · rw [sfx, if_neg (by omega)] at c
            obtain ⟨v, v1, v2⟩ := few_N (FL w lg m).2 false (s_lay w lg m (fun _ => 0) b).1
            rw [v2] at c
            exact absurd c (nI_ne1 (by omega))
        rw [if_pos c0] at key
        exact key
      · rintro _ _ ⟨rfl, rfl⟩
        have c0 : ¬ (s_lay w lg m (fun _ => 0) b).1 = 0 := fun z => c (by rw [sfx, if_pos z])
        rw [if_neg c0, if_neg (by decide)] at key
        refine ⟨fun (q : sfx w lg m false b ≤ ones (nI b) 6) => ?_, fun (q : ¬ sfx w lg m false b ≤ ones (nI b) 6) => ⟨0, 0, _, c_bc hG d h hb, ⟨Nat.le_refl _, Nat.le_refl _⟩, ?_⟩⟩
        · rw [mn_ge q] at key
          exact key
        · rintro _ _ ⟨rfl, rfl⟩
          rw [mn_ng q] at key
          exact key
    · rw [hf] at eb
      rw [sfx_n eb.symm] at key
      exact key
theorem c_largest {G : qm_G} (hG : G.2.2.2.2 = true) (d : Nat) (h : qm_H) {w lg : Nat → Int32} {m : Nat} {x : Int64} (hx : FX w lg m x) : qm_Ev G (d + 1) 0 0 qyX5_largest [.long x] h (fun r h' => r = some (.int (s_fewest w lg m true)) ∧ h = h') := by
  refine qm_Ev.by (M := mX5_largest) okX5_largest (Nat.le_of_ble_eq_true rfl) hG fun z hA => ?_
  refine qm_wp_ok hA [4] 20 _ _ _ _ _ _ ?_
  refine qm_for (P := fun b => qm_PW G mX5_largest z 4 0 0 [vl x, vu, vi (sfx w lg m true b), vi (nI b)] [] h) (N := 64) ?_ ?_
  · exact qm_wp_ok hA [] 20 _ _ _ _ _ _ ⟨fun _ => ⟨trivial, rfl, rfl⟩, fun q => absurd (by decide) q⟩
  · intro b hb key
    have eb := hx b hb
    rw [← nI_1] at key
    refine qm_wp_ok hA [4, 14] 60 _ _ _ _ _ _ ⟨fun q => absurd q (nI_ge hb (by decide)), fun _ => ⟨0, 0, _, c_setsHas hG d h x hb, ⟨Nat.le_refl _, Nat.le_refl _⟩, ?_⟩⟩
    rintro _ _ ⟨rfl, rfl⟩
    refine b2_eq (fun hf => ⟨0, 0, _, c_bc hG d h hb, ⟨Nat.le_refl _, Nat.le_refl _⟩, ?_⟩) (fun hf => ?_)
    · rintro _ _ ⟨rfl, rfl⟩
      rw [hf] at eb
      have e : sfx w lg m true (b + 1) = (if sfx w lg m true b < ones (nI b) 6 then ones (nI b) 6 else sfx w lg m true b) := by
        rw [sfx_y eb.symm hb, if_pos rfl, mmax_mx]
        by_cases c0 : (s_lay w lg m (fun _ => 0) b).1 = 0
        · rw [if_pos c0, sfx, if_pos c0, mx_nle (ones_1 _)]
        · rw [if_neg c0]
      rw [e] at key
      refine sp_mmax hA rfl rfl rfl (k1 := 898) (by decide +kernel) (by decide) ?_
      exact qm_wp_ok hA [4] 20 _ _ _ _ _ _ key
    · rw [hf] at eb
      rw [sfx_n eb.symm] at key
      exact key
def s_ia (x : Int64) : Nat → Int32
  | 0 => 0
  | f + 1 => s_ia x f ||| (if x &&& (qm_stl f ^^^ -1) = 0 then 1 <<< (nI f &&& 31) else 0)
theorem ia_b (x : Int64) {k : Nat} (hk : k < 32) : ∀ f, f ≤ 6 → bit (s_ia x f) (nI k) = (decide (k < f) && decide (x &&& (qm_stl k ^^^ -1) = 0))
  | 0, _ => by rw [s_ia, bit_0 hk, decide_eq_false (by omega)]; rfl
  | f + 1, hf => by
    rw [s_ia, bit_or _ _ hk, ia_b x hk f (by omega)]
    by_cases e : k = f
    · subst e
      rw [decide_eq_false (by omega), Bool.false_and, Bool.false_or, decide_eq_true (by omega : k < k + 1), Bool.true_and]
      split
      · rename_i c; rw [bit_1 (by omega) hk, decide_eq_true rfl, decide_eq_true c]
      · rename_i c; rw [bit_0 hk, decide_eq_false c]
    · have : bit (if x &&& (qm_stl f ^^^ -1) = 0 then (1 : Int32) <<< (nI f &&& 31) else 0) (nI k) = false := by
        split
        · rw [bit_1 (by omega) hk, decide_eq_false (fun z => e z.symm)]
        · exact bit_0 hk
      rw [this, Bool.or_false]
      congr 1
      by_cases z : k < f
      · rw [decide_eq_true z, decide_eq_true (by omega)]
      · rw [decide_eq_false z, decide_eq_false (by omega)]
theorem sure_b (a : Nat → Int32) {k : Nat} (hk : k < 32) : ∀ c, bit (s_sure a c) (nI k) = true ↔ k < 6 ∧ ∀ j, j < c → bit (a j) (nI k) = true
  | 0 => by
    rw [s_sure, show (63 : Int32) = nI (2 ^ 6 - 1) from rfl, bit_n _ hk, Nat.testBit_two_pow_sub_one, decide_eq_true_eq]
    exact ⟨fun q => ⟨q, fun j hj => absurd hj (Nat.not_lt_zero _)⟩, fun q => q.1⟩
  | c + 1 => by
    rw [s_sure, bit_and _ _ hk, Bool.and_eq_true, sure_b a hk c]
    constructor
    · rintro ⟨⟨h1, h2⟩, h3⟩
      refine ⟨h1, fun j hj => ?_⟩
      by_cases e : j = c
      · rw [e]; exact h3
      · exact h2 j (by omega)
    · rintro ⟨h1, h2⟩
      exact ⟨⟨h1, fun j hj => h2 j (by omega)⟩, h2 c (by omega)⟩
theorem FX.all {w lg : Nat → Int32} {m : Nat} {x : Int64} (h : FX w lg m x) {k : Nat} (hk : k < 6) : x &&& (qm_stl k ^^^ -1) = 0 ↔ ∀ j, j < (FL w lg m).1 → bit ((FL w lg m).2 j) (nI k) = true := by
  constructor
  · intro e j hj
    obtain ⟨b, b1, b2', b3⟩ := lay_in (fun _ => 0) 64 j hj
    have f1 := (FL_at b2' b1).1
    rw [b3] at f1
    rw [f1, bit_n _ (by omega)]
    have z : LB (x &&& (qm_stl k ^^^ -1)) b = false := by rw [e, LB_z]
    rw [LB_and, LB_not _ b1, h b b1, b2', LB_hav k hk b b1, Bool.true_and] at z
    simpa using z
  · intro e
    apply LB_0
    intro s hs
    rw [LB_and, LB_not _ hs, LB_hav k hk s hs]
    cases c : LB x s with
    | false => rfl
    | true =>
      rw [h s hs] at c
      obtain ⟨f1, f2⟩ := FL_at c hs
      have := e _ f2
      rw [f1, bit_n _ (by omega)] at this
      rw [this]; rfl
theorem ia_sure {w lg : Nat → Int32} {m : Nat} {x : Int64} (h : FX w lg m x) : s_ia x 6 = s_sure (FL w lg m).2 (FL w lg m).1 := by
  apply bit_ext
  intro k hk
  rw [ia_b x hk 6 (Nat.le_refl _), Bool.eq_iff_iff, sure_b _ hk, Bool.and_eq_true, decide_eq_true_eq, decide_eq_true_eq]
  constructor
  · rintro ⟨h1, h2⟩; exact ⟨h1, (h.all h1).mp h2⟩
  · rintro ⟨h1, h2⟩; exact ⟨h1, (h.all h1).mpr h2⟩
theorem c_inAll {G : qm_G} (hG : G.2.2.2.2 = true) (d : Nat) (h : qm_H) {w lg : Nat → Int32} {m : Nat} {x : Int64} (hx : FX w lg m x) : qm_Ev G (d + 1) 0 0 qyX5_inAll [.long x] h (fun r h' => r = some (.int (if (FL w lg m).1 = 0 then -1 else s_sure (FL w lg m).2 (FL w lg m).1)) ∧ h = h') := by
  refine qm_Ev.by (M := mX5_inAll) okX5_inAll (Nat.le_of_ble_eq_true rfl) hG fun z hA => ?_
  refine qm_wp_ok hA [10] 20 _ _ _ _ _ _ ?_
  refine ⟨fun (c : ¬ lg_cmp x 0 = 0) => ?_, fun (c : lg_cmp x 0 = 0) => ⟨trivial, congV ?_, rfl⟩⟩
  · have c0 : ¬ (FL w lg m).1 = 0 := fun z => c ((lcmp0 x).mpr (hx.z.mpr z))
    refine qm_for (P := fun f => qm_PW G mX5_inAll z 10 0 0 [vl x, vu, vi (s_ia x f), vi (nI f)] [] h) (N := 6) ?_ ?_
    · exact qm_wp_ok hA [] 20 _ _ _ _ _ _ ⟨fun _ => ⟨trivial, congV (by rw [if_neg c0, ← ia_sure hx]), rfl⟩, fun q => absurd (by decide) q⟩
    · intro f hf key
      rw [← nI_1, s_ia] at key
      refine qm_wp_ok hA [10, 15] 40 _ _ _ _ _ _ ⟨fun q => absurd q (nI_ge hf (by decide)), fun _ => ?_⟩
      refine sp_getsN hA rfl rfl rfl 0 rfl (k1 := 883) (host := "OneStatement") (by decide +kernel) ?_
      refine qm_wp_ok hA [17] 20 _ _ _ _ _ _ ?_
      refine sp_tl hA rfl rfl rfl 0 rfl (vp_in_nI hf (by decide)) (stl_f hf) ?_
      refine qm_wp_ok hA [10] 30 _ _ _ _ _ _ ⟨fun (q : ¬ lg_cmp (x &&& (qm_stl f ^^^ -1)) 0 = 0) => ?_, fun (q : lg_cmp (x &&& (qm_stl f ^^^ -1)) 0 = 0) => ?_⟩
      · rw [if_neg (fun z => q ((lcmp0 _).mpr z))] at key
        exact key
      · rw [if_pos ((lcmp0 _).mp q)] at key
        exact key
  · rw [if_pos (hx.z.mp ((lcmp0 x).mp c))]
theorem c_whose {G : qm_G} (hG : G.2.2.2.2 = true) (d : Nat) (h : qm_H) {P n : Nat} {w lg : Nat → Int32} {m : Nat} {x : Int64} (t : TO h P w n) (v : VT w n) (hx : FX w lg m x) : qm_Ev G (d + 1) 0 0 qyX5_whose [.ref P, .long x] h (fun r h' => r = some (.int (s_whose w lg (mi0 w) m n)) ∧ h = h') := by
  have hn := v.1
  refine qm_Ev.by (M := mX5_whose) okX5_whose (Nat.le_of_ble_eq_true rfl) hG fun z hA => ?_
  refine qm_wp_ok hA [4] 20 _ _ _ _ _ _ ?_
  refine qm_for (P := fun p => qm_PW G mX5_whose z 4 0 0 [vr P, vl x, vu, vi (s_whose w lg (mi0 w) m p), vi (nI p)] [] h) (N := n) ?_ ?_
  · exact qm_wp_ok hA [] 20 _ _ _ _ _ _ ⟨t.is, fun _ => ⟨trivial, rfl, rfl⟩, fun (q : ¬ h.1 P 0 ≤ nI n) => absurd (by rw [t.pp]; exact Int32.le_refl _) q⟩
  · intro p hp key
    rw [← nI_1, s_whose] at key
    obtain ⟨s, s1, s2⟩ := v.kn (by omega : p < 6)
    have e4 : h.1 (P + 4) (nI p).toNatClampNeg = nI s := (t.at (by omega : p < 6)).2.2.2.1.trans s2
    rw [s2, ← hx s s1] at key
    refine qm_wp_ok hA [4] 60 _ _ _ _ _ _ ⟨t.is, fun (z0 : h.1 P 0 ≤ nI p) => absurd z0 (by rw [t.pp]; exact nI_ge hp (by omega)), fun _ => ⟨t.is, _, t.rd (k := 4) (by decide) (by decide), t.ar (k := 4) (by decide) (by decide), t.ln (k := 4) (by decide) (by decide) (by omega), 0, 0, _, (by rw [e4]; exact c_setsHas hG d h x s1), ⟨Nat.le_refl _, Nat.le_refl _⟩, ?_⟩⟩
    rintro _ _ ⟨rfl, rfl⟩
    refine b2_eq (fun hb => ?_) (fun hb => ?_)
    · rw [if_pos hb] at key
      exact key
    · rw [if_neg (by rw [hb]; decide)] at key
      exact key
def hvx (a : Nat → Int32) (c f : Nat) : Int32 × Int32 := if f = 0 then (0, 65) else s_next a c f
theorem c_halving {G : qm_G} (hG : G.2.2.2.2 = true) (d : Nat) (h : qm_H) {w lg : Nat → Int32} {m : Nat} {x : Int64} (hx : FX w lg m x) : qm_Ev G (d + 1) 0 0 qyX5_halving [.long x] h (fun r h' => r = some (.int (if (FL w lg m).1 = 0 then -1 else (s_next (FL w lg m).2 (FL w lg m).1 6).1)) ∧ h = h') := by
  have hc := FL_le w lg m
  refine qm_Ev.by (M := mX5_halving) okX5_halving (Nat.le_of_ble_eq_true rfl) hG fun z hA => ?_
  refine qm_wp_ok hA [12] 20 _ _ _ _ _ _ ?_
  refine ⟨fun (c : ¬ lg_cmp x 0 = 0) => ?_, fun (c : lg_cmp x 0 = 0) => ⟨trivial, congV ?_, rfl⟩⟩
  · have c0 : ¬ (FL w lg m).1 = 0 := fun z => c ((lcmp0 x).mpr (hx.z.mpr z))
    generalize ea : (FL w lg m).2 = a
    generalize ec : (FL w lg m).1 = cc at *
    refine qm_for (P := fun f => qm_PW G mX5_halving z 12 0 0 [vl x, vu, vi (hvx a cc f).1, vi (hvx a cc f).2, vi (nI f), vu] [] h) (N := 6) ?_ ?_
    · exact qm_wp_ok hA [] 20 _ _ _ _ _ _ ⟨fun _ => ⟨trivial, congV (by rw [if_neg c0, ea]; rfl), rfl⟩, fun q => absurd (by decide) q⟩
    · intro f hf key
      have em := hx.m hf
      have en := hx.mn hf
      rw [ea, ec] at em en
      have ml := manyN_le a (nI f) cc
      have ey : mx (s_many a (nI f) cc) (nI cc - s_many a (nI f) cc) = nI (max (manyN a (nI f) cc) (cc - manyN a (nI f) cc)) := by
        rw [many_N, pk_sub ml, mx_N (by omega) (by omega)]
      have key : qm_PW G mX5_halving z 12 0 0 [vl x, vu, vi (s_next a cc (f + 1)).1, vi (s_next a cc (f + 1)).2, vi (nI (f + 1)), vu] [] h := key
      rw [← nI_1, s_next, ey] at key
      refine qm_wp_ok hA [12, 16] 40 _ _ _ _ _ _ ⟨fun q => absurd q (nI_ge hf (by decide)), fun _ => ?_⟩
      refine sp_getsN hA rfl rfl rfl 0 rfl (k1 := 883) (host := "OneStatement") (by decide +kernel) ?_
      refine qm_wp_ok hA [18] 20 _ _ _ _ _ _ ?_
      refine sp_tl hA rfl rfl rfl 0 rfl (vp_in_nI hf (by decide)) (stl_f hf) ?_
      refine qm_wp_ok hA [22] 20 _ _ _ _ _ _ ⟨0, 0, _, c_lbc hG d h (x &&& qm_stl f), ⟨Nat.le_refl _, Nat.le_refl _⟩, ?_⟩
      rintro _ _ ⟨rfl, rfl⟩
      refine sp_getsN hA rfl rfl rfl 0 rfl (k1 := 883) (host := "OneStatement") (by decide +kernel) ?_
      refine qm_wp_ok hA [24] 20 _ _ _ _ _ _ ?_
      refine sp_tl hA rfl rfl rfl 0 rfl (vp_in_nI hf (by decide)) (stl_f hf) ?_
      refine qm_wp_ok hA [29] 20 _ _ _ _ _ _ ⟨0, 0, _, c_lbc hG d h (x &&& (qm_stl f ^^^ -1)), ⟨Nat.le_refl _, Nat.le_refl _⟩, ?_⟩
      rintro _ _ ⟨rfl, rfl⟩
      rw [em, en]
      refine sp_mmax hA rfl rfl rfl (k1 := 898) (by decide +kernel) (by decide) ?_
      rw [mmax_mx, mx_N (by omega) (by omega)]
      have hy : max (manyN a (nI f) cc) (cc - manyN a (nI f) cc) ≤ 64 := by omega
      generalize max (manyN a (nI f) cc) (cc - manyN a (nI f) cc) = y at *
      refine qm_wp_ok hA [12] 30 _ _ _ _ _ _ ⟨fun (q : (hvx a cc f).2 ≤ nI y) => ?_, fun (q : ¬ (hvx a cc f).2 ≤ nI y) => ?_⟩
      · have f0 : ¬ f = 0 := fun z => by
          rw [z] at q
          have := (nI_leI (a := 65) (by decide) (by omega)).mp q
          omega
        rw [hvx, if_neg f0] at q ⊢
        have key : qm_PW G mX5_halving z 12 0 0 [vl x, vu, vi (if (s_next a cc f).2 ≤ nI y then (s_next a cc f).1 else nI f), vi (mn (s_next a cc f).2 (nI y)), vi (nI f + 1), vu] [] h := key
        rw [if_pos q, mn_ge q] at key
        exact key.mask [true, true, true, true, true, false]
      · have q2 : ¬ (s_next a cc f).2 ≤ nI y := fun z => by
          rcases Nat.eq_zero_or_pos f with f0 | f0
          · rw [f0] at z
            have := (nI_leI (a := 1000000) (by decide) (by omega)).mp z
            omega
          · rw [hvx, if_neg (by omega)] at q; exact q z
        have key : qm_PW G mX5_halving z 12 0 0 [vl x, vu, vi (if (s_next a cc f).2 ≤ nI y then (s_next a cc f).1 else nI f), vi (mn (s_next a cc f).2 (nI y)), vi (nI f + 1), vu] [] h := key
        rw [if_neg q2, mn_ng q2] at key
        exact key.mask [true, true, true, true, true, false]
  · rw [if_pos (hx.z.mp ((lcmp0 x).mp c))]
