/-! the reference: logs -/
def gw (h : qm_H) (l : Nat) : Nat → Int32 := fun j => h.1 34 (17 * l + j)
def VL (w : Nat → Int32) (m : Nat) : Prop := m ≤ 8 ∧ w 0 = nI m ∧ ∀ k, k < m → (w (1 + 2 * k) = 0 ∨ w (1 + 2 * k) = 1) ∧ ∃ f, f < 6 ∧ w (1 + 2 * k + 1) = nI f
theorem e_linesOf {G : qm_G} (hG : G.2.2.2.2 = true) (d : Nat) (h : qm_H) {l : Nat} (hl : h.1 26 41 = nI l) (hk : l < 2) : qm_Ev G d 0 0 qyX10_linesOf [.ref 26] h (fun r h' => r = some (.int (gw h l 0)) ∧ h = h') := by
  refine qm_Ev.run (M := mX10_linesOf) okX10_linesOf rfl hG fun z => ?_
  have e : (17 : Int32) * h.1 26 41 = nI (17 * l) := by rw [hl, ← pk_mul]; rfl
  refine ⟨rfl, _, rfl, rfl, rfl, ?_, trivial, ?_, rfl⟩
  · show vp_in ((17 : Int32) * h.1 26 41) 136
    rw [e]; exact vp_in_nI (by omega) (by decide)
  · show some (Value.int (h.1 34 ((17 : Int32) * h.1 26 41).toNatClampNeg)) = _
    rw [e, nI_clamp (by omega)]
    rfl
theorem e_lineOf {G : qm_G} (hG : G.2.2.2.2 = true) (d : Nat) (h : qm_H) {l k j : Nat} (hl : h.1 26 41 = nI l) (hk : l < 2) (hkk : k < 8) (hj : j < 2) : qm_Ev G d 0 0 qyX10_lineOf [.ref 26, .int (nI k), .int (nI j)] h (fun r h' => r = some (.int (gw h l (1 + 2 * k + j))) ∧ h = h') := by
  refine qm_Ev.run (M := mX10_lineOf) okX10_lineOf rfl hG fun z => ?_
  have e : (17 : Int32) * h.1 26 41 + 1 + 2 * nI k + nI j = nI (17 * l + (1 + 2 * k + j)) := by
    rw [hl, show (17 : Int32) = nI 17 from rfl, show (2 : Int32) = nI 2 from rfl, show (1 : Int32) = nI 1 from rfl, pk_mul, pk_mul, nI_add, nI_add, nI_add]
    congr 1
    omega
  refine ⟨rfl, _, rfl, rfl, rfl, ?_, trivial, ?_, rfl⟩
  · show vp_in ((17 : Int32) * h.1 26 41 + 1 + 2 * nI k + nI j) 136
    rw [e]; exact vp_in_nI (by omega) (by decide)
  · show some (Value.int (h.1 34 ((17 : Int32) * h.1 26 41 + 1 + 2 * nI k + nI j).toNatClampNeg)) = _
    rw [e, nI_clamp (by omega)]
    rfl
theorem e_hasLog {G : qm_G} (hG : G.2.2.2.2 = true) (d : Nat) (h : qm_H) (k : Int32) : qm_Ev G (d + 2) 0 0 qyX10_hasLog [.ref 26, .int k] h (fun r h' => r = some (.int (b2 (decide (0 ≤ k ∧ k ≤ h.1 31 2 - 1)))) ∧ h' = qm_si h 26 41 k) := by
  refine qm_Ev.run (M := mX10_hasLog) okX10_hasLog rfl hG fun z => ?_
  refine ⟨rfl, trivial, rfl, ?_⟩
  refine ⟨0, 0, _, e_is hG d (qm_si h 26 41 k) (s := 2) (by decide) k, ⟨Nat.le_refl _, Nat.le_refl _⟩, ?_⟩
  rintro _ _ ⟨rfl, rfl⟩
  exact ⟨b2_and _, rfl, rfl⟩
/-- a set fits a log's first lines -/
def s_fit (w lg : Nat → Int32) (set : Int32) : Nat → Bool
  | 0 => decide (s_closed w set 6 = set)
  | k + 1 => s_fit w lg set k && (bit set (lg (1 + 2 * k + 1)) == decide (lg (1 + 2 * k) = 1))
theorem s_fit_no {w lg : Nat → Int32} {set : Int32} {k : Nat} (h : s_fit w lg set k = false) : ∀ m, k ≤ m → s_fit w lg set m = false := by
  intro m
  induction m with
  | zero => intro hk; rw [show k = 0 by omega] at h; exact h
  | succ m ih =>
    intro hk
    rcases Nat.lt_or_ge m k with q | q
    · rw [show k = m + 1 by omega] at h; exact h
    · rw [s_fit, ih q]; rfl
theorem e_isFit {G : qm_G} (hG : G.2.2.2.2 = true) (d : Nat) (h : qm_H) {t l m : Nat} (ht : h.1 26 22 = nI t) (hk : t < 2) (hl : h.1 26 41 = nI l) (hl2 : l < 2) (hV : VL (gw h l) m) (set : Int32) : qm_Ev G (d + 2) 0 0 qyX10_isFit [.ref 26, .int set] h (fun r h' => r = some (.int (b2 (s_fit (tw h t) (gw h l) set m))) ∧ h = h') := by
  refine qm_Ev.by (M := mX10_isFit) okX10_isFit (Nat.le_of_ble_eq_true rfl) hG fun z hA => ?_
  obtain ⟨m8, hm0, hml⟩ := hV
  have start : qm_PW G mX10_isFit z 11 0 0 [vr 26, vi set, vi (b2 (s_fit (tw h t) (gw h l) set 0)), vi (nI 0)] [] h := by
    refine qm_for (P := fun i => qm_PW G mX10_isFit z 11 0 0 [vr 26, vi set, vi (b2 (s_fit (tw h t) (gw h l) set i)), vi (nI i)] [] h) (N := m) ?_ ?_
    · refine qm_wp_ok hA [] 20 _ _ _ _ _ _ ⟨rfl, 0, 0, _, e_linesOf hG (d + 1) h hl hl2, ⟨Nat.le_refl _, Nat.le_refl _⟩, ?_⟩
      rintro _ _ ⟨rfl, rfl⟩
      rw [hm0]
      exact ⟨fun _ => ⟨b2_and _, rfl, rfl⟩, fun q => absurd (Int32.le_refl _) q⟩
    · intro i hi key
      rw [← nI_1] at key
      obtain ⟨hline, f, hf, hfe⟩ := hml i hi
      refine qm_wp_ok hA [11] 60 _ _ _ _ _ _ ⟨rfl, 0, 0, _, e_linesOf hG (d + 1) h hl hl2, ⟨Nat.le_refl _, Nat.le_refl _⟩, ?_⟩
      rintro _ _ ⟨rfl, rfl⟩
      rw [hm0]
      refine ⟨fun q => absurd q (nI_ge hi (by omega)), fun _ => ?_⟩
      refine b2_eq (fun hb => ?_) (fun hb => ?_)
      · rw [s_fit, hb, Bool.true_and] at key
        refine ⟨rfl, 0, 0, _, e_lineOf hG (d + 1) h (k := i) (j := 1) hl hl2 (by omega) (by decide), ⟨Nat.le_refl _, Nat.le_refl _⟩, ?_⟩
        rintro _ _ ⟨rfl, rfl⟩
        refine ⟨0, 0, _, e_has hG (d + 1) h set (gw h l (1 + 2 * i + 1)), ⟨Nat.le_refl _, Nat.le_refl _⟩, ?_⟩
        rintro _ _ ⟨rfl, rfl⟩
        refine ⟨rfl, 0, 0, _, e_lineOf hG (d + 1) h (k := i) (j := 0) hl hl2 (by omega) (by decide), ⟨Nat.le_refl _, Nat.le_refl _⟩, ?_⟩
        rintro _ _ ⟨rfl, rfl⟩
        refine ⟨fun (c : ¬ gw h l (1 + 2 * i) = 1) => ?_, fun (c : gw h l (1 + 2 * i) = 1) => ?_⟩
        · rw [decide_eq_false c] at key
          cases hx : bit set (gw h l (1 + 2 * i + 1)) with
          | true => rw [hx] at key; exact ⟨fun _ => key, fun q => absurd q (by decide)⟩
          | false => rw [hx] at key; exact ⟨fun q => absurd rfl q, fun _ => key⟩
        · rw [decide_eq_true c] at key
          cases hx : bit set (gw h l (1 + 2 * i + 1)) with
          | true => rw [hx] at key; exact ⟨fun q => absurd rfl q, fun _ => key⟩
          | false => rw [hx] at key; exact ⟨fun _ => key, fun q => absurd q (by decide)⟩
      · rw [hb]
        exact ⟨rfl, by rw [s_fit_no hb m (by omega)], rfl⟩
  refine qm_wp_ok hA [11] 30 _ _ _ _ _ _ ⟨rfl, 0, 0, _, e_closed hG d h ht hk set, ⟨Nat.le_refl _, Nat.le_refl _⟩, ?_⟩
  rintro _ _ ⟨rfl, rfl⟩
  rw [s_fit] at start
  exact ⟨fun c => by rw [decide_eq_false c] at start; exact start, fun c => by rw [decide_eq_true c] at start; exact start⟩
/-- the sets that fit, one behind the other -/
def s_lay (w lg : Nat → Int32) (m : Nat) (a : Nat → Int32) : Nat → Nat × (Nat → Int32)
  | 0 => (0, a)
  | k + 1 => if s_fit w lg (nI k) m then ((s_lay w lg m a k).1 + 1, va_up (s_lay w lg m a k).2 (s_lay w lg m a k).1 (nI k)) else s_lay w lg m a k
theorem s_lay_le (w lg : Nat → Int32) (m : Nat) (a : Nat → Int32) : ∀ k, (s_lay w lg m a k).1 ≤ k
  | 0 => Nat.le_refl 0
  | k + 1 => by
    have ih := s_lay_le w lg m a k
    rw [s_lay]
    split
    · exact Nat.succ_le_succ ih
    · omega
def s_many (a : Nat → Int32) (f : Int32) : Nat → Int32
  | 0 => 0
  | k + 1 => s_many a f k + b2 (bit (a k) f)
theorem e_manyHave {G : qm_G} (hG : G.2.2.2.2 = true) (d : Nat) (h : qm_H) {c : Nat} (hc : h.1 26 43 = nI c) (hc64 : c ≤ 64) (f : Int32) : qm_Ev G (d + 1) 0 0 qyX10_manyHave [.ref 26, .int f] h (fun r h' => r = some (.int (s_many (h.1 48) f c)) ∧ h = h') := by
  refine qm_Ev.by (M := mX10_manyHave) okX10_manyHave (Nat.le_of_ble_eq_true rfl) hG fun z hA => ?_
  refine qm_wp_ok hA [4] 20 _ _ _ _ _ _ ?_
  refine qm_for (P := fun i => qm_PW G mX10_manyHave z 4 0 0 [vr 26, vi f, vi (s_many (h.1 48) f i), vi (nI i)] [] h) (N := c) ?_ ?_
  · exact qm_wp_ok hA [] 20 _ _ _ _ _ _ ⟨rfl, fun _ => ⟨trivial, rfl, rfl⟩, fun (q : ¬ h.1 26 43 ≤ nI c) => absurd (by rw [hc]; exact Int32.le_refl _) q⟩
  · intro i hi key
    rw [s_many, ← nI_1] at key
    have hin : vp_in (nI i) 64 := vp_in_nI (by omega) (by decide)
    refine qm_wp_ok hA [4] 40 _ _ _ _ _ _ ⟨rfl, fun (q : h.1 26 43 ≤ nI i) => absurd q (by rw [hc]; exact nI_ge hi (by omega)), fun _ => ⟨rfl, _, rfl, rfl, hin, ?_⟩⟩
    rw [nI_clamp (by omega)]
    refine ⟨0, 0, _, e_has hG d h (h.1 48 i) f, ⟨Nat.le_refl _, Nat.le_refl _⟩, ?_⟩
    rintro _ _ ⟨rfl, rfl⟩
    exact b2_eq (fun hb => by rw [hb] at key; exact key) (fun hb => by rw [hb] at key; exact key)
def s_sure (a : Nat → Int32) : Nat → Int32
  | 0 => 63
  | k + 1 => s_sure a k &&& a k
theorem e_sure {G : qm_G} (hG : G.2.2.2.2 = true) (d : Nat) (h : qm_H) {c : Nat} (hc : h.1 26 43 = nI c) (hc64 : c ≤ 64) : qm_Ev G d 0 0 qyX10_sure [.ref 26] h (fun r h' => r = some (.int (if c = 0 then -1 else s_sure (h.1 48) c)) ∧ h = h') := by
  refine qm_Ev.by (M := mX10_sure) okX10_sure (Nat.le_of_ble_eq_true rfl) hG fun z hA => ?_
  refine qm_wp_ok hA [4] 20 _ _ _ _ _ _ ?_
  refine qm_for (P := fun i => qm_PW G mX10_sure z 4 0 0 [vr 26, vi (s_sure (h.1 48) i), vi (nI i)] [] h) (N := c) ?_ ?_
  · refine qm_wp_ok hA [] 20 _ _ _ _ _ _ ⟨rfl, fun _ => ⟨rfl, fun (q : ¬ h.1 26 43 = 0) => ?_, fun (q : h.1 26 43 = 0) => ?_⟩, fun (q : ¬ h.1 26 43 ≤ nI c) => absurd (by rw [hc]; exact Int32.le_refl _) q⟩
    · refine ⟨trivial, ?_, rfl⟩
      rw [if_neg (fun e => q (by rw [hc, e]; rfl))]
    · refine ⟨trivial, ?_, rfl⟩
      rw [if_pos ((nI_eq (by omega) (by decide)).mp (hc.symm.trans q : nI c = nI 0))]
  · intro i hi key
    rw [s_sure, ← nI_1] at key
    have hin : vp_in (nI i) 64 := vp_in_nI (by omega) (by decide)
    refine qm_wp_ok hA [4] 40 _ _ _ _ _ _ ⟨rfl, fun (q : h.1 26 43 ≤ nI i) => absurd q (by rw [hc]; exact nI_ge hi (by omega)), fun _ => ⟨rfl, _, rfl, rfl, hin, ?_⟩⟩
    rw [nI_clamp (by omega)]
    exact key
def s_whose (w lg mi : Nat → Int32) (m : Nat) : Nat → Int32
  | 0 => 0
  | p + 1 => s_whose w lg mi m p ||| (if s_fit w lg (mi p) m then 1 <<< (nI p &&& 31) else 0)
theorem e_whose {G : qm_G} (hG : G.2.2.2.2 = true) (d : Nat) (h : qm_H) {t n l m : Nat} (ht : h.1 26 22 = nI t) (hk : t < 2) (hn : h.1 26 23 = nI n) (hn6 : n ≤ 6) (hl : h.1 26 41 = nI l) (hl2 : l < 2) (hV : VL (gw h l) m) : qm_Ev G (d + 3) 0 0 qyX10_whose [.ref 26] h (fun r h' => r = some (.int (s_whose (tw h t) (gw h l) (h.1 39) m n)) ∧ h = h') := by
  refine qm_Ev.by (M := mX10_whose) okX10_whose (Nat.le_of_ble_eq_true rfl) hG fun z hA => ?_
  refine qm_wp_ok hA [4] 20 _ _ _ _ _ _ ?_
  refine qm_for (P := fun i => qm_PW G mX10_whose z 4 0 0 [vr 26, vi (s_whose (tw h t) (gw h l) (h.1 39) m i), vi (nI i)] [] h) (N := n) ?_ ?_
  · exact qm_wp_ok hA [] 20 _ _ _ _ _ _ ⟨rfl, fun _ => ⟨trivial, rfl, rfl⟩, fun (q : ¬ h.1 26 23 ≤ nI n) => absurd (by rw [hn]; exact Int32.le_refl _) q⟩
  · intro i hi key
    rw [s_whose, ← nI_1] at key
    have hin : vp_in (nI i) 6 := vp_in_nI (by omega) (by decide)
    refine qm_wp_ok hA [4] 40 _ _ _ _ _ _ ⟨rfl, fun (q : h.1 26 23 ≤ nI i) => absurd q (by rw [hn]; exact nI_ge hi (by omega)), fun _ => ⟨rfl, _, rfl, rfl, hin, rfl, ?_⟩⟩
    rw [nI_clamp (by omega)]
    refine ⟨0, 0, _, e_isFit hG d h ht hk hl hl2 hV (h.1 39 i), ⟨Nat.le_refl _, Nat.le_refl _⟩, ?_⟩
    rintro _ _ ⟨rfl, rfl⟩
    exact b2_eq (fun hb => by rw [if_pos hb] at key; exact key) (fun hb => by rw [if_neg (by rw [hb]; decide)] at key; exact key)
