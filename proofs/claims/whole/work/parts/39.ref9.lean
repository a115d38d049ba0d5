/-! the reference: the least sets, twins, the best to tell -/
def s_fewer (set best : Int32) : Bool := decide (ones set 6 < ones best 6 ∨ (ones set 6 = ones best 6 ∧ set < best))
def s_root (w : Nat → Int32) : Nat → Int32
  | 0 => 63
  | n + 1 => if s_fewer (nI n) (s_root w n) = true ∧ s_closed w (nI n) 6 = 63 then nI n else s_root w n
theorem e_rootSet {G : qm_G} (hG : G.2.2.2.2 = true) (d : Nat) (h : qm_H) {t : Nat} (ht : h.1 26 22 = nI t) (hk : t < 2) : qm_Ev G (d + 2) 0 0 qyX10_rootSet [.ref 26] h (fun r h' => r = some (.int (s_root (tw h t) 64)) ∧ h = h') := by
  refine qm_Ev.by (M := mX10_rootSet) okX10_rootSet (Nat.le_of_ble_eq_true rfl) hG fun z hA => ?_
  refine qm_wp_ok hA [4] 20 _ _ _ _ _ _ ?_
  refine qm_for (P := fun i => qm_PW G mX10_rootSet z 4 0 0 [vr 26, vi (s_root (tw h t) i), vi (nI i), vu] [] h) (N := 64) ?_ ?_
  · exact qm_wp_ok hA [] 20 _ _ _ _ _ _ ⟨fun _ => ⟨trivial, rfl, rfl⟩, fun q => absurd (by decide) q⟩
  · intro i hi key
    rw [s_root, ← nI_1] at key
    have m23 : qm_PW G mX10_rootSet z 23 0 0 [vr 26, vi (s_root (tw h t) i), vi (nI i), vu] [.int (b2 (s_fewer (nI i) (s_root (tw h t) i)))] h := by
      refine qm_wp_ok hA [4] 40 _ _ _ _ _ _ ?_
      refine b2_eq (fun hb => ⟨rfl, ?_⟩) (fun hb => ?_)
      · refine ⟨0, 0, _, e_closed hG d h ht hk (nI i), ⟨Nat.le_refl _, Nat.le_refl _⟩, ?_⟩
        rintro _ _ ⟨rfl, rfl⟩
        refine ⟨fun c => ?_, fun c => ?_⟩
        · rw [if_neg (fun q => c q.2)] at key
          exact qm_PW.mask [true, true, true, false] key
        · rw [if_pos ⟨hb, c⟩] at key
          exact qm_PW.mask [true, true, true, false] key
      · rw [if_neg (fun q => by rw [hb] at q; exact absurd q.1 (by decide))] at key
        exact qm_PW.mask [true, true, true, false] key
    refine qm_wp_ok hA [23] 40 _ _ _ _ _ _ ⟨fun q => absurd q (nI_ge hi (by decide)), fun _ => ?_⟩
    refine ⟨0, 0, _, e_ones hG d h (nI i), ⟨Nat.le_refl _, Nat.le_refl _⟩, ?_⟩
    rintro _ _ ⟨rfl, rfl⟩
    refine ⟨0, 0, _, e_ones hG d h (s_root (tw h t) i), ⟨Nat.le_refl _, Nat.le_refl _⟩, ?_⟩
    rintro _ _ ⟨rfl, rfl⟩
    refine ⟨fun c => ?_, fun c => ?_⟩
    · have e : s_fewer (nI i) (s_root (tw h t) i) = true := decide_eq_true (Or.inl c)
      rw [e] at m23
      exact m23
    · refine ⟨0, 0, _, e_ones hG d h (nI i), ⟨Nat.le_refl _, Nat.le_refl _⟩, ?_⟩
      rintro _ _ ⟨rfl, rfl⟩
      refine ⟨0, 0, _, e_ones hG d h (s_root (tw h t) i), ⟨Nat.le_refl _, Nat.le_refl _⟩, ?_⟩
      rintro _ _ ⟨rfl, rfl⟩
      refine ⟨fun c2 => ?_, fun c2 => ⟨fun c3 => ?_, fun c3 => ?_⟩⟩
      · have e : s_fewer (nI i) (s_root (tw h t) i) = false := decide_eq_false (fun q => q.elim c (fun q => c2 q.1))
        rw [e] at m23
        exact m23
      · have e : s_fewer (nI i) (s_root (tw h t) i) = false := decide_eq_false (fun q => q.elim c (fun q => absurd q.2 (Int32.not_lt.mpr c3)))
        rw [e] at m23
        exact m23
      · have e : s_fewer (nI i) (s_root (tw h t) i) = true := decide_eq_true (Or.inr ⟨c2, Int32.not_le.mp c3⟩)
        rw [e] at m23
        exact m23
def s_cover (mi : Nat → Int32) (n : Nat) (all : Int32) : Nat → Int32
  | 0 => all
  | k + 1 => if s_fewer (nI k) (s_cover mi n all k) = true ∧ s_knownOf mi (nI k) n = s_knownOf mi all n then nI k else s_cover mi n all k
theorem s_pow {n : Nat} (hn : n ≤ 6) : (1 : Int32) <<< (nI n &&& 31) - 1 = nI (2 ^ n - 1) ∧ (1 : Int32) <<< (nI n &&& 31) = nI (2 ^ n) := by
  match n, hn with
  | 0, _ => decide
  | 1, _ => decide
  | 2, _ => decide
  | 3, _ => decide
  | 4, _ => decide
  | 5, _ => decide
  | 6, _ => decide
theorem s_pow6 {n : Nat} (hn : n ≤ 6) : 2 ^ n ≤ 64 ∧ 0 < 2 ^ n := by
  match n, hn with
  | 0, _ => decide
  | 1, _ => decide
  | 2, _ => decide
  | 3, _ => decide
  | 4, _ => decide
  | 5, _ => decide
  | 6, _ => decide
theorem e_cover {G : qm_G} (hG : G.2.2.2.2 = true) (d : Nat) (h : qm_H) {n : Nat} (hn : h.1 26 23 = nI n) (hn6 : n ≤ 6) : qm_Ev G (d + 2) 0 0 qyX10_cover [.ref 26] h (fun r h' => r = some (.int (s_cover (h.1 39) n (nI (2 ^ n - 1)) (2 ^ n))) ∧ h = h') := by
  refine qm_Ev.by (M := mX10_cover) okX10_cover (Nat.le_of_ble_eq_true rfl) hG fun z hA => ?_
  obtain ⟨p1, -⟩ := s_pow hn6
  obtain ⟨p2, p3⟩ := s_pow6 hn6
  have start : qm_PW G mX10_cover z 11 0 0 [vr 26, vi (nI (2 ^ n - 1)), vi (s_cover (h.1 39) n (nI (2 ^ n - 1)) 0), vi (nI 0), vu] [] h := by
    refine qm_for (P := fun i => qm_PW G mX10_cover z 11 0 0 [vr 26, vi (nI (2 ^ n - 1)), vi (s_cover (h.1 39) n (nI (2 ^ n - 1)) i), vi (nI i), vu] [] h) (N := 2 ^ n) ?_ ?_
    · exact qm_wp_ok hA [] 20 _ _ _ _ _ _ ⟨fun _ => ⟨trivial, rfl, rfl⟩, fun q => absurd (nI_lt (by omega) (by omega)) q⟩
    · intro i hi key
      rw [s_cover, ← nI_1] at key
      have m30 : qm_PW G mX10_cover z 30 0 0 [vr 26, vi (nI (2 ^ n - 1)), vi (s_cover (h.1 39) n (nI (2 ^ n - 1)) i), vi (nI i), vu] [.int (b2 (s_fewer (nI i) (s_cover (h.1 39) n (nI (2 ^ n - 1)) i)))] h := by
        refine qm_wp_ok hA [11] 40 _ _ _ _ _ _ ?_
        refine b2_eq (fun hb => ⟨rfl, ?_⟩) (fun hb => ?_)
        · refine ⟨0, 0, _, e_knownOf hG d h hn hn6 (nI i), ⟨Nat.le_refl _, Nat.le_refl _⟩, ?_⟩
          rintro _ _ ⟨rfl, rfl⟩
          refine ⟨rfl, 0, 0, _, e_knownOf hG d h hn hn6 (nI (2 ^ n - 1)), ⟨Nat.le_refl _, Nat.le_refl _⟩, ?_⟩
          rintro _ _ ⟨rfl, rfl⟩
          refine ⟨fun c => ?_, fun c => ?_⟩
          · rw [if_neg (fun q => c q.2)] at key
            exact qm_PW.mask [true, true, true, true, false] key
          · rw [if_pos ⟨hb, c⟩] at key
            exact qm_PW.mask [true, true, true, true, false] key
        · rw [if_neg (fun q => by rw [hb] at q; exact absurd q.1 (by decide))] at key
          exact qm_PW.mask [true, true, true, true, false] key
      refine qm_wp_ok hA [30] 40 _ _ _ _ _ _ ⟨fun q => absurd q (nI_nlt (by omega) (by omega)), fun _ => ?_⟩
      refine ⟨0, 0, _, e_ones hG d h (nI i), ⟨Nat.le_refl _, Nat.le_refl _⟩, ?_⟩
      rintro _ _ ⟨rfl, rfl⟩
      refine ⟨0, 0, _, e_ones hG d h (s_cover (h.1 39) n (nI (2 ^ n - 1)) i), ⟨Nat.le_refl _, Nat.le_refl _⟩, ?_⟩
      rintro _ _ ⟨rfl, rfl⟩
      refine ⟨fun c => ?_, fun c => ?_⟩
      · have e : s_fewer (nI i) (s_cover (h.1 39) n (nI (2 ^ n - 1)) i) = true := decide_eq_true (Or.inl c)
        rw [e] at m30
        exact m30
      · refine ⟨0, 0, _, e_ones hG d h (nI i), ⟨Nat.le_refl _, Nat.le_refl _⟩, ?_⟩
        rintro _ _ ⟨rfl, rfl⟩
        refine ⟨0, 0, _, e_ones hG d h (s_cover (h.1 39) n (nI (2 ^ n - 1)) i), ⟨Nat.le_refl _, Nat.le_refl _⟩, ?_⟩
        rintro _ _ ⟨rfl, rfl⟩
        refine ⟨fun c2 => ?_, fun c2 => ⟨fun c3 => ?_, fun c3 => ?_⟩⟩
        · have e : s_fewer (nI i) (s_cover (h.1 39) n (nI (2 ^ n - 1)) i) = false := decide_eq_false (fun q => q.elim c (fun q => c2 q.1))
          rw [e] at m30
          exact m30
        · have e : s_fewer (nI i) (s_cover (h.1 39) n (nI (2 ^ n - 1)) i) = false := decide_eq_false (fun q => q.elim c (fun q => absurd q.2 (Int32.not_lt.mpr c3)))
          rw [e] at m30
          exact m30
        · have e : s_fewer (nI i) (s_cover (h.1 39) n (nI (2 ^ n - 1)) i) = true := decide_eq_true (Or.inr ⟨c2, Int32.not_le.mp c3⟩)
          rw [e] at m30
          exact m30
  refine qm_wp_ok hA [11] 20 _ _ _ _ _ _ ⟨rfl, ?_⟩
  have e0 : (1 : Int32) <<< (h.1 26 23 &&& 31) - 1 = nI (2 ^ n - 1) := by rw [hn]; exact p1
  show qm_PW G mX10_cover z 11 0 0 [vr 26, vi ((1 : Int32) <<< (h.1 26 23 &&& 31) - 1), vi ((1 : Int32) <<< (h.1 26 23 &&& 31) - 1), vi 0, vu] [] h
  rw [e0]
  exact start
def s_twins1 (mi : Nat → Int32) (a : Nat) (s : Int32) : Nat → Int32
  | 0 => s
  | b + 1 => s_twins1 mi a s b + (if mi a = mi b then 1 else 0)
def s_twins (mi : Nat → Int32) : Nat → Int32
  | 0 => 0
  | a + 1 => s_twins1 mi a (s_twins mi a) a
theorem e_twins {G : qm_G} (hG : G.2.2.2.2 = true) (d : Nat) (h : qm_H) {n : Nat} (hn : h.1 26 23 = nI n) (hn6 : n ≤ 6) : qm_Ev G d 0 0 qyX10_twins [.ref 26] h (fun r h' => r = some (.int (s_twins (h.1 39) n)) ∧ h = h') := by
  refine qm_Ev.by (M := mX10_twins) okX10_twins (Nat.le_of_ble_eq_true rfl) hG fun z hA => ?_
  refine qm_wp_ok hA [4] 20 _ _ _ _ _ _ ?_
  refine qm_for (P := fun i => qm_PW G mX10_twins z 4 0 0 [vr 26, vi (s_twins (h.1 39) i), vi (nI i), vu] [] h) (N := n) ?_ ?_
  · exact qm_wp_ok hA [] 20 _ _ _ _ _ _ ⟨rfl, fun _ => ⟨trivial, rfl, rfl⟩, fun (q : ¬ h.1 26 23 ≤ nI n) => absurd (by rw [hn]; exact Int32.le_refl _) q⟩
  · intro i hi key
    rw [s_twins, ← nI_1] at key
    have hii : vp_in (nI i) 6 := vp_in_nI (by omega) (by decide)
    refine qm_wp_ok hA [4, 10] 20 _ _ _ _ _ _ ⟨rfl, fun (q : h.1 26 23 ≤ nI i) => absurd q (by rw [hn]; exact nI_ge hi (by omega)), fun _ => ?_⟩
    refine qm_for (P := fun j => qm_PW G mX10_twins z 10 0 0 [vr 26, vi (s_twins1 (h.1 39) i (s_twins (h.1 39) i) j), vi (nI i), vi (nI j)] [] h) (N := i) ?_ ?_
    · exact qm_wp_ok hA [4] 20 _ _ _ _ _ _ ⟨fun _ => qm_PW.mask [true, true, true, false] key, fun q => absurd (Int32.le_refl _) q⟩
    · intro j hj key2
      rw [s_twins1, ← nI_1] at key2
      have hij : vp_in (nI j) 6 := vp_in_nI (by omega) (by decide)
      refine qm_wp_ok hA [10] 40 _ _ _ _ _ _ ⟨fun q => absurd q (nI_ge hj (by omega)), fun _ => ⟨rfl, _, rfl, rfl, hii, rfl, _, rfl, rfl, hij, ?_⟩⟩
      rw [nI_clamp (by omega), nI_clamp (by omega)]
      exact ⟨fun hb => by rw [if_neg hb] at key2; exact key2, fun hb => by rw [if_pos hb] at key2; exact key2⟩
