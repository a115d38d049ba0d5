/-! the reference: roots, rings, reach -/
theorem e_deaf {G : qm_G} (hG : G.2.2.2.2 = true) (d : Nat) (h : qm_H) {t n : Nat} (ht : h.1 26 22 = nI t) (hk : t < 2) (hn : h.1 26 23 = nI n) (hn6 : n ≤ 6) : qm_Ev G (d + 1) 0 0 qyX10_deaf [.ref 26] h (fun r h' => r = some (.int (s_deaf (tw h t) n)) ∧ h = h') := by
  refine qm_Ev.by (M := mX10_deaf) okX10_deaf (Nat.le_of_ble_eq_true rfl) hG fun z hA => ?_
  refine qm_wp_ok hA [4] 20 _ _ _ _ _ _ ?_
  refine qm_for (P := fun i => qm_PW G mX10_deaf z 4 0 0 [vr 26, vi (s_deaf (tw h t) i), vi (nI i)] [] h) (N := n) ?_ ?_
  · exact qm_wp_ok hA [] 20 _ _ _ _ _ _ ⟨rfl, fun _ => ⟨trivial, rfl, rfl⟩, fun (q : ¬ h.1 26 23 ≤ nI n) => absurd (by rw [hn]; exact Int32.le_refl _) q⟩
  · intro i hi key
    rw [s_deaf, ← nI_1] at key
    have e : (25 : Int32) + nI i = nI (25 + i) := nI_add 25 i
    refine qm_wp_ok hA [4] 40 _ _ _ _ _ _ ⟨rfl, fun (q : h.1 26 23 ≤ nI i) => absurd q (by rw [hn]; exact nI_ge hi (by omega)), fun _ => ⟨rfl, ?_⟩⟩
    refine ⟨0, 0, _, (by rw [e]; exact e_of hG d h ht hk (by omega)), ⟨Nat.le_refl _, Nat.le_refl _⟩, ?_⟩
    rintro _ _ ⟨rfl, rfl⟩
    exact ⟨fun hb => by rw [if_neg hb] at key; exact key, fun hb => by rw [if_pos hb] at key; exact key⟩
theorem e_knownOf {G : qm_G} (hG : G.2.2.2.2 = true) (d : Nat) (h : qm_H) {n : Nat} (hn : h.1 26 23 = nI n) (hn6 : n ≤ 6) (set : Int32) : qm_Ev G (d + 1) 0 0 qyX10_knownOf [.ref 26, .int set] h (fun r h' => r = some (.int (s_knownOf (h.1 39) set n)) ∧ h = h') := by
  refine qm_Ev.by (M := mX10_knownOf) okX10_knownOf (Nat.le_of_ble_eq_true rfl) hG fun z hA => ?_
  refine qm_wp_ok hA [4] 20 _ _ _ _ _ _ ?_
  refine qm_for (P := fun i => qm_PW G mX10_knownOf z 4 0 0 [vr 26, vi set, vi (s_knownOf (h.1 39) set i), vi (nI i)] [] h) (N := n) ?_ ?_
  · exact qm_wp_ok hA [] 20 _ _ _ _ _ _ ⟨rfl, fun _ => ⟨trivial, rfl, rfl⟩, fun (q : ¬ h.1 26 23 ≤ nI n) => absurd (by rw [hn]; exact Int32.le_refl _) q⟩
  · intro i hi key
    rw [s_knownOf, ← nI_1] at key
    have hin : vp_in (nI i) 6 := vp_in_nI (by omega) (by decide)
    refine qm_wp_ok hA [4] 40 _ _ _ _ _ _ ⟨rfl, fun (q : h.1 26 23 ≤ nI i) => absurd q (by rw [hn]; exact nI_ge hi (by omega)), fun _ => ?_⟩
    refine ⟨0, 0, _, e_has hG d h set (nI i), ⟨Nat.le_refl _, Nat.le_refl _⟩, ?_⟩
    rintro _ _ ⟨rfl, rfl⟩
    refine b2_eq (fun hb => ?_) (fun hb => by rw [if_neg (by rw [hb]; decide)] at key; exact key)
    refine ⟨rfl, _, rfl, rfl, hin, ?_⟩
    rw [nI_clamp (by omega)]
    rw [if_pos hb] at key
    exact key
def s_closedOnes (w : Nat → Int32) : Nat → Int32
  | 0 => 0
  | n + 1 => s_closedOnes w n + (if s_closed w (nI n) 6 = nI n then 1 else 0)
theorem e_closedOnes {G : qm_G} (hG : G.2.2.2.2 = true) (d : Nat) (h : qm_H) {t : Nat} (ht : h.1 26 22 = nI t) (hk : t < 2) : qm_Ev G (d + 2) 0 0 qyX10_closedOnes [.ref 26] h (fun r h' => r = some (.int (s_closedOnes (tw h t) 64)) ∧ h = h') := by
  refine qm_Ev.by (M := mX10_closedOnes) okX10_closedOnes (Nat.le_of_ble_eq_true rfl) hG fun z hA => ?_
  refine qm_wp_ok hA [4] 20 _ _ _ _ _ _ ?_
  refine qm_for (P := fun i => qm_PW G mX10_closedOnes z 4 0 0 [vr 26, vi (s_closedOnes (tw h t) i), vi (nI i)] [] h) (N := 64) ?_ ?_
  · exact qm_wp_ok hA [] 20 _ _ _ _ _ _ ⟨fun _ => ⟨trivial, rfl, rfl⟩, fun q => absurd (by decide) q⟩
  · intro i hi key
    rw [s_closedOnes, ← nI_1] at key
    refine qm_wp_ok hA [4] 40 _ _ _ _ _ _ ⟨fun q => absurd q (nI_ge hi (by decide)), fun _ => ⟨rfl, ?_⟩⟩
    refine ⟨0, 0, _, e_closed hG d h ht hk (nI i), ⟨Nat.le_refl _, Nat.le_refl _⟩, ?_⟩
    rintro _ _ ⟨rfl, rfl⟩
    exact ⟨fun hb => by rw [if_neg hb] at key; exact key, fun hb => by rw [if_pos hb] at key; exact key⟩
def s_ringOf (w : Nat → Int32) (f : Nat) : Nat → Int32
  | 0 => 1 <<< (nI f &&& 31)
  | n + 1 => s_ringOf w f n ||| (if bit (w (7 + f)) (nI n) = true ∧ bit (w (7 + n)) (nI f) = true then 1 <<< (nI n &&& 31) else 0)
theorem e_ringOf {G : qm_G} (hG : G.2.2.2.2 = true) (d : Nat) (h : qm_H) {t f : Nat} (ht : h.1 26 22 = nI t) (hk : t < 2) (hf : f < 6) : qm_Ev G (d + 1) 0 0 qyX10_ringOf [.ref 26, .int (nI f)] h (fun r h' => r = some (.int (s_ringOf (tw h t) f 6)) ∧ h = h') := by
  refine qm_Ev.by (M := mX10_ringOf) okX10_ringOf (Nat.le_of_ble_eq_true rfl) hG fun z hA => ?_
  refine qm_wp_ok hA [6] 20 _ _ _ _ _ _ ?_
  refine qm_for (P := fun i => qm_PW G mX10_ringOf z 6 0 0 [vr 26, vi (nI f), vi (s_ringOf (tw h t) f i), vi (nI i)] [] h) (N := 6) ?_ ?_
  · exact qm_wp_ok hA [] 20 _ _ _ _ _ _ ⟨fun _ => ⟨trivial, rfl, rfl⟩, fun q => absurd (by decide) q⟩
  · intro i hi key
    rw [s_ringOf, ← nI_1] at key
    have e : (7 : Int32) + nI f = nI (7 + f) := nI_add 7 f
    have e2 : (7 : Int32) + nI i = nI (7 + i) := nI_add 7 i
    refine qm_wp_ok hA [6] 40 _ _ _ _ _ _ ⟨fun q => absurd q (nI_ge hi (by decide)), fun _ => ⟨rfl, ?_⟩⟩
    refine ⟨0, 0, _, (by rw [e]; exact e_of hG d h ht hk (by omega)), ⟨Nat.le_refl _, Nat.le_refl _⟩, ?_⟩
    rintro _ _ ⟨rfl, rfl⟩
    refine ⟨0, 0, _, e_has hG d h (tw h t (7 + f)) (nI i), ⟨Nat.le_refl _, Nat.le_refl _⟩, ?_⟩
    rintro _ _ ⟨rfl, rfl⟩
    refine b2_eq (fun hb => ?_) (fun hb => by rw [if_neg (fun q => by rw [hb] at q; exact absurd q.1 (by decide))] at key; exact key)
    refine ⟨rfl, ?_⟩
    refine ⟨0, 0, _, (by rw [e2]; exact e_of hG d h ht hk (by omega)), ⟨Nat.le_refl _, Nat.le_refl _⟩, ?_⟩
    rintro _ _ ⟨rfl, rfl⟩
    refine ⟨0, 0, _, e_has hG d h (tw h t (7 + i)) (nI f), ⟨Nat.le_refl _, Nat.le_refl _⟩, ?_⟩
    rintro _ _ ⟨rfl, rfl⟩
    exact b2_eq (fun hb2 => by rw [if_pos ⟨hb, hb2⟩] at key; exact key) (fun hb2 => by rw [if_neg (fun q => by rw [hb2] at q; exact absurd q.2 (by decide))] at key; exact key)
def s_rings (w : Nat → Int32) : Nat → Int32 × Int32
  | 0 => (0, 0)
  | n + 1 => ((s_rings w n).1 + (if s_ringOf w n 6 &&& ((1 <<< (nI n &&& 31)) - 1) = 0 then 1 else 0), mx (s_rings w n).2 (ones (s_ringOf w n 6) 6))
theorem e_rings {G : qm_G} (hG : G.2.2.2.2 = true) (d : Nat) (h : qm_H) {t : Nat} (ht : h.1 26 22 = nI t) (hk : t < 2) (b : Bool) : qm_Ev G (d + 2) 0 0 qyX10_rings [.ref 26, .int (b2 b)] h (fun r h' => r = some (.int (if b then (s_rings (tw h t) 6).2 else (s_rings (tw h t) 6).1)) ∧ h = h') := by
  refine qm_Ev.by (M := mX10_rings) okX10_rings (Nat.le_of_ble_eq_true rfl) hG fun z hA => ?_
  refine qm_wp_ok hA [6] 20 _ _ _ _ _ _ ?_
  refine qm_for (P := fun i => qm_PW G mX10_rings z 6 0 0 [vr 26, vi (b2 b), vi (s_rings (tw h t) i).1, vi (s_rings (tw h t) i).2, vi (nI i)] [] h) (N := 6) ?_ ?_
  · refine qm_wp_ok hA [] 20 _ _ _ _ _ _ ⟨fun _ => ?_, fun q => absurd (by decide) q⟩
    exact b2_eq (fun hb => ⟨trivial, by rw [if_pos hb], rfl⟩) (fun hb => ⟨trivial, by rw [if_neg (by rw [hb]; decide)], rfl⟩)
  · intro i hi key
    rw [s_rings, ← nI_1] at key
    refine qm_wp_ok hA [6] 60 _ _ _ _ _ _ ⟨fun q => absurd q (nI_ge hi (by decide)), fun _ => ⟨rfl, ?_⟩⟩
    refine ⟨0, 0, _, e_ringOf hG d h ht hk hi, ⟨Nat.le_refl _, Nat.le_refl _⟩, ?_⟩
    rintro _ _ ⟨rfl, rfl⟩
    refine ⟨fun hb => ⟨rfl, ?_⟩, fun hb => ⟨rfl, ?_⟩⟩
    · refine ⟨0, 0, _, e_ringOf hG d h ht hk hi, ⟨Nat.le_refl _, Nat.le_refl _⟩, ?_⟩
      rintro _ _ ⟨rfl, rfl⟩
      refine ⟨0, 0, _, e_ones hG d h _, ⟨Nat.le_refl _, Nat.le_refl _⟩, ?_⟩
      rintro _ _ ⟨rfl, rfl⟩
      refine ⟨0, 0, _, e_greater hG (d + 1) h _ _, ⟨Nat.le_refl _, Nat.le_refl _⟩, ?_⟩
      rintro _ _ ⟨rfl, rfl⟩
      rw [if_neg hb] at key
      exact key
    · refine ⟨0, 0, _, e_ringOf hG d h ht hk hi, ⟨Nat.le_refl _, Nat.le_refl _⟩, ?_⟩
      rintro _ _ ⟨rfl, rfl⟩
      refine ⟨0, 0, _, e_ones hG d h _, ⟨Nat.le_refl _, Nat.le_refl _⟩, ?_⟩
      rintro _ _ ⟨rfl, rfl⟩
      refine ⟨0, 0, _, e_greater hG (d + 1) h _ _, ⟨Nat.le_refl _, Nat.le_refl _⟩, ?_⟩
      rintro _ _ ⟨rfl, rfl⟩
      rw [if_pos hb] at key
      exact key
def s_knownBy (mi : Nat → Int32) (n : Nat) (a : Int32) : Nat → Int32
  | 0 => 0
  | f + 1 => s_knownBy mi n a f ||| (if ones (s_knowers mi (nI f) n) 6 = a then 1 <<< (nI f &&& 31) else 0)
theorem e_knownBy {G : qm_G} (hG : G.2.2.2.2 = true) (d : Nat) (h : qm_H) {n : Nat} (hn : h.1 26 23 = nI n) (hn6 : n ≤ 6) (a : Int32) : qm_Ev G (d + 2) 0 0 qyX10_knownBy [.ref 26, .int a] h (fun r h' => r = some (.int (s_knownBy (h.1 39) n a 6)) ∧ h = h') := by
  refine qm_Ev.by (M := mX10_knownBy) okX10_knownBy (Nat.le_of_ble_eq_true rfl) hG fun z hA => ?_
  refine qm_wp_ok hA [4] 20 _ _ _ _ _ _ ?_
  refine qm_for (P := fun i => qm_PW G mX10_knownBy z 4 0 0 [vr 26, vi a, vi (s_knownBy (h.1 39) n a i), vi (nI i)] [] h) (N := 6) ?_ ?_
  · exact qm_wp_ok hA [] 20 _ _ _ _ _ _ ⟨fun _ => ⟨trivial, rfl, rfl⟩, fun q => absurd (by decide) q⟩
  · intro i hi key
    rw [s_knownBy, ← nI_1] at key
    refine qm_wp_ok hA [4] 40 _ _ _ _ _ _ ⟨fun q => absurd q (nI_ge hi (by decide)), fun _ => ⟨rfl, ?_⟩⟩
    refine ⟨0, 0, _, e_knowers hG d h hn hn6 (nI i), ⟨Nat.le_refl _, Nat.le_refl _⟩, ?_⟩
    rintro _ _ ⟨rfl, rfl⟩
    refine ⟨0, 0, _, e_ones hG d h _, ⟨Nat.le_refl _, Nat.le_refl _⟩, ?_⟩
    rintro _ _ ⟨rfl, rfl⟩
    exact ⟨fun hb => by rw [if_neg hb] at key; exact key, fun hb => by rw [if_pos hb] at key; exact key⟩
def s_dearest (w : Nat → Int32) : Nat → Nat
  | 0 => 0
  | n + 1 => if s_worth w (s_whole w (n + 1)) 6 ≤ s_worth w (s_whole w (s_dearest w n)) 6 then s_dearest w n else n + 1
theorem s_dearest_le (w : Nat → Int32) : ∀ n, s_dearest w n ≤ n
  | 0 => Nat.le_refl 0
  | n + 1 => by
    have ih := s_dearest_le w n
    rw [s_dearest]
    split <;> omega
theorem e_dearest {G : qm_G} (hG : G.2.2.2.2 = true) (d : Nat) (h : qm_H) {t : Nat} (ht : h.1 26 22 = nI t) (hk : t < 2) : qm_Ev G (d + 2) 0 0 qyX10_dearest [.ref 26] h (fun r h' => r = some (.int (nI (s_dearest (tw h t) 5))) ∧ h = h') := by
  refine qm_Ev.by (M := mX10_dearest) okX10_dearest (Nat.le_of_ble_eq_true rfl) hG fun z hA => ?_
  refine qm_wp_ok hA [4] 20 _ _ _ _ _ _ ?_
  refine qm_for (P := fun i => qm_PW G mX10_dearest z 4 0 0 [vr 26, vi (nI (s_dearest (tw h t) i)), vi (nI (i + 1))] [] h) (N := 5) ?_ ?_
  · exact qm_wp_ok hA [] 20 _ _ _ _ _ _ ⟨fun _ => ⟨trivial, rfl, rfl⟩, fun q => absurd (by decide) q⟩
  · intro i hi key
    have hb := s_dearest_le (tw h t) i
    rw [s_dearest, ← nI_1] at key
    refine qm_wp_ok hA [4] 60 _ _ _ _ _ _ ⟨fun q => absurd q (nI_ge (by omega : i + 1 < 6) (by decide)), fun _ => ⟨rfl, ?_⟩⟩
    refine ⟨0, 0, _, e_whole hG d h (f := i + 1) ht hk (by omega), ⟨Nat.le_refl _, Nat.le_refl _⟩, ?_⟩
    rintro _ _ ⟨rfl, rfl⟩
    refine ⟨rfl, 0, 0, _, e_worthOf hG d h ht hk _, ⟨Nat.le_refl _, Nat.le_refl _⟩, ?_⟩
    rintro _ _ ⟨rfl, rfl⟩
    refine ⟨rfl, 0, 0, _, e_whole hG d h (f := s_dearest (tw h t) i) ht hk (by omega), ⟨Nat.le_refl _, Nat.le_refl _⟩, ?_⟩
    rintro _ _ ⟨rfl, rfl⟩
    refine ⟨rfl, 0, 0, _, e_worthOf hG d h ht hk _, ⟨Nat.le_refl _, Nat.le_refl _⟩, ?_⟩
    rintro _ _ ⟨rfl, rfl⟩
    exact ⟨fun hb2 => by rw [if_pos hb2] at key; exact key, fun hb2 => by rw [if_neg hb2] at key; exact key⟩
def s_reach1 (w : Nat → Int32) (set : Int32) : Nat → Int32
  | 0 => set
  | n + 1 => s_reach1 w set n ||| (if w (25 + n) &&& s_reach1 w set n = 0 then (0 : Int32) else 1 <<< (nI n &&& 31))
def s_reach (w : Nat → Int32) (n p : Nat) : Nat → Int32
  | 0 => 1 <<< (nI p &&& 31)
  | r + 1 => s_reach1 w (s_reach w n p r) n
theorem e_reachOf {G : qm_G} (hG : G.2.2.2.2 = true) (d : Nat) (h : qm_H) {t n p : Nat} (ht : h.1 26 22 = nI t) (hk : t < 2) (hn : h.1 26 23 = nI n) (hn6 : n ≤ 6) : qm_Ev G (d + 1) 0 0 qyX10_reachOf [.ref 26, .int (nI p)] h (fun r h' => r = some (.int (s_reach (tw h t) n p 6)) ∧ h = h') := by
  refine qm_Ev.by (M := mX10_reachOf) okX10_reachOf (Nat.le_of_ble_eq_true rfl) hG fun z hA => ?_
  refine qm_wp_ok hA [6] 20 _ _ _ _ _ _ ?_
  refine qm_PW.mask [true, true, true, true, false] ?_
  refine qm_for (P := fun i => qm_PW G mX10_reachOf z 6 0 0 [vr 26, vi (nI p), vi (s_reach (tw h t) n p i), vi (nI i), vu] [] h) (N := 6) ?_ ?_
  · exact qm_wp_ok hA [] 20 _ _ _ _ _ _ ⟨fun _ => ⟨trivial, rfl, rfl⟩, fun q => absurd (by decide) q⟩
  · intro i hi key
    refine qm_wp_ok hA [6, 11] 20 _ _ _ _ _ _ ⟨fun q => absurd q (nI_ge hi (by decide)), fun _ => ?_⟩
    refine qm_for (P := fun j => qm_PW G mX10_reachOf z 11 0 0 [vr 26, vi (nI p), vi (s_reach1 (tw h t) (s_reach (tw h t) n p i) j), vi (nI i), vi (nI j)] [] h) (N := n) ?_ ?_
    · refine qm_wp_ok hA [6] 20 _ _ _ _ _ _ ⟨rfl, fun _ => ?_, fun (q : ¬ h.1 26 23 ≤ nI n) => absurd (by rw [hn]; exact Int32.le_refl _) q⟩
      rw [s_reach, ← nI_1] at key
      exact qm_PW.mask [true, true, true, true, false] key
    · intro j hj key2
      rw [s_reach1, ← nI_1] at key2
      have e : (25 : Int32) + nI j = nI (25 + j) := nI_add 25 j
      refine qm_wp_ok hA [11] 40 _ _ _ _ _ _ ⟨rfl, fun (q : h.1 26 23 ≤ nI j) => absurd q (by rw [hn]; exact nI_ge hj (by omega)), fun _ => ⟨rfl, ?_⟩⟩
      refine ⟨0, 0, _, (by rw [e]; exact e_of hG d h ht hk (by omega)), ⟨Nat.le_refl _, Nat.le_refl _⟩, ?_⟩
      rintro _ _ ⟨rfl, rfl⟩
      exact ⟨fun hb => by rw [if_pos hb] at key2; exact key2, fun hb => by rw [if_neg hb] at key2; exact key2⟩
