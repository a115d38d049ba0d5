/-! the reference: sets and sums over people and facts -/
def s_knowers (mi : Nat → Int32) (f : Int32) : Nat → Int32
  | 0 => 0
  | n + 1 => s_knowers mi f n ||| (if bit (mi n) f then 1 <<< (nI n &&& 31) else 0)
def s_toldBy (w : Nat → Int32) (set : Int32) (p : Nat) : Nat → Int32
  | 0 => set
  | n + 1 => s_toldBy w set p n ||| (if s_hears w n p then 1 <<< (nI n &&& 31) else 0)
def s_closed (w : Nat → Int32) (set : Int32) : Nat → Int32
  | 0 => set
  | n + 1 => s_closed w set n ||| (if bit set (nI n) then w (7 + n) else 0)
def s_hearers (w : Nat → Int32) (p : Nat) : Nat → Int32
  | 0 => 0
  | n + 1 => s_hearers w p n + b2 (s_hears w n p)
def s_deaf (w : Nat → Int32) : Nat → Int32
  | 0 => 0
  | n + 1 => s_deaf w n ||| (if w (25 + n) = 0 then 1 <<< (nI n &&& 31) else 0)
def s_knownOf (mi : Nat → Int32) (set : Int32) : Nat → Int32
  | 0 => 0
  | n + 1 => s_knownOf mi set n ||| (if bit set (nI n) then mi n else 0)
def s_learnt (w : Nat → Int32) (mi : Nat → Int32) (p f : Nat) : Nat → Int32
  | 0 => 0
  | n + 1 => s_learnt w mi p f n + (if s_hears w n p then s_worth w (s_whole w f &&& (mi n ^^^ -1)) 6 else 0)
section Ref7
theorem e_knowers {G : qm_G} (hG : G.2.2.2.2 = true) (d : Nat) (h : qm_H) {n : Nat} (hn : h.1 26 23 = nI n) (hn6 : n ≤ 6) (f : Int32) : qm_Ev G (d + 1) 0 0 qyX10_knowers [.ref 26, .int f] h (fun r h' => r = some (.int (s_knowers (h.1 39) f n)) ∧ h = h') := by
  refine qm_Ev.by (M := mX10_knowers) okX10_knowers (Nat.le_of_ble_eq_true rfl) hG fun z hA => ?_
  refine qm_wp_ok hA [4] 20 _ _ _ _ _ _ ?_
  refine qm_for (P := fun i => qm_PW G mX10_knowers z 4 0 0 [vr 26, vi f, vi (s_knowers (h.1 39) f i), vi (nI i)] [] h) (N := n) ?_ ?_
  · exact qm_wp_ok hA [] 20 _ _ _ _ _ _ ⟨rfl, fun _ => ⟨trivial, rfl, rfl⟩, fun (q : ¬ h.1 26 23 ≤ nI n) => absurd (by rw [hn]; exact Int32.le_refl _) q⟩
  · intro i hi key
    rw [s_knowers, ← nI_1] at key
    have hin : vp_in (nI i) 6 := vp_in_nI (by omega) (by decide)
    refine qm_wp_ok hA [4] 40 _ _ _ _ _ _ ⟨rfl, fun (q : h.1 26 23 ≤ nI i) => absurd q (by rw [hn]; exact nI_ge hi (by omega)), fun _ => ?_⟩
    refine ⟨rfl, _, rfl, rfl, hin, ?_⟩
    rw [nI_clamp (by omega)]
    refine ⟨0, 0, _, e_has hG d h (h.1 39 i) f, ⟨Nat.le_refl _, Nat.le_refl _⟩, ?_⟩
    rintro _ _ ⟨rfl, rfl⟩
    exact b2_eq (fun hb => by rw [if_pos hb] at key; exact key) (fun hb => by rw [if_neg (by rw [hb]; decide)] at key; exact key)
theorem e_toldBy {G : qm_G} (hG : G.2.2.2.2 = true) (d : Nat) (h : qm_H) {t n p : Nat} (ht : h.1 26 22 = nI t) (hk : t < 2) (hn : h.1 26 23 = nI n) (hn6 : n ≤ 6) (set : Int32) : qm_Ev G (d + 2) 0 0 qyX10_toldBy [.ref 26, .int set, .int (nI p)] h (fun r h' => r = some (.int (s_toldBy (tw h t) set p n)) ∧ h = h') := by
  refine qm_Ev.by (M := mX10_toldBy) okX10_toldBy (Nat.le_of_ble_eq_true rfl) hG fun z hA => ?_
  refine qm_wp_ok hA [4] 20 _ _ _ _ _ _ ?_
  refine qm_for (P := fun i => qm_PW G mX10_toldBy z 4 0 0 [vr 26, vi set, vi (nI p), vi (s_toldBy (tw h t) set p i), vi (nI i)] [] h) (N := n) ?_ ?_
  · exact qm_wp_ok hA [] 20 _ _ _ _ _ _ ⟨rfl, fun _ => ⟨trivial, rfl, rfl⟩, fun (q : ¬ h.1 26 23 ≤ nI n) => absurd (by rw [hn]; exact Int32.le_refl _) q⟩
  · intro i hi key
    rw [s_toldBy, ← nI_1] at key
    refine qm_wp_ok hA [4] 40 _ _ _ _ _ _ ⟨rfl, fun (q : h.1 26 23 ≤ nI i) => absurd q (by rw [hn]; exact nI_ge hi (by omega)), fun _ => ⟨rfl, ?_⟩⟩
    refine ⟨0, 0, _, e_hears hG d h (t := t) (o := i) (p := p) ht hk (by omega), ⟨Nat.le_refl _, Nat.le_refl _⟩, ?_⟩
    rintro _ _ ⟨rfl, rfl⟩
    exact b2_eq (fun hb => by rw [if_pos hb] at key; exact key) (fun hb => by rw [if_neg (by rw [hb]; decide)] at key; exact key)
theorem e_closed {G : qm_G} (hG : G.2.2.2.2 = true) (d : Nat) (h : qm_H) {t : Nat} (ht : h.1 26 22 = nI t) (hk : t < 2) (set : Int32) : qm_Ev G (d + 1) 0 0 qyX10_closed [.ref 26, .int set] h (fun r h' => r = some (.int (s_closed (tw h t) set 6)) ∧ h = h') := by
  refine qm_Ev.by (M := mX10_closed) okX10_closed (Nat.le_of_ble_eq_true rfl) hG fun z hA => ?_
  refine qm_wp_ok hA [4] 20 _ _ _ _ _ _ ?_
  refine qm_for (P := fun i => qm_PW G mX10_closed z 4 0 0 [vr 26, vi set, vi (s_closed (tw h t) set i), vi (nI i)] [] h) (N := 6) ?_ ?_
  · refine qm_wp_ok hA [] 20 _ _ _ _ _ _ ?_
    exact ⟨fun _ => ⟨trivial, rfl, rfl⟩, fun q => absurd (by decide) q⟩
  · intro i hi key
    rw [s_closed, ← nI_1] at key
    have e : (7 : Int32) + nI i = nI (7 + i) := nI_add 7 i
    refine qm_wp_ok hA [4] 40 _ _ _ _ _ _ ?_
    refine ⟨fun q => absurd q (nI_ge hi (by decide)), fun _ => ?_⟩
    refine ⟨0, 0, _, e_has hG d h set (nI i), ⟨Nat.le_refl _, Nat.le_refl _⟩, ?_⟩
    rintro _ _ ⟨rfl, rfl⟩
    refine b2_eq (fun hb => ?_) (fun hb => by rw [if_neg (by rw [hb]; decide)] at key; exact key)
    refine ⟨rfl, ?_⟩
    refine ⟨0, 0, _, (by rw [e]; exact e_of hG d h ht hk (by omega)), ⟨Nat.le_refl _, Nat.le_refl _⟩, ?_⟩
    rintro _ _ ⟨rfl, rfl⟩
    rw [if_pos hb] at key
    exact key
theorem e_hearers {G : qm_G} (hG : G.2.2.2.2 = true) (d : Nat) (h : qm_H) {t n p : Nat} (ht : h.1 26 22 = nI t) (hk : t < 2) (hn : h.1 26 23 = nI n) (hn6 : n ≤ 6) : qm_Ev G (d + 2) 0 0 qyX10_hearers [.ref 26, .int (nI p)] h (fun r h' => r = some (.int (s_hearers (tw h t) p n)) ∧ h = h') := by
  refine qm_Ev.by (M := mX10_hearers) okX10_hearers (Nat.le_of_ble_eq_true rfl) hG fun z hA => ?_
  refine qm_wp_ok hA [4] 20 _ _ _ _ _ _ ?_
  refine qm_for (P := fun i => qm_PW G mX10_hearers z 4 0 0 [vr 26, vi (nI p), vi (s_hearers (tw h t) p i), vi (nI i)] [] h) (N := n) ?_ ?_
  · exact qm_wp_ok hA [] 20 _ _ _ _ _ _ ⟨rfl, fun _ => ⟨trivial, rfl, rfl⟩, fun (q : ¬ h.1 26 23 ≤ nI n) => absurd (by rw [hn]; exact Int32.le_refl _) q⟩
  · intro i hi key
    rw [s_hearers, ← nI_1] at key
    refine qm_wp_ok hA [4] 40 _ _ _ _ _ _ ⟨rfl, fun (q : h.1 26 23 ≤ nI i) => absurd q (by rw [hn]; exact nI_ge hi (by omega)), fun _ => ⟨rfl, ?_⟩⟩
    refine ⟨0, 0, _, e_hears hG d h (t := t) (o := i) (p := p) ht hk (by omega), ⟨Nat.le_refl _, Nat.le_refl _⟩, ?_⟩
    rintro _ _ ⟨rfl, rfl⟩
    exact b2_eq (fun hb => by rw [hb] at key; exact key) (fun hb => by rw [hb] at key; exact key)
theorem e_learntOf {G : qm_G} (hG : G.2.2.2.2 = true) (d : Nat) (h : qm_H) {t n p f : Nat} (ht : h.1 26 22 = nI t) (hk : t < 2) (hn : h.1 26 23 = nI n) (hn6 : n ≤ 6) (hf : f < 6) : qm_Ev G (d + 2) 0 0 qyX10_learntOf [.ref 26, .int (nI p), .int (nI f)] h (fun r h' => r = some (.int (s_learnt (tw h t) (h.1 39) p f n)) ∧ h = h') := by
  refine qm_Ev.by (M := mX10_learntOf) okX10_learntOf (Nat.le_of_ble_eq_true rfl) hG fun z hA => ?_
  refine qm_wp_ok hA [4] 20 _ _ _ _ _ _ ?_
  refine qm_for (P := fun i => qm_PW G mX10_learntOf z 4 0 0 [vr 26, vi (nI p), vi (nI f), vi (s_learnt (tw h t) (h.1 39) p f i), vi (nI i)] [] h) (N := n) ?_ ?_
  · exact qm_wp_ok hA [] 20 _ _ _ _ _ _ ⟨rfl, fun _ => ⟨trivial, rfl, rfl⟩, fun (q : ¬ h.1 26 23 ≤ nI n) => absurd (by rw [hn]; exact Int32.le_refl _) q⟩
  · intro i hi key
    rw [s_learnt, ← nI_1] at key
    have hin : vp_in (nI i) 6 := vp_in_nI (by omega) (by decide)
    refine qm_wp_ok hA [4] 40 _ _ _ _ _ _ ⟨rfl, fun (q : h.1 26 23 ≤ nI i) => absurd q (by rw [hn]; exact nI_ge hi (by omega)), fun _ => ⟨rfl, ?_⟩⟩
    refine ⟨0, 0, _, e_hears hG d h (t := t) (o := i) (p := p) ht hk (by omega), ⟨Nat.le_refl _, Nat.le_refl _⟩, ?_⟩
    rintro _ _ ⟨rfl, rfl⟩
    refine b2_eq (fun hb => ?_) (fun hb => by rw [if_neg (by rw [hb]; decide)] at key; exact key)
    refine ⟨rfl, ?_⟩
    refine ⟨0, 0, _, e_whole hG d h ht hk hf, ⟨Nat.le_refl _, Nat.le_refl _⟩, ?_⟩
    rintro _ _ ⟨rfl, rfl⟩
    refine ⟨rfl, _, rfl, rfl, hin, rfl, ?_⟩
    rw [nI_clamp (by omega)]
    refine ⟨0, 0, _, e_worthOf hG d h ht hk _, ⟨Nat.le_refl _, Nat.le_refl _⟩, ?_⟩
    rintro _ _ ⟨rfl, rfl⟩
    rw [if_pos hb] at key
    exact key
end Ref7
