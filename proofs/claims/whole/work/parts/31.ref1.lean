/-! the reference: small ones -/
section Ref1
theorem e_in {G : qm_G} (hG : G.2.2.2.2 = true) (d : Nat) (h : qm_H) (v lo hi : Int32) : qm_Ev G d 0 0 qyX10_in [.int v, .int lo, .int hi] h (fun r h' => r = some (.int (b2 (decide (lo ≤ v ∧ v ≤ hi)))) ∧ h = h') := by
  refine qm_Ev.run (M := mX10_in) okX10_in rfl hG fun z => ?_
  refine ⟨fun c1 => ?_, fun c1 => ?_⟩
  · exact ⟨rfl, by rw [decide_eq_false (fun q => absurd q.1 (Int32.not_le.mpr c1))]; rfl, rfl⟩
  · refine ⟨fun c2 => ?_, fun c2 => ?_⟩
    · exact ⟨rfl, by rw [decide_eq_false (fun q => absurd q.2 (Int32.not_le.mpr c2))]; rfl, rfl⟩
    · exact ⟨rfl, by rw [decide_eq_true ⟨Int32.not_lt.mp c1, Int32.not_lt.mp c2⟩]; rfl, rfl⟩
theorem e_has {G : qm_G} (hG : G.2.2.2.2 = true) (d : Nat) (h : qm_H) (x k : Int32) : qm_Ev G d 0 0 qyX10_has [.int x, .int k] h (fun r h' => r = some (.int (b2 (bit x k))) ∧ h = h') := by
  refine qm_Ev.run (M := mX10_has) okX10_has rfl hG fun z => ?_
  refine ⟨fun c1 => ?_, fun c1 => ?_⟩
  · exact ⟨rfl, by rw [bit, decide_eq_false c1]; rfl, rfl⟩
  · exact ⟨rfl, by rw [bit, decide_eq_true c1]; rfl, rfl⟩
def mx (a b : Int32) : Int32 := if a ≤ b then b else a
def mn (a b : Int32) : Int32 := if a < b then a else b
theorem e_greater {G : qm_G} (hG : G.2.2.2.2 = true) (d : Nat) (h : qm_H) (a b : Int32) : qm_Ev G d 0 0 qyX10_greater [.int a, .int b] h (fun r h' => r = some (.int (mx a b)) ∧ h = h') := by
  refine qm_Ev.run (M := mX10_greater) okX10_greater rfl hG fun z => ?_
  exact ⟨fun c1 => ⟨trivial, by rw [mx, if_pos c1], rfl⟩, fun c1 => ⟨trivial, by rw [mx, if_neg c1], rfl⟩⟩
theorem e_lesser {G : qm_G} (hG : G.2.2.2.2 = true) (d : Nat) (h : qm_H) (a b : Int32) : qm_Ev G d 0 0 qyX10_lesser [.int a, .int b] h (fun r h' => r = some (.int (mn a b)) ∧ h = h') := by
  refine qm_Ev.run (M := mX10_lesser) okX10_lesser rfl hG fun z => ?_
  exact ⟨fun c1 => ⟨trivial, by rw [mn, if_neg (Int32.not_lt.mpr c1)], rfl⟩, fun c1 => ⟨trivial, by rw [mn, if_pos (Int32.not_le.mp c1)], rfl⟩⟩
def ones (x : Int32) : Nat → Int32
  | 0 => 0
  | n + 1 => ones x n + b2 (bit x (nI n))
theorem e_ones {G : qm_G} (hG : G.2.2.2.2 = true) (d : Nat) (h : qm_H) (x : Int32) : qm_Ev G (d + 1) 0 0 qyX10_ones [.int x] h (fun r h' => r = some (.int (ones x 6)) ∧ h = h') := by
  refine qm_Ev.by (M := mX10_ones) okX10_ones (Nat.le_of_ble_eq_true rfl) hG fun z hA => ?_
  have loop : ∀ n i : Nat, i + n = 6 → qm_PW G mX10_ones z 4 0 0 [vi x, vi (ones x i), vi (nI i)] [] h := by
    intro n
    induction n with
    | zero =>
      intro i hi
      obtain rfl : i = 6 := hi
      refine qm_wp_ok hA [] 20 _ _ _ _ _ _ ?_
      exact ⟨fun _ => ⟨trivial, rfl, rfl⟩, fun q => absurd (by decide) q⟩
    | succ n ih =>
      intro i hi
      refine qm_wp_ok hA [4] 30 _ _ _ _ _ _ ?_
      refine ⟨fun q => absurd q (nI_ge (by omega : i < 6) (by decide)), fun _ => ?_⟩
      refine ⟨0, 0, _, e_has hG d h x (nI i), ⟨Nat.le_refl _, Nat.le_refl _⟩, ?_⟩
      rintro _ _ ⟨rfl, rfl⟩
      have key := ih (i + 1) (by omega)
      rw [ones, ← nI_1] at key
      exact b2_eq (fun hb => by rw [hb] at key; exact key) (fun hb => by rw [hb] at key; exact key)
  refine qm_wp_ok hA [4] 20 _ _ _ _ _ _ ?_
  exact loop 6 0 rfl
/-- the row of a town -/
def tw (h : qm_H) (t : Nat) : Nat → Int32 := fun j => h.1 32 (31 * t + j)
theorem e_of {G : qm_G} (hG : G.2.2.2.2 = true) (d : Nat) (h : qm_H) {t j : Nat} (ht : h.1 26 22 = nI t) (hk : t < 2) (hj : j < 31) : qm_Ev G d 0 0 qyX10_of [.ref 26, .int (nI j)] h (fun r h' => r = some (.int (tw h t j)) ∧ h = h') := by
  refine qm_Ev.run (M := mX10_of) okX10_of rfl hG fun z => ?_
  have e : (31 : Int32) * h.1 26 22 + nI j = nI (31 * t + j) := by rw [ht, ← nI_add, ← pk_mul]; rfl
  refine ⟨rfl, _, rfl, rfl, rfl, ?_, trivial, ?_, rfl⟩
  · show vp_in ((31 : Int32) * h.1 26 22 + nI j) 248
    rw [e]; exact vp_in_nI (by omega) (by decide)
  · show some (Value.int (h.1 32 ((31 : Int32) * h.1 26 22 + nI j).toNatClampNeg)) = _
    rw [e, nI_clamp (by omega)]
    rfl
theorem e_is {G : qm_G} (hG : G.2.2.2.2 = true) (d : Nat) (h : qm_H) {s : Nat} (hs : s < 3) (k : Int32) : qm_Ev G (d + 1) 0 0 qyX10_is [.ref 26, .int (nI s), .int k] h (fun r h' => r = some (.int (b2 (decide (0 ≤ k ∧ k ≤ h.1 31 s - 1)))) ∧ h = h') := by
  refine qm_Ev.run (M := mX10_is) okX10_is rfl hG fun z => ?_
  refine ⟨rfl, _, rfl, rfl, (vp_in_nI (by omega) (by decide) : vp_in (nI s) 12), ?_⟩
  refine ⟨0, 0, _, e_in hG d h k 0 (h.1 31 (nI s).toNatClampNeg - 1), ⟨Nat.le_refl _, Nat.le_refl _⟩, ?_⟩
  rintro _ _ ⟨rfl, rfl⟩
  rw [nI_clamp (by omega)]
  exact ⟨b2_and _, rfl, rfl⟩
theorem e_isPerson {G : qm_G} (hG : G.2.2.2.2 = true) (d : Nat) (h : qm_H) (p : Int32) : qm_Ev G (d + 1) 0 0 qyX10_isPerson [.ref 26, .int p] h (fun r h' => r = some (.int (b2 (decide (0 ≤ p ∧ p ≤ h.1 26 23 - 1)))) ∧ h = h') := by
  refine qm_Ev.run (M := mX10_isPerson) okX10_isPerson rfl hG fun z => ?_
  refine ⟨rfl, ?_⟩
  refine ⟨0, 0, _, e_in hG d h p 0 (h.1 26 23 - 1), ⟨Nat.le_refl _, Nat.le_refl _⟩, ?_⟩
  rintro _ _ ⟨rfl, rfl⟩
  exact ⟨b2_and _, rfl, rfl⟩
/-- a fact and all that follows -/
def s_whole (w : Nat → Int32) (f : Nat) : Int32 := (1 <<< (nI f &&& 31)) ||| w (7 + f)
def s_hears (w : Nat → Int32) (o p : Nat) : Bool := bit (w (25 + o)) (nI p)
def s_worth (w : Nat → Int32) (set : Int32) : Nat → Int32
  | 0 => 0
  | n + 1 => s_worth w set n + (if bit set (nI n) then w (1 + n) else 0)
theorem e_whole {G : qm_G} (hG : G.2.2.2.2 = true) (d : Nat) (h : qm_H) {t f : Nat} (ht : h.1 26 22 = nI t) (hk : t < 2) (hf : f < 6) : qm_Ev G (d + 1) 0 0 qyX10_whole [.ref 26, .int (nI f)] h (fun r h' => r = some (.int (s_whole (tw h t) f)) ∧ h = h') := by
  refine qm_Ev.run (M := mX10_whole) okX10_whole rfl hG fun z => ?_
  have e : (7 : Int32) + nI f = nI (7 + f) := nI_add 7 f
  refine ⟨rfl, ?_⟩
  refine ⟨0, 0, _, (by rw [e]; exact e_of hG d h ht hk (by omega)), ⟨Nat.le_refl _, Nat.le_refl _⟩, ?_⟩
  rintro _ _ ⟨rfl, rfl⟩
  exact ⟨trivial, rfl, rfl⟩
theorem e_hears {G : qm_G} (hG : G.2.2.2.2 = true) (d : Nat) (h : qm_H) {t o p : Nat} (ht : h.1 26 22 = nI t) (hk : t < 2) (ho : o < 6) : qm_Ev G (d + 1) 0 0 qyX10_hears [.ref 26, .int (nI o), .int (nI p)] h (fun r h' => r = some (.int (b2 (s_hears (tw h t) o p))) ∧ h = h') := by
  refine qm_Ev.run (M := mX10_hears) okX10_hears rfl hG fun z => ?_
  have e : (25 : Int32) + nI o = nI (25 + o) := nI_add 25 o
  refine ⟨rfl, ?_⟩
  refine ⟨0, 0, _, (by rw [e]; exact e_of hG d h ht hk (by omega)), ⟨Nat.le_refl _, Nat.le_refl _⟩, ?_⟩
  rintro _ _ ⟨rfl, rfl⟩
  refine ⟨0, 0, _, e_has hG d h _ (nI p), ⟨Nat.le_refl _, Nat.le_refl _⟩, ?_⟩
  rintro _ _ ⟨rfl, rfl⟩
  exact ⟨b2_and _, rfl, rfl⟩
theorem e_worthOf {G : qm_G} (hG : G.2.2.2.2 = true) (d : Nat) (h : qm_H) {t : Nat} (ht : h.1 26 22 = nI t) (hk : t < 2) (set : Int32) : qm_Ev G (d + 1) 0 0 qyX10_worthOf [.ref 26, .int set] h (fun r h' => r = some (.int (s_worth (tw h t) set 6)) ∧ h = h') := by
  refine qm_Ev.by (M := mX10_worthOf) okX10_worthOf (Nat.le_of_ble_eq_true rfl) hG fun z hA => ?_
  have loop : ∀ n i : Nat, i + n = 6 → qm_PW G mX10_worthOf z 4 0 0 [vr 26, vi set, vi (s_worth (tw h t) set i), vi (nI i)] [] h := by
    intro n
    induction n with
    | zero =>
      intro i hi
      obtain rfl : i = 6 := hi
      refine qm_wp_ok hA [] 20 _ _ _ _ _ _ ?_
      exact ⟨fun _ => ⟨trivial, rfl, rfl⟩, fun q => absurd (by decide) q⟩
    | succ n ih =>
      intro i hi
      have key := ih (i + 1) (by omega)
      rw [s_worth, ← nI_1] at key
      refine qm_wp_ok hA [4] 30 _ _ _ _ _ _ ?_
      refine ⟨fun q => absurd q (nI_ge (by omega : i < 6) (by decide)), fun _ => ?_⟩
      refine ⟨0, 0, _, e_has hG d h set (nI i), ⟨Nat.le_refl _, Nat.le_refl _⟩, ?_⟩
      rintro _ _ ⟨rfl, rfl⟩
      refine b2_eq (fun hb => ?_) (fun hb => ?_)
      · have e : (1 : Int32) + nI i = nI (1 + i) := nI_add 1 i
        refine ⟨rfl, ?_⟩
        refine ⟨0, 0, _, (by rw [e]; exact e_of hG d h ht hk (by omega)), ⟨Nat.le_refl _, Nat.le_refl _⟩, ?_⟩
        rintro _ _ ⟨rfl, rfl⟩
        rw [if_pos hb] at key
        exact key
      · rw [if_neg (by rw [hb]; decide)] at key
        exact key
  refine qm_wp_ok hA [4] 20 _ _ _ _ _ _ ?_
  exact loop 6 0 rfl
end Ref1
