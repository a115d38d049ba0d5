/-! the reference: couples -/
def cgN (w mi : Nat → Int32) (n : Nat) (sale : Bool) (a b : Nat) : Option Nat :=
  if sale then (if bgN w mi n a < bgN w mi n b then some (bgN w mi n b - bgN w mi n a) else none)
  else if a < b then some (onesN (mi a ||| mi b) 6) else none
theorem cgN_le {w mi : Nat → Int32} (hw : VW w) {n : Nat} (hn : n ≤ 6) {sale : Bool} {a b v : Nat} (h : cgN w mi n sale a b = some v) : v ≤ 720 := by
  rw [cgN] at h
  split at h
  · split at h
    · have := Option.some.inj h
      have := (bg_N hw mi hn b).2
      omega
    · exact absurd h (by simp)
  · split at h
    · have := Option.some.inj h
      have := onesN_le (mi a ||| mi b) 6
      omega
    · exact absurd h (by simp)
theorem nI_sb {a b : Nat} (h : a ≤ b) : nI b - nI a = nI (b - a) := by
  have : nI b = nI (b - a) + nI a := by rw [nI_add, Nat.sub_add_cancel h]
  rw [this, Int32.add_sub_cancel]
def cpI (o : Option Nat) : Int32 := match o with
  | none => -1000000
  | some v => nI v
theorem e_couple {G : qm_G} (hG : G.2.2.2.2 = true) (d : Nat) (h : qm_H) {t n a b : Nat} (ht : h.1 26 22 = nI t) (hk : t < 2) (hn : h.1 26 23 = nI n) (hn6 : n ≤ 6) (hw : VW (tw h t)) (ha : a < 6) (hb : b < 6) (sale : Bool) : qm_Ev G (d + 4) 0 0 qyX10_couple [.ref 26, .int (nI a), .int (nI b), .int (b2 sale)] h (fun r h' => r = some (.int (cpI (cgN (tw h t) (h.1 39) n sale a b))) ∧ h = h') := by
  obtain ⟨V, hV⟩ : ∃ V, V = cpI (cgN (tw h t) (h.1 39) n sale a b) := ⟨_, rfl⟩
  rw [← hV]
  refine qm_Ev.run (M := mX10_couple) okX10_couple rfl hG fun z => ?_
  refine b2_ne (fun hs => ?_) (fun hs => ?_)
  · obtain ⟨b1, b2'⟩ := bg_N hw (h.1 39) hn6 b
    obtain ⟨a1, a2⟩ := bg_N hw (h.1 39) hn6 a
    refine ⟨rfl, 0, 0, _, e_bestOf hG d h ht hk hn hn6 hb true, ⟨Nat.le_refl _, Nat.le_refl _⟩, ?_⟩
    rintro _ _ ⟨rfl, rfl⟩
    refine ⟨rfl, 0, 0, _, e_bestOf hG d h ht hk hn hn6 ha true, ⟨Nat.le_refl _, Nat.le_refl _⟩, ?_⟩
    rintro _ _ ⟨rfl, rfl⟩
    rw [if_pos rfl, if_pos rfl, b1, a1]
    rw [cgN, if_pos hs] at hV
    refine ⟨fun (c : nI a = nI b) => ?_, fun (c : ¬ nI a = nI b) => ⟨fun (q : nI (bgN (tw h t) (h.1 39) n b) - nI (bgN (tw h t) (h.1 39) n a) ≤ 0) => ?_, fun (q : ¬ nI (bgN (tw h t) (h.1 39) n b) - nI (bgN (tw h t) (h.1 39) n a) ≤ 0) => ?_⟩⟩
    · have e := (nI_eq (by omega) (by omega)).mp c
      rw [e, if_neg (by omega)] at hV
      exact ⟨trivial, by rw [hV]; rfl, rfl⟩
    · have hlt : ¬ bgN (tw h t) (h.1 39) n a < bgN (tw h t) (h.1 39) n b := fun e => by
        rw [nI_sb (by omega)] at q
        exact nI_nle (by omega) (by omega) q
      rw [if_neg hlt] at hV
      exact ⟨trivial, by rw [hV]; rfl, rfl⟩
    · have hlt : bgN (tw h t) (h.1 39) n a < bgN (tw h t) (h.1 39) n b := by
        rcases Nat.lt_or_ge (bgN (tw h t) (h.1 39) n a) (bgN (tw h t) (h.1 39) n b) with e | e
        · exact e
        · refine absurd ?_ q
          refine Int32.le_iff_toInt_le.mpr ?_
          have h1 : (nI (bgN (tw h t) (h.1 39) n b) - nI (bgN (tw h t) (h.1 39) n a)).toInt = (bgN (tw h t) (h.1 39) n b : Int) - (bgN (tw h t) (h.1 39) n a : Int) := by
            rw [Int32.toInt_sub, nI_toInt (by omega), nI_toInt (by omega)]
            exact Int.bmod_eq_of_le (by omega) (by omega)
          rw [h1]
          show _ ≤ (0 : Int)
          omega
      rw [if_pos hlt] at hV
      exact ⟨trivial, by rw [hV, nI_sb (by omega)]; rfl, rfl⟩
  · rw [cgN, if_neg (by rw [hs]; decide)] at hV
    refine ⟨fun (q : nI b ≤ nI a) => ?_, fun (q : ¬ nI b ≤ nI a) => ⟨rfl, _, rfl, rfl, (vp_in_nI (by omega) (by decide) : vp_in (nI a) 6), rfl, _, rfl, rfl, (vp_in_nI (by omega) (by decide) : vp_in (nI b) 6), ?_⟩⟩
    · rw [if_neg (by have := (nI_leI (by omega) (by omega)).mp q; omega)] at hV
      exact ⟨trivial, by rw [hV]; rfl, rfl⟩
    · rw [if_pos (by have : ¬ b ≤ a := fun e => q ((nI_leI (by omega) (by omega)).mpr e); omega)] at hV
      refine ⟨0, 0, _, e_ones hG (d + 2) h _, ⟨Nat.le_refl _, Nat.le_refl _⟩, ?_⟩
      rintro _ _ ⟨rfl, rfl⟩
      have e1 : ones (h.1 39 (nI a).toNatClampNeg ||| h.1 39 (nI b).toNatClampNeg) 6 = V := by
        rw [nI_clamp (by omega), nI_clamp (by omega), hV, ones_N]; rfl
      exact ⟨trivial, congrArg (fun v => some (Value.int v)) e1, rfl⟩
/-- what the b-th choice of a brings, with those had -/
def cO (g : Nat → Nat → Option Nat) (n : Nat) (L : Nat → Nat) (a had b : Nat) : Option Nat :=
  if b = 6 then some (L had) else if (decide (b < n) && (!bit (nI had) (nI a) && !bit (nI had) (nI b))) then (match g a b with
    | none => none
    | some v => some (v + L ((had ||| 2 ^ a) ||| 2 ^ b))) else none
def cM (o : Nat → Option Nat) : Nat → Nat
  | 0 => 0
  | b + 1 => max (cM o b) ((o b).getD 0)
def cB (g : Nat → Nat → Option Nat) (n : Nat) : Nat → Nat → Nat → Nat
  | 0, _, _ => 0
  | k + 1, a, had => cM (cO g n (cB g n k (a + 1)) a had) 7
theorem cM_le {o : Nat → Option Nat} {K : Nat} (h : ∀ b v, o b = some v → v ≤ K) : ∀ j, cM o j ≤ K
  | 0 => Nat.zero_le _
  | j + 1 => by
    rw [cM]
    have := cM_le h j
    cases q : o j with
    | none => simp only [Option.getD_none]; omega
    | some v => have := h j v q; simp only [Option.getD_some]; omega
theorem cM_ge {o : Nat → Option Nat} {b v : Nat} (hb : o b = some v) : ∀ j, b < j → v ≤ cM o j
  | 0, h => by omega
  | j + 1, h => by
    rw [cM]
    by_cases e : b = j
    · rw [← e, hb]; exact Nat.le_max_right _ _
    · exact Nat.le_trans (cM_ge hb j (by omega)) (Nat.le_max_left _ _)
theorem cM_at {o : Nat → Option Nat} : ∀ j, 0 < cM o j → ∃ b, b < j ∧ o b = some (cM o j)
  | 0, h => by rw [cM] at h; omega
  | j + 1, h => by
    rw [cM] at h ⊢
    by_cases c : (o j).getD 0 ≤ cM o j
    · rw [Nat.max_eq_left c] at h ⊢
      obtain ⟨b, h1, h2⟩ := cM_at j h
      exact ⟨b, by omega, h2⟩
    · have c2 : cM o j ≤ (o j).getD 0 := by omega
      rw [Nat.max_eq_right c2] at h ⊢
      refine ⟨j, by omega, ?_⟩
      cases q : o j with
      | none => rw [q] at h; exact absurd h (by simp)
      | some v => rfl
theorem cO_le {g : Nat → Nat → Option Nat} {n K : Nat} {L : Nat → Nat} {a had : Nat} (hg : ∀ a b v, g a b = some v → v ≤ 720) (hL : ∀ s, L s ≤ K) : ∀ b v, cO g n L a had b = some v → v ≤ 720 + K := by
  intro b v h
  rw [cO] at h
  split at h
  · have := Option.some.inj h
    have := hL had
    omega
  · split at h
    · cases q : g a b with
      | none => rw [q] at h; exact absurd h (by simp)
      | some x =>
        rw [q] at h
        have e : x + L ((had ||| 2 ^ a) ||| 2 ^ b) = v := Option.some.inj h
        have := hg a b x q
        have := hL ((had ||| 2 ^ a) ||| 2 ^ b)
        omega
    · exact absurd h (by simp)
theorem cB_le {g : Nat → Nat → Option Nat} {n : Nat} (hg : ∀ a b v, g a b = some v → v ≤ 720) : ∀ k a had, cB g n k a had ≤ 720 * k
  | 0, _, _ => Nat.le_refl _
  | k + 1, a, had => by
    rw [cB]
    refine Nat.le_trans (cM_le (cO_le hg (fun s => cB_le hg k (a + 1) s)) 7) (by omega)
theorem cB_at (g : Nat → Nat → Option Nat) (n k a had : Nat) : ∃ b, b < 7 ∧ cO g n (cB g n k (a + 1)) a had b = some (cB g n (k + 1) a had) := by
  rw [cB]
  rcases Nat.eq_zero_or_pos (cM (cO g n (cB g n k (a + 1)) a had) 7) with e | e
  · refine ⟨6, by omega, ?_⟩
    have h6 : cO g n (cB g n k (a + 1)) a had 6 = some (cB g n k (a + 1) had) := by rw [cO, if_pos rfl]
    have := cM_ge h6 7 (by omega)
    rw [h6, e, show cB g n k (a + 1) had = 0 by omega]
  · exact cM_at 7 e
def cC (g : Nat → Nat → Option Nat) (n k a had : Nat) : Nat := ff (fun b => decide (cO g n (cB g n k (a + 1)) a had b = some (cB g n (k + 1) a had))) 7 0
theorem cC_spec (g : Nat → Nat → Option Nat) (n k a had : Nat) : cC g n k a had < 7 ∧ cO g n (cB g n k (a + 1)) a had (cC g n k a had) = some (cB g n (k + 1) a had) ∧ ∀ b, b < cC g n k a had → ¬ cO g n (cB g n k (a + 1)) a had b = some (cB g n (k + 1) a had) := by
  obtain ⟨b, h1, h2⟩ := cB_at g n k a had
  obtain ⟨k1, k2, -, k4⟩ := ff_spec (p := fun b => decide (cO g n (cB g n k (a + 1)) a had b = some (cB g n (k + 1) a had))) 7 0 ⟨b, by omega, by omega, decide_eq_true h2⟩
  refine ⟨by rw [cC]; omega, of_decide_eq_true k1, fun j hj q => ?_⟩
  have := k4 j (by omega) hj
  exact absurd q (of_decide_eq_false this)
def cRow (g : Nat → Nat → Option Nat) (n : Nat) (sale : Bool) : Nat → Nat → Nat → (Nat → Nat) → (Nat → Nat)
  | 0, _, _, row => row
  | k + 1, a, had, row => if cC g n k a had < 6 then cRow g n sale k (a + 1) ((had ||| 2 ^ a) ||| 2 ^ cC g n k a had) (va_up (va_up row a (cC g n k a had)) (cC g n k a had) (if sale then 6 else a)) else cRow g n sale k (a + 1) had row
theorem e_coupleBy {G : qm_G} (hG : G.2.2.2.2 = true) (d : Nat) (h : qm_H) {t n a had b : Nat} (ht : h.1 26 22 = nI t) (hk : t < 2) (hn : h.1 26 23 = nI n) (hn6 : n ≤ 6) (hw : VW (tw h t)) (ha : a < n) (hh : had < 64) (hb : b < 7) (sale : Bool) (hT : ∀ s, s < 64 → h.1 45 (64 * (a + 1) + s) = nI (cB (cgN (tw h t) (h.1 39) n sale) n (n - (a + 1)) (a + 1) s)) : qm_Ev G (d + 5) 0 0 qyX10_coupleBy [.ref 26, .int (nI a), .int (nI had), .int (nI b), .int (b2 sale)] h (fun r h' => (∃ v, r = some (.int v) ∧ (∀ x, cO (cgN (tw h t) (h.1 39) n sale) n (cB (cgN (tw h t) (h.1 39) n sale) n (n - (a + 1)) (a + 1)) a had b = some x → v = nI x) ∧ (cO (cgN (tw h t) (h.1 39) n sale) n (cB (cgN (tw h t) (h.1 39) n sale) n (n - (a + 1)) (a + 1)) a had b = none → v < 0)) ∧ h = h') := by
  have hgl : ∀ a b v, cgN (tw h t) (h.1 39) n sale a b = some v → v ≤ 720 := fun a b v q => cgN_le hw hn6 q
  obtain ⟨g, hg⟩ : ∃ g, g = cgN (tw h t) (h.1 39) n sale := ⟨_, rfl⟩
  rw [← hg] at hT hgl ⊢
  have hLl := cB_le (n := n) hgl (n - (a + 1)) (a + 1)
  obtain ⟨L, hL⟩ : ∃ L, L = cB g n (n - (a + 1)) (a + 1) := ⟨_, rfl⟩
  rw [← hL] at hT hLl ⊢
  have hLl : ∀ s, L s ≤ 4320 := fun s => Nat.le_trans (hLl s) (by omega)
  have fail : cO g n L a had b = none → (∃ v, some (Value.int (-1000000)) = some (Value.int v) ∧ (∀ x, cO g n L a had b = some x → v = nI x) ∧ (cO g n L a had b = none → v < 0)) := fun e => ⟨_, rfl, fun x q => by rw [e] at q; exact absurd q (by simp), fun _ => by decide⟩
  have ei : (64 : Int32) * (nI a + 1) + nI had = nI (64 * (a + 1) + had) := by rw [show (64 : Int32) = nI 64 from rfl, nI_1, pk_mul, nI_add]
  have h26 : vp_in ((64 : Int32) * (nI a + 1) + nI had) 448 := by rw [ei]; exact vp_in_nI (by omega) (by decide)
  obtain ⟨C, hC⟩ : ∃ C : Option Nat → Prop, C = fun o => cO g n L a had b = o := ⟨_, rfl⟩
  refine qm_Ev.run (M := mX10_coupleBy) okX10_coupleBy rfl hG fun z => ?_
  refine ⟨fun (q : ¬ nI b = 6) => ?_, fun (q : nI b = 6) => ⟨rfl, _, rfl, rfl, h26, trivial, ⟨_, rfl, fun x e => ?_, fun e => ?_⟩, rfl⟩⟩
  · have b6 : b ≠ 6 := fun e => q (by rw [e]; rfl)
    refine ⟨rfl, fun (c : h.1 26 23 ≤ nI b) => ?_, fun (c : ¬ h.1 26 23 ≤ nI b) => ?_⟩
    · have : ¬ b < n := by rw [hn] at c; have := (nI_leI (by omega) (by omega)).mp c; omega
      exact ⟨fun _ => ⟨trivial, fail (by rw [cO, if_neg b6, decide_eq_false this]; rfl), rfl⟩, fun z => absurd rfl z⟩
    · have hbn : b < n := by
        rw [hn] at c
        rcases Nat.lt_or_ge b n with e | e
        · exact e
        · exact absurd (nI_le e (by omega)) c
      refine ⟨0, 0, _, e_has hG (d + 4) h (nI had) (nI a), ⟨Nat.le_refl _, Nat.le_refl _⟩, ?_⟩
      rintro _ _ ⟨rfl, rfl⟩
      refine b2_ne (fun hb1 => ⟨fun _ => ⟨trivial, fail (by rw [cO, if_neg b6, hb1, decide_eq_true hbn]; rfl), rfl⟩, fun z => absurd rfl z⟩) (fun hb1 => ?_)
      refine ⟨0, 0, _, e_has hG (d + 4) h (nI had) (nI b), ⟨Nat.le_refl _, Nat.le_refl _⟩, ?_⟩
      rintro _ _ ⟨rfl, rfl⟩
      refine b2_ne (fun hb2 => ⟨fun _ => ⟨trivial, fail (by rw [cO, if_neg b6, hb1, hb2, decide_eq_true hbn]; rfl), rfl⟩, fun z => absurd rfl z⟩) (fun hb2 => ⟨fun z => absurd z (by decide), fun _ => ?_⟩)
      refine ⟨rfl, 0, 0, _, e_couple hG d h ht hk hn hn6 hw (by omega) (by omega) sale, ⟨Nat.le_refl _, Nat.le_refl _⟩, ?_⟩
      rintro _ _ ⟨rfl, rfl⟩
      rw [← hg]
      obtain ⟨o1, o2⟩ := s_or1 hh (by omega : a < 6)
      obtain ⟨o3, o4⟩ := s_or1 o2 (by omega : b < 6)
      have ei2 : (64 : Int32) * (nI a + 1) + ((nI had ||| ((1 : Int32) <<< (nI a &&& 31))) ||| ((1 : Int32) <<< (nI b &&& 31))) = nI (64 * (a + 1) + ((had ||| 2 ^ a) ||| 2 ^ b)) := by rw [o1, o3, show (64 : Int32) = nI 64 from rfl, nI_1, pk_mul, nI_add]
      have eO : cO g n L a had b = (match g a b with
        | none => none
        | some v => some (v + L ((had ||| 2 ^ a) ||| 2 ^ b))) := by rw [cO, if_neg b6, hb1, hb2, decide_eq_true hbn]; rfl
      have eT : h.1 45 ((64 : Int32) * (nI a + 1) + ((nI had ||| ((1 : Int32) <<< (nI a &&& 31))) ||| ((1 : Int32) <<< (nI b &&& 31)))).toNatClampNeg = nI (L ((had ||| 2 ^ a) ||| 2 ^ b)) := by rw [ei2, nI_clamp (by omega), hT _ o4]
      have hl := hLl ((had ||| 2 ^ a) ||| 2 ^ b)
      refine ⟨rfl, _, rfl, rfl, (by rw [ei2]; exact vp_in_nI (by omega) (by decide) : vp_in ((64 : Int32) * (nI a + 1) + ((nI had ||| ((1 : Int32) <<< (nI a &&& 31))) ||| ((1 : Int32) <<< (nI b &&& 31)))) 448), trivial, ⟨_, rfl, fun x e => ?_, fun e => ?_⟩, rfl⟩
      · show cpI (g a b) + h.1 45 ((64 : Int32) * (nI a + 1) + ((nI had ||| ((1 : Int32) <<< (nI a &&& 31))) ||| ((1 : Int32) <<< (nI b &&& 31)))).toNatClampNeg = nI x
        rw [eT]
        cases qg : g a b with
        | none => rw [eO, qg] at e; exact absurd e (by simp)
        | some v =>
          rw [eO, qg] at e
          have e' : v + L ((had ||| 2 ^ a) ||| 2 ^ b) = x := Option.some.inj e
          rw [← e', ← nI_add]; rfl
      · show cpI (g a b) + h.1 45 ((64 : Int32) * (nI a + 1) + ((nI had ||| ((1 : Int32) <<< (nI a &&& 31))) ||| ((1 : Int32) <<< (nI b &&& 31)))).toNatClampNeg < 0
        rw [eT]
        cases qg : g a b with
        | none =>
          show (-1000000 : Int32) + nI (L ((had ||| 2 ^ a) ||| 2 ^ b)) < 0
          refine Int32.lt_iff_toInt_lt.mpr ?_
          have h1 : ((-1000000 : Int32) + nI (L ((had ||| 2 ^ a) ||| 2 ^ b))).toInt = -1000000 + (L ((had ||| 2 ^ a) ||| 2 ^ b) : Int) := by
            rw [Int32.toInt_add, nI_toInt (by omega)]
            exact Int.bmod_eq_of_le (by simp; omega) (by simp; omega)
          rw [h1]
          show _ < (0 : Int)
          omega
        | some v => rw [eO, qg] at e; exact absurd e (by simp)
  · have b6 : b = 6 := (nI_eq (by omega) (by decide)).mp (q : nI b = nI 6)
    show h.1 45 ((64 : Int32) * (nI a + 1) + nI had).toNatClampNeg = nI x
    rw [cO, if_pos b6] at e
    rw [ei, nI_clamp (by omega), hT _ hh, Option.some.inj e]
  · have b6 : b = 6 := (nI_eq (by omega) (by decide)).mp (q : nI b = nI 6)
    rw [cO, if_pos b6] at e
    exact absurd e (by simp)
