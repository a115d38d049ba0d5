/-! the reference: tellings, messages -/
def hbN (w : Nat → Int32) (p : Nat) : Nat → Nat
  | 0 => 0
  | o + 1 => hbN w p o ||| (if s_hears w o p then 2 ^ o else 0)
theorem hbN_lt (w : Nat → Int32) (p : Nat) {n : Nat} : ∀ o, o ≤ n → hbN w p o < 2 ^ n
  | 0, _ => Nat.two_pow_pos _
  | o + 1, ho => by
    rw [hbN]
    have := hbN_lt w p (n := n) o (by omega)
    split
    · exact Nat.or_lt_two_pow this (Nat.pow_lt_pow_right (by decide) (by omega))
    · rw [Nat.or_zero]; exact this
theorem told_N (w : Nat → Int32) (s p : Nat) : ∀ o, o ≤ 6 → s_toldBy w (nI s) p o = nI (s ||| hbN w p o)
  | 0, _ => by rw [s_toldBy, hbN, Nat.or_zero]
  | o + 1, ho => by
    rw [s_toldBy, hbN, told_N w s p o (by omega)]
    split
    · rw [(s_pow (by omega : o ≤ 6)).2, fa_or, Nat.or_assoc]
    · rw [Nat.or_zero, show (0 : Int32) = nI 0 from rfl, fa_or, Nat.or_zero]
def knN (mi : Nat → Int32) (f : Int32) : Nat → Nat
  | 0 => 0
  | p + 1 => knN mi f p ||| (if bit (mi p) f then 2 ^ p else 0)
theorem knN_lt (mi : Nat → Int32) (f : Int32) {n : Nat} : ∀ o, o ≤ n → knN mi f o < 2 ^ n
  | 0, _ => Nat.two_pow_pos _
  | o + 1, ho => by
    rw [knN]
    have := knN_lt mi f (n := n) o (by omega)
    split
    · exact Nat.or_lt_two_pow this (Nat.pow_lt_pow_right (by decide) (by omega))
    · rw [Nat.or_zero]; exact this
theorem kn_N (mi : Nat → Int32) (f : Int32) : ∀ o, o ≤ 6 → s_knowers mi f o = nI (knN mi f o)
  | 0, _ => rfl
  | o + 1, ho => by
    rw [s_knowers, knN, kn_N mi f o (by omega)]
    split
    · rw [(s_pow (by omega : o ≤ 6)).2, fa_or]
    · rw [Nat.or_zero, show (0 : Int32) = nI 0 from rfl, fa_or, Nat.or_zero]
def omn : Option Nat → Option Nat → Option Nat
  | none, x => x
  | some a, none => some a
  | some a, some b => some (min a b)
def lfm (o : Nat → Option Nat) : Nat → Option Nat
  | 0 => none
  | p + 1 => omn (lfm o p) (o p)
def lfo (w : Nat → Int32) (n : Nat) (T : Nat → Option Nat) (set p : Nat) : Option Nat := if bit (nI set) (nI p) && decide (¬ set ||| hbN w p n = set) then (T (set ||| hbN w p n)).map (· + 1) else none
def lf (w : Nat → Int32) (n wt : Nat) : Nat → Nat → Option Nat
  | 0, _ => none
  | k + 1, set => if set &&& wt = wt then some 0 else lfm (lfo w n (lf w n wt k) set) n
theorem lfm_co {o o' : Nat → Option Nat} : ∀ n, (∀ p, p < n → o p = o' p) → lfm o n = lfm o' n
  | 0, _ => rfl
  | n + 1, h => by rw [lfm, lfm, lfm_co n (fun p hp => h p (by omega)), h n (by omega)]
theorem or_gt {a b : Nat} (h : ¬ a ||| b = a) : a < a ||| b := by
  have := @Nat.left_le_or a b
  omega
theorem lf_st {w : Nat → Int32} {n wt : Nat} (hn : n ≤ 6) : ∀ k set, set < 64 → 64 - set ≤ k → lf w n wt (k + 1) set = lf w n wt k set
  | 0, set, h1, h2 => by omega
  | k + 1, set, h1, h2 => by
    rw [lf, lf]
    split
    · rfl
    · refine lfm_co n fun p hp => ?_
      rw [lfo, lfo]
      split
      · rename_i c
        have c2 := of_decide_eq_true (Bool.and_eq_true_iff.mp c).2
        have h3 := or_gt c2
        have h4 : hbN w p n < 2 ^ n := hbN_lt w p n (Nat.le_refl _)
        have h5 : 2 ^ n ≤ 64 := (s_pow6 hn).1
        have h6 : set ||| hbN w p n < 64 := Nat.or_lt_two_pow (n := 6) h1 (by omega)
        rw [lf_st hn k _ h6 (by omega)]
      · rfl
theorem lfm_some {o : Nat → Option Nat} : ∀ {n v}, lfm o n = some v → (∃ p, p < n ∧ o p = some v) ∧ ∀ p, p < n → ∀ u, o p = some u → v ≤ u
  | 0, v, h => by rw [lfm] at h; exact absurd h (by simp)
  | n + 1, v, h => by
    rw [lfm] at h
    cases q : lfm o n with
    | none =>
      rw [q] at h
      have h : o n = some v := h
      refine ⟨⟨n, by omega, h⟩, fun p hp u hu => ?_⟩
      by_cases e : p = n
      · rw [e, h] at hu
        have := Option.some.inj hu
        omega
      · exfalso
        have key : ∀ m, lfm o m = none → ∀ p, p < m → o p = none := by
          intro m
          induction m with
          | zero => intro _ p hp; omega
          | succ m ih =>
            intro hm p hp
            rw [lfm] at hm
            cases q1 : lfm o m with
            | none =>
              rw [q1] at hm
              by_cases e : p = m
              · rw [e]; exact hm
              · exact ih q1 p (by omega)
            | some a =>
              rw [q1] at hm
              cases q2 : o m with
              | none => rw [q2] at hm; exact absurd hm (by simp [omn])
              | some b => rw [q2] at hm; exact absurd hm (by simp [omn])
        rw [key n q p (by omega)] at hu
        exact absurd hu (by simp)
    | some a =>
      obtain ⟨⟨p, hp, hop⟩, hmin⟩ := lfm_some q
      rw [q] at h
      cases q2 : o n with
      | none =>
        rw [q2] at h
        have e : a = v := Option.some.inj h
        subst e
        refine ⟨⟨p, by omega, hop⟩, fun p' hp' u hu => ?_⟩
        by_cases e : p' = n
        · rw [e, q2] at hu; exact absurd hu (by simp)
        · exact hmin p' (by omega) u hu
      | some b =>
        rw [q2] at h
        have e : min a b = v := Option.some.inj h
        refine ⟨?_, fun p' hp' u hu => ?_⟩
        · by_cases c : a ≤ b
          · exact ⟨p, by omega, by rw [hop, ← e, Nat.min_eq_left c]⟩
          · exact ⟨n, by omega, by rw [q2, ← e, Nat.min_eq_right (by omega)]⟩
        · by_cases e2 : p' = n
          · rw [e2, q2] at hu
            have := Option.some.inj hu
            omega
          · have := hmin p' (by omega) u hu
            omega
theorem lf_le {w : Nat → Int32} {n wt : Nat} : ∀ k set v, lf w n wt k set = some v → v ≤ k
  | 0, set, v, h => by rw [lf] at h; exact absurd h (by simp)
  | k + 1, set, v, h => by
    rw [lf] at h
    split at h
    · have := Option.some.inj h; omega
    · obtain ⟨⟨p, hp, hop⟩, -⟩ := lfm_some h
      rw [lfo] at hop
      split at hop
      · cases q : lf w n wt k (set ||| hbN w p n) with
        | none => rw [q] at hop; exact absurd hop (by simp)
        | some u =>
          rw [q] at hop
          have e : u + 1 = v := Option.some.inj hop
          have := lf_le k _ u q
          omega
      · exact absurd hop (by simp)
def lI (F : Nat) (o : Option Nat) : Int32 := match o with
  | none => nI F
  | some v => nI v
theorem mn_N {a b : Nat} (ha : a < 2 ^ 31) (hb : b < 2 ^ 31) : mn (nI a) (nI b) = nI (min a b) := by
  rw [mn]
  by_cases c : a < b
  · rw [if_pos (nI_lt c hb), Nat.min_eq_left (by omega)]
  · rw [if_neg (nI_nlt (by omega) ha), Nat.min_eq_right (by omega)]
theorem lI_mn2 {F : Nat} (h1 : 100 ≤ F) (h2 : F < 2 ^ 30) {a b : Option Nat} (ha : ∀ v, a = some v → v ≤ 65) (hb : ∀ v, b = some v → v ≤ 64) : mn (lI F a) (lI F b + 1) = lI F (omn a (b.map (· + 1))) := by
  cases a with
  | none =>
    cases b with
    | none => show mn (nI F) (nI F + 1) = nI F; rw [nI_1, mn_N (by omega) (by omega), Nat.min_eq_left (by omega)]
    | some v => have := hb v rfl; show mn (nI F) (nI v + 1) = nI (v + 1); rw [nI_1, mn_N (by omega) (by omega), Nat.min_eq_right (by omega)]
  | some u =>
    have := ha u rfl
    cases b with
    | none => show mn (nI u) (nI F + 1) = nI u; rw [nI_1, mn_N (by omega) (by omega), Nat.min_eq_left (by omega)]
    | some v => have := hb v rfl; show mn (nI u) (nI v + 1) = nI (min u (v + 1)); rw [nI_1, mn_N (by omega) (by omega)]
theorem lfm_le {o : Nat → Option Nat} {n v : Nat} (h : lfm o n = some v) {K : Nat} (hK : ∀ p u, p < n → o p = some u → u ≤ K) : v ≤ K := by
  obtain ⟨⟨p, hp, hop⟩, -⟩ := lfm_some h
  exact hK p v hp hop
theorem leftT (w cp : Nat → Int32) {n wt : Nat} (hn : n ≤ 6) (hwt : wt < 64) : ∀ m, m ≤ 2 ^ n → ∀ set, 2 ^ n - m ≤ set → set < 2 ^ n → s_leftOn w n (nI wt) cp m set = lI 1000000 (lf w n wt 64 set)
  | 0, _, set, h1, h2 => by omega
  | m + 1, hm, set, h1, h2 => by
    have p6 := (s_pow6 hn).1
    have ih := leftT w cp hn hwt m (by omega)
    rw [s_leftOn]
    obtain ⟨s0, hs0⟩ : ∃ s0, s0 = 2 ^ n - 1 - m := ⟨_, rfl⟩
    rw [← hs0]
    by_cases e : set = s0
    · subst e
      rw [up_s]
      have hs64 : set < 64 := by omega
      have ev : (nI set &&& nI wt = nI wt) ↔ (set &&& wt = wt) := by
        rw [fa_and]
        exact ⟨fun q => (nI_eq (by have := @Nat.and_le_left set wt; omega) (by omega)).mp q, fun q => by rw [q]⟩
      rw [← lf_st hn 64 set hs64 (by omega), lf]
      obtain ⟨A, hA⟩ : ∃ A, A = s_leftOn w n (nI wt) cp m := ⟨_, rfl⟩
      rw [← hA] at ih ⊢
      have stepv : ∀ p, bit (nI set) (nI p) = true → ¬ set ||| hbN w p n = set → A (set ||| hbN w p n) = lI 1000000 (lf w n wt 64 (set ||| hbN w p n)) := fun p _ c => ih _ (by have := or_gt c; omega) (Nat.or_lt_two_pow h2 (hbN_lt w p n (Nat.le_refl _)))
      have cnd : ∀ p, (bit (nI set) (nI p) = true ∧ ¬ s_toldBy w (nI set) p n = nI set) ↔ (bit (nI set) (nI p) && decide (¬ set ||| hbN w p n = set)) = true := fun p => by
        have h4 : set ||| hbN w p n < 2 ^ n := Nat.or_lt_two_pow h2 (hbN_lt w p n (Nat.le_refl _))
        rw [told_N w set p n hn, Bool.and_eq_true, decide_eq_true_eq, nI_eq (by omega) (by omega)]
      have idx : ∀ p, (s_toldBy w (nI set) p n).toNatClampNeg = set ||| hbN w p n := fun p => by
        have h4 : set ||| hbN w p n < 2 ^ n := Nat.or_lt_two_pow h2 (hbN_lt w p n (Nat.le_refl _))
        rw [told_N w set p n hn, nI_clamp (by omega)]
      by_cases c0 : set &&& wt = wt
      · rw [if_pos c0, s_left0, if_pos (ev.mpr c0)]
        have z : ∀ j, j ≤ n → s_left1 w n A set 0 j = 0 := by
          intro j
          induction j with
          | zero => exact fun _ => rfl
          | succ j ihj =>
            intro hj
            rw [s_left1, ihj (by omega)]
            split
            · rename_i c
              have c1 := (cnd j).mp c
              have c2 := of_decide_eq_true (Bool.and_eq_true_iff.mp c1).2
              rw [idx, stepv j c.1 c2]
              have hl := lf_le (w := w) (n := n) (wt := wt) 64 (set ||| hbN w j n)
              cases q : lf w n wt 64 (set ||| hbN w j n) with
              | none => rfl
              | some v =>
                have := hl v q
                show mn (nI 0) (nI v + 1) = 0
                rw [nI_1, mn_N (by omega) (by omega), Nat.min_eq_left (by omega)]; rfl
            · rfl
        exact z n (Nat.le_refl _)
      · rw [if_neg c0, s_left0, if_neg (fun q => c0 (ev.mp q))]
        have z : ∀ j, j ≤ n → s_left1 w n A set 1000000 j = lI 1000000 (lfm (lfo w n (lf w n wt 64) set) j) ∧ ∀ v, lfm (lfo w n (lf w n wt 64) set) j = some v → v ≤ 65 := by
          intro j
          induction j with
          | zero => exact fun _ => ⟨rfl, fun v q => by rw [lfm] at q; exact absurd q (by simp)⟩
          | succ j ihj =>
            intro hj
            obtain ⟨i1, i2⟩ := ihj (by omega)
            have hl := lf_le (w := w) (n := n) (wt := wt) 64 (set ||| hbN w j n)
            refine ⟨?_, fun v q => lfm_le q fun p u hp hu => ?_⟩
            · rw [s_left1, i1, lfm, lfo]
              by_cases c : bit (nI set) (nI j) = true ∧ ¬ s_toldBy w (nI set) j n = nI set
              · have c1 := (cnd j).mp c
                have c2 := of_decide_eq_true (Bool.and_eq_true_iff.mp c1).2
                rw [if_pos c, if_pos c1, idx, stepv j c.1 c2]
                exact lI_mn2 (by omega) (by omega) i2 hl
              · rw [if_neg c, if_neg (fun q => c ((cnd j).mpr q))]
                cases lfm (lfo w n (lf w n wt 64) set) j with
                | none => rfl
                | some u => rfl
            · rw [lfo] at hu
              split at hu
              · cases q2 : lf w n wt 64 (set ||| hbN w p n) with
                | none => rw [q2] at hu; exact absurd hu (by simp)
                | some x =>
                  rw [q2] at hu
                  have e : x + 1 = u := Option.some.inj hu
                  have := lf_le (w := w) (n := n) (wt := wt) 64 (set ||| hbN w p n) x q2
                  omega
              · exact absurd hu (by simp)
        exact (z n (Nat.le_refl _)).1
    · rw [up_n _ _ e]
      exact ih set (by omega) h2
def tF (w : Nat → Int32) (n wt v set : Nat) : Nat := ff (fun p => bit (nI set) (nI p) && decide (lf w n wt 64 (set ||| hbN w p n) = some v)) n 0
def tPath (w : Nat → Int32) (n wt : Nat) : Nat → Nat → List Nat
  | 0, _ => []
  | v + 1, set => tF w n wt v set :: tPath w n wt v (set ||| hbN w (tF w n wt v set) n)
theorem tF_spec {w : Nat → Int32} {n wt v set : Nat} (hn : n ≤ 6) (hs : set < 64) (h : lf w n wt 64 set = some (v + 1)) : tF w n wt v set < n ∧ bit (nI set) (nI (tF w n wt v set)) = true ∧ lf w n wt 64 (set ||| hbN w (tF w n wt v set) n) = some v ∧ ∀ p, p < tF w n wt v set → ¬ (bit (nI set) (nI p) = true ∧ lf w n wt 64 (set ||| hbN w p n) = some v) := by
  rw [← lf_st hn 64 set hs (by omega), lf] at h
  have hne : ¬ set &&& wt = wt := fun e => by rw [if_pos e] at h; exact absurd h (by simp)
  rw [if_neg hne] at h
  obtain ⟨⟨p, hp, hop⟩, -⟩ := lfm_some h
  rw [lfo] at hop
  split at hop
  · rename_i c
    have c1 := (Bool.and_eq_true_iff.mp c).1
    have hx : lf w n wt 64 (set ||| hbN w p n) = some v := by
      cases q2 : lf w n wt 64 (set ||| hbN w p n) with
      | none => rw [q2] at hop; exact absurd hop (by simp)
      | some x =>
        rw [q2] at hop
        have e : x + 1 = v + 1 := Option.some.inj hop
        rw [show x = v by omega]
    obtain ⟨k1, k2, -, k4⟩ := ff_spec (p := fun p => bit (nI set) (nI p) && decide (lf w n wt 64 (set ||| hbN w p n) = some v)) n 0 ⟨p, by omega, by omega, by rw [c1, decide_eq_true hx]; rfl⟩
    rw [Bool.and_eq_true, decide_eq_true_eq] at k1
    refine ⟨by rw [tF]; omega, k1.1, k1.2, fun j hj q => ?_⟩
    have := k4 j (by omega) hj
    rw [q.1, decide_eq_true q.2] at this
    exact absurd this (by decide)
  · exact absurd hop (by simp)
def s_tell (w : Nat → Int32) (n : Nat) (f k : Int32) : Int32 := match lf w n (2 ^ n - 1) 64 (knN (mi0 w) f n) with
  | none => -1
  | some v => if k = -1 then nI v else if inb k v then nI ((tPath w n (2 ^ n - 1) v (knN (mi0 w) f n)).getD k.toNatClampNeg 0) else -1
def p_tell (h : qm_H) (mt : Nat) (a f k : Int32) : Int32 := if inb a mt && inb f 6 then s_tell (tw h a.toNatClampNeg) (nn (tw h a.toNatClampNeg)) f k else -1
def s_msg (w : Nat → Int32) (n : Nat) (f : Int32) (p : Nat) : Int32 := match lf w n (2 ^ p) 64 (knN (mi0 w) f n) with
  | none => -1
  | some v => nI v
def p_msg (h : qm_H) (mt : Nat) (a f p : Int32) : Int32 := if inb a mt && (inb f 6 && inb p (nn (tw h a.toNatClampNeg))) then s_msg (tw h a.toNatClampNeg) (nn (tw h a.toNatClampNeg)) f p.toNatClampNeg else -1
theorem congV {a b : Int32} (h : a = b) : some (Value.int a) = some (Value.int b) := by rw [h]
theorem a_message {G : qm_G} (hG : G.2.2.2.2 = true) (d : Nat) (h : qm_H) {mt my ml : Nat} (hS : ST h mt my ml) (a f p : Int32) : qm_Ev G (d + 4) 0 0 qyX10_message [.ref 26, .int a, .int f, .int p] h (fun r h' => r = some (.int (p_msg h mt a f p)) ∧ pers h h') := by
  obtain ⟨s1, s2, -, -, -, -, hT, -⟩ := hS
  refine qm_Ev.run (M := mX10_message) okX10_message rfl hG fun z => ?_
  refine ⟨rfl, trivial, rfl, 0, 0, _, e_handC hG (d + 1) (qm_si h 26 0 0) (mt := mt) s1 s2 a, ⟨Nat.le_refl _, Nat.le_refl _⟩, ?_⟩
  rintro _ h1 (⟨t, ht, rfl, rfl, rfl⟩ | ⟨e0, rfl, e1⟩)
  · obtain ⟨i1, i2⟩ := p_in ht s2
    obtain ⟨hn6, hn, -⟩ := hT t ht
    have eP : p_msg h mt (nI t) f p = if inb f 6 && inb p (nn (tw h t)) then s_msg (tw h t) (nn (tw h t)) f p.toNatClampNeg else -1 := by rw [p_msg, i1, i2]; rfl
    have p0 : pers h (hnd (qm_si h 26 0 0) t) := pers.rf.s26.tr (hnd.ps _ t)
    have e23 : (hnd (qm_si h 26 0 0) t).1 26 23 = nI (nn (tw h t)) := hn
    obtain ⟨n, hnn⟩ : ∃ n, n = nn (tw h t) := ⟨_, rfl⟩
    rw [← hnn] at eP e23 hn6
    have p6 := (s_pow6 hn6).1
    refine ⟨fun q => absurd q (by decide), fun _ => ⟨0, 0, _, e_in hG (d + 3) (hnd (qm_si h 26 0 0) t) f 0 5, ⟨Nat.le_refl _, Nat.le_refl _⟩, ?_⟩⟩
    rintro _ _ ⟨rfl, rfl⟩
    refine b2_eq (fun hf => ?_) (fun hf => ⟨trivial, congV (by rw [eP, show inb f 6 = false from hf]; rfl), p0⟩)
    have hf1 : inb f 6 = true := hf
    refine ⟨rfl, 0, 0, _, e_isPerson hG (d + 2) (hnd (qm_si h 26 0 0) t) p, ⟨Nat.le_refl _, Nat.le_refl _⟩, ?_⟩
    rintro _ _ ⟨rfl, rfl⟩
    rw [e23]
    refine b2_ne (fun hp => ?_) (fun hp => ⟨trivial, congV (by rw [eP, show inb p n = false from hp, Bool.and_false]; rfl), p0⟩)
    have hp1 : inb p n = true := hp
    obtain ⟨pp, hpp, rfl⟩ := inb_e (by omega) hp1
    have ew : (1 : Int32) <<< (nI pp &&& 31) = nI (2 ^ pp) := (s_pow (by omega : pp ≤ 6)).2
    have hw64 : 2 ^ pp < 64 := (Nat.pow_lt_pow_right (by decide) (by omega : pp < 6) : 2 ^ pp < 2 ^ 6)
    refine ⟨rfl, ?_⟩
    rw [ew]
    refine ⟨0, 0, _, e_findLeft hG (d + 0) (hnd (qm_si h 26 0 0) t) (t := t) (n := n) rfl (by omega) e23 hn6 (nI (2 ^ pp)), ⟨Nat.le_refl _, Nat.le_refl _⟩, ?_⟩
    rintro _ h2 ⟨rfl, c1, c2⟩
    have g23 : h2.1 26 23 = nI n := by rw [c2.2 26 (by decide)]; exact e23
    have g39 : h2.1 39 = mi0 (tw h t) := by rw [c2.2 39 (by decide)]; rfl
    have fin : pers h h2 := p0.tr (c2.mono (by decide))
    refine ⟨rfl, _, rfl, rfl, 0, 0, _, e_knowers hG (d + 2) h2 g23 hn6 f, ⟨Nat.le_refl _, Nat.le_refl _⟩, ?_⟩
    rintro _ _ ⟨rfl, rfl⟩
    rw [g39, kn_N _ _ _ hn6]
    have hk := knN_lt (mi0 (tw h t)) f (n := n) n (Nat.le_refl _)
    have tab := leftT (tw h t) ((hnd (qm_si h 26 0 0) t).1 43) hn6 hw64 (2 ^ n) (Nat.le_refl _) (knN (mi0 (tw h t)) f n) (by omega) hk
    have ev : h2.1 43 (nI (knN (mi0 (tw h t)) f n)).toNatClampNeg = lI 1000000 (lf (tw h t) n (2 ^ pp) 64 (knN (mi0 (tw h t)) f n)) := by
      rw [nI_clamp (by omega), c1]; exact tab
    rw [if_pos (by rw [hf1, hp1]; rfl), nI_clamp (by omega), s_msg] at eP
    refine ⟨rfl, (vp_in_nI (by omega) (by decide) : vp_in (nI (knN (mi0 (tw h t)) f n)) 64), ?_⟩
    rw [ev]
    have hl := lf_le (w := tw h t) (n := n) (wt := 2 ^ pp) 64 (knN (mi0 (tw h t)) f n)
    cases q : lf (tw h t) n (2 ^ pp) 64 (knN (mi0 (tw h t)) f n) with
    | none =>
      rw [q] at eP
      exact ⟨fun z => absurd z (by decide), fun _ => ⟨trivial, congV eP.symm, fin⟩⟩
    | some v =>
      rw [q] at eP
      have := hl v q
      exact ⟨fun _ => ⟨trivial, congV eP.symm, fin⟩, fun (z : ¬ nI v < nI 1000000) => absurd (nI_lt (by omega) (by omega)) z⟩
  · exact ⟨fun _ => ⟨trivial, by rw [p_msg, e0]; rfl, e1 ▸ pers.rf.s26⟩, fun q => absurd rfl q⟩
theorem a_tellings {G : qm_G} (hG : G.2.2.2.2 = true) (d : Nat) (h : qm_H) {mt my ml : Nat} (hS : ST h mt my ml) (a f k : Int32) : qm_Ev G (d + 4) 0 0 qyX10_tellings [.ref 26, .int a, .int f, .int k] h (fun r h' => r = some (.int (p_tell h mt a f k)) ∧ pers h h') := by
  obtain ⟨s1, s2, -, -, -, -, hT, -⟩ := hS
  refine qm_Ev.by (M := mX10_tellings) okX10_tellings (Nat.le_of_ble_eq_true rfl) hG fun z hA => ?_
  refine qm_wp_ok hA [44, 46] 60 _ _ _ _ _ _ ?_
  refine ⟨rfl, trivial, rfl, 0, 0, _, e_handC hG (d + 1) (qm_si h 26 0 0) (mt := mt) s1 s2 a, ⟨Nat.le_refl _, Nat.le_refl _⟩, ?_⟩
  rintro _ h1 (⟨t, ht, rfl, rfl, rfl⟩ | ⟨e0, rfl, e1⟩)
  · obtain ⟨i1, i2⟩ := p_in ht s2
    obtain ⟨hn6, hn, -⟩ := hT t ht
    have eP : p_tell h mt (nI t) f k = if inb f 6 then s_tell (tw h t) (nn (tw h t)) f k else -1 := by rw [p_tell, i1, i2]; rfl
    have p0 : pers h (hnd (qm_si h 26 0 0) t) := pers.rf.s26.tr (hnd.ps _ t)
    have e23 : (hnd (qm_si h 26 0 0) t).1 26 23 = nI (nn (tw h t)) := hn
    obtain ⟨n, hnn⟩ : ∃ n, n = nn (tw h t) := ⟨_, rfl⟩
    rw [← hnn] at eP e23 hn6
    have p6 := (s_pow6 hn6).1
    refine ⟨fun q => absurd q (by decide), fun _ => ⟨0, 0, _, e_in hG (d + 3) (hnd (qm_si h 26 0 0) t) f 0 5, ⟨Nat.le_refl _, Nat.le_refl _⟩, ?_⟩⟩
    rintro _ _ ⟨rfl, rfl⟩
    refine b2_ne (fun hf => ?_) (fun hf => ⟨trivial, congV (by rw [eP, show inb f 6 = false from hf]; rfl), p0⟩)
    have hf1 : inb f 6 = true := hf
    rw [if_pos hf1, s_tell] at eP
    refine ⟨rfl, rfl, ?_⟩
    have ew : (1 : Int32) <<< ((hnd (qm_si h 26 0 0) t).1 26 23 &&& 31) - 1 = nI (2 ^ n - 1) := by rw [e23]; exact (s_pow hn6).1
    refine ⟨0, 0, _, e_findLeft hG (d + 0) (hnd (qm_si h 26 0 0) t) (t := t) (n := n) rfl (by omega) e23 hn6 _, ⟨Nat.le_refl _, Nat.le_refl _⟩, ?_⟩
    rintro _ h2 ⟨rfl, c1, c2⟩
    have c1 : h2.1 43 = s_leftOn (tw h t) n (nI (2 ^ n - 1)) ((hnd (qm_si h 26 0 0) t).1 43) (2 ^ n) := by rw [← ew]; exact c1
    have g22 : h2.1 26 22 = nI t := by rw [c2.2 26 (by decide)]; rfl
    have g23 : h2.1 26 23 = nI n := by rw [c2.2 26 (by decide)]; exact e23
    have g39 : h2.1 39 = mi0 (tw h t) := by rw [c2.2 39 (by decide)]; rfl
    have gtw : tw h2 t = tw h t := by
      have : tw (hnd (qm_si h 26 0 0) t) t = tw h t := rfl
      rw [← this]; unfold tw; rw [c2.2 32 (by decide)]
    have fin : pers h h2 := p0.tr (c2.mono (by decide))
    obtain ⟨w, hww⟩ : ∃ w, w = tw h t := ⟨_, rfl⟩
    refine ⟨rfl, 0, 0, _, e_knowers hG (d + 2) h2 g23 hn6 f, ⟨Nat.le_refl _, Nat.le_refl _⟩, ?_⟩
    rintro _ _ ⟨rfl, rfl⟩
    rw [g39, kn_N _ _ _ hn6]
    have hk := knN_lt (mi0 (tw h t)) f (n := n) n (Nat.le_refl _)
    have tab : ∀ s, s < 2 ^ n → h2.1 43 s = lI 1000000 (lf w n (2 ^ n - 1) 64 s) := fun s hs => by
      rw [c1, hww]
      exact leftT (tw h t) ((hnd (qm_si h 26 0 0) t).1 43) hn6 (by omega) (2 ^ n) (Nat.le_refl _) s (by omega) hs
    rw [← hww] at eP gtw hk ⊢
    obtain ⟨K, hK⟩ : ∃ K, K = knN (mi0 w) f n := ⟨_, rfl⟩
    rw [← hK] at eP hk ⊢
    have ev : h2.1 43 (nI K).toNatClampNeg = lI 1000000 (lf w n (2 ^ n - 1) 64 K) := by
      rw [nI_clamp (by omega)]; exact tab K hk
    have hl := lf_le (w := w) (n := n) (wt := 2 ^ n - 1)
    refine ⟨rfl, _, rfl, rfl, (vp_in_nI (by omega) (by decide) : vp_in (nI K) 64), ?_⟩
    rw [ev]
    have m44 : p_tell h mt (nI t) f k = -1 → ∀ x y, qm_PW G mX10_tellings z 44 0 0 [vr 26, vi (nI t), vi f, vi k, vi x, vi y, vu, vu] [] h2 := fun e x y => qm_wp_ok hA [] 20 _ _ _ _ _ _ ⟨trivial, congV e.symm, fin⟩
    cases q : lf w n (2 ^ n - 1) 64 K with
    | none =>
      rw [q] at eP
      exact ⟨fun _ => m44 eP _ _, fun z => absurd (by decide) z⟩
    | some v =>
      rw [q] at eP
      have eP : p_tell h mt (nI t) f k = if k = -1 then nI v else if inb k v then nI ((tPath w n (2 ^ n - 1) v K).getD k.toNatClampNeg 0) else -1 := eP
      have hv := hl 64 K v q
      refine ⟨fun (z : nI 1000000 ≤ nI v) => absurd z (nI_ge (by omega) (by omega)), fun _ => ⟨fun (e : k = -1) => ?_, fun (e : ¬ k = -1) => ⟨0, 0, _, e_in hG (d + 3) h2 k 0 (nI v - 1), ⟨Nat.le_refl _, Nat.le_refl _⟩, ?_⟩⟩⟩
      · rw [if_pos e] at eP
        subst e
        exact qm_wp_ok hA [] 40 _ _ _ _ _ _ ⟨fun _ => ⟨trivial, congV eP.symm, fin⟩, fun (z : ¬ (-1 : Int32) < 0) => absurd (by decide) z⟩
      · rintro _ _ ⟨rfl, rfl⟩
        refine b2_ne (fun hb => ?_) (fun hb => m44 (by rw [eP, if_neg e, show inb k v = false from hb]; rfl) _ _)
        have hb : inb k v = true := hb
        rw [if_neg e, if_pos hb] at eP
        obtain ⟨kk, hkk, rfl⟩ := inb_e (by omega) hb
        rw [nI_clamp (by omega)] at eP
        obtain ⟨V, hV⟩ : ∃ V, V = (tPath w n (2 ^ n - 1) v K).getD kk 0 := ⟨_, rfl⟩
        rw [← hV] at eP
        have main : ∀ r i set v' p : Nat, i + r = kk + 1 → set < 2 ^ n → lf w n (2 ^ n - 1) 64 set = some v' → r ≤ v' → v' ≤ 64 → (r = 0 → p = V) → (∀ r', r = r' + 1 → (tPath w n (2 ^ n - 1) v' set).getD r' 0 = V) → qm_PW G mX10_tellings z 50 0 0 [vr 26, vi (nI t), vi f, vi (nI kk), vi (nI set), vu, vi (nI p), vi (nI i)] [] h2 := by
          intro r
          induction r with
          | zero =>
            intro i set v' p e1 e2 e3 _ _ e4 _
            exact qm_wp_ok hA [] 20 _ _ _ _ _ _ ⟨fun _ => ⟨trivial, congV (by rw [eP, e4 rfl]), fin⟩, fun (q : ¬ nI kk < nI i) => absurd (nI_lt (by omega) (by omega)) q⟩
          | succ r ih =>
            intro i set v' p e1 e2 e3 e4 e5 _ e6
            have e6 := e6 r rfl
            obtain ⟨v1, rfl⟩ : ∃ v1, v' = v1 + 1 := ⟨v' - 1, by omega⟩
            obtain ⟨t1, t2, t3, t4⟩ := tF_spec hn6 (by omega : set < 64) e3
            rw [tPath] at e6
            obtain ⟨F, hF⟩ : ∃ F, F = tF w n (2 ^ n - 1) v1 set := ⟨_, rfl⟩
            rw [← hF] at t1 t2 t3 t4 e6
            have sF : ∀ p, set ||| hbN w p n < 2 ^ n := fun p => Nat.or_lt_two_pow e2 (hbN_lt w p n (Nat.le_refl _))
            have nx := ih (i + 1) (set ||| hbN w F n) v1 F (by omega) (sF F) t3 (by omega) (by omega) (fun e => by subst e; exact e6) (fun r' er => by subst er; exact e6)
            rw [← nI_1] at nx
            have eset : h2.1 43 (nI set).toNatClampNeg = nI (v1 + 1) := by rw [nI_clamp (by omega), tab set e2, e3]; rfl
            have etold : ∀ p, s_toldBy (tw h2 t) (nI set) p n = nI (set ||| hbN w p n) := fun p => by rw [gtw, told_N w set p n hn6]
            have hin : ∀ s, s < 2 ^ n → vp_in (nI s) 64 := fun s hs => vp_in_nI (by omega) (by decide)
            have etab : ∀ p, h2.1 43 (nI (set ||| hbN w p n)).toNatClampNeg = lI 1000000 (lf w n (2 ^ n - 1) 64 (set ||| hbN w p n)) := fun p => by rw [nI_clamp (by have := sF p; omega), tab _ (sF p)]
            refine qm_wp_ok hA [55] 20 _ _ _ _ _ _ ⟨fun (q : nI kk < nI i) => absurd q (nI_nlt (by omega) (by omega)), fun _ => ?_⟩
            refine qm_for (P := fun p => qm_PW G mX10_tellings z 55 0 0 [vr 26, vi (nI t), vi f, vi (nI kk), vi (nI set), vu, vi (nI p), vi (nI i)] [] h2) (N := F) ?_ ?_
            · refine qm_wp_ok hA [50, 55] 60 _ _ _ _ _ _ ⟨0, 0, _, e_has hG (d + 3) h2 (nI set) (nI F), ⟨Nat.le_refl _, Nat.le_refl _⟩, ?_⟩
              rintro _ _ ⟨rfl, rfl⟩
              refine b2_eq (fun _ => ⟨rfl, _, rfl, rfl, 0, 0, _, e_toldBy hG (d + 1) h2 (p := F) g22 (by omega) g23 hn6 (nI set), ⟨Nat.le_refl _, Nat.le_refl _⟩, ?_⟩) (fun hb2 => absurd hb2 (by rw [t2]; decide))
              rintro _ _ ⟨rfl, rfl⟩
              rw [etold]
              refine ⟨rfl, hin _ (sF F), rfl, _, rfl, rfl, hin _ e2, ?_⟩
              rw [etab F, eset, t3]
              refine ⟨fun _ => ⟨rfl, 0, 0, _, e_toldBy hG (d + 1) h2 (p := F) g22 (by omega) g23 hn6 (nI set), ⟨Nat.le_refl _, Nat.le_refl _⟩, ?_⟩, fun (z : ¬ nI v1 = nI (v1 + 1) - 1) => absurd (by rw [show (1 : Int32) = nI 1 from rfl, pk_sub (by omega)]; rfl) z⟩
              rintro _ _ ⟨rfl, rfl⟩
              rw [etold]
              exact nx
            · intro p hp key
              rw [← nI_1] at key
              refine qm_wp_ok hA [50, 55] 60 _ _ _ _ _ _ ⟨0, 0, _, e_has hG (d + 3) h2 (nI set) (nI p), ⟨Nat.le_refl _, Nat.le_refl _⟩, ?_⟩
              rintro _ _ ⟨rfl, rfl⟩
              refine b2_eq (fun hb2 => ⟨rfl, _, rfl, rfl, 0, 0, _, e_toldBy hG (d + 1) h2 (p := p) g22 (by omega) g23 hn6 (nI set), ⟨Nat.le_refl _, Nat.le_refl _⟩, ?_⟩) (fun hb2 => key)
              rintro _ _ ⟨rfl, rfl⟩
              rw [etold]
              refine ⟨rfl, hin _ (sF p), rfl, _, rfl, rfl, hin _ e2, ?_⟩
              rw [etab p, eset]
              refine ⟨fun (z : lI 1000000 (lf w n (2 ^ n - 1) 64 (set ||| hbN w p n)) = nI (v1 + 1) - 1) => ?_, fun _ => key⟩
              exfalso
              rw [show (1 : Int32) = nI 1 from rfl, pk_sub (by omega)] at z
              have hlx := hl 64 (set ||| hbN w p n)
              cases q2 : lf w n (2 ^ n - 1) 64 (set ||| hbN w p n) with
              | none =>
                rw [q2] at z
                have := (nI_eq (a := 1000000) (by omega) (by omega)).mp z
                omega
              | some x =>
                rw [q2] at z
                have hx := hlx x q2
                have := (nI_eq (a := x) (by omega) (by omega)).mp z
                exact t4 p hp ⟨hb2, by rw [q2, show x = v1 by omega]⟩
        have k0 := main (kk + 1) 0 K v v (by omega) hk q (by omega) (by omega) (fun z => by omega) (fun r' er => by
          obtain rfl : kk = r' := by omega
          exact hV.symm)
        refine qm_wp_ok hA [50] 20 _ _ _ _ _ _ ?_
        exact qm_PW.mask [true, true, true, true, true, false, true, true] k0
  · exact ⟨fun _ => ⟨trivial, by rw [p_tell, e0]; rfl, e1 ▸ pers.rf.s26⟩, fun q => absurd rfl q⟩
