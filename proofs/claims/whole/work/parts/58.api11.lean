/-! the reference: the longest chain -/
def ff (p : Nat → Bool) : Nat → Nat → Nat
  | 0, i => i
  | r + 1, i => if p i then i else ff p r (i + 1)
theorem ff_spec {p : Nat → Bool} : ∀ (r i : Nat), (∃ j, i ≤ j ∧ j < i + r ∧ p j = true) → p (ff p r i) = true ∧ ff p r i < i + r ∧ i ≤ ff p r i ∧ ∀ j, i ≤ j → j < ff p r i → p j = false
  | 0, i, ⟨j, a, b, _⟩ => by omega
  | r + 1, i, ⟨j, a, b, c⟩ => by
    rw [ff]
    by_cases hp : p i = true
    · rw [if_pos hp]
      exact ⟨hp, by omega, Nat.le_refl _, fun j h1 h2 => by omega⟩
    · rw [if_neg hp]
      have hj : i ≠ j := fun e => hp (by rw [e]; exact c)
      obtain ⟨k1, k2, k3, k4⟩ := ff_spec r (i + 1) ⟨j, by omega, by omega, c⟩
      refine ⟨k1, by omega, by omega, fun j h1 h2 => ?_⟩
      by_cases e : i = j
      · rw [← e]; cases q : p i
        · rfl
        · exact absurd q hp
      · exact k4 j (by omega) h2
def pop (s : Nat) : Nat := s % 2 + s / 2 % 2 + s / 4 % 2 + s / 8 % 2 + s / 16 % 2 + s / 32 % 2
theorem pop_dec : ∀ s, s < 64 → ∀ f, f < 6 → (bit (nI s) (nI f) = false → pop (s ||| 2 ^ f) = pop s + 1 ∧ s < s ||| 2 ^ f) := by decide +kernel
theorem pop_63 : ∀ s, s < 64 → pop s ≤ 6 ∧ (pop s = 6 → ∀ f, f < 6 → bit (nI s) (nI f) = true) := by decide +kernel
theorem may_bit {w : Nat → Int32} {had ahead f : Nat} (h : s_may w had ahead f = true) : bit (nI had) (nI f) = false := by
  rw [s_may] at h
  cases q : bit (nI had) (nI f)
  · rfl
  · rw [q] at h; exact absurd h Bool.false_ne_true
theorem may_no {w : Nat → Int32} {had ahead f : Nat} (h : bit (nI had) (nI f) = true) : s_may w had ahead f = false := by
  rw [s_may, h]; rfl
def cLm (w : Nat → Int32) (had ahead : Nat) (L : Nat → Nat) : Nat → Nat
  | 0 => 0
  | f + 1 => max (cLm w had ahead L f) (if s_may w had ahead f then 1 + L f else 0)
def cLen (w : Nat → Int32) : Nat → Nat → Nat → Nat
  | 0, _, _ => 0
  | k + 1, ahead, had => cLm w had ahead (fun f => cLen w k f (had ||| 2 ^ f)) 6
theorem cLm_le {w : Nat → Int32} {had ahead K : Nat} {L : Nat → Nat} (h : ∀ f, L f ≤ K) : ∀ j, cLm w had ahead L j ≤ K + 1
  | 0 => by rw [cLm]; omega
  | j + 1 => by
    rw [cLm]
    have := cLm_le h (w := w) (had := had) (ahead := ahead) j
    have := h j
    split <;> omega
theorem cLen_le (w : Nat → Int32) : ∀ k ahead had, cLen w k ahead had ≤ k
  | 0, _, _ => Nat.le_refl _
  | k + 1, ahead, had => by
    rw [cLen]
    exact cLm_le (fun f => cLen_le w k f _) 6
theorem cLm_at {w : Nat → Int32} {had ahead : Nat} {L : Nat → Nat} : ∀ j, 0 < cLm w had ahead L j → ∃ f, f < j ∧ s_may w had ahead f = true ∧ 1 + L f = cLm w had ahead L j
  | 0, h => absurd h (by rw [cLm]; omega)
  | j + 1, h => by
    rw [cLm] at h ⊢
    by_cases c : s_may w had ahead j = true
    · rw [if_pos c] at h ⊢
      by_cases q : cLm w had ahead L j ≤ 1 + L j
      · exact ⟨j, by omega, c, by omega⟩
      · obtain ⟨f, h1, h2, h3⟩ := cLm_at (w := w) (had := had) (ahead := ahead) (L := L) j (by omega)
        exact ⟨f, by omega, h2, by omega⟩
    · rw [if_neg c] at h ⊢
      obtain ⟨f, h1, h2, h3⟩ := cLm_at (w := w) (had := had) (ahead := ahead) (L := L) j (by omega)
      exact ⟨f, by omega, h2, by omega⟩
def cF (w : Nat → Int32) (k ahead had : Nat) : Nat := ff (fun f => s_may w had ahead f && decide (1 + cLen w k f (had ||| 2 ^ f) = cLen w (k + 1) ahead had)) 6 0
def cPath (w : Nat → Int32) : Nat → Nat → Nat → List Nat
  | 0, _, _ => []
  | k + 1, ahead, had => if cLen w (k + 1) ahead had = 0 then [] else cF w k ahead had :: cPath w k (cF w k ahead had) (had ||| 2 ^ cF w k ahead had)
theorem cF_spec (w : Nat → Int32) {k ahead had : Nat} (h : 0 < cLen w (k + 1) ahead had) : cF w k ahead had < 6 ∧ s_may w had ahead (cF w k ahead had) = true ∧ 1 + cLen w k (cF w k ahead had) (had ||| 2 ^ cF w k ahead had) = cLen w (k + 1) ahead had ∧ ∀ j, j < cF w k ahead had → ¬ (s_may w had ahead j = true ∧ 1 + cLen w k j (had ||| 2 ^ j) = cLen w (k + 1) ahead had) := by
  have hx := h
  rw [cLen] at hx
  obtain ⟨f, h1, h2, h3⟩ := cLm_at 6 hx
  obtain ⟨k1, k2, -, k4⟩ := ff_spec (p := fun f => s_may w had ahead f && decide (1 + cLen w k f (had ||| 2 ^ f) = cLen w (k + 1) ahead had)) 6 0 ⟨f, by omega, by omega, by rw [h2, cLen]; exact decide_eq_true h3⟩
  rw [Bool.and_eq_true, decide_eq_true_eq] at k1
  refine ⟨by rw [cF]; omega, k1.1, k1.2, fun j hj q => ?_⟩
  have := k4 j (by omega) hj
  rw [q.1, decide_eq_true q.2] at this
  exact absurd this (by decide)
/-- the table holds the lengths -/
theorem chBy {w T : Nat → Int32} {had ahead k : Nat} (hh : had < 64) (hp : pop had + k = 6) (hT : ∀ f, f < 6 → s_may w had ahead f = true → ∀ j, j + 1 = k → T (64 * f + (had ||| 2 ^ f)) = nI (cLen w j f (had ||| 2 ^ f))) : ∀ f, f < 6 → s_chainBy w T had ahead f = nI (if s_may w had ahead f then 1 + cLen w (k - 1) f (had ||| 2 ^ f) else 0) := by
  intro f hf
  rw [s_chainBy]
  by_cases c : s_may w had ahead f = true
  · rw [if_pos c, if_pos c]
    have hb := may_bit c
    rcases Nat.eq_zero_or_pos k with e | e
    · have := (pop_63 had hh).2 (by omega) f hf
      rw [hb] at this
      exact absurd this (by decide)
    · rw [hT f hf c (k - 1) (by omega), ← nI_add]
      rfl
  · rw [if_neg c, if_neg c]
    rfl
theorem chOne {w T : Nat → Int32} {had ahead k : Nat} (hh : had < 64) (hp : pop had + k = 6) (hT : ∀ f, f < 6 → s_may w had ahead f = true → ∀ j, j + 1 = k → T (64 * f + (had ||| 2 ^ f)) = nI (cLen w j f (had ||| 2 ^ f))) : s_chain1 w T had ahead 6 = nI (cLen w k ahead had) := by
  have by1 := chBy hh hp hT
  have key : ∀ j, j ≤ 6 → s_chain1 w T had ahead j = nI (cLm w had ahead (fun f => cLen w (k - 1) f (had ||| 2 ^ f)) j) ∧ cLm w had ahead (fun f => cLen w (k - 1) f (had ||| 2 ^ f)) j ≤ 7 := by
    intro j
    induction j with
    | zero => exact fun _ => ⟨rfl, by rw [cLm]; omega⟩
    | succ j ih =>
      intro hj
      obtain ⟨i1, i2⟩ := ih (by omega)
      have hl := cLen_le w (k - 1) j (had ||| 2 ^ j)
      rw [s_chain1, i1, by1 j (by omega), cLm]
      obtain ⟨b, hb⟩ : ∃ b, b = (if s_may w had ahead j then 1 + cLen w (k - 1) j (had ||| 2 ^ j) else 0) := ⟨_, rfl⟩
      have hb7 : b ≤ 7 := by rw [hb]; split <;> omega
      show mx _ (nI (if s_may w had ahead j then 1 + cLen w (k - 1) j (had ||| 2 ^ j) else 0)) = nI (max _ (if s_may w had ahead j then 1 + cLen w (k - 1) j (had ||| 2 ^ j) else 0)) ∧ max _ (if s_may w had ahead j then 1 + cLen w (k - 1) j (had ||| 2 ^ j) else 0) ≤ 7
      rw [← hb]
      refine ⟨?_, by omega⟩
      rw [mx]
      split
      · rename_i q
        have := (nI_leI (by omega) (by omega)).mp q
        rw [Nat.max_eq_right this]
      · rename_i q
        have : ¬ _ ≤ b := fun q2 => q ((nI_leI (by omega) (by omega)).mpr q2)
        rw [Nat.max_eq_left (by omega)]
  rw [(key 6 (Nat.le_refl _)).1]
  rcases Nat.eq_zero_or_pos k with e | e
  · subst e
    have hn : ∀ j, j ≤ 6 → cLm w had ahead (fun f => cLen w (0 - 1) f (had ||| 2 ^ f)) j = 0 := by
      intro j
      induction j with
      | zero => exact fun _ => rfl
      | succ j ih =>
        intro hj
        rw [cLm, ih (by omega), may_no ((pop_63 had hh).2 (by omega) j (by omega))]
        rfl
    rw [hn 6 (Nat.le_refl _)]
    rfl
  · rw [show cLen w k ahead had = cLen w (k - 1 + 1) ahead had by rw [Nat.sub_add_cancel e], cLen]
theorem chT (w cp : Nat → Int32) : ∀ m, m ≤ 64 → ∀ had, 64 - m ≤ had → had < 64 → ∀ ahead, ahead ≤ 6 → s_chains w cp m (64 * ahead + had) = nI (cLen w (6 - pop had) ahead had)
  | 0, _, had, h1, h2, _, _ => by omega
  | m + 1, hm, had, h1, h2, ahead, ha => by
    rw [s_chains]
    obtain ⟨A, hA⟩ : ∃ A, A = s_chains w cp m := ⟨_, rfl⟩
    have ih := chT w cp m (by omega)
    rw [← hA] at ih ⊢
    have row : ∀ k, k ≤ 7 → (∀ g, 64 - m ≤ g → g < 64 → ∀ a, a ≤ 6 → s_chainRow w A (63 - m) k (64 * a + g) = nI (cLen w (6 - pop g) a g)) ∧ ∀ a, a < k → s_chainRow w A (63 - m) k (64 * a + (63 - m)) = nI (cLen w (6 - pop (63 - m)) a (63 - m)) := by
      intro k
      induction k with
      | zero => exact fun _ => ⟨ih, fun a q => by omega⟩
      | succ k ihk =>
        intro hk
        obtain ⟨r1, r2⟩ := ihk (by omega)
        rw [s_chainRow]
        have hone : s_chain1 w (s_chainRow w A (63 - m) k) (63 - m) k 6 = nI (cLen w (6 - pop (63 - m)) k (63 - m)) := by
          have hpp := (pop_63 (63 - m) (by omega)).1
          refine chOne (by omega) (by omega) fun f hf hmay j hj => ?_
          have hb := may_bit hmay
          obtain ⟨p1, p2⟩ := pop_dec (63 - m) (by omega) f hf hb
          rw [r1 _ (by omega) (Nat.or_lt_two_pow (n := 6) (by omega) (Nat.pow_lt_pow_right (by decide) hf)) f (by omega), p1, show 6 - (pop (63 - m) + 1) = j by omega]
        refine ⟨fun g g1 g2 a ha => ?_, fun a ha => ?_⟩
        · rw [up_n _ _ (by omega)]
          exact r1 g g1 g2 a ha
        · by_cases e : a = k
          · rw [e, up_s, hone]
          · rw [up_n _ _ (by omega)]
            exact r2 a (by omega)
    by_cases e : had = 63 - m
    · rw [e]
      exact (row 7 (Nat.le_refl _)).2 ahead (by omega)
    · exact (row 7 (Nat.le_refl _)).1 had (by omega) h2 ahead ha
def s_chainA (w : Nat → Int32) (k : Int32) : Int32 := if k = -1 then nI (cLen w 6 6 0) else if inb k (cLen w 6 6 0) then nI ((cPath w 6 6 0).getD k.toNatClampNeg 0) else -1
def p_chain (h : qm_H) (mt : Nat) (a k : Int32) : Int32 := if inb a mt then s_chainA (tw h a.toNatClampNeg) k else -1
theorem a_chain {G : qm_G} (hG : G.2.2.2.2 = true) (d : Nat) (h : qm_H) {mt my ml : Nat} (hS : ST h mt my ml) (a k : Int32) : qm_Ev G (d + 4) 0 0 qyX10_chain [.ref 26, .int a, .int k] h (fun r h' => r = some (.int (p_chain h mt a k)) ∧ pers h h') := by
  obtain ⟨s1, s2, -⟩ := hS
  refine qm_Ev.by (M := mX10_chain) okX10_chain (Nat.le_of_ble_eq_true rfl) hG fun z hA => ?_
  refine qm_wp_ok hA [26, 39] 40 _ _ _ _ _ _ ?_
  refine ⟨rfl, trivial, rfl, 0, 0, _, e_handC hG (d + 1) (qm_si h 26 0 0) (mt := mt) s1 s2 a, ⟨Nat.le_refl _, Nat.le_refl _⟩, ?_⟩
  rintro _ h1 (⟨t, ht, rfl, rfl, rfl⟩ | ⟨e0, rfl, e1⟩)
  · obtain ⟨i1, i2⟩ := p_in ht s2
    have etw : tw (hnd (qm_si h 26 0 0) t) t = tw h t := rfl
    have eP : p_chain h mt (nI t) k = s_chainA (tw h t) k := by rw [p_chain, i1, i2]; rfl
    refine ⟨fun q => ?_, fun q => absurd q (by decide)⟩
    refine ⟨rfl, 0, 0, _, e_findChains hG (d + 1) (hnd (qm_si h 26 0 0) t) (t := t) rfl (by omega), ⟨Nat.le_refl _, Nat.le_refl _⟩, ?_⟩
    rintro _ h2 ⟨rfl, c1, c2⟩
    have fin : pers h h2 := (pers.rf.s26.tr (hnd.ps _ t)).tr (c2.mono (by decide))
    have tab := chT (tw h t) ((hnd (qm_si h 26 0 0) t).1 49) 64 (Nat.le_refl _)
    rw [etw] at c1
    rw [← c1] at tab
    have n0 := tab 0 (by omega) (by omega) 6 (Nat.le_refl _)
    obtain ⟨w, hw⟩ : ∃ w, w = tw h t := ⟨_, rfl⟩
    have etw2 : tw h2 t = w := by
      rw [hw, ← etw]; unfold tw
      rw [c2.2 32 (by decide)]
    have e22 : h2.1 26 22 = nI t := by rw [c2.2 26 (by decide)]; rfl
    rw [← hw] at tab n0 eP
    have n0' : h2.1 49 384 = nI (cLen w 6 6 0) := n0
    have hn6 := cLen_le w 6 6 0
    refine ⟨rfl, _, rfl, rfl, (vp_in_nI (n := 384) (by decide) (by decide) : vp_in (nI 384) 448), ?_⟩
    have m26 : (k = -1 ∨ inb k (cLen w 6 6 0) = false) → qm_PW G mX10_chain z 26 0 0 [vr 26, vi (nI t), vi k, vi (h2.1 49 384), vu, vu, vu, vu] [] h2 := by
      intro hk
      have z1 : ¬ k = -1 → p_chain h mt (nI t) k = -1 := fun q => by
        rw [eP]
        rcases hk with e | e
        · exact absurd e q
        · rw [s_chainA, if_neg q, e]; rfl
      have z2 : k = -1 → p_chain h mt (nI t) k = h2.1 49 384 := fun q => by rw [eP, s_chainA, if_pos q, n0']
      exact qm_wp_ok hA [] 20 _ _ _ _ _ _ ⟨fun (q : ¬ k = -1) => ⟨trivial, congrArg (fun v => some (Value.int v)) (z1 q).symm, fin⟩, fun (q : k = -1) => ⟨trivial, congrArg (fun v => some (Value.int v)) (z2 q).symm, fin⟩⟩
    refine ⟨fun (q : k = -1) => m26 (Or.inl q), fun (q : ¬ k = -1) => ?_⟩
    refine ⟨0, 0, _, e_in hG (d + 3) h2 k 0 (h2.1 49 384 - 1), ⟨Nat.le_refl _, Nat.le_refl _⟩, ?_⟩
    rintro _ _ ⟨rfl, rfl⟩
    refine b2_ne (fun hb => ?_) (fun hb => m26 (Or.inr (by rw [inb, ← n0']; exact hb)))
    have hb2 : inb k (cLen w 6 6 0) = true := by rw [inb, ← n0']; exact hb
    obtain ⟨kk, hkk, rfl⟩ := inb_e (by omega) hb2
    have eV : s_chainA w (nI kk) = nI ((cPath w 6 6 0).getD kk 0) := by
      rw [s_chainA, if_neg q, hb2, nI_clamp (by omega)]; rfl
    obtain ⟨V, hV⟩ : ∃ V, V = (cPath w 6 6 0).getD kk 0 := ⟨_, rfl⟩
    rw [eV, ← hV] at eP
    have main : ∀ r i ahead had : Nat, i + r = kk + 1 → pop had = i → had < 64 → ahead ≤ 6 → (r = 0 → ahead = V) → (∀ r', r = r' + 1 → (cPath w (6 - i) ahead had).getD r' 0 = V ∧ r ≤ cLen w (6 - i) ahead had) → qm_PW G mX10_chain z 39 0 0 [vr 26, vi (nI t), vi (nI kk), vu, vi (nI had), vi (nI ahead), vi (nI i), vu] [] h2 := by
      intro r
      induction r with
      | zero =>
        intro i ahead had e1 e2 e3 e4 e5 _
        refine qm_wp_ok hA [] 20 _ _ _ _ _ _ ⟨fun _ => ⟨trivial, by rw [eP, e5 rfl], fin⟩, fun (q : ¬ nI kk < nI i) => absurd (nI_lt (by omega) (by omega)) q⟩
      | succ r ih =>
        intro i ahead had e1 e2 e3 e4 _ e6
        obtain ⟨f1, f2⟩ := e6 r rfl
        have hi6 : i < 6 := by omega
        obtain ⟨j, hj⟩ : ∃ j, 6 - i = j + 1 := ⟨5 - i, by omega⟩
        rw [hj] at f1 f2
        obtain ⟨g1, g2, g3, g4⟩ := cF_spec w (k := j) (ahead := ahead) (had := had) (by omega)
        rw [cPath, if_neg (by omega)] at f1
        obtain ⟨F, hF⟩ : ∃ F, F = cF w j ahead had := ⟨_, rfl⟩
        rw [← hF] at f1 g1 g2 g3 g4
        have hbF := may_bit g2
        obtain ⟨p1, p2⟩ := pop_dec had e3 F g1 hbF
        obtain ⟨o1, o2⟩ := s_or1 e3 g1
        have nx := ih (i + 1) F (had ||| 2 ^ F) (by omega) (by omega) o2 (by omega) (fun e => by subst e; exact f1) (fun r' er => by
          subst er
          rw [show 6 - (i + 1) = j by omega]
          exact ⟨f1, by omega⟩)
        rw [← o1, ← nI_1] at nx
        have cby := chBy (w := w) (T := h2.1 49) (had := had) (ahead := ahead) (k := j + 1) e3 (by omega) (fun f hf hm jj hjj => by
          have hb := may_bit hm
          obtain ⟨p1, p2⟩ := pop_dec had e3 f hf hb
          rw [tab _ (by omega) (s_or1 e3 hf).2 f (by omega), p1, show 6 - (pop had + 1) = jj by omega])
        have tv : h2.1 49 (64 * ahead + had) = nI (cLen w (j + 1) ahead had) := by
          rw [tab _ (by omega) e3 ahead e4, show 6 - pop had = j + 1 by omega]
        have ei : (64 : Int32) * nI ahead + nI had = nI (64 * ahead + had) := by rw [show (64 : Int32) = nI 64 from rfl, pk_mul, nI_add]
        have hin : vp_in ((64 : Int32) * nI ahead + nI had) 448 := by rw [ei]; exact vp_in_nI (by omega) (by decide)
        have cl : h2.1 49 ((64 : Int32) * nI ahead + nI had).toNatClampNeg = nI (cLen w (j + 1) ahead had) := by rw [ei, nI_clamp (by omega), tv]
        have hcl := cLen_le w (j + 1) ahead had
        refine qm_wp_ok hA [44] 20 _ _ _ _ _ _ ⟨fun (q : nI kk < nI i) => absurd q (nI_nlt (by omega) (by omega)), fun _ => ?_⟩
        refine qm_for (P := fun f => qm_PW G mX10_chain z 44 0 0 [vr 26, vi (nI t), vi (nI kk), vu, vi (nI had), vi (nI ahead), vi (nI i), vi (nI f)] [] h2) (N := F) ?_ ?_
        · refine qm_wp_ok hA [39, 44] 40 _ _ _ _ _ _ ⟨rfl, 0, 0, _, e_chainBy hG (d + 2) h2 (t := t) (had := had) (ahead := ahead) (f := F) e22 (by omega) e3 e4 g1, ⟨Nat.le_refl _, Nat.le_refl _⟩, ?_⟩
          rintro _ _ ⟨rfl, rfl⟩
          rw [etw2, cby F g1, if_pos g2]
          refine ⟨rfl, _, rfl, rfl, hin, ?_⟩
          rw [cl, show 1 + cLen w (j + 1 - 1) F (had ||| 2 ^ F) = cLen w (j + 1) ahead had from g3]
          exact ⟨fun _ => qm_PW.mask [true, true, true, false, true, true, true, false] nx, fun q => absurd rfl q⟩
        · intro f hf key
          rw [← nI_1] at key
          refine qm_wp_ok hA [39, 44] 40 _ _ _ _ _ _ ⟨rfl, 0, 0, _, e_chainBy hG (d + 2) h2 (t := t) (had := had) (ahead := ahead) (f := f) e22 (by omega) e3 e4 (by omega), ⟨Nat.le_refl _, Nat.le_refl _⟩, ?_⟩
          rintro _ _ ⟨rfl, rfl⟩
          rw [etw2, cby f (by omega)]
          refine ⟨rfl, _, rfl, rfl, hin, ?_⟩
          rw [cl]
          refine ⟨fun q => ?_, fun _ => key⟩
          exfalso
          have hl := cLen_le w (j + 1 - 1) f (had ||| 2 ^ f)
          have hq := (nI_eq (by split <;> omega) (by omega)).mp q
          split at hq
          · rename_i c
            exact g4 f hf ⟨c, hq⟩
          · omega
    exact qm_PW.mask [true, true, true, false, true, true, true, false] (main (kk + 1) 0 6 0 (by omega) rfl (by decide) (by omega) (fun q => by omega) (fun r' e => by
      obtain rfl : kk = r' := by omega
      exact ⟨hV.symm, hkk⟩))
  · exact ⟨fun q => absurd rfl q, fun _ => ⟨trivial, by rw [p_chain, e0]; rfl, e1 ▸ pers.rf.s26⟩⟩
