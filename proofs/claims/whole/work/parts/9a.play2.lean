/-! the class: a deed -/
/-- statements, tellings, cows of a play in its k-th deed -/
def PI (ps : PSt) (k : Nat) (f : Int32) : Prop := (∀ p, p < 6 → ∃ v, v ≤ 1 + k ∧ ps.1 p = nI v) ∧ (∃ v, v ≤ k ∧ ps.2.2.2.2.2.2.2.1 = nI v ∧ (v = 0 ↔ f = -1)) ∧ ∀ p, p < 6 → ∃ v, v ≤ 99 ∧ ps.2.1 p = nI v
theorem PI.up {ps ps' : PSt} {k : Nat} {f : Int32} (h : PI ps k f) (h1 : ps'.1 = ps.1) (h2 : ps'.2.2.2.2.2.2.2.1 = ps.2.2.2.2.2.2.2.1) (h3 : ps'.2.1 = ps.2.1) : PI ps' (k + 1) f := by
  obtain ⟨a, ⟨v, b1, b2', b3⟩, c⟩ := h
  refine ⟨fun p hp => ?_, ⟨v, by omega, by rw [h2]; exact b2', b3⟩, fun p hp => by rw [h3]; exact c p hp⟩
  obtain ⟨x, x1, x2⟩ := a p hp
  exact ⟨x, by omega, by rw [h1]; exact x2⟩
theorem tellOn_1 {w : Nat → Int32} {p f : Nat} {ps : PSt} : ∀ n, (s_tellOn w p f ps n).1 = ps.1 ∧ (s_tellOn w p f ps n).2.2.2.2.2.2.2.1 = ps.2.2.2.2.2.2.2.1 ∧ (s_tellOn w p f ps n).2.1 = ps.2.1
  | 0 => ⟨rfl, rfl, rfl⟩
  | n + 1 => by
    rw [s_tellOn]
    split
    · exact tellOn_1 n
    · exact tellOn_1 n
theorem asks_1 {w : Nat → Int32} {p f : Nat} {ps : PSt} : ∀ n, (s_asks w p f ps n).1 = ps.1 ∧ (s_asks w p f ps n).2.2.2.2.2.2.2.1 = ps.2.2.2.2.2.2.2.1 ∧ (s_asks w p f ps n).2.1 = ps.2.1
  | 0 => ⟨rfl, rfl, rfl⟩
  | n + 1 => by
    have ih := asks_1 (w := w) (p := p) (f := f) (ps := ps) n
    rw [s_asks, s_ask1]
    split
    · split
      · exact ih
      · split
        · exact ih
        · exact ih
    · exact ih
theorem eve_1 {ps : PSt} : ∀ n, (∀ p, (s_eveOn ps n).1 p = ps.1 p ∨ (s_eveOn ps n).1 p = 1) ∧ (s_eveOn ps n).2.2.2.2.2.2.2.1 = ps.2.2.2.2.2.2.2.1 ∧ (s_eveOn ps n).2.1 = ps.2.1
  | 0 => ⟨fun _ => Or.inl rfl, rfl, rfl⟩
  | n + 1 => by
    obtain ⟨i1, i2, i3⟩ := eve_1 (ps := ps) n
    refine ⟨fun p => ?_, i2, i3⟩
    show va_up (s_eveOn ps n).1 n 1 p = _ ∨ va_up (s_eveOn ps n).1 n 1 p = 1
    by_cases e : p = n
    · rw [e, up_s]; exact Or.inr rfl
    · rw [up_n _ _ e]; exact i1 p
/-- whether the fire is lit by this deed -/
def fir (wh : Nat) (ok : Bool) (f d : Int32) : Int32 := if wh = 0 ∧ ok = true ∧ f = -1 then d else f
theorem does_PI {w : Nat → Int32} {n wh k j : Nat} {a b c f : Int32} {ps : PSt} (h : PI ps k f) (hk : k ≤ 100) (hj : j < 2 ^ 31) (hn : n ≤ 6) (hw : wh < 5) (hc : wh = 3 → ∃ v, v ≤ 30 ∧ c = nI v) : PI (s_does w n wh a b c ps).2 (k + 1) (fir wh (s_does w n wh a b c ps).1 f (nI j)) := by
  have keep : PI ps (k + 1) f := h.up rfl rfl rfl
  have ff : ∀ x, wh ≠ 0 → fir wh x f (nI j) = f := fun x q => if_neg (fun z => q z.1)
  have fn : fir wh false f (nI j) = f := if_neg (fun z => absurd z.2.1 Bool.false_ne_true)
  obtain ⟨h1, ⟨v, v1, v2, v3⟩, h3⟩ := h
  by_cases c4 : wh = 4
  · have e : s_does w n wh a b c ps = (true, s_eve n ps) := if_pos c4
    rw [e, ff _ (by omega)]
    obtain ⟨i1, i2, i3⟩ := eve_1 (ps := ps) n
    refine ⟨fun p hp => ?_, ⟨v, by omega, by rw [← v2]; exact i2, v3⟩, fun p hp => by
      obtain ⟨x, x1, x2⟩ := h3 p hp
      exact ⟨x, x1, by rw [← x2]; exact congrFun i3 p⟩⟩
    obtain ⟨x, x1, x2⟩ := h1 p hp
    rcases i1 p with z | z
    · exact ⟨x, by omega, z.trans x2⟩
    · exact ⟨1, by omega, z⟩
  · by_cases ca : 0 ≤ a ∧ a ≤ nI n - 1
    · obtain ⟨p, p1, rfl⟩ := inb_e (m := n) (by omega) (decide_eq_true ca)
      have ep : (nI p).toNatClampNeg = p := nI_clamp (by omega)
      have e : s_does w n wh (nI p) b c ps = (if wh = 0 then s_tells w n p b.toNatClampNeg ps else if wh = 1 then (true, s_asks w p b.toNatClampNeg ps n) else if wh = 2 then (true, s_learns ps p (s_whole w b.toNatClampNeg)) else s_sells n p b c ps) := by
        rw [s_does, if_neg c4, if_pos ca, ep]
      rw [e]
      by_cases c0 : wh = 0
      · rw [if_pos c0, s_tells]
        split
        · rw [fn]; exact keep
        · split
          · rename_i q _
            obtain ⟨i1, i2, i3⟩ := tellOn_1 (w := w) (p := p) (f := b.toNatClampNeg) (ps := (va_up ps.1 p (ps.1 p - 1), ps.2.1, ps.2.2.1, ps.2.2.2.1, ps.2.2.2.2.1, va_up ps.2.2.2.2.2.1 b.toNatClampNeg (ps.2.2.2.2.2.1 b.toNatClampNeg + 1), ps.2.2.2.2.2.2.1, ps.2.2.2.2.2.2.2.1 + 1, ps.2.2.2.2.2.2.2.2)) n
            refine ⟨fun r hr => ?_, ⟨v + 1, by omega, ?_, ?_⟩, fun r hr => by
              obtain ⟨x, x1, x2⟩ := h3 r hr
              exact ⟨x, x1, by rw [← x2]; exact congrFun i3 r⟩⟩
            · obtain ⟨x, x1, x2⟩ := h1 r hr
              have i1 := congrFun i1 r
              by_cases z : r = p
              · subst z
                have x0 : 0 < x := by
                  rcases Nat.eq_zero_or_pos x with y | y
                  · rw [y] at x2; exact absurd x2 q
                  · exact y
                obtain ⟨y, rfl⟩ : ∃ y, x = y + 1 := ⟨x - 1, by omega⟩
                refine ⟨y, by omega, i1.trans ?_⟩
                show va_up ps.1 r (ps.1 r - 1) r = _
                rw [up_s, x2, nI_pred]
              · refine ⟨x, by omega, i1.trans ?_⟩
                show va_up ps.1 p (ps.1 p - 1) r = _
                rw [up_n _ _ z, x2]
            · refine i2.trans ?_
              show ps.2.2.2.2.2.2.2.1 + 1 = _
              rw [v2, nI_1]
            · constructor
              · intro z; omega
              · intro z
                exfalso
                rw [fir] at z
                split at z
                · exact nI_ne1 hj z
                · rename_i q2
                  exact q2 ⟨c0, rfl, z⟩
          · rw [fn]; exact keep
      · rw [if_neg c0, ff _ c0]
        by_cases c1 : wh = 1
        · rw [if_pos c1]
          obtain ⟨i1, i2, i3⟩ := asks_1 (w := w) (p := p) (f := b.toNatClampNeg) (ps := ps) n
          exact PI.up ⟨h1, ⟨v, v1, v2, v3⟩, h3⟩ i1 i2 i3
        · rw [if_neg c1]
          by_cases c2 : wh = 2
          · rw [if_pos c2]
            exact PI.up (ps := ps) ⟨h1, ⟨v, v1, v2, v3⟩, h3⟩ rfl rfl rfl
          · rw [if_neg c2, s_sells]
            obtain ⟨cc, cc1, cc2⟩ := hc (by omega)
            split
            · rename_i cb
              obtain ⟨o, o1, rfl⟩ := inb_e (m := n) (by omega) (decide_eq_true cb)
              rw [nI_clamp (by omega)]
              split
              · exact keep
              · rename_i q
                split
                · rename_i q2
                  refine ⟨fun r hr => ?_, ⟨v, by omega, v2, v3⟩, fun r hr => ?_⟩
                  · obtain ⟨x, x1, x2⟩ := h1 r hr
                    obtain ⟨y, y1, y2⟩ := h1 p (by omega)
                    have y0 : 0 < y := by
                      rcases Nat.eq_zero_or_pos y with z | z
                      · rw [z] at y2; exact absurd y2 q
                      · exact z
                    obtain ⟨y', rfl⟩ : ∃ y', y = y' + 1 := ⟨y - 1, by omega⟩
                    have gp : ∀ s, s < 6 → ∃ u, u ≤ 1 + k ∧ va_up ps.1 p (ps.1 p - 1) s = nI u := fun s hs => by
                      by_cases z : s = p
                      · rw [z, up_s, y2, nI_pred]; exact ⟨y', by omega, rfl⟩
                      · rw [up_n _ _ z]; exact h1 s hs
                    show ∃ u, u ≤ 1 + (k + 1) ∧ va_up (va_up ps.1 p (ps.1 p - 1)) o (va_up ps.1 p (ps.1 p - 1) o + 1) r = nI u
                    by_cases z : r = o
                    · obtain ⟨u, u1, u2⟩ := gp o (by omega)
                      rw [z, up_s, u2, nI_1]; exact ⟨u + 1, by omega, rfl⟩
                    · obtain ⟨u, u1, u2⟩ := gp r hr
                      rw [up_n _ _ z, u2]; exact ⟨u, by omega, rfl⟩
                  · obtain ⟨y, y1, y2⟩ := h3 o (by omega)
                    rw [cc2, y2] at q2
                    have q3 : cc ≤ y := (nI_leI (by omega) (by omega)).mp q2
                    have gp : ∀ s, s < 6 → ∃ u, u ≤ 99 ∧ va_up ps.2.1 o (ps.2.1 o - c) s = nI u := fun s hs => by
                      by_cases z : s = o
                      · rw [z, up_s, y2, cc2, pk_sub q3]; exact ⟨y - cc, by omega, rfl⟩
                      · rw [up_n _ _ z]; exact h3 s hs
                    show ∃ u, u ≤ 99 ∧ va_up (va_up ps.2.1 o (ps.2.1 o - c)) p (mn 99 (va_up ps.2.1 o (ps.2.1 o - c) p + c)) r = nI u
                    by_cases z : r = p
                    · obtain ⟨u, u1, u2⟩ := gp p (by omega)
                      rw [z, up_s, u2, cc2, nI_add, show (99 : Int32) = nI 99 from rfl, mn_N (by decide) (by omega)]
                      exact ⟨_, Nat.min_le_left _ _, rfl⟩
                    · rw [up_n _ _ z]; exact gp r hr
                · exact keep
            · exact keep
    · have e : s_does w n wh a b c ps = (false, ps) := by rw [s_does, if_neg c4, if_neg ca]
      rw [e, fn]; exact keep
theorem c_speaks {G : qm_G} (hG : G.2.2.2.2 = true) (d : Nat) (h : qm_H) {P n : Nat} {w : Nat → Int32} (t : TO h P w n) (v : VT w n) (hpp : h.1 10 6 = nI n) {p f wh : Nat} (hp : p < n) (hf : f < 6) (hw : wh < 3) (hs : nn0 (h.1 14 p)) (c : Int32) : qm_Ev G (d + 3) 0 0 qyX1_speaks [.ref 10, .ref P, .int (nI wh), .int (nI p), .int (nI f)] h (fun r h' => r = some (.int (b2 (s_does w n wh (nI p) (nI f) c (cps h)).1)) ∧ cps h' = (s_does w n wh (nI p) (nI f) c (cps h)).2 ∧ h'.1 10 1 = fir wh (s_does w n wh (nI p) (nI f) c (cps h)).1 (h.1 10 1) (h.1 10 0) ∧ fq [1, 2, 8] h h') := by
  have hn := v.1
  have ep : (nI p).toNatClampNeg = p := nI_clamp (by omega)
  have ef : (nI f).toNatClampNeg = f := nI_clamp (by omega)
  have e : s_does w n wh (nI p) (nI f) c (cps h) = (if wh = 0 then s_tells w n p f (cps h) else if wh = 1 then (true, s_asks w p f (cps h) n) else if wh = 2 then (true, s_learns (cps h) p (s_whole w f)) else s_sells n p (nI f) c (cps h)) := by
    rw [s_does, if_neg (by omega), if_pos (of_decide_eq_true (inb_n (by omega) hp)), ep, ef]
  rw [e]
  refine qm_Ev.run (M := mX1_speaks) okX1_speaks rfl hG fun z => ?_
  refine ⟨fun q => absurd q (nI_pos (by omega)), fun _ => ⟨rfl, fun (q : h.1 10 6 ≤ nI p) => absurd q (by rw [hpp]; exact nI_ge hp (by omega)), fun _ => ⟨0, 0, _, c_isFact hG _ h (nI f), ⟨Nat.le_refl _, Nat.le_refl _⟩, ?_⟩⟩⟩
  rintro _ _ ⟨rfl, rfl⟩
  rw [inb_n (by decide) hf]
  refine ⟨fun _ => ?_, fun q => absurd q (by decide)⟩
  rcases (by omega : wh = 0 ∨ wh = 1 ∨ wh = 2) with q | q | q <;> subst q
  · refine ⟨fun z => absurd rfl z, fun _ => ⟨rfl, 0, 0, _, c_tells hG d h t v hpp hp hf hs, ⟨Nat.le_refl _, Nat.le_refl _⟩, ?_⟩⟩
    rintro _ h2 ⟨rfl, e1, e2, e3⟩
    refine ⟨b2_and _, rfl, e1, ?_, e3.mono (fun k hk => by revert hk; simp only [List.mem_cons, List.not_mem_nil, or_false]; omega)⟩
    rw [e2, fir, if_pos rfl]
    by_cases z : (s_tells w n p f (cps h)).1 = true ∧ h.1 10 1 = -1
    · rw [if_pos z, if_pos ⟨rfl, z⟩]
    · rw [if_neg z, if_neg (fun q => z q.2)]
  · refine ⟨fun _ => ⟨fun z => absurd rfl z, fun _ => ⟨rfl, 0, 0, _, c_asks hG d h t v hpp hf, ⟨Nat.le_refl _, Nat.le_refl _⟩, ?_⟩⟩, fun z => absurd z (by decide)⟩
    rintro _ h2 ⟨rfl, e1, e3⟩
    refine ⟨rfl, rfl, e1, ?_, e3.mono (fun k hk => by revert hk; simp only [List.mem_cons, List.not_mem_nil, or_false]; omega)⟩
    rw [e3.2.2 1 (by decide), fir, if_neg (fun q => absurd q.1 (by decide))]
  · refine ⟨fun _ => ⟨fun _ => ⟨fun z => absurd rfl z, fun _ => ⟨rfl, 0, 0, _, c_learns hG _ h t v hpp hp hf, ⟨Nat.le_refl _, Nat.le_refl _⟩, ?_⟩⟩, fun z => absurd z (by decide)⟩, fun z => absurd z (by decide)⟩
    rintro _ h2 ⟨rfl, e1, e3⟩
    refine ⟨rfl, rfl, e1, ?_, e3.mono (fun k hk => absurd hk (by simp))⟩
    rw [e3.2.2 1 (by decide), fir, if_neg (fun q => absurd q.1 (by decide))]
def KP : List Nat := [0, 1, 2, 7, 8, 9]
theorem c_goes {G : qm_G} (hG : G.2.2.2.2 = true) (d : Nat) (h : qm_H) {P n : Nat} {w : Nat → Int32} (t : TO h P w n) (v : VT w n) (hpp : h.1 10 6 = nI n) {wh : Nat} (hw : wh < 5) (hs : ∀ p, p < 6 → nn0 (h.1 14 p)) (a b c : Int32) (hb : wh < 3 → ∃ f, f < 6 ∧ b = nI f) : qm_Ev G (d + 4) 0 0 qyX1_goes [.ref 10, .ref P, .int (nI wh), .int a, .int b, .int c] h (fun r h' => r = some (.int (b2 (s_does w n wh a b c (cps h)).1)) ∧ cps h' = (s_does w n wh a b c (cps h)).2 ∧ h'.1 10 0 = h.1 10 0 + b2 (s_does w n wh a b c (cps h)).1 ∧ h'.1 10 1 = fir wh (s_does w n wh a b c (cps h)).1 (h.1 10 1) (h.1 10 0) ∧ fq KP h h') := by
  have hn := v.1
  have fin : ∀ (B : Bool × PSt) (h2 : qm_H) (K : List Nat), (∀ k, k ∈ K → k ∈ KP) → 0 ∉ K → B = s_does w n wh a b c (cps h) → cps h2 = B.2 → h2.1 10 1 = fir wh B.1 (h.1 10 1) (h.1 10 0) → fq K h h2 → ∀ x, x = b2 B.1 → cps (qm_si h2 10 0 (h2.1 10 0 + x)) = (s_does w n wh a b c (cps h)).2 ∧ (qm_si h2 10 0 (h2.1 10 0 + x)).1 10 0 = h.1 10 0 + b2 (s_does w n wh a b c (cps h)).1 ∧ (qm_si h2 10 0 (h2.1 10 0 + x)).1 10 1 = fir wh (s_does w n wh a b c (cps h)).1 (h.1 10 1) (h.1 10 0) ∧ fq KP h (qm_si h2 10 0 (h2.1 10 0 + x)) := by
    intro B h2 K hK h0 hB e1 e2 e3 x hx
    subst hB
    refine ⟨e1, ?_, e2, (e3.mono hK).s10 (by decide)⟩
    rw [si_row, up_s, hx, e3.2.2 0 h0]
  by_cases c4 : wh = 4
  · subst c4
    have eB : (true, s_eve n (cps h)) = s_does w n 4 a b c (cps h) := (if_pos rfl).symm
    rw [← eB]
    rw [← eB] at fin
    refine qm_Ev.run (M := mX1_goes) okX1_goes rfl hG fun z => ?_
    refine ⟨fun q => absurd rfl q, fun _ => ⟨fun q => absurd q (by decide), fun _ => ⟨rfl, 0, 0, _, c_passEve hG _ h hpp hn, ⟨Nat.le_refl _, Nat.le_refl _⟩, ?_⟩⟩⟩
    rintro _ h2 ⟨rfl, e1, e3⟩
    refine ⟨rfl, fun q => absurd q (by decide), fun _ => ⟨rfl, trivial, rfl, rfl, ?_⟩⟩
    exact fin _ h2 [7, 9] (by decide) (by decide) rfl e1 (by rw [e3.2.2 1 (by decide), fir, if_neg (fun q => absurd q.1 (by decide))]) e3 1 rfl
  · have hne : ¬ nI wh = nI 4 := fun q => by have := (nI_eq (by omega) (by decide)).mp q; omega
    by_cases ca : inb a n = true
    · obtain ⟨p, p1, rfl⟩ := inb_e (by omega) ca
      by_cases c3 : wh = 3
      · subst c3
        have eB : s_sells n p b c (cps h) = s_does w n 3 (nI p) b c (cps h) := by
          rw [s_does, if_neg (by decide), if_pos (of_decide_eq_true ca), nI_clamp (by omega)]; rfl
        rw [← eB]
        rw [← eB] at fin
        refine qm_Ev.run (M := mX1_goes) okX1_goes rfl hG fun z => ?_
        refine ⟨fun _ => ⟨fun _ => ⟨fun q => absurd q (nI_pos (by omega)), fun _ => ⟨rfl, fun (q : h.1 10 6 ≤ nI p) => absurd q (by rw [hpp]; exact nI_ge p1 (by omega)), fun _ => ⟨fun q => absurd rfl q, fun _ => ⟨rfl, 0, 0, _, c_sells hG _ h hpp hn p1 (hs p (by omega)) b c, ⟨Nat.le_refl _, Nat.le_refl _⟩, ?_⟩⟩⟩⟩, fun q => absurd rfl q⟩, fun q => absurd q (by decide)⟩
        rintro _ h2 ⟨rfl, e1, e3⟩
        have ff := fin _ h2 [] (by decide) (by decide) rfl e1 (by rw [e3.2.2 1 (by decide), fir, if_neg (fun q => absurd q.1 (by decide))]) e3
        refine ⟨rfl, b2_eq (fun hb => ⟨rfl, trivial, b2_and _, rfl, ?_⟩) (fun hb => ⟨rfl, trivial, b2_and _, rfl, ?_⟩)⟩
        · exact ff 1 (by rw [hb]; rfl)
        · exact ff 0 (by rw [hb]; rfl)
      · obtain ⟨f, hf, rfl⟩ := hb (by omega)
        have hne3 : ¬ nI wh = nI 3 := fun q => by have := (nI_eq (by omega) (by decide)).mp q; omega
        refine qm_Ev.run (M := mX1_goes) okX1_goes rfl hG fun z => ?_
        refine ⟨fun _ => ⟨fun _ => ⟨fun q => absurd q (nI_pos (by omega)), fun _ => ⟨rfl, fun (q : h.1 10 6 ≤ nI p) => absurd q (by rw [hpp]; exact nI_ge p1 (by omega)), fun _ => ⟨fun _ => ⟨rfl, 0, 0, _, c_speaks hG d h t v hpp p1 hf (by omega) (hs p (by omega)) c, ⟨Nat.le_refl _, Nat.le_refl _⟩, ?_⟩, fun q => absurd q hne3⟩⟩⟩, fun q => absurd rfl q⟩, fun q => absurd q hne⟩
        rintro _ h2 ⟨rfl, e1, e2, e3⟩
        have ff := fin _ h2 [1, 2, 8] (by decide) (by decide) rfl e1 e2 e3
        refine ⟨rfl, b2_eq (fun hb => ⟨rfl, trivial, b2_and _, rfl, ?_⟩) (fun hb => ⟨rfl, trivial, b2_and _, rfl, ?_⟩)⟩
        · exact ff 1 (by rw [hb]; rfl)
        · exact ff 0 (by rw [hb]; rfl)
    · have eB : (false, cps h) = s_does w n wh a b c (cps h) := by rw [s_does, if_neg c4, if_neg (fun q => ca (decide_eq_true q))]
      rw [← eB]
      rw [← eB] at fin
      rw [inb_lt (by omega), Bool.and_eq_true, decide_eq_true_eq, decide_eq_true_eq] at ca
      have ff := fin _ h [] (by decide) (by decide) rfl rfl (by rw [fir, if_neg (fun q => absurd q.2.1 Bool.false_ne_true)]) fq.rf 0 rfl
      refine qm_Ev.run (M := mX1_goes) okX1_goes rfl hG fun z => ?_
      refine ⟨fun _ => ⟨fun _ => ⟨fun _ => ⟨rfl, fun _ => ⟨rfl, trivial, rfl, rfl, ff⟩, fun q => absurd rfl q⟩, fun (q1 : ¬ a < 0) => ⟨rfl, fun _ => ⟨rfl, fun _ => ⟨rfl, trivial, rfl, rfl, ff⟩, fun q => absurd rfl q⟩, fun (q2 : ¬ h.1 10 6 ≤ a) => absurd ⟨Int32.not_lt.mp q1, by rw [hpp] at q2; exact Int32.not_le.mp q2⟩ ca⟩⟩, fun q => absurd rfl q⟩, fun q => absurd q hne⟩
