/-! the reference: playing -/
/-- what a play is at: statements, cows, minds, hunches, lost by each, told of each; years, tellings, lost, guessed -/
abbrev PSt : Type := (Nat → Int32) × (Nat → Int32) × (Nat → Int32) × (Nat → Int32) × (Nat → Int32) × (Nat → Int32) × Int32 × Int32 × Int32 × Int32
def rps (h : qm_H) : PSt := (h.1 37, h.1 38, h.1 39, h.1 40, h.1 41, h.1 42, h.1 26 24, h.1 26 25, h.1 26 26, h.1 26 27)
/-- the play alone may differ -/
def fr (h h' : qm_H) : Prop := h'.2 = h.2 ∧ (∀ q, q ∉ [26, 37, 38, 39, 40, 41, 42] → h'.1 q = h.1 q) ∧ ∀ k, k ∉ [24, 25, 26, 27] → h'.1 26 k = h.1 26 k
theorem fr.rf {h : qm_H} : fr h h := ⟨rfl, fun _ _ => rfl, fun _ _ => rfl⟩
theorem fr.tr {h h1 h2 : qm_H} (a : fr h h1) (b : fr h1 h2) : fr h h2 := ⟨b.1.trans a.1, fun q hq => (b.2.1 q hq).trans (a.2.1 q hq), fun k hk => (b.2.2 k hk).trans (a.2.2 k hk)⟩
theorem fr.si {h h1 : qm_H} (a : fr h h1) {p k : Nat} {v : Int32} (hp : p ∈ [37, 38, 39, 40, 41, 42]) : fr h (qm_si h1 p k v) := by
  have h26 : p ≠ 26 := fun e => by rw [e] at hp; exact absurd hp (by decide)
  refine ⟨a.1, fun q hq => ?_, fun j hj => ?_⟩
  · have e : q ≠ p := fun e => hq (by rw [e]; exact List.mem_cons_of_mem _ hp)
    rw [si_ne _ _ _ e]
    exact a.2.1 q hq
  · rw [si_ne _ _ _ (Ne.symm h26)]
    exact a.2.2 j hj
theorem fr.s26 {h h1 : qm_H} (a : fr h h1) {k : Nat} {v : Int32} (hk : k ∈ [24, 25, 26, 27]) : fr h (qm_si h1 26 k v) := by
  refine ⟨a.1, fun q hq => ?_, fun j hj => ?_⟩
  · have e : q ≠ 26 := fun e => hq (by rw [e]; decide)
    rw [si_ne _ _ _ e]
    exact a.2.1 q hq
  · rw [si_row, up_n _ _ (fun e => hj (by rw [e]; exact hk))]
    exact a.2.2 j hj
theorem fr.row {h h' : qm_H} (a : fr h h') (t : Nat) : tw h' t = tw h t := by
  unfold tw
  rw [a.2.1 32 (by decide)]
def s_learns (ps : PSt) (p : Nat) (set : Int32) : PSt := (ps.1, ps.2.1, va_up ps.2.2.1 p (ps.2.2.1 p ||| set), va_up ps.2.2.2.1 p (ps.2.2.2.1 p &&& (va_up ps.2.2.1 p (ps.2.2.1 p ||| set) p ^^^ -1)), ps.2.2.2.2)
section Ref2
theorem e_learns {G : qm_G} (hG : G.2.2.2.2 = true) (d : Nat) (h : qm_H) {p : Nat} (hp : p < 6) (set : Int32) : qm_Ev G d 0 0 qyX10_learns [.ref 26, .int (nI p), .int set] h (fun r h' => r = none ∧ rps h' = s_learns (rps h) p set ∧ fr h h') := by
  refine qm_Ev.run (M := mX10_learns) okX10_learns rfl hG fun z => ?_
  have hin : vp_in (nI p) 6 := vp_in_nI hp (by decide)
  have e : (nI p).toNatClampNeg = p := nI_clamp (by omega)
  refine ⟨rfl, _, rfl, rfl, hin, rfl, hin, rfl, _, rfl, rfl, hin, rfl, _, rfl, rfl, hin, rfl, hin, rfl, rfl, ?_, ?_⟩
  · rw [e]; rfl
  · exact (fr.rf.si (by decide)).si (by decide)
def s_tellOn (w : Nat → Int32) (p f : Nat) (ps : PSt) : Nat → PSt
  | 0 => ps
  | o + 1 => if s_hears w o p then s_learns (s_tellOn w p f ps o) o (s_whole w f) else s_tellOn w p f ps o
def s_tells (w : Nat → Int32) (n p f : Nat) (ps : PSt) : Bool × PSt :=
  if ps.1 p = 0 then (false, ps) else if bit (ps.2.2.1 p) (nI f) then (true, s_tellOn w p f (va_up ps.1 p (ps.1 p - 1), ps.2.1, ps.2.2.1, ps.2.2.2.1, ps.2.2.2.2.1, va_up ps.2.2.2.2.2.1 f (ps.2.2.2.2.2.1 f + 1), ps.2.2.2.2.2.2.1, ps.2.2.2.2.2.2.2.1 + 1, ps.2.2.2.2.2.2.2.2) n) else (false, ps)
theorem e_tells {G : qm_G} (hG : G.2.2.2.2 = true) (d : Nat) (h : qm_H) {t n p f : Nat} (ht : h.1 26 22 = nI t) (hk : t < 2) (hn : h.1 26 23 = nI n) (hn6 : n ≤ 6) (hp : p < 6) (hf : f < 6) : qm_Ev G (d + 2) 0 0 qyX10_tells [.ref 26, .int (nI p), .int (nI f)] h (fun r h' => r = some (.int (b2 (s_tells (tw h t) n p f (rps h)).1)) ∧ rps h' = (s_tells (tw h t) n p f (rps h)).2 ∧ fr h h') := by
  refine qm_Ev.by (M := mX10_tells) okX10_tells (Nat.le_of_ble_eq_true rfl) hG fun z hA => ?_
  have hin : vp_in (nI p) 6 := vp_in_nI hp (by decide)
  have hif : vp_in (nI f) 6 := vp_in_nI hf (by decide)
  have ep : (nI p).toNatClampNeg = p := nI_clamp (by omega)
  have ef : (nI f).toNatClampNeg = f := nI_clamp (by omega)
  refine qm_wp_ok hA [38] 99 _ _ _ _ _ _ ?_
  refine ⟨rfl, _, rfl, rfl, hin, ?_⟩
  rw [ep]
  refine ⟨fun c => ?_, fun c => ?_⟩
  · refine ⟨rfl, ?_⟩
    have e0 : s_tells (tw h t) n p f (rps h) = (false, rps h) := if_pos c
    rw [e0]
    exact ⟨rfl, rfl, fr.rf⟩
  · refine ⟨rfl, _, rfl, rfl, hin, ?_⟩
    rw [ep]
    refine ⟨0, 0, _, e_has hG _ h (h.1 39 p) (nI f), ⟨Nat.le_refl _, Nat.le_refl _⟩, ?_⟩
    rintro _ _ ⟨rfl, rfl⟩
    refine b2_ne (fun hb => ?_) (fun hb => ?_)
    · refine ⟨rfl, _, rfl, rfl, hin, rfl, hin, rfl, rfl, trivial, rfl, _, rfl, rfl, hif, rfl, hif, ?_⟩
      rw [ep, ef]
      have e0 : s_tells (tw h t) n p f (rps h) = (true, _) := (if_neg c).trans (if_pos hb)
      generalize hps : (va_up (rps h).1 p ((rps h).1 p - 1), (rps h).2.1, (rps h).2.2.1, (rps h).2.2.2.1, (rps h).2.2.2.2.1, va_up (rps h).2.2.2.2.2.1 f ((rps h).2.2.2.2.2.1 f + 1), (rps h).2.2.2.2.2.2.1, (rps h).2.2.2.2.2.2.2.1 + 1, (rps h).2.2.2.2.2.2.2.2) = ps at *
      have loop : ∀ m o : Nat, o + m = n → ∀ h' : qm_H, rps h' = s_tellOn (tw h t) p f ps o → fr h h' → qm_PW G mX10_tells z 38 0 0 [vr 26, vi (nI p), vi (nI f), vi (nI o)] [] h' := by
        intro m
        induction m with
        | zero =>
          intro o ho h' e1 e2
          obtain rfl : o = n := ho
          refine qm_wp_ok hA [] 20 _ _ _ _ _ _ ?_
          exact ⟨rfl, fun _ => ⟨rfl, by rw [e0]; rfl, by rw [e0]; exact e1, e2⟩, fun (q : ¬ h'.1 26 23 ≤ nI o) => absurd (by rw [e2.2.2 23 (by decide), hn]; exact Int32.le_refl _) q⟩
        | succ m ih =>
          intro o ho h' e1 e2
          have e3 := e2.row t
          refine qm_wp_ok hA [38] 40 _ _ _ _ _ _ ?_
          refine ⟨rfl, fun (q : h'.1 26 23 ≤ nI o) => absurd q (by rw [e2.2.2 23 (by decide), hn]; exact nI_ge (by omega) (by omega)), fun _ => ?_⟩
          refine ⟨rfl, ?_⟩
          refine ⟨0, 0, _, e_hears hG d h' (t := t) (o := o) (p := p) (by rw [e2.2.2 22 (by decide), ht]) hk (by omega), ⟨Nat.le_refl _, Nat.le_refl _⟩, ?_⟩
          rintro _ _ ⟨rfl, rfl⟩
          refine b2_eq (fun hb2 => ?_) (fun hb2 => ?_)
          · refine ⟨rfl, ?_⟩
            refine ⟨0, 0, _, e_whole hG d h' (t := t) (f := f) (by rw [e2.2.2 22 (by decide), ht]) hk hf, ⟨Nat.le_refl _, Nat.le_refl _⟩, ?_⟩
            rintro _ _ ⟨rfl, rfl⟩
            refine ⟨rfl, ?_⟩
            refine ⟨0, 0, _, e_learns hG (d + 1) h' (p := o) (by omega) _, ⟨Nat.le_refl _, Nat.le_refl _⟩, ?_⟩
            rintro _ h2 ⟨rfl, e4, e5⟩
            have e6 : rps h2 = s_tellOn (tw h t) p f ps (o + 1) := by
              rw [e4, s_tellOn, if_pos (by rw [← e3]; exact hb2), e1, e3]
            have := ih (o + 1) (by omega) h2 e6 (e2.tr e5)
            rw [← nI_1] at this
            exact this
          · have e6 : rps h' = s_tellOn (tw h t) p f ps (o + 1) := by
              rw [s_tellOn, if_neg (by rw [← e3, hb2]; decide), e1]
            have := ih (o + 1) (by omega) h' e6 e2
            rw [← nI_1] at this
            exact this
      refine loop n 0 (Nat.zero_add n) _ ?_ ?_
      · rw [← hps]; rfl
      · exact ((fr.rf.si (by decide)).s26 (by decide)).si (by decide)
    · refine ⟨rfl, ?_⟩
      have e0 : s_tells (tw h t) n p f (rps h) = (false, rps h) := (if_neg c).trans (if_neg (by rw [show (rps h).2.2.1 p = h.1 39 p from rfl, hb]; decide))
      rw [e0]
      exact ⟨rfl, rfl, fr.rf⟩
end Ref2
