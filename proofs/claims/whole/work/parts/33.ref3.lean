/-! the reference: the other deeds -/
def s_gue (ps : PSt) : PSt := (ps.1, ps.2.1, ps.2.2.1, ps.2.2.2.1, ps.2.2.2.2.1, ps.2.2.2.2.2.1, ps.2.2.2.2.2.2.1, ps.2.2.2.2.2.2.2.1, ps.2.2.2.2.2.2.2.2.1, ps.2.2.2.2.2.2.2.2.2 + 1)
def s_hunch (ps : PSt) (o f : Nat) : PSt := (ps.1, ps.2.1, ps.2.2.1, va_up ps.2.2.2.1 o (ps.2.2.2.1 o ||| (1 <<< (nI f &&& 31))), ps.2.2.2.2)
def s_ask1 (w : Nat → Int32) (p f o : Nat) (ps : PSt) : PSt :=
  if s_hears w o p then (if bit (ps.2.2.1 o) (nI f) then ps else if bit (ps.2.2.2.1 o) (nI f) then s_gue (s_learns ps o (s_whole w f)) else s_hunch ps o f) else ps
def s_asks (w : Nat → Int32) (p f : Nat) (ps : PSt) : Nat → PSt
  | 0 => ps
  | o + 1 => s_ask1 w p f o (s_asks w p f ps o)
def s_sells (n : Nat) (p : Nat) (b c : Int32) (ps : PSt) : Bool × PSt :=
  if 0 ≤ b ∧ b ≤ nI n - 1 then (if ps.1 p = 0 then (false, ps) else if c ≤ ps.2.1 b.toNatClampNeg then
    (true, (va_up (va_up ps.1 p (ps.1 p - 1)) b.toNatClampNeg (va_up ps.1 p (ps.1 p - 1) b.toNatClampNeg + 1), va_up (va_up ps.2.1 b.toNatClampNeg (ps.2.1 b.toNatClampNeg - c)) p (mn 99 (va_up ps.2.1 b.toNatClampNeg (ps.2.1 b.toNatClampNeg - c) p + c)), ps.2.2)) else (false, ps)) else (false, ps)
def s_eve1 (p : Nat) (ps : PSt) : PSt := (va_up ps.1 p 1, ps.2.1, ps.2.2.1, va_up ps.2.2.2.1 p 0, va_up ps.2.2.2.2.1 p (ps.2.2.2.2.1 p + ps.1 p), ps.2.2.2.2.2.1, ps.2.2.2.2.2.2.1, ps.2.2.2.2.2.2.2.1, ps.2.2.2.2.2.2.2.2.1 + ps.1 p, ps.2.2.2.2.2.2.2.2.2)
def s_eveOn (ps : PSt) : Nat → PSt
  | 0 => ps
  | p + 1 => s_eve1 p (s_eveOn ps p)
def s_eve (n : Nat) (ps : PSt) : PSt := ((s_eveOn ps n).1, (s_eveOn ps n).2.1, (s_eveOn ps n).2.2.1, (s_eveOn ps n).2.2.2.1, (s_eveOn ps n).2.2.2.2.1, (s_eveOn ps n).2.2.2.2.2.1, (s_eveOn ps n).2.2.2.2.2.2.1 + 1, (s_eveOn ps n).2.2.2.2.2.2.2)
section Ref3
theorem e_asks {G : qm_G} (hG : G.2.2.2.2 = true) (d : Nat) (h : qm_H) {t n p f : Nat} (ht : h.1 26 22 = nI t) (hk : t < 2) (hn : h.1 26 23 = nI n) (hn6 : n ≤ 6) (hf : f < 6) : qm_Ev G (d + 2) 0 0 qyX10_asks [.ref 26, .int (nI p), .int (nI f)] h (fun r h' => r = none ∧ rps h' = s_asks (tw h t) p f (rps h) n ∧ fr h h') := by
  refine qm_Ev.by (M := mX10_asks) okX10_asks (Nat.le_of_ble_eq_true rfl) hG fun z hA => ?_
  have loop : ∀ m o : Nat, o + m = n → ∀ h' : qm_H, rps h' = s_asks (tw h t) p f (rps h) o → fr h h' → qm_PW G mX10_asks z 2 0 0 [vr 26, vi (nI p), vi (nI f), vi (nI o)] [] h' := by
    intro m
    induction m with
    | zero =>
      intro o ho h' e1 e2
      obtain rfl : o = n := ho
      refine qm_wp_ok hA [] 20 _ _ _ _ _ _ ?_
      exact ⟨rfl, fun _ => ⟨rfl, rfl, e1, e2⟩, fun (q : ¬ h'.1 26 23 ≤ nI o) => absurd (by rw [e2.2.2 23 (by decide), hn]; exact Int32.le_refl _) q⟩
    | succ m ih =>
      intro o ho h' e1 e2
      have e3 := e2.row t
      have hin : vp_in (nI o) 6 := vp_in_nI (by omega) (by decide)
      have eo : (nI o).toNatClampNeg = o := nI_clamp (by omega)
      have hstep : ∀ h2 : qm_H, rps h2 = s_ask1 (tw h' t) p f o (rps h') → fr h' h2 → qm_PW G mX10_asks z 2 0 0 [vr 26, vi (nI p), vi (nI f), vi (nI o + 1)] [] h2 := by
        intro h2 e4 e5
        have := ih (o + 1) (by omega) h2 (by rw [e4, s_asks, ← e1, e3]) (e2.tr e5)
        rw [← nI_1] at this
        exact this
      refine qm_wp_ok hA [2] 60 _ _ _ _ _ _ ?_
      refine ⟨rfl, fun (q : h'.1 26 23 ≤ nI o) => absurd q (by rw [e2.2.2 23 (by decide), hn]; exact nI_ge (by omega) (by omega)), fun _ => ?_⟩
      refine ⟨rfl, ?_⟩
      refine ⟨0, 0, _, e_hears hG d h' (t := t) (o := o) (p := p) (by rw [e2.2.2 22 (by decide), ht]) hk (by omega), ⟨Nat.le_refl _, Nat.le_refl _⟩, ?_⟩
      rintro _ _ ⟨rfl, rfl⟩
      refine b2_eq (fun hb => ?_) (fun hb => ?_)
      · refine ⟨rfl, _, rfl, rfl, hin, ?_⟩
        rw [eo]
        refine ⟨0, 0, _, e_has hG _ h' (h'.1 39 o) (nI f), ⟨Nat.le_refl _, Nat.le_refl _⟩, ?_⟩
        rintro _ _ ⟨rfl, rfl⟩
        refine b2_ne (fun hb2 => ?_) (fun hb2 => ?_)
        · exact hstep h' ((if_pos hb).trans (if_pos hb2)).symm fr.rf
        · refine ⟨rfl, _, rfl, rfl, hin, ?_⟩
          rw [eo]
          refine ⟨0, 0, _, e_has hG _ h' (h'.1 40 o) (nI f), ⟨Nat.le_refl _, Nat.le_refl _⟩, ?_⟩
          rintro _ _ ⟨rfl, rfl⟩
          have n2 : ¬ bit ((rps h').2.2.1 o) (nI f) = true := by rw [show (rps h').2.2.1 o = h'.1 39 o from rfl, hb2]; decide
          refine b2_eq (fun hb3 => ?_) (fun hb3 => ?_)
          · refine ⟨rfl, ?_⟩
            refine ⟨0, 0, _, e_whole hG d h' (t := t) (f := f) (by rw [e2.2.2 22 (by decide), ht]) hk hf, ⟨Nat.le_refl _, Nat.le_refl _⟩, ?_⟩
            rintro _ _ ⟨rfl, rfl⟩
            refine ⟨rfl, ?_⟩
            refine ⟨0, 0, _, e_learns hG (d + 1) h' (p := o) (by omega) _, ⟨Nat.le_refl _, Nat.le_refl _⟩, ?_⟩
            rintro _ h2 ⟨rfl, e4, e5⟩
            refine ⟨rfl, rfl, trivial, ?_⟩
            refine hstep _ ?_ (e5.s26 (by decide))
            rw [s_ask1, if_pos hb, if_neg n2, if_pos (show bit ((rps h').2.2.2.1 o) (nI f) = true from hb3), ← e4]
            rfl
          · refine ⟨rfl, _, rfl, rfl, hin, rfl, hin, ?_⟩
            rw [eo]
            refine hstep _ ?_ (fr.rf.si (by decide))
            have n3 : ¬ bit ((rps h').2.2.2.1 o) (nI f) = true := by rw [show (rps h').2.2.2.1 o = h'.1 40 o from rfl, hb3]; decide
            rw [s_ask1, if_pos hb, if_neg n2, if_neg n3]
            rfl
      · exact hstep h' (if_neg (by rw [hb]; decide)).symm fr.rf
  refine qm_wp_ok hA [2] 20 _ _ _ _ _ _ ?_
  exact loop n 0 (Nat.zero_add n) h rfl fr.rf
theorem e_sells {G : qm_G} (hG : G.2.2.2.2 = true) (d : Nat) (h : qm_H) {n p : Nat} (hn : h.1 26 23 = nI n) (hn6 : n ≤ 6) (hp : p < 6) (b c : Int32) : qm_Ev G (d + 2) 0 0 qyX10_sells [.ref 26, .int (nI p), .int b, .int c] h (fun r h' => r = some (.int (b2 (s_sells n p b c (rps h)).1)) ∧ rps h' = (s_sells n p b c (rps h)).2 ∧ fr h h') := by
  refine qm_Ev.run (M := mX10_sells) okX10_sells rfl hG fun z => ?_
  have hin : vp_in (nI p) 6 := vp_in_nI hp (by decide)
  have ep : (nI p).toNatClampNeg = p := nI_clamp (by omega)
  refine ⟨rfl, ?_⟩
  refine ⟨0, 0, _, e_isPerson hG d h b, ⟨Nat.le_refl _, Nat.le_refl _⟩, ?_⟩
  rintro _ _ ⟨rfl, rfl⟩
  rw [hn]
  refine b2_eq (fun hb => ?_) (fun hb => ?_)
  · have hb1 := of_decide_eq_true hb
    obtain ⟨o, ho, rfl⟩ := in_of hb1.1 hb1.2 (by omega)
    have hio : vp_in (nI o) 6 := vp_in_nI (by omega) (by decide)
    have eo : (nI o).toNatClampNeg = o := nI_clamp (by omega)
    refine ⟨rfl, _, rfl, rfl, hin, ?_⟩
    rw [ep]
    refine ⟨fun c1 => ?_, fun c1 => ?_⟩
    · have e0 : s_sells n p (nI o) c (rps h) = (false, rps h) := (if_pos hb1).trans (if_pos c1)
      rw [e0]
      exact ⟨rfl, rfl, rfl, fr.rf⟩
    · refine ⟨rfl, _, rfl, rfl, hio, ?_⟩
      rw [eo]
      refine ⟨fun c2 => ?_, fun c2 => ?_⟩
      · have e0 : s_sells n p (nI o) c (rps h) = (true, _) := (if_pos hb1).trans ((if_neg c1).trans (if_pos (by rw [eo]; exact c2)))
        rw [e0, eo]
        refine ⟨rfl, _, rfl, rfl, hin, rfl, hin, rfl, _, rfl, rfl, hio, rfl, hio, rfl, _, rfl, rfl, hio, rfl, hio, rfl, _, rfl, rfl, _, rfl, rfl, hin, ?_⟩
        rw [ep, eo]
        refine ⟨0, 0, _, e_lesser hG _ _ 99 _, ⟨Nat.le_refl _, Nat.le_refl _⟩, ?_⟩
        rintro _ _ ⟨rfl, rfl⟩
        refine ⟨rfl, hin, rfl, rfl, ?_, ?_⟩
        · rw [ep]; rfl
        · exact (((fr.rf.si (by decide)).si (by decide)).si (by decide)).si (by decide)
      · have e0 : s_sells n p (nI o) c (rps h) = (false, rps h) := (if_pos hb1).trans ((if_neg c1).trans (if_neg (by rw [eo]; exact c2)))
        rw [e0]
        exact ⟨rfl, rfl, rfl, fr.rf⟩
  · have e0 : s_sells n p b c (rps h) = (false, rps h) := if_neg (of_decide_eq_false hb)
    rw [e0]
    exact ⟨rfl, rfl, rfl, fr.rf⟩
theorem e_eve {G : qm_G} (hG : G.2.2.2.2 = true) (d : Nat) (h : qm_H) {n : Nat} (hn : h.1 26 23 = nI n) (hn6 : n ≤ 6) : qm_Ev G d 0 0 qyX10_eve [.ref 26] h (fun r h' => r = none ∧ rps h' = s_eve n (rps h) ∧ fr h h') := by
  refine qm_Ev.by (M := mX10_eve) okX10_eve (Nat.le_of_ble_eq_true rfl) hG fun z hA => ?_
  have loop : ∀ m o : Nat, o + m = n → ∀ h' : qm_H, rps h' = s_eveOn (rps h) o → fr h h' → qm_PW G mX10_eve z 2 0 0 [vr 26, vi (nI o)] [] h' := by
    intro m
    induction m with
    | zero =>
      intro o ho h' e1 e2
      obtain rfl : o = n := ho
      refine qm_wp_ok hA [] 20 _ _ _ _ _ _ ?_
      refine ⟨rfl, fun _ => ⟨rfl, rfl, trivial, rfl, rfl, ?_, e2.s26 (by decide)⟩, fun (q : ¬ h'.1 26 23 ≤ nI o) => absurd (by rw [e2.2.2 23 (by decide), hn]; exact Int32.le_refl _) q⟩
      rw [s_eve, ← e1]
      rfl
    | succ m ih =>
      intro o ho h' e1 e2
      have hin : vp_in (nI o) 6 := vp_in_nI (by omega) (by decide)
      have eo : (nI o).toNatClampNeg = o := nI_clamp (by omega)
      refine qm_wp_ok hA [2] 60 _ _ _ _ _ _ ?_
      refine ⟨rfl, fun (q : h'.1 26 23 ≤ nI o) => absurd q (by rw [e2.2.2 23 (by decide), hn]; exact nI_ge (by omega) (by omega)), fun _ => ?_⟩
      refine ⟨rfl, rfl, _, rfl, rfl, hin, rfl, trivial, rfl, _, rfl, rfl, hin, rfl, _, rfl, rfl, hin, rfl, hin, rfl, _, rfl, rfl, hin, rfl, _, rfl, rfl, hin, ?_⟩
      rw [eo]
      have := ih (o + 1) (by omega) (qm_si (qm_si (qm_si (qm_si h' 26 26 (h'.1 26 26 + h'.1 37 o)) 41 o (h'.1 41 o + h'.1 37 o)) 37 o 1) 40 o 0) (by rw [s_eveOn, ← e1]; rfl) ((((e2.s26 (by decide)).si (by decide)).si (by decide)).si (by decide))
      rw [← nI_1] at this
      exact this
  refine qm_wp_ok hA [2] 20 _ _ _ _ _ _ ?_
  exact loop n 0 (Nat.zero_add n) h rfl fr.rf
end Ref3
