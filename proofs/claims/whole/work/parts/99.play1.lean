/-! the class: a play -/
def cps (h : qm_H) : PSt := (h.1 14, h.1 11, h.1 15, h.1 16, h.1 12, h.1 13, h.1 10 7, h.1 10 8, h.1 10 9, h.1 10 2)
/-- the play alone may differ; of its numbers those of K -/
def fq (K : List Nat) (h h' : qm_H) : Prop := h'.2 = h.2 ∧ (∀ q, q ∉ [10, 11, 12, 13, 14, 15, 16] → h'.1 q = h.1 q) ∧ ∀ k, k ∉ K → h'.1 10 k = h.1 10 k
theorem fq.rf {K : List Nat} {h : qm_H} : fq K h h := ⟨rfl, fun _ _ => rfl, fun _ _ => rfl⟩
theorem fq.tr {K : List Nat} {h h1 h2 : qm_H} (a : fq K h h1) (b : fq K h1 h2) : fq K h h2 := ⟨b.1.trans a.1, fun q hq => (b.2.1 q hq).trans (a.2.1 q hq), fun k hk => (b.2.2 k hk).trans (a.2.2 k hk)⟩
theorem fq.mono {K K' : List Nat} {h h1 : qm_H} (a : fq K h h1) (hK : ∀ k, k ∈ K → k ∈ K') : fq K' h h1 := ⟨a.1, a.2.1, fun k hk => a.2.2 k (fun z => hk (hK k z))⟩
theorem fq.si {K : List Nat} {h h1 : qm_H} (a : fq K h h1) {p k : Nat} {v : Int32} (hp : p ∈ [11, 12, 13, 14, 15, 16]) : fq K h (qm_si h1 p k v) := by
  have h10 : p ≠ 10 := fun e => by rw [e] at hp; exact absurd hp (by decide)
  refine ⟨a.1, fun q hq => ?_, fun j hj => ?_⟩
  · have e : q ≠ p := fun e => hq (by rw [e]; exact List.mem_cons_of_mem _ hp)
    rw [si_ne _ _ _ e]
    exact a.2.1 q hq
  · rw [si_ne _ _ _ (Ne.symm h10)]
    exact a.2.2 j hj
theorem fq.s10 {K : List Nat} {h h1 : qm_H} (a : fq K h h1) {k : Nat} {v : Int32} (hk : k ∈ K) : fq K h (qm_si h1 10 k v) := by
  refine ⟨a.1, fun q hq => ?_, fun j hj => ?_⟩
  · have e : q ≠ 10 := fun e => hq (by rw [e]; decide)
    rw [si_ne _ _ _ e]
    exact a.2.1 q hq
  · rw [si_row, up_n _ _ (fun e => hj (by rw [e]; exact hk))]
    exact a.2.2 j hj
theorem fq.sb {K : List Nat} {h h1 : qm_H} (a : fq K h h1) : sb [10, 11, 12, 13, 14, 15, 16] h h1 := ⟨a.1, a.2.1⟩
theorem fq.to {K : List Nat} {h h1 : qm_H} (a : fq K h h1) {P n : Nat} {w : Nat → Int32} (t : TO h P w n) : TO h1 P w n := t.sb a.sb (fun q hq => by
  simp only [List.mem_cons, List.not_mem_nil, or_false] at hq
  omega)
theorem c_learns {G : qm_G} (hG : G.2.2.2.2 = true) (d : Nat) (h : qm_H) {P n : Nat} {w : Nat → Int32} (t : TO h P w n) (v : VT w n) (hpp : h.1 10 6 = nI n) {p f : Nat} (hp : p < n) (hf : f < 6) : qm_Ev G (d + 1) 0 0 qyX1_learns [.ref 10, .ref P, .int (nI p), .int (nI f)] h (fun r h' => r = none ∧ cps h' = s_learns (cps h) p (s_whole w f) ∧ fq [] h h') := by
  have hn := v.1
  have hin : vp_in (nI p) 6 := vp_in_nI (by omega) (by decide)
  have e : (nI p).toNatClampNeg = p := nI_clamp (by omega)
  refine qm_Ev.run (M := mX1_learns) okX1_learns rfl hG fun z => ?_
  refine ⟨fun q => absurd q (nI_pos (by omega)), fun _ => ⟨rfl, fun _ => ?_, fun (q : ¬ nI p < h.1 10 6) => absurd (by rw [hpp]; exact nI_lt hp (by omega)) q⟩⟩
  refine ⟨rfl, _, rfl, rfl, hin, t.is, 0, 0, _, c_wholeOf hG _ h t hf, ⟨Nat.le_refl _, Nat.le_refl _⟩, ?_⟩
  rintro _ _ ⟨rfl, rfl⟩
  refine ⟨rfl, hin, rfl, _, rfl, rfl, hin, rfl, _, rfl, rfl, hin, rfl, hin, rfl, rfl, ?_, ?_⟩
  · rw [e]; rfl
  · exact (fq.rf.si (by decide)).si (by decide)
def nn0 (x : Int32) : Prop := ∃ v, v < 2 ^ 31 ∧ x = nI v
theorem nn0_1 {x : Int32} (h : nn0 x) : x < 1 ↔ x = 0 := by
  obtain ⟨v, v1, v2⟩ := h
  rw [v2]
  constructor
  · intro q
    have := (nI_ltI (b := 1) v1 (by decide)).mp q
    rw [show v = 0 by omega]; rfl
  · intro q; rw [q]; decide
theorem c_tells {G : qm_G} (hG : G.2.2.2.2 = true) (d : Nat) (h : qm_H) {P n : Nat} {w : Nat → Int32} (t : TO h P w n) (v : VT w n) (hpp : h.1 10 6 = nI n) {p f : Nat} (hp : p < n) (hf : f < 6) (hs : nn0 (h.1 14 p)) : qm_Ev G (d + 2) 0 0 qyX1_tells [.ref 10, .ref P, .int (nI p), .int (nI f)] h (fun r h' => r = some (.int (b2 (s_tells w n p f (cps h)).1)) ∧ cps h' = (s_tells w n p f (cps h)).2 ∧ h'.1 10 1 = (if (s_tells w n p f (cps h)).1 = true ∧ h.1 10 1 = -1 then h.1 10 0 else h.1 10 1) ∧ fq [1, 8] h h') := by
  have hn := v.1
  have hin : vp_in (nI p) 6 := vp_in_nI (by omega) (by decide)
  have hif : vp_in (nI f) 6 := vp_in_nI hf (by decide)
  have ep : (nI p).toNatClampNeg = p := nI_clamp (by omega)
  have ef : (nI f).toNatClampNeg = f := nI_clamp (by omega)
  refine qm_Ev.by (M := mX1_tells) okX1_tells (Nat.le_of_ble_eq_true rfl) hG fun z hA => ?_
  refine qm_wp_ok hA [50] 99 _ _ _ _ _ _ ?_
  refine ⟨rfl, _, rfl, rfl, hin, ?_⟩
  rw [ep]
  refine ⟨fun c => ?_, fun c => ?_⟩
  · have e0 : s_tells w n p f (cps h) = (false, cps h) := if_pos ((nn0_1 hs).mp c)
    rw [e0]
    exact ⟨rfl, rfl, rfl, (if_neg (fun q => absurd q.1 Bool.false_ne_true)).symm, fq.rf⟩
  · have c0 : ¬ (cps h).1 p = 0 := fun q => c ((nn0_1 hs).mpr q)
    refine ⟨rfl, _, rfl, rfl, hin, 0, 0, _, c_isIn hG _ h _ (nI f), ⟨Nat.le_refl _, Nat.le_refl _⟩, ?_⟩
    rintro _ _ ⟨rfl, rfl⟩
    rw [ep]
    refine b2_ne (fun hb => ?_) (fun hb => ?_)
    · have e0 : s_tells w n p f (cps h) = (true, _) := (if_neg c0).trans (if_pos hb)
      refine ⟨rfl, _, rfl, rfl, hin, rfl, hin, rfl, rfl, trivial, rfl, _, rfl, rfl, hif, rfl, hif, rfl, ?_⟩
      rw [ep, ef]
      generalize hps : (va_up (cps h).1 p ((cps h).1 p - 1), (cps h).2.1, (cps h).2.2.1, (cps h).2.2.2.1, (cps h).2.2.2.2.1, va_up (cps h).2.2.2.2.2.1 f ((cps h).2.2.2.2.2.1 f + 1), (cps h).2.2.2.2.2.2.1, (cps h).2.2.2.2.2.2.2.1 + 1, (cps h).2.2.2.2.2.2.2.2) = ps at *
      have loop : ∀ m o : Nat, o + m = n → ∀ h' : qm_H, cps h' = s_tellOn w p f ps o → h'.1 10 1 = (if h.1 10 1 = -1 then h.1 10 0 else h.1 10 1) → fq [1, 8] h h' → qm_PW G mX1_tells z 50 0 0 [vr 10, vr P, vi (nI p), vi (nI f), vi (nI o)] [] h' := by
        intro m
        induction m with
        | zero =>
          intro o ho h' e1 e3 e2
          obtain rfl : o = n := ho
          refine qm_wp_ok hA [] 20 _ _ _ _ _ _ ⟨rfl, fun _ => ⟨rfl, by rw [e0]; rfl, by rw [e0]; exact e1, ?_, e2⟩, fun (q : ¬ h'.1 10 6 ≤ nI o) => absurd (by rw [e2.2.2 6 (by decide), hpp]; exact Int32.le_refl _) q⟩
          rw [e0, e3]
          by_cases z : h.1 10 1 = -1
          · rw [if_pos z, if_pos ⟨rfl, z⟩]
          · rw [if_neg z, if_neg (fun q => z q.2)]
        | succ m ih =>
          intro o ho h' e1 e3 e2
          have t' := e2.to t
          have e5 : h'.1 (P + 5) (nI o).toNatClampNeg = w (25 + o) := (t'.at (by omega : o < 6)).2.2.2.2.1
          refine qm_wp_ok hA [50] 60 _ _ _ _ _ _ ⟨rfl, fun (q : h'.1 10 6 ≤ nI o) => absurd q (by rw [e2.2.2 6 (by decide), hpp]; exact nI_ge (by omega) (by omega)), fun _ => ⟨t'.is, _, t'.rd (k := 5) (by decide) (by decide), t'.ar (k := 5) (by decide) (by decide), t'.ln (k := 5) (by decide) (by decide) (by omega), 0, 0, _, c_isIn hG _ h' _ (nI p), ⟨Nat.le_refl _, Nat.le_refl _⟩, ?_⟩⟩
          rintro _ _ ⟨rfl, rfl⟩
          rw [e5]
          refine b2_eq (fun hb2 => ?_) (fun hb2 => ?_)
          · refine ⟨rfl, 0, 0, _, c_learns hG d h' t' v (by rw [e2.2.2 6 (by decide), hpp]) (by omega : o < n) hf, ⟨Nat.le_refl _, Nat.le_refl _⟩, ?_⟩
            rintro _ h2 ⟨rfl, e4, e6⟩
            have e7 : cps h2 = s_tellOn w p f ps (o + 1) := by
              rw [e4, s_tellOn, if_pos (show s_hears w o p = true from hb2), e1]
            have := ih (o + 1) (by omega) h2 e7 (by rw [e6.2.2 1 (by decide), e3]) (e2.tr (e6.mono (fun k hk => absurd hk (by simp))))
            rw [← nI_1] at this
            exact this
          · have e7 : cps h' = s_tellOn w p f ps (o + 1) := by
              rw [s_tellOn, if_neg (by rw [show s_hears w o p = false from hb2]; decide), e1]
            have := ih (o + 1) (by omega) h' e7 e3 e2
            rw [← nI_1] at this
            exact this
      have fr0 : fq [1, 8] h (qm_si (qm_si (qm_si h 14 p (h.1 14 p - 1)) 10 8 (h.1 10 8 + 1)) 13 f (h.1 13 f + 1)) := ((fq.rf.si (by decide)).s10 (by decide)).si (by decide)
      refine ⟨fun (z : ¬ h.1 10 1 = -1) => ⟨rfl, rfl, trivial, ?_⟩, fun (z : h.1 10 1 = -1) => ⟨rfl, rfl, trivial, ?_⟩⟩
      · refine loop n 0 (Nat.zero_add n) _ ?_ ?_ (fr0.s10 (by decide))
        · rw [← hps]; rfl
        · rw [if_neg z]; rfl
      · refine loop n 0 (Nat.zero_add n) _ ?_ ?_ (fr0.s10 (by decide))
        · rw [← hps]; rfl
        · rw [if_pos z]; rfl
    · have e0 : s_tells w n p f (cps h) = (false, cps h) := (if_neg c0).trans (if_neg (by rw [show (cps h).2.2.1 p = h.1 15 p from rfl, hb]; decide))
      rw [e0]
      exact ⟨rfl, rfl, rfl, (if_neg (fun q => absurd q.1 Bool.false_ne_true)).symm, fq.rf⟩
theorem c_asks {G : qm_G} (hG : G.2.2.2.2 = true) (d : Nat) (h : qm_H) {P n : Nat} {w : Nat → Int32} (t : TO h P w n) (v : VT w n) (hpp : h.1 10 6 = nI n) {p f : Nat} (hf : f < 6) : qm_Ev G (d + 2) 0 0 qyX1_asks [.ref 10, .ref P, .int (nI p), .int (nI f)] h (fun r h' => r = none ∧ cps h' = s_asks w p f (cps h) n ∧ fq [2] h h') := by
  have hn := v.1
  refine qm_Ev.by (M := mX1_asks) okX1_asks (Nat.le_of_ble_eq_true rfl) hG fun z hA => ?_
  refine qm_wp_ok hA [2] 20 _ _ _ _ _ _ ?_
  have loop : ∀ m o : Nat, o + m = n → ∀ h' : qm_H, cps h' = s_asks w p f (cps h) o → fq [2] h h' → qm_PW G mX1_asks z 2 0 0 [vr 10, vr P, vi (nI p), vi (nI f), vi (nI o), vu] [] h' := by
    intro m
    induction m with
    | zero =>
      intro o ho h' e1 e2
      obtain rfl : o = n := ho
      exact qm_wp_ok hA [] 20 _ _ _ _ _ _ ⟨rfl, fun _ => ⟨rfl, rfl, e1, e2⟩, fun (q : ¬ h'.1 10 6 ≤ nI o) => absurd (by rw [e2.2.2 6 (by decide), hpp]; exact Int32.le_refl _) q⟩
    | succ m ih =>
      intro o ho h' e1 e2
      have t' := e2.to t
      have hin : vp_in (nI o) 6 := vp_in_nI (by omega) (by decide)
      have eo : (nI o).toNatClampNeg = o := nI_clamp (by omega)
      have e5 : h'.1 (P + 5) (nI o).toNatClampNeg = w (25 + o) := (t'.at (by omega : o < 6)).2.2.2.2.1
      have nxt : ∀ h2, cps h2 = s_ask1 w p f o (cps h') → fq [2] h' h2 → qm_PW G mX1_asks z 2 0 0 [vr 10, vr P, vi (nI p), vi (nI f), vi (nI o + 1), vu] [] h2 := fun h2 a b => by
        rw [nI_1]
        exact ih (o + 1) (by omega) h2 (by rw [a, e1]; rfl) (e2.tr b)
      refine qm_wp_ok hA [2] 99 _ _ _ _ _ _ ⟨rfl, fun (q : h'.1 10 6 ≤ nI o) => absurd q (by rw [e2.2.2 6 (by decide), hpp]; exact nI_ge (by omega) (by omega)), fun _ => ⟨t'.is, _, t'.rd (k := 5) (by decide) (by decide), t'.ar (k := 5) (by decide) (by decide), t'.ln (k := 5) (by decide) (by decide) (by omega), 0, 0, _, c_isIn hG _ h' _ (nI p), ⟨Nat.le_refl _, Nat.le_refl _⟩, ?_⟩⟩
      rintro _ _ ⟨rfl, rfl⟩
      rw [e5]
      refine b2_eq (fun hb => ?_) (fun hb => ?_)
      · refine ⟨rfl, _, rfl, rfl, hin, 0, 0, _, c_isIn hG _ h' _ (nI f), ⟨Nat.le_refl _, Nat.le_refl _⟩, ?_⟩
        rintro _ _ ⟨rfl, rfl⟩
        rw [eo]
        have a0 : s_ask1 w p f o (cps h') = (if bit ((cps h').2.2.1 o) (nI f) then cps h' else if bit ((cps h').2.2.2.1 o) (nI f) then s_gue (s_learns (cps h') o (s_whole w f)) else s_hunch (cps h') o f) := if_pos (show s_hears w o p = true from hb)
        refine b2_ne (fun hb2 => ?_) (fun hb2 => ?_)
        · have a1 : s_ask1 w p f o (cps h') = cps h' := a0.trans (if_pos hb2)
          exact ⟨fun _ => ⟨fun _ => (nxt h' a1.symm fq.rf).mask [true, true, true, true, true, false], fun q => absurd rfl q⟩, fun q => absurd rfl q⟩
        · have a1 : s_ask1 w p f o (cps h') = (if bit ((cps h').2.2.2.1 o) (nI f) then s_gue (s_learns (cps h') o (s_whole w f)) else s_hunch (cps h') o f) := a0.trans (if_neg (by rw [show (cps h').2.2.1 o = h'.1 15 o from rfl, hb2]; decide))
          refine ⟨fun q => absurd q (by decide), fun _ => ⟨rfl, _, rfl, rfl, hin, 0, 0, _, c_isIn hG _ h' _ (nI f), ⟨Nat.le_refl _, Nat.le_refl _⟩, ?_⟩⟩
          rintro _ _ ⟨rfl, rfl⟩
          rw [eo]
          refine b2_eq (fun hb3 => ?_) (fun hb3 => ?_)
          · refine ⟨rfl, 0, 0, _, c_learns hG _ h' t' v (by rw [e2.2.2 6 (by decide), hpp]) (by omega : o < n) hf, ⟨Nat.le_refl _, Nat.le_refl _⟩, ?_⟩
            rintro _ h2 ⟨rfl, e4, e6⟩
            have a2 : s_ask1 w p f o (cps h') = s_gue (s_learns (cps h') o (s_whole w f)) := a1.trans (if_pos hb3)
            refine ⟨rfl, rfl, trivial, (nxt _ ?_ ((e6.mono (fun k hk => absurd hk (by simp))).s10 (by decide))).mask [true, true, true, true, true, false]⟩
            rw [a2, ← e4]; rfl
          · have a2 : s_ask1 w p f o (cps h') = s_hunch (cps h') o f := a1.trans (if_neg (by rw [show (cps h').2.2.2.1 o = h'.1 16 o from rfl, hb3]; decide))
            refine ⟨fun q => absurd q (by decide), fun _ => ⟨rfl, _, rfl, rfl, hin, rfl, hin, (nxt _ ?_ (fq.rf.si (by decide))).mask [true, true, true, true, true, false]⟩⟩
            rw [a2, eo]; rfl
      · have a1 : s_ask1 w p f o (cps h') = cps h' := if_neg (by rw [show s_hears w o p = false from hb]; decide)
        exact ⟨fun _ => ⟨fun _ => (nxt h' a1.symm fq.rf).mask [true, true, true, true, true, false], fun q => absurd rfl q⟩, fun q => absurd rfl q⟩
  exact loop n 0 (Nat.zero_add n) h rfl fq.rf
def yr1 (ps : PSt) : PSt := (ps.1, ps.2.1, ps.2.2.1, ps.2.2.2.1, ps.2.2.2.2.1, ps.2.2.2.2.2.1, ps.2.2.2.2.2.2.1 + 1, ps.2.2.2.2.2.2.2)
theorem eve_yr (ps : PSt) : ∀ n, s_eveOn (yr1 ps) n = yr1 (s_eveOn ps n)
  | 0 => rfl
  | n + 1 => by rw [s_eveOn, s_eveOn, eve_yr ps n]; rfl
theorem c_passEve {G : qm_G} (hG : G.2.2.2.2 = true) (d : Nat) (h : qm_H) {n : Nat} (hpp : h.1 10 6 = nI n) (hn : n ≤ 6) : qm_Ev G d 0 0 qyX1_passEve [.ref 10] h (fun r h' => r = none ∧ cps h' = s_eve n (cps h) ∧ fq [7, 9] h h') := by
  refine qm_Ev.by (M := mX1_passEve) okX1_passEve (Nat.le_of_ble_eq_true rfl) hG fun z hA => ?_
  refine qm_wp_ok hA [8] 30 _ _ _ _ _ _ ?_
  refine ⟨rfl, rfl, trivial, ?_⟩
  have loop : ∀ m o : Nat, o + m = n → ∀ h' : qm_H, cps h' = s_eveOn (yr1 (cps h)) o → fq [7, 9] h h' → qm_PW G mX1_passEve z 8 0 0 [vr 10, vi (nI o)] [] h' := by
    intro m
    induction m with
    | zero =>
      intro o ho h' e1 e2
      obtain rfl : o = n := ho
      exact qm_wp_ok hA [] 20 _ _ _ _ _ _ ⟨rfl, fun _ => ⟨rfl, rfl, by rw [e1, eve_yr]; rfl, e2⟩, fun (q : ¬ h'.1 10 6 ≤ nI o) => absurd (by rw [e2.2.2 6 (by decide), hpp]; exact Int32.le_refl _) q⟩
    | succ m ih =>
      intro o ho h' e1 e2
      have hin : vp_in (nI o) 6 := vp_in_nI (by omega) (by decide)
      have eo : (nI o).toNatClampNeg = o := nI_clamp (by omega)
      refine qm_wp_ok hA [8] 80 _ _ _ _ _ _ ⟨rfl, fun (q : h'.1 10 6 ≤ nI o) => absurd q (by rw [e2.2.2 6 (by decide), hpp]; exact nI_ge (by omega) (by omega)), fun _ => ?_⟩
      refine ⟨rfl, rfl, _, rfl, rfl, hin, rfl, trivial, rfl, _, rfl, rfl, hin, rfl, _, rfl, rfl, hin, rfl, hin, rfl, _, rfl, rfl, hin, rfl, _, rfl, rfl, hin, ?_⟩
      have k2 := ih (o + 1) (by omega) (qm_si (qm_si (qm_si (qm_si h' 10 9 (h'.1 10 9 + h'.1 14 o)) 12 o (h'.1 12 o + h'.1 14 o)) 14 o 1) 16 o 0) (by rw [s_eveOn, ← e1]; rfl) ((((e2.s10 (by decide)).si (by decide)).si (by decide)).si (by decide))
      rw [eo]
      rw [← nI_1] at k2
      exact k2
  exact loop n 0 (Nat.zero_add n) _ rfl (fq.rf.s10 (by decide))
theorem c_sells {G : qm_G} (hG : G.2.2.2.2 = true) (d : Nat) (h : qm_H) {n p : Nat} (hpp : h.1 10 6 = nI n) (hn : n ≤ 6) (hp : p < n) (hs : nn0 (h.1 14 p)) (b c : Int32) : qm_Ev G (d + 1) 0 0 qyX1_sells [.ref 10, .int (nI p), .int b, .int c] h (fun r h' => r = some (.int (b2 (s_sells n p b c (cps h)).1)) ∧ cps h' = (s_sells n p b c (cps h)).2 ∧ fq [] h h') := by
  have hin : vp_in (nI p) 6 := vp_in_nI (by omega) (by decide)
  have ep : (nI p).toNatClampNeg = p := nI_clamp (by omega)
  have ib := inb_lt (a := b) (n := n) (by omega)
  by_cases hb : inb b n = true
  · obtain ⟨o, o1, rfl⟩ := inb_e (by omega) hb
    have hio : vp_in (nI o) 6 := vp_in_nI (by omega) (by decide)
    have eo : (nI o).toNatClampNeg = o := nI_clamp (by omega)
    have s0 : s_sells n p (nI o) c (cps h) = _ := if_pos (of_decide_eq_true hb)
    refine qm_Ev.by (M := mX1_sells) okX1_sells (Nat.le_of_ble_eq_true rfl) hG fun z hA => ?_
    refine qm_wp_ok hA [66] 99 _ _ _ _ _ _ ⟨fun q => absurd q (nI_pos (by omega)), fun _ => ⟨rfl, fun (q : h.1 10 6 ≤ nI p) => absurd q (by rw [hpp]; exact nI_ge hp (by omega)), fun _ => ⟨fun q => absurd q (nI_pos (by omega)), fun _ => ⟨rfl, fun (q : h.1 10 6 ≤ nI o) => absurd q (by rw [hpp]; exact nI_ge o1 (by omega)), fun _ => ⟨fun q => absurd q (by decide), fun _ => ?_⟩⟩⟩⟩⟩
    refine ⟨rfl, _, rfl, rfl, hin, ?_⟩
    rw [ep]
    refine ⟨fun q => ?_, fun q => ?_⟩
    · have s1 : s_sells n p (nI o) c (cps h) = (false, cps h) := s0.trans (if_pos ((nn0_1 hs).mp q))
      rw [s1]
      exact ⟨rfl, rfl, rfl, fq.rf⟩
    · have s1 := s0.trans (if_neg (fun z => q ((nn0_1 hs).mpr z)))
      rw [eo] at s1
      refine ⟨rfl, _, rfl, rfl, hio, ?_⟩
      rw [eo]
      refine ⟨fun (q2 : c ≤ h.1 11 o) => ?_, fun (q2 : ¬ c ≤ h.1 11 o) => ?_⟩
      · have s2 := s1.trans (if_pos q2)
        refine ⟨rfl, _, rfl, rfl, hin, rfl, hin, rfl, _, rfl, rfl, hio, rfl, hio, rfl, _, rfl, rfl, hio, rfl, hio, rfl, _, rfl, rfl, _, rfl, rfl, hin, ?_⟩
        rw [ep, eo]
        refine sp_mmin hA rfl rfl rfl (k1 := 668) (by decide +kernel) (Nat.le_of_ble_eq_true rfl) ?_
        rw [mmin_mn]
        refine qm_wp_ok hA [] 20 _ _ _ _ _ _ ⟨rfl, hin, rfl, ?_, ?_, (((fq.rf.si (by decide)).si (by decide)).si (by decide)).si (by decide)⟩
        · rw [s2]; rfl
        · rw [s2, ep]; rfl
      · have s2 : s_sells n p (nI o) c (cps h) = (false, cps h) := s1.trans (if_neg q2)
        rw [s2]
        exact ⟨rfl, rfl, rfl, fq.rf⟩
  · have s0 : s_sells n p b c (cps h) = (false, cps h) := if_neg (fun q => hb (decide_eq_true q))
    rw [s0]
    rw [ib, Bool.and_eq_true, decide_eq_true_eq, decide_eq_true_eq] at hb
    refine qm_Ev.by (M := mX1_sells) okX1_sells (Nat.le_of_ble_eq_true rfl) hG fun z hA => ?_
    refine qm_wp_ok hA [66] 99 _ _ _ _ _ _ ⟨fun q => absurd q (nI_pos (by omega)), fun _ => ⟨rfl, fun (q : h.1 10 6 ≤ nI p) => absurd q (by rw [hpp]; exact nI_ge hp (by omega)), fun _ => ⟨fun (q : b < 0) => ⟨fun _ => ⟨rfl, rfl, rfl, fq.rf⟩, fun z => absurd rfl z⟩, fun (q : ¬ b < 0) => ⟨rfl, fun (q2 : h.1 10 6 ≤ b) => ⟨fun _ => ⟨rfl, rfl, rfl, fq.rf⟩, fun z => absurd rfl z⟩, fun (q2 : ¬ h.1 10 6 ≤ b) => absurd ⟨Int32.not_lt.mp q, by rw [hpp] at q2; exact Int32.not_le.mp q2⟩ hb⟩⟩⟩⟩
