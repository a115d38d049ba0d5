/-! the reference: by turns -/
def frs (w mi : Nat → Int32) (p f o : Nat) : Int32 := if s_hears w o p then s_whole w f &&& (mi o ^^^ -1) else 0
def toldN (w mi : Nat → Int32) (p f : Nat) : Nat → Nat
  | 0 => 0
  | o + 1 => toldN w mi p f o + worthN w (frs w mi p f o) 6
def tM (w : Nat → Int32) (n : Nat) (mi : Nat → Int32) (p f : Nat) : Nat → Int32 := fun o => if o < n then mi o ||| frs w mi p f o else mi o
theorem toldN_le {w : Nat → Int32} (hw : VW w) (mi : Nat → Int32) (p f : Nat) : ∀ o, toldN w mi p f o ≤ 120 * o
  | 0 => Nat.le_refl _
  | o + 1 => by
    rw [toldN]
    have := toldN_le hw mi p f o
    have := (worth_N hw (frs w mi p f o) 6 (Nat.le_refl _)).2
    omega
theorem e_forget {G : qm_G} (hG : G.2.2.2.2 = true) (d : Nat) (h : qm_H) {t : Nat} (ht : h.1 26 22 = nI t) (hk : t < 2) : qm_Ev G (d + 1) 0 0 qyX10_forget [.ref 26] h (fun r h' => r = none ∧ (∀ j, j < 6 → h'.1 39 j = mi0 (tw h t) j) ∧ sb [39] h h') := by
  refine qm_Ev.by (M := mX10_forget) okX10_forget (Nat.le_of_ble_eq_true rfl) hG fun z hA => ?_
  refine qm_wp_ok hA [2] 20 _ _ _ _ _ _ ?_
  refine qm_for (P := fun i => ∀ h', sb [39] h h' → (∀ j, j < i → h'.1 39 j = mi0 (tw h t) j) → qm_PW G mX10_forget z 2 0 0 [vr 26, vi (nI i)] [] h') (N := 6) ?_ ?_ h sb.rf (fun j q => by omega)
  · intro h' c1 c2
    exact qm_wp_ok hA [] 20 _ _ _ _ _ _ ⟨fun _ => ⟨rfl, rfl, c2, c1⟩, fun q => absurd (by decide) q⟩
  · intro i hi nx h' c1 c2
    have e1 : (19 : Int32) + nI i = nI (19 + i) := nI_add 19 i
    have g1 : tw h' t = tw h t := by unfold tw; rw [c1.2 32 (by decide)]
    refine qm_wp_ok hA [2] 40 _ _ _ _ _ _ ⟨fun q => absurd q (nI_ge hi (by decide)), fun _ => ⟨rfl, _, rfl, rfl, 0, 0, _, (by rw [e1]; exact e_of hG d h' (t := t) (j := 19 + i) (by rw [c1.2 26 (by decide), ht]) hk (by omega)), ⟨Nat.le_refl _, Nat.le_refl _⟩, ?_⟩⟩
    rintro _ _ ⟨rfl, rfl⟩
    rw [g1]
    refine ⟨rfl, (vp_in_nI (by omega) (by decide) : vp_in (nI i) 6), ?_⟩
    rw [nI_clamp (by omega)]
    have k := nx (qm_si h' 39 i (tw h t (19 + i))) (c1.si (by decide)) (fun j hj => by
      rw [si_row]
      by_cases e : j = i
      · rw [e, up_s]; rfl
      · rw [up_n _ _ e]; exact c2 j (by omega))
    rw [← nI_1] at k
    exact k
theorem e_nowTold {G : qm_G} (hG : G.2.2.2.2 = true) (d : Nat) (h : qm_H) {t n p f : Nat} (ht : h.1 26 22 = nI t) (hk : t < 2) (hn : h.1 26 23 = nI n) (hn6 : n ≤ 6) (hw : VW (tw h t)) (hf : f < 6) (mi : Nat → Int32) (hmi : ∀ j, j < 6 → h.1 39 j = mi j) : qm_Ev G (d + 2) 0 0 qyX10_nowTold [.ref 26, .int (nI p), .int (nI f)] h (fun r h' => r = some (.int (nI (toldN (tw h t) mi p f n))) ∧ (∀ j, j < 6 → h'.1 39 j = tM (tw h t) n mi p f j) ∧ sb [39] h h') := by
  refine qm_Ev.by (M := mX10_nowTold) okX10_nowTold (Nat.le_of_ble_eq_true rfl) hG fun z hA => ?_
  refine qm_wp_ok hA [4] 20 _ _ _ _ _ _ ?_
  refine qm_for (P := fun o => ∀ h', sb [39] h h' → (∀ j, j < 6 → h'.1 39 j = tM (tw h t) o mi p f j) → qm_PW G mX10_nowTold z 4 0 0 [vr 26, vi (nI p), vi (nI f), vi (nI (toldN (tw h t) mi p f o)), vi (nI o), vu] [] h') (N := n) ?_ ?_ h sb.rf (fun j q => by rw [tM, if_neg (by omega)]; exact hmi j q)
  · intro h' c1 c2
    have e23 : h'.1 26 23 = nI n := by rw [c1.2 26 (by decide), hn]
    exact qm_wp_ok hA [] 20 _ _ _ _ _ _ ⟨rfl, fun _ => ⟨trivial, rfl, c2, c1⟩, fun (q : ¬ h'.1 26 23 ≤ nI n) => absurd (by rw [e23]; exact Int32.le_refl _) q⟩
  · intro o ho nx h' c1 c2
    have e22 : h'.1 26 22 = nI t := by rw [c1.2 26 (by decide), ht]
    have e23 : h'.1 26 23 = nI n := by rw [c1.2 26 (by decide), hn]
    have g1 : tw h' t = tw h t := by unfold tw; rw [c1.2 32 (by decide)]
    have ho6 : o < 6 := by omega
    have ein : vp_in (nI o) 6 := vp_in_nI ho6 (by decide)
    have em : h'.1 39 o = mi o := by rw [c2 o ho6, tM, if_neg (by omega)]
    obtain ⟨j1, j2⟩ := worth_N hw (frs (tw h t) mi p f o) 6 (Nat.le_refl _)
    have m25 : ∀ s, s = frs (tw h t) mi p f o → qm_PW G mX10_nowTold z 25 0 0 [vr 26, vi (nI p), vi (nI f), vi (nI (toldN (tw h t) mi p f o)), vi (nI o), vu] [.int s] h' := by
      intro s hs
      refine qm_wp_ok hA [4] 40 _ _ _ _ _ _ ⟨rfl, 0, 0, _, e_worthOf hG d h' e22 hk s, ⟨Nat.le_refl _, Nat.le_refl _⟩, ?_⟩
      rintro _ _ ⟨rfl, rfl⟩
      rw [g1]
      refine ⟨rfl, _, rfl, rfl, ein, rfl, ein, ?_⟩
      rw [nI_clamp (by omega), em, hs, j1]
      have k := nx (qm_si h' 39 o (mi o ||| frs (tw h t) mi p f o)) (c1.si (by decide)) (fun j hj => by
        rw [si_row]
        by_cases e : j = o
        · rw [e, up_s, tM, if_pos (by omega)]
        · rw [up_n _ _ e, c2 j hj, tM, tM]
          by_cases q : j < o
          · rw [if_pos q, if_pos (by omega)]
          · rw [if_neg q, if_neg (by omega)])
      rw [← nI_1, toldN, ← nI_add] at k
      exact qm_PW.mask [true, true, true, true, true, false] k
    refine qm_wp_ok hA [25] 40 _ _ _ _ _ _ ⟨rfl, fun (q : h'.1 26 23 ≤ nI o) => absurd q (by rw [e23]; exact nI_ge ho (by omega)), fun _ => ⟨rfl, 0, 0, _, e_hears hG d h' (p := p) e22 hk ho6, ⟨Nat.le_refl _, Nat.le_refl _⟩, ?_⟩⟩
    rintro _ _ ⟨rfl, rfl⟩
    rw [g1]
    refine b2_eq (fun hb => ?_) (fun hb => ?_)
    · refine ⟨rfl, 0, 0, _, e_whole hG d h' e22 hk hf, ⟨Nat.le_refl _, Nat.le_refl _⟩, ?_⟩
      rintro _ _ ⟨rfl, rfl⟩
      rw [g1]
      refine ⟨rfl, _, rfl, rfl, ein, ?_⟩
      refine m25 (s_whole (tw h t) f &&& (h'.1 39 (nI o).toNatClampNeg ^^^ -1)) ?_
      rw [nI_clamp (by omega), em, frs, if_pos hb]
    · exact m25 0 (by rw [frs, if_neg (by rw [hb]; decide)])
def iI (x : Int) : Int32 := Int32.ofInt x
theorem iI_add (x y : Int) : iI x + iI y = iI (x + y) := (Int32.ofInt_add x y).symm
theorem iI_n (n : Nat) : iI n = nI n := rfl
theorem iI_neg (x : Int) : - iI x = iI (-x) := (Int32.ofInt_neg x).symm
theorem iI_t {x : Int} (h1 : -100000 ≤ x) (h2 : x ≤ 100000) : (iI x).toInt = x := by
  rw [iI, Int32.toInt_ofInt]
  exact Int.bmod_eq_of_le (by simp; omega) (by simp; omega)
theorem iI_le {x y : Int} (h1 : -100000 ≤ x) (h2 : x ≤ 100000) (h3 : -100000 ≤ y) (h4 : y ≤ 100000) : iI x ≤ iI y ↔ x ≤ y := by
  rw [Int32.le_iff_toInt_le, iI_t h1 h2, iI_t h3 h4]
theorem iI_eq {x y : Int} (h1 : -100000 ≤ x) (h2 : x ≤ 100000) (h3 : -100000 ≤ y) (h4 : y ≤ 100000) : iI x = iI y ↔ x = y :=
  ⟨fun q => by rw [← iI_t h1 h2, ← iI_t h3 h4, q], fun q => by rw [q]⟩
def sg (t : Nat) : Int := if t % 2 = 0 then 1 else -1
def gst : Type := (Nat → Int32) × Nat × Int
def mvb (n : Nat) (mi : Nat → Int32) (had v : Nat) : Bool := decide (v / 6 < n) && (!bit (nI had) (nI (v / 6)) && bit (mi (v / 6)) (nI (v % 6)))
def stp (w : Nat → Int32) (n t : Nat) (mi : Nat → Int32) (had : Nat) (acc : Int) (v : Nat) : Option ((Nat → Int32) × Nat × Int) :=
  if v = 36 then some (mi, had, acc) else if mvb n mi had v then some (tM w n mi (v / 6) (v % 6), had ||| 2 ^ (v / 6), acc + sg t * (toldN w mi (v / 6) (v % 6) n : Int)) else none
def pth (w : Nat → Int32) (n : Nat) : Nat → Nat → Option ((Nat → Int32) × Nat × Int)
  | 0, _ => some (mi0 w, 0, 0)
  | t + 1, k => match pth w n t (k / 37) with
    | none => none
    | some (mi, had, acc) => stp w n t mi had acc (k % 37)
theorem pth_no {w : Nat → Int32} {n : Nat} : ∀ (r t number : Nat), pth w n t (number / 37 ^ r) = none → pth w n (t + r) number = none
  | 0, t, number, h => by rw [Nat.pow_zero, Nat.div_one] at h; exact h
  | r + 1, t, number, h => by
    have e : pth w n (t + 1) (number / 37 ^ r) = none := by
      rw [pth, Nat.div_div_eq_div_mul, ← Nat.pow_succ, h]
    have := pth_no r (t + 1) number e
    rw [show t + (r + 1) = t + 1 + r by omega]
    exact this
theorem stp_b {w : Nat → Int32} (hw : VW w) {n t : Nat} (hn : n ≤ 6) {mi : Nat → Int32} {had : Nat} {acc : Int} {v : Nat} {mi' : Nat → Int32} {had' : Nat} {acc' : Int} (h : stp w n t mi had acc v = some (mi', had', acc')) (h1 : had < 64) (h2 : -720 * t ≤ acc) (h3 : acc ≤ 720 * t) : had' < 64 ∧ -720 * ((t : Int) + 1) ≤ acc' ∧ acc' ≤ 720 * ((t : Int) + 1) := by
  rw [stp] at h
  split at h
  · have := Option.some.inj h
    injection this with a b
    injection b with b c
    omega
  · split at h
    · rename_i c
      have hp : v / 6 < n := of_decide_eq_true (Bool.and_eq_true_iff.mp c).1
      have := Option.some.inj h
      injection this with a b
      injection b with b c
      have h4 := toldN_le hw mi (v / 6) (v % 6) n
      refine ⟨by rw [← b]; exact Nat.or_lt_two_pow (n := 6) h1 (Nat.pow_lt_pow_right (by decide) (by omega)), ?_, ?_⟩
      all_goals
        rw [← c, sg]
        split <;> omega
    · exact absurd h (by simp)
theorem pth_b {w : Nat → Int32} (hw : VW w) {n : Nat} (hn : n ≤ 6) : ∀ (t k : Nat) (mi : Nat → Int32) (had : Nat) (acc : Int), pth w n t k = some (mi, had, acc) → had < 64 ∧ -720 * (t : Int) ≤ acc ∧ acc ≤ 720 * (t : Int)
  | 0, k, mi, had, acc, h => by
    rw [pth] at h
    have := Option.some.inj h
    injection this with a b
    injection b with b c
    omega
  | t + 1, k, mi, had, acc, h => by
    rw [pth] at h
    cases q : pth w n t (k / 37) with
    | none => rw [q] at h; exact absurd h (by simp)
    | some st =>
      obtain ⟨mi1, had1, acc1⟩ := st
      rw [q] at h
      obtain ⟨b1, b2, b3⟩ := pth_b hw hn t _ mi1 had1 acc1 q
      have := stp_b hw hn h b1 b2 b3
      omega
def oE (o : Option ((Nat → Int32) × Nat × Int)) : Int32 := match o with
  | none => -9999
  | some (_, _, acc) => iI acc
theorem e_endOf {G : qm_G} (hG : G.2.2.2.2 = true) (d : Nat) (h : qm_H) {t n N number : Nat} (ht : h.1 26 22 = nI t) (hk : t < 2) (hn : h.1 26 23 = nI n) (hn6 : n ≤ 6) (hw : VW (tw h t)) (hN : N ≤ 3) (hnum : number < 37 ^ N) : qm_Ev G (d + 3) 0 0 qyX10_endOf [.ref 26, .int (nI N), .int (nI number)] h (fun r h' => r = some (.int (oE (pth (tw h t) n N number))) ∧ sb [39] h h') := by
  obtain ⟨E, hE⟩ : ∃ E, E = oE (pth (tw h t) n N number) := ⟨_, rfl⟩
  rw [← hE]
  have hpow : ∀ r, r ≤ 3 → 0 < 37 ^ r ∧ 37 ^ r ≤ 50653 := by decide
  have hnum2 : number < 50653 := Nat.lt_of_lt_of_le hnum (hpow N hN).2
  refine qm_Ev.by (M := mX10_endOf) okX10_endOf (Nat.le_of_ble_eq_true rfl) hG fun z hA => ?_
  have loop : ∀ r s : Nat, s + r = N → ∀ (h' : qm_H) (mi : Nat → Int32) (had : Nat) (acc : Int), pth (tw h t) n s (number / 37 ^ r) = some (mi, had, acc) → (∀ j, j < 6 → h'.1 39 j = mi j) → sb [39] h h' → qm_PW G mX10_endOf z 11 0 0 [vr 26, vi (nI N), vi (nI number), vi (nI had), vi (iI acc), vi (nI (37 ^ r)), vi (nI s), vu, vu, vu] [] h' := by
    intro r
    induction r with
    | zero =>
      intro s hs h' mi had acc c1 c2 c3
      obtain rfl : s = N := hs
      rw [Nat.pow_zero, Nat.div_one] at c1
      exact qm_wp_ok hA [] 20 _ _ _ _ _ _ ⟨fun _ => ⟨trivial, by rw [hE, c1]; rfl, c3⟩, fun (q : ¬ nI s ≤ nI s) => absurd (Int32.le_refl _) q⟩
    | succ r ih =>
      intro s hs h' mi had acc c1 c2 c3
      obtain ⟨b1, b2, b3⟩ := pth_b hw hn6 s _ _ _ _ c1
      have e22 : h'.1 26 22 = nI t := by rw [c3.2 26 (by decide), ht]
      have e23 : h'.1 26 23 = nI n := by rw [c3.2 26 (by decide), hn]
      have g1 : tw h' t = tw h t := by unfold tw; rw [c3.2 32 (by decide)]
      obtain ⟨p1, p2⟩ := hpow r (by omega)
      obtain ⟨p3, p4⟩ := hpow (r + 1) (by omega)
      have ed : nI (37 ^ (r + 1)) / 37 = nI (37 ^ r) := by
        rw [show (37 : Int32) = nI 37 from rfl, pk_div (by omega) (by decide) (by decide), Nat.pow_succ, Nat.mul_div_cancel _ (by decide)]
      obtain ⟨K, hK⟩ : ∃ K, K = number / 37 ^ r := ⟨_, rfl⟩
      have hKl : K ≤ number := by rw [hK]; exact Nat.div_le_self _ _
      have ev : nI number / nI (37 ^ r) = nI K := by rw [pk_div (by omega) p1 (by omega), hK]
      have er : nI K - nI K / 37 * 37 = nI (K % 37) := by rw [show (37 : Int32) = nI 37 from rfl, pk_rem (by omega) (by decide) (by decide)]
      obtain ⟨v, hv⟩ : ∃ v, v = K % 37 := ⟨_, rfl⟩
      have hv37 : v < 37 := by omega
      have e6 : nI v / 6 = nI (v / 6) := by rw [show (6 : Int32) = nI 6 from rfl, pk_div (by omega) (by decide) (by decide)]
      have e6r : nI v - nI v / 6 * 6 = nI (v % 6) := by rw [show (6 : Int32) = nI 6 from rfl, pk_rem (by omega) (by decide) (by decide)]
      have epth : pth (tw h t) n (s + 1) K = stp (tw h t) n s mi had acc v := by
        rw [pth, hK, Nat.div_div_eq_div_mul, ← Nat.pow_succ, c1, hv, hK]
      have hbad : stp (tw h t) n s mi had acc v = none → (-9999 : Int32) = E := fun q => by
        rw [q, hK] at epth
        have := pth_no r (s + 1) number epth
        rw [show s + 1 + r = N by omega] at this
        rw [hE, this]; rfl
      have nx : ∀ h2 mi2 had2 acc2, stp (tw h t) n s mi had acc v = some (mi2, had2, acc2) → (∀ j, j < 6 → h2.1 39 j = mi2 j) → sb [39] h h2 → qm_PW G mX10_endOf z 11 0 0 [vr 26, vi (nI N), vi (nI number), vi (nI had2), vi (iI acc2), vi (nI (37 ^ r)), vi (nI s + 1), vu, vu, vu] [] h2 := fun h2 mi2 had2 acc2 q1 q2 q3 => by
        rw [nI_1]
        exact ih (s + 1) (by omega) h2 mi2 had2 acc2 (by rw [← hK, epth, q1]) q2 q3
      have n37 : ¬ (37 : Int32) = 0 := by decide
      have n6 : ¬ (6 : Int32) = 0 := by decide
      have nw : ¬ nI (37 ^ r) = 0 := fun q => by have := (nI_eq (b := 0) (by omega) (by decide)).mp q; omega
      refine qm_wp_ok hA [11] 80 _ _ _ _ _ _ ⟨fun (q : nI N ≤ nI s) => absurd q (nI_ge (by omega) (by omega)), fun _ => ⟨n37, (by rw [ed]; exact nw), n37, n6, ?_⟩⟩
      rw [ed, ev, er, ← hv]
      refine ⟨fun (q : nI 36 ≤ nI v) => ?_, fun (q : ¬ nI 36 ≤ nI v) => ?_⟩
      · have hv36 : v = 36 := by have := (nI_leI (by omega) (by omega)).mp q; omega
        exact qm_PW.mask [true, true, true, true, true, true, true, false, false, false] (nx h' mi had acc (by rw [stp, if_pos hv36]) c2 c3)
      · have hv36 : ¬ v = 36 := fun e => q (by rw [e]; exact Int32.le_refl _)
        refine ⟨rfl, ?_⟩
        rw [e6]
        refine ⟨fun (q : h'.1 26 23 ≤ nI (v / 6)) => ⟨trivial, by rw [hbad (by
          rw [e23] at q
          have := (nI_leI (by omega) (by omega)).mp q
          rw [stp, if_neg hv36, mvb, decide_eq_false (by omega)]; rfl)], c3⟩, fun (q : ¬ h'.1 26 23 ≤ nI (v / 6)) => ?_⟩
        have hvn : v / 6 < n := by
          rw [e23] at q
          rcases Nat.lt_or_ge (v / 6) n with e | e
          · exact e
          · exact absurd (nI_le e (by omega)) q
        refine ⟨0, 0, _, e_has hG (d + 2) h' (nI had) (nI (v / 6)), ⟨Nat.le_refl _, Nat.le_refl _⟩, ?_⟩
        rintro _ _ ⟨rfl, rfl⟩
        refine b2_ne (fun hb => ⟨trivial, by rw [hbad (by rw [stp, if_neg hv36, mvb, hb, decide_eq_true hvn]; rfl)], c3⟩) (fun hb => ?_)
        refine ⟨rfl, _, rfl, rfl, (vp_in_nI (by omega) (by decide) : vp_in (nI (v / 6)) 6), n6, ?_⟩
        rw [← e6, e6r, e6, nI_clamp (by omega), c2 (v / 6) (by omega)]
        refine ⟨0, 0, _, e_has hG (d + 2) h' (mi (v / 6)) (nI (v % 6)), ⟨Nat.le_refl _, Nat.le_refl _⟩, ?_⟩
        rintro _ _ ⟨rfl, rfl⟩
        refine b2_ne (fun hb2 => ?_) (fun hb2 => ⟨trivial, by rw [hbad (by rw [stp, if_neg hv36, mvb, hb, hb2, decide_eq_true hvn]; rfl)], c3⟩)
        have hmv : mvb n mi had v = true := by rw [mvb, hb, hb2, decide_eq_true hvn]; rfl
        refine ⟨n6, rfl, ?_⟩
        rw [← e6, e6r, e6]
        refine ⟨0, 0, _, e_nowTold hG d h' (p := v / 6) (f := v % 6) e22 hk e23 hn6 (by rw [g1]; exact hw) (by omega) mi c2, ⟨Nat.le_refl _, Nat.le_refl _⟩, ?_⟩
        rintro _ h2 ⟨rfl, d1, d2⟩
        rw [g1] at d1 ⊢
        obtain ⟨o1, o2⟩ := s_or1 b1 (by omega : v / 6 < 6)
        have e2r : nI s - nI s / 2 * 2 = nI (s % 2) := by rw [show (2 : Int32) = nI 2 from rfl, pk_rem (by omega) (by decide) (by decide)]
        refine ⟨(by decide : ¬ (2 : Int32) = 0), ?_⟩
        rw [e2r]
        have k := nx h2 (tM (tw h t) n mi (v / 6) (v % 6)) (had ||| 2 ^ (v / 6)) (acc + sg s * (toldN (tw h t) mi (v / 6) (v % 6) n : Int)) (by rw [stp, if_neg hv36, if_pos hmv]) d1 (c3.tr d2)
        rw [← o1, ← iI_add] at k
        refine ⟨fun (q : ¬ nI (s % 2) = 0) => ?_, fun (q : nI (s % 2) = 0) => ?_⟩
        · rw [sg, if_neg (fun e => q (by rw [e]; rfl)), Int.neg_one_mul, ← iI_neg] at k
          exact qm_PW.mask [true, true, true, true, true, true, true, false, false, false] k
        · rw [sg, if_pos ((nI_eq (b := 0) (by omega) (by decide)).mp q), Int.one_mul] at k
          exact qm_PW.mask [true, true, true, true, true, true, true, false, false, false] k
  refine qm_wp_ok hA [11] 20 _ _ _ _ _ _ ?_
  refine ⟨rfl, 0, 0, _, e_forget hG (d + 1) h ht hk, ⟨Nat.le_refl _, Nat.le_refl _⟩, ?_⟩
  rintro _ h1 ⟨rfl, c1, c2⟩
  refine ⟨0, 0, _, e_allEnds hG (d + 2) h1 hN, ⟨Nat.le_refl _, Nat.le_refl _⟩, ?_⟩
  rintro _ _ ⟨rfl, rfl⟩
  exact loop N 0 (Nat.zero_add _) h1 (mi0 (tw h t)) 0 0 rfl c1 c2
