/-! the class: searches that keep the first of the best; chains -/
/-- what is kept of m0, r0 beside a row R of worth V -/
def KB (dom : Nat → Nat) (m0 : Int32) (r0 : Nat → Int32) (V : Nat) (R : Nat → Int32) (m1 : Int32) (r1 : Nat → Int32) : Prop := (nI V ≤ m0 → m1 = m0 ∧ ∀ j, j < 6 → r1 j = r0 j) ∧ (¬ nI V ≤ m0 → m1 = nI V ∧ ∀ j, j < dom V → r1 j = R j)
theorem KB.two {dom : Nat → Nat} {m0 m1 m2 : Int32} {r0 r1 r2 R1 R2 : Nat → Int32} {V1 V2 : Nat} (h1 : V1 < 2 ^ 31) (h2 : V2 < 2 ^ 31) (hd : dom V1 ≤ 6) (a : KB dom m0 r0 V1 R1 m1 r1) (b : KB dom m1 r1 V2 R2 m2 r2) : KB dom m0 r0 (if V1 < V2 then V2 else V1) (if V1 < V2 then R2 else R1) m2 r2 := by
  by_cases c : V1 < V2
  · rw [if_pos c, if_pos c]
    have le12 := nI_le (Nat.le_of_lt c) h2
    constructor
    · intro q
      obtain ⟨e1, f1⟩ := a.1 (Int32.le_trans le12 q)
      obtain ⟨e2, f2⟩ := b.1 (by rw [e1]; exact q)
      exact ⟨e2.trans e1, fun j hj => (f2 j hj).trans (f1 j hj)⟩
    · intro q
      by_cases q1 : nI V1 ≤ m0
      · obtain ⟨e1, f1⟩ := a.1 q1
        exact b.2 (by rw [e1]; exact q)
      · obtain ⟨e1, f1⟩ := a.2 q1
        exact b.2 (by rw [e1]; exact nI_ge c h2)
  · rw [if_neg c, if_neg c]
    have le21 : nI V2 ≤ nI V1 := nI_le (by omega) h1
    constructor
    · intro q
      obtain ⟨e1, f1⟩ := a.1 q
      obtain ⟨e2, f2⟩ := b.1 (by rw [e1]; exact Int32.le_trans le21 q)
      exact ⟨e2.trans e1, fun j hj => (f2 j hj).trans (f1 j hj)⟩
    · intro q
      obtain ⟨e1, f1⟩ := a.2 q
      obtain ⟨e2, f2⟩ := b.1 (by rw [e1]; exact le21)
      exact ⟨e2.trans e1, fun j hj => (f2 j (by omega)).trans (f1 j hj)⟩
theorem KB.co {dom : Nat → Nat} {m0 m1 : Int32} {r0 r1 R R' : Nat → Int32} {V : Nat} (a : KB dom m0 r0 V R m1 r1) (h : ∀ j, j < dom V → R j = R' j) : KB dom m0 r0 V R' m1 r1 := ⟨a.1, fun q => ⟨(a.2 q).1, fun j hj => ((a.2 q).2 j hj).trans (h j hj)⟩⟩
/-- the search alone may differ, of its numbers `most` -/
def fs (h h' : qm_H) : Prop := h'.2 = h.2 ∧ (∀ q, q ∉ [17, 18, 19] → h'.1 q = h.1 q) ∧ ∀ k, k ≠ 0 → h'.1 17 k = h.1 17 k
theorem fs.rf {h : qm_H} : fs h h := ⟨rfl, fun _ _ => rfl, fun _ _ => rfl⟩
theorem fs.tr {h h1 h2 : qm_H} (a : fs h h1) (b : fs h1 h2) : fs h h2 := ⟨b.1.trans a.1, fun q hq => (b.2.1 q hq).trans (a.2.1 q hq), fun k hk => (b.2.2 k hk).trans (a.2.2 k hk)⟩
theorem fs.s19 {h h1 : qm_H} (a : fs h h1) {k : Nat} {v : Int32} : fs h (qm_si h1 19 k v) := ⟨a.1, fun q hq => by
  rw [si_ne _ _ _ (fun e => hq (by rw [e]; decide))]; exact a.2.1 q hq, fun k hk => by rw [si_ne _ _ _ (by decide)]; exact a.2.2 k hk⟩
theorem fsXL : ∀ q, q ∈ [17, 18, 19] → q ∈ XL := by decide
theorem fs.x {h h1 : qm_H} (a : fs h h1) : sb XL h h1 := ⟨a.1, fun q hq => a.2.1 q (fun e => hq (fsXL q e))⟩
theorem fs.to {h h1 : qm_H} (a : fs h h1) {P n : Nat} {w : Nat → Int32} (t : TO h P w n) : TO h1 P w n := t.sb a.x XL51
theorem c_keep {G : qm_G} (hG : G.2.2.2.2 = true) (d : Nat) (h : qm_H) (dom : Nat → Nat) (hd : ∀ V, dom V ≤ 6) {V : Nat} : qm_Ev G (d + 1) 0 0 qyX4_keep [.ref 17, .int (nI V)] h (fun r h' => r = none ∧ KB dom (h.1 17 0) (h.1 18) V (h.1 19) (h'.1 17 0) (h'.1 18) ∧ h'.1 19 = h.1 19 ∧ fs h h') := by
  refine qm_Ev.by (M := mX4_keep) okX4_keep (Nat.le_of_ble_eq_true rfl) hG fun z hA => ?_
  refine qm_wp_ok hA [16] 40 _ _ _ _ _ _ ⟨rfl, fun (c : nI V ≤ h.1 17 0) => ⟨rfl, rfl, ⟨fun _ => ⟨rfl, fun _ _ => rfl⟩, fun q => absurd c q⟩, rfl, fs.rf⟩, fun (c : ¬ nI V ≤ h.1 17 0) => ⟨rfl, trivial, rfl, _, rfl, rfl, _, rfl, rfl, _, rfl, rfl, ?_⟩⟩
  refine sp_cpn hA rfl rfl rfl (k1 := 774) (by decide +kernel) (Nat.le_of_ble_eq_true rfl) (kd := 10) (p := 19) (q := 18) (a := 0) (a' := 0) (m := 6) (Or.inl rfl) rfl rfl rfl rfl rfl (by decide) (by decide) (by decide) (Nat.le_refl _) (Nat.le_refl _) (fun q => absurd q (by decide)) ?_
  intro h2 d2 k2 c2 _
  have e17 : h2.1 17 = (qm_si h 17 0 (nI V)).1 17 := k2 17 (by decide)
  refine qm_wp_ok hA [] 20 _ _ _ _ _ _ ⟨rfl, rfl, ⟨fun q => absurd q c, fun _ => ⟨by rw [e17, si_s], fun j hj => ?_⟩⟩, k2 19 (by decide), d2, fun q hq => ?_, fun k hk => ?_⟩
  · have := c2 j (Nat.lt_of_lt_of_le hj (hd V))
    rw [Nat.zero_add] at this
    exact this
  · rw [k2 q (fun e => hq (by rw [e]; decide)), si_ne _ _ _ (fun e => hq (by rw [e]; decide))]
  · rw [e17, si_row, up_n _ _ hk]
theorem c_found {G : qm_G} (hG : G.2.2.2.2 = true) (d : Nat) (h : qm_H) (k : Int32) : qm_Ev G d 0 0 qyX4_found [.ref 17, .int k] h (fun r h' => r = some (.int (if k = -1 then h.1 17 0 else if inb k 6 then h.1 18 k.toNatClampNeg else -1)) ∧ h = h') := by
  have ia := inb_lt (a := k) (n := 6) (by decide)
  by_cases c1 : k = -1
  · rw [if_pos c1]
    refine qm_Ev.run (M := mX4_found) okX4_found rfl hG fun z => ?_
    exact ⟨fun q => absurd c1 q, fun _ => ⟨rfl, trivial, rfl, rfl⟩⟩
  · rw [if_neg c1]
    by_cases c : inb k 6 = true
    · obtain ⟨s, s1, rfl⟩ := inb_e (by decide) c
      rw [c, if_pos rfl]
      refine qm_Ev.run (M := mX4_found) okX4_found rfl hG fun z => ?_
      exact ⟨fun _ => ⟨fun q => absurd q (nI_pos (by omega)), fun _ => ⟨rfl, _, rfl, rfl, fun (q : nI 6 ≤ nI s) => absurd q (nI_ge s1 (by decide)), fun _ => ⟨rfl, _, rfl, rfl, (vp_in_nI s1 (by decide) : vp_in (nI s) 6), trivial, rfl, rfl⟩⟩⟩, fun q => absurd q c1⟩
    · rw [if_neg c]
      rw [ia, Bool.and_eq_true, decide_eq_true_eq, decide_eq_true_eq] at c
      refine qm_Ev.run (M := mX4_found) okX4_found rfl hG fun z => ?_
      exact ⟨fun _ => ⟨fun _ => ⟨trivial, rfl, rfl⟩, fun (q : ¬ k < 0) => ⟨rfl, _, rfl, rfl, fun _ => ⟨trivial, rfl, rfl⟩, fun (q2 : ¬ nI 6 ≤ k) => absurd ⟨Int32.not_lt.mp q, Int32.not_le.mp q2⟩ c⟩⟩, fun q => absurd q c1⟩
/-! chains -/
def lnx (w : Nat → Int32) (ahead : Nat) : Int32 := if ahead = 6 then 63 else w (7 + ahead)
theorem may_i {w : Nat → Int32} {n had ahead f : Nat} (v : VT w n) (ha : ahead ≤ 6) (hh : had < 64) (hf : f < 6) : bit (lnx w ahead &&& (nI had ^^^ -1)) (nI f) = s_may w had ahead f := by
  rw [bit_and _ _ (by omega), bit_not _ (by omega), s_may, lnx]
  by_cases c : ahead = 6
  · rw [if_pos c, decide_eq_true c, show (63 : Int32) = nI (2 ^ 6 - 1) from rfl, bit_n (2 ^ 6 - 1) (by omega), Nat.testBit_two_pow_sub_one, decide_eq_true hf]
    cases bit (nI had) (nI f) <;> rfl
  · rw [if_neg c, decide_eq_false c]
    cases bit (nI had) (nI f) <;> cases bit (w (7 + ahead)) (nI f) <;> rfl
/-- the first of the longest ways over the first facts -/
def lpf (w : Nat → Int32) (k ahead had f : Nat) : Nat × List Nat := match f with
  | 0 => (0, [])
  | f + 1 => if s_may w had ahead f = true ∧ (lpf w k ahead had f).1 < 1 + cLen w k f (had ||| 2 ^ f) then (1 + cLen w k f (had ||| 2 ^ f), f :: cPath w k f (had ||| 2 ^ f)) else lpf w k ahead had f
theorem lpf_1 (w : Nat → Int32) (k ahead had : Nat) : ∀ f, (lpf w k ahead had f).1 = cLm w had ahead (fun f => cLen w k f (had ||| 2 ^ f)) f
  | 0 => rfl
  | f + 1 => by
    rw [lpf, cLm, ← lpf_1 w k ahead had f]
    cases q : s_may w had ahead f
    · rw [if_neg (fun z => absurd z.1 (by decide)), if_neg (by decide), Nat.max_zero]
    · rw [if_pos rfl]
      by_cases c : (lpf w k ahead had f).1 < 1 + cLen w k f (had ||| 2 ^ f)
      · rw [if_pos ⟨rfl, c⟩, Nat.max_eq_right (by omega)]
      · rw [if_neg (fun z => c z.2), Nat.max_eq_left (by omega)]
theorem lpf_2 (w : Nat → Int32) (k ahead had : Nat) : ∀ f, ((lpf w k ahead had f).1 = 0 ∧ (lpf w k ahead had f).2 = []) ∨ ∃ g, g < f ∧ s_may w had ahead g = true ∧ (lpf w k ahead had f).1 = 1 + cLen w k g (had ||| 2 ^ g) ∧ (lpf w k ahead had f).2 = g :: cPath w k g (had ||| 2 ^ g) ∧ ∀ j, j < g → ¬ (s_may w had ahead j = true ∧ (lpf w k ahead had f).1 ≤ 1 + cLen w k j (had ||| 2 ^ j))
  | 0 => Or.inl ⟨rfl, rfl⟩
  | f + 1 => by
    rw [lpf]
    split
    · rename_i c
      refine Or.inr ⟨f, by omega, c.1, rfl, rfl, fun j hj z => ?_⟩
      have z2 : 1 + cLen w k f (had ||| 2 ^ f) ≤ 1 + cLen w k j (had ||| 2 ^ j) := z.2
      have : ∀ m j, j < m → s_may w had ahead j = true → 1 + cLen w k j (had ||| 2 ^ j) ≤ cLm w had ahead (fun f => cLen w k f (had ||| 2 ^ f)) m := by
        intro m
        induction m with
        | zero => intro j hj; omega
        | succ m ih =>
          intro j hj hm
          rw [cLm]
          by_cases e : j = m
          · rw [e] at hm ⊢; rw [if_pos hm]; exact Nat.le_max_right _ _
          · exact Nat.le_trans (ih j (by omega) hm) (Nat.le_max_left _ _)
      have t := this f j hj z.1
      rw [← lpf_1 w k ahead had f] at t
      omega
    · rcases lpf_2 w k ahead had f with ⟨e1, e2⟩ | ⟨g, g1, g2, g3, g4, g5⟩
      · exact Or.inl ⟨e1, e2⟩
      · exact Or.inr ⟨g, by omega, g2, g3, g4, g5⟩
theorem lpf_6 (w : Nat → Int32) (k ahead had : Nat) : lpf w k ahead had 6 = (cLen w (k + 1) ahead had, cPath w (k + 1) ahead had) := by
  have e1 : (lpf w k ahead had 6).1 = cLen w (k + 1) ahead had := lpf_1 w k ahead had 6
  refine Prod.ext e1 ?_
  rw [cPath]
  rcases lpf_2 w k ahead had 6 with ⟨f1, f2⟩ | ⟨g, g1, g2, g3, g4, g5⟩
  · rw [f2, ← e1, if_pos f1]
  · have hpos : 0 < cLen w (k + 1) ahead had := by rw [← e1, g3]; omega
    obtain ⟨c1, c2, c3, c4⟩ := cF_spec w hpos
    have eg : cF w k ahead had = g := by
      rcases Nat.lt_trichotomy (cF w k ahead had) g with z | z | z
      · exact absurd ⟨c2, by rw [e1, c3]; exact Nat.le_refl _⟩ (g5 _ z)
      · exact z
      · exact absurd ⟨g2, by rw [← g3]; exact e1⟩ (c4 g z)
    rw [g4, if_neg (by omega), eg]
theorem pop_b : ∀ had, had < 64 → ∀ f, f < 6 → bit (nI had) (nI f) = false → had ||| 2 ^ f < 64 ∧ pop (had ||| 2 ^ f) = pop had + 1 := by decide +kernel
theorem cP_len (w : Nat → Int32) : ∀ k ahead had, (cPath w k ahead had).length = cLen w k ahead had
  | 0, _, _ => rfl
  | k + 1, ahead, had => by
    rw [cPath]
    split
    · rename_i c; rw [c]; rfl
    · rename_i c
      have hpos : 0 < cLen w (k + 1) ahead had := by omega
      obtain ⟨-, -, c3, -⟩ := cF_spec w hpos
      rw [List.length_cons, cP_len w k, ← c3]; omega
/-- a row: what is tried up to s, then a way -/
def lro (T : Nat → Int32) (s : Nat) (l : List Nat) : Nat → Int32 := fun j => if j < s then T j else nI (l.getD (j - s) 0)
theorem c_linkFrom {G : qm_G} (hG : G.2.2.2.2 = true) (d : Nat) {P n : Nat} {w : Nat → Int32} (v : VT w n) : ∀ (k : Nat) (h : qm_H) (s ahead had : Nat), TO h P w n → s + k = 6 → ahead ≤ 6 → had < 64 → pop had = s → qm_Ev G (d + k + 2) 0 0 qyX4_linkFrom [.ref 17, .ref P, .int (nI s), .int (lnx w ahead), .int (nI had)] h (fun r h' => r = none ∧ KB id (h.1 17 0) (h.1 18) (s + cLen w k ahead had) (lro (h.1 19) s (cPath w k ahead had)) (h'.1 17 0) (h'.1 18) ∧ (∀ j, j < s → h'.1 19 j = h.1 19 j) ∧ fs h h')
  | 0, h, s, ahead, had, t, hs, ha, hh, hp => by
    refine qm_Ev.by (M := mX4_linkFrom) okX4_linkFrom (Nat.le_of_ble_eq_true rfl) hG fun z hA => ?_
    refine qm_wp_ok hA [11] 30 _ _ _ _ _ _ ?_
    refine ⟨rfl, 0, 0, _, c_keep hG d h (fun V => min V 6) (fun V => Nat.min_le_right _ _), ⟨Nat.le_refl _, Nat.le_refl _⟩, ?_⟩
    rintro _ h1 ⟨rfl, kb, e19, f1⟩
    refine ⟨fun q => absurd q (nI_pos (by omega)), fun _ => ⟨fun q => absurd q (nI_nlt (a := s) (b := 6) (by omega) (by omega)), fun _ => ⟨rfl, rfl, ?_, fun j _ => by rw [e19], f1⟩⟩⟩
    rw [cLen, Nat.add_zero]
    refine ⟨kb.1, fun q => ⟨(kb.2 q).1, fun j (hj : j < s) => ?_⟩⟩
    rw [(kb.2 q).2 j (by show j < min s 6; omega), lro, if_pos hj]
  | k + 1, h, s, ahead, had, t, hs, ha, hh, hp => by
    refine qm_Ev.by (M := mX4_linkFrom) okX4_linkFrom (Nat.le_of_ble_eq_true rfl) hG fun z hA => ?_
    refine qm_wp_ok hA [11] 30 _ _ _ _ _ _ ?_
    refine ⟨rfl, 0, 0, _, c_keep hG _ h (fun V => min V 6) (fun V => Nat.min_le_right _ _), ⟨Nat.le_refl _, Nat.le_refl _⟩, ?_⟩
    rintro _ h1 ⟨rfl, kb0, e19, f1⟩
    have kb1 : KB id (h.1 17 0) (h.1 18) (s + (lpf w k ahead had 0).1) (lro (h.1 19) s (lpf w k ahead had 0).2) (h1.1 17 0) (h1.1 18) := ⟨kb0.1, fun q => ⟨(kb0.2 q).1, fun j (hj : j < s) => by rw [(kb0.2 q).2 j (by show j < min s 6; omega), lro, if_pos hj]⟩⟩
    refine ⟨fun q => absurd q (nI_pos (by omega)), fun _ => ⟨fun _ => ?_, fun q => absurd (nI_lt (b := 6) (by omega) (by decide)) q⟩⟩
    have lle : ∀ f, (lpf w k ahead had f).1 ≤ k + 1 := fun f => by rw [lpf_1]; exact cLm_le (fun f => cLen_le w k f _) f
    have start := qm_for (P := fun f => ∀ h', KB id (h.1 17 0) (h.1 18) (s + (lpf w k ahead had f).1) (lro (h.1 19) s (lpf w k ahead had f).2) (h'.1 17 0) (h'.1 18) → (∀ j, j < s → h'.1 19 j = h.1 19 j) → fs h h' → qm_PW G mX4_linkFrom z 11 0 0 [vr 17, vr P, vi (nI s), vi (lnx w ahead), vi (nI had), vi (nI f)] [] (h')) (N := 6) ?_ ?_
    · exact start h1 kb1 (fun j _ => by rw [e19]) f1
    · intro h' kb tr f
      refine qm_wp_ok hA [] 20 _ _ _ _ _ _ ⟨fun _ => ⟨rfl, rfl, ?_, tr, f⟩, fun z => absurd (by decide) z⟩
      rw [lpf_6] at kb
      exact kb
    · intro f hf key h' kb tr fr
      have t' := fr.to t
      rw [← nI_1] at key
      refine qm_wp_ok hA [11] 60 _ _ _ _ _ _ ⟨fun z => absurd z (nI_ge hf (by decide)), fun _ => ⟨0, 0, _, c_isIn hG _ h' _ (nI f), ⟨Nat.le_refl _, Nat.le_refl _⟩, ?_⟩⟩
      rintro _ _ ⟨rfl, rfl⟩
      rw [may_i v ha hh hf]
      refine b2_eq (fun hb => ?_) (fun hb => ?_)
      · have hbit := may_bit hb
        obtain ⟨p1, p2⟩ := pop_b had hh f hf hbit
        have hin : vp_in (nI s) 6 := vp_in_nI (by omega) (by decide)
        have es : (nI s).toNatClampNeg = s := nI_clamp (by omega)
        obtain ⟨h2, e2⟩ : ∃ h2, h2 = qm_si h' 19 s (nI f) := ⟨_, rfl⟩
        have fr2 : fs h h2 := by rw [e2]; exact fr.s19
        have t2 := fr2.to t
        have ev : h2.1 (P + 2) (nI f).toNatClampNeg = lnx w f := by rw [(t2.at hf).2.1, lnx, if_neg (by omega)]
        have ih := c_linkFrom hG d v k h2 (s + 1) f (had ||| 2 ^ f) t2 (by omega) (by omega) p1 (by omega)
        rw [← nI_1, ← (s_or1 hh hf).1, ← ev] at ih
        refine ⟨rfl, _, rfl, rfl, hin, ?_⟩
        rw [es, ← e2]
        refine ⟨t2.is, _, t2.rd (k := 2) (by decide) (by decide), t2.ar (k := 2) (by decide) (by decide), t2.ln (k := 2) (by decide) (by decide) hf, rfl, 0, 0, _, ih, ⟨Nat.le_refl _, Nat.le_refl _⟩, ?_⟩
        rintro _ h3 ⟨rfl, kb3, tr3, f3⟩
        have e18 : h2.1 18 = h'.1 18 := by rw [e2, si_ne _ _ _ (by decide)]
        have e17 : h2.1 17 0 = h'.1 17 0 := by rw [e2, si_ne _ _ _ (by decide)]
        rw [e18, e17] at kb3
        have cl := cLen_le w k f (had ||| 2 ^ f)
        have ll := lle f
        have kk := KB.two (dom := id) (by omega) (by omega) (show s + (lpf w k ahead had f).1 ≤ 6 by omega) kb kb3
        refine key h3 ?_ (fun j hj => ?_) (fr2.tr f3)
        · by_cases c : (lpf w k ahead had f).1 < 1 + cLen w k f (had ||| 2 ^ f)
          · have c' : s + (lpf w k ahead had f).1 < s + 1 + cLen w k f (had ||| 2 ^ f) := by omega
            rw [if_pos c', if_pos c'] at kk
            rw [lpf, if_pos ⟨hb, c⟩]
            have ee : s + (1 + cLen w k f (had ||| 2 ^ f)) = s + 1 + cLen w k f (had ||| 2 ^ f) := by omega
            show KB id _ _ (s + (1 + cLen w k f (had ||| 2 ^ f))) (lro (h.1 19) s (f :: cPath w k f (had ||| 2 ^ f))) _ _
            rw [ee]
            refine kk.co (fun j hj => ?_)
            rw [lro, lro]
            by_cases z : j < s
            · rw [if_pos (by omega), if_pos z, e2, si_row, up_n _ _ (by omega)]; exact tr j z
            · rw [if_neg z]
              by_cases z2 : j = s
              · rw [if_pos (by omega), z2, e2, si_row, up_s, Nat.sub_self]; rfl
              · rw [if_neg (by omega)]
                congr 1
                obtain ⟨i, hi⟩ : ∃ i, j - s = i + 1 := ⟨j - s - 1, by omega⟩
                rw [hi, show j - (s + 1) = i by omega]; rfl
          · have c' : ¬ s + (lpf w k ahead had f).1 < s + 1 + cLen w k f (had ||| 2 ^ f) := by omega
            rw [if_neg c', if_neg c'] at kk
            rw [lpf, if_neg (fun z => c z.2)]
            exact kk
        · rw [tr3 j (by omega), e2, si_row, up_n _ _ (by omega)]; exact tr j hj
      · refine key h' ?_ tr fr
        rw [lpf, if_neg (fun z => by rw [hb] at z; exact absurd z.1 (by decide))]
        exact kb
theorem c_link {G : qm_G} (hG : G.2.2.2.2 = true) (d : Nat) (h : qm_H) {P n : Nat} {w : Nat → Int32} (t : TO h P w n) (v : VT w n) : qm_Ev G (d + 9) 0 0 qyX4_link [.ref 17, .ref P] h (fun r h' => r = none ∧ h'.1 17 0 = nI (cLen w 6 6 0) ∧ (∀ j, j < cLen w 6 6 0 → h'.1 18 j = nI ((cPath w 6 6 0).getD j 0)) ∧ fs h h') := by
  have f0 : fs h (qm_si h 17 0 (-1)) := ⟨rfl, fun q hq => by rw [si_ne _ _ _ (fun e => hq (by rw [e]; decide))], fun k hk => by rw [si_row, up_n _ _ hk]⟩
  have kl := c_linkFrom hG d v 6 (qm_si h 17 0 (-1)) 0 6 0 (f0.to t) rfl (by decide) (by decide) rfl
  have cl := cLen_le w 6 6 0
  refine qm_Ev.run (M := mX4_link) okX4_link rfl hG fun z => ?_
  refine ⟨rfl, trivial, rfl, 0, 0, _, kl, ⟨Nat.le_refl _, Nat.le_refl _⟩, ?_⟩
  rintro _ h1 ⟨rfl, kb, tr, f⟩
  have e0 : (qm_si h 17 0 (-1)).1 17 0 = -1 := si_s _ _ _ _
  rw [e0, Nat.zero_add] at kb
  obtain ⟨k1, k2⟩ := kb.2 (nI_m1 (by omega))
  refine ⟨rfl, rfl, k1, fun j hj => ?_, f0.tr f⟩
  rw [k2 j hj, lro, if_neg (by omega), Nat.sub_zero]
theorem b_chain {G : qm_G} (hG : G.2.2.2.2 = true) (d : Nat) (h : qm_H) {mt : Nat} (hm : mt ≤ 2) (hT : TWN h 3 mt (tw h)) (a k : Int32) : qm_Ev G (d + 10) 0 0 qyX9_chain [.ref 0, .int a, .int k] h (fun r h' => r = some (.int (p_chain h mt a k)) ∧ sb XL h h') := by
  refine qm_Ev.run (M := mX9_chain) okX9_chain rfl hG fun z => ?_
  refine ⟨rfl, _, rfl, rfl, 0, 0, _, c_townAt hG _ h hm hT a, ⟨Nat.le_refl _, Nat.le_refl _⟩, ?_⟩
  rintro _ _ ⟨⟨t, Q, t1, rfl, rfl, T, V⟩ | ⟨hno, rfl⟩, rfl⟩
  · have eP : p_chain h mt (nI t) k = s_chainA (tw h t) k := by
      rw [p_chain, (p_in t1 hm).1, (p_in t1 hm).2]; rfl
    rw [eP]
    have cl := cLen_le (tw h t) 6 6 0
    have ik := inb_lt (a := k) (n := cLen (tw h t) 6 6 0) (by omega)
    refine ⟨fun (c : k < -1) => ⟨trivial, congV ?_, sb.rf⟩, fun (c : ¬ k < -1) => ⟨fun (c2 : k < 6) => ?_, fun (c2 : ¬ k < 6) => ⟨trivial, congV ?_, sb.rf⟩⟩⟩
    · have h1 : ¬ k = -1 := fun e => by rw [e] at c; exact absurd c (by decide)
      rw [s_chainA, if_neg h1, ik, decide_eq_false (fun z => absurd (Int32.lt_of_le_of_lt z c) (by decide))]; rfl
    · refine ⟨rfl, _, rfl, rfl, 0, 0, _, c_link hG d h T V, ⟨Nat.le_refl _, Nat.le_refl _⟩, ?_⟩
      rintro _ h1 ⟨rfl, e1, e2, f1⟩
      refine ⟨rfl, _, rfl, rfl, fun (z : h1.1 17 0 ≤ k) => ⟨trivial, congV ?_, f1.x⟩, fun (z : ¬ h1.1 17 0 ≤ k) => ⟨rfl, _, rfl, rfl, 0, 0, _, c_found hG _ h1 k, ⟨Nat.le_refl _, Nat.le_refl _⟩, ?_⟩⟩
      · rw [e1] at z
        have h1 : ¬ k = -1 := fun e => by rw [e] at z; exact nI_m1 (by omega) z
        rw [s_chainA, if_neg h1, ik, decide_eq_false (Int32.not_lt.mpr z), Bool.and_false]; rfl
      · rintro _ _ ⟨rfl, rfl⟩
        refine ⟨trivial, congV ?_, f1.x⟩
        rw [e1] at z
        rw [s_chainA]
        by_cases h1' : k = -1
        · rw [if_pos h1', if_pos h1', e1]
        · rw [if_neg h1', if_neg h1']
          have h0 : ¬ k < 0 := fun q => by
            rw [Int32.lt_iff_toInt_lt] at q
            have c' : ¬ k.toInt < (-1 : Int32).toInt := fun y => c (Int32.lt_iff_toInt_lt.mpr y)
            have : k.toInt = -1 := by
              have e1' : (-1 : Int32).toInt = -1 := rfl
              have e0' : (0 : Int32).toInt = 0 := rfl
              omega
            exact h1' (Int32.toInt_inj.mp this)
          obtain ⟨j, j1, rfl⟩ := nI_of h0
          have j2 : j < cLen (tw h t) 6 6 0 := by
            rcases Nat.lt_or_ge j (cLen (tw h t) 6 6 0) with y | y
            · exact y
            · exact absurd (nI_le y j1) z
          rw [inb_n (by decide) (by omega : j < 6), inb_n (by omega) j2, if_pos rfl, if_pos rfl, nI_clamp (by omega)]
          exact e2 j j2
    · have h1 : ¬ k = -1 := fun e => by rw [e] at c2; exact absurd (by decide) c2
      rw [s_chainA, if_neg h1, ik, decide_eq_false (fun z => c2 (Int32.lt_of_lt_of_le z (nI_le (b := 6) cl (by decide)))), Bool.and_false]; rfl
  · refine ⟨trivial, congV ?_, sb.rf⟩
    rw [p_chain, hno]; rfl
