/-! the reference: luck; the sets that fit, asked -/
def onesN (x : Int32) : Nat → Nat
  | 0 => 0
  | n + 1 => onesN x n + (if bit x (nI n) then 1 else 0)
theorem ones_N (x : Int32) : ∀ n, ones x n = nI (onesN x n)
  | 0 => rfl
  | n + 1 => by
    rw [ones, onesN, ones_N x n]
    cases bit x (nI n)
    · rw [if_neg (by decide), Nat.add_zero, b2_f, show (0 : Int32) = nI 0 from rfl, nI_add, Nat.add_zero]
    · rw [if_pos rfl, b2_t, nI_1]
theorem onesN_le (x : Int32) : ∀ n, onesN x n ≤ n
  | 0 => Nat.le_refl _
  | n + 1 => by
    have := onesN_le x n
    rw [onesN]
    split <;> omega
/-- of his facts so many are news -/
def s_fresh (w mi : Nat → Int32) (q p : Nat) : Nat → Nat
  | 0 => 0
  | f + 1 => s_fresh w mi q p f + (if bit (mi p) (nI f) = true ∧ s_hears w q p = true ∧ ¬ (s_whole w f &&& (mi q ^^^ -1)) = 0 then 1 else 0)
theorem s_fresh_le (w mi : Nat → Int32) (q p : Nat) : ∀ f, s_fresh w mi q p f ≤ onesN (mi p) f
  | 0 => Nat.le_refl _
  | f + 1 => by
    have := s_fresh_le w mi q p f
    rw [s_fresh, onesN]
    split
    · rename_i c
      rw [if_pos c.1]
      omega
    · split <;> omega
def s_lucks (w mi : Nat → Int32) (q : Nat) : Nat → Nat
  | 0 => 0
  | p + 1 => s_lucks w mi q p + 60 * s_fresh w mi q p 6 / onesN (mi p) 6
theorem s_lucks_le (w mi : Nat → Int32) (q : Nat) : ∀ p, s_lucks w mi q p ≤ 360 * p
  | 0 => Nat.le_refl _
  | p + 1 => by
    have h1 := s_lucks_le w mi q p
    have h2 := s_fresh_le w mi q p 6
    have h3 := onesN_le (mi p) 6
    have h4 : 60 * s_fresh w mi q p 6 / onesN (mi p) 6 ≤ 60 * s_fresh w mi q p 6 := Nat.div_le_self _ _
    rw [s_lucks]
    omega
theorem e_partX {G : qm_G} (hG : G.2.2.2.2 = true) (d : Nat) (h : qm_H) {a b : Nat} (x y : Int64) (hx : x = lN a) (hy : y = lN b) (ha : a < 2 ^ 63) (hb : b < 2 ^ 63) (hb0 : 0 < b) (u : Bool) : qm_Ev G (d + 1) 0 0 qyX10_part [.long x, .long y, .int (b2 u)] h (fun r h' => r = some (.long (lN ((if u then b else a) / Nat.gcd b a))) ∧ h = h') := by
  rw [hx, hy]
  exact e_part hG d h ha hb hb0 u
def p_luck (h : qm_H) (mt : Nat) (a p : Int32) (u : Bool) : Int64 := if inb a mt then (if inb p (nn (tw h a.toNatClampNeg)) then lN ((if u then 60 * nn (tw h a.toNatClampNeg) else s_lucks (tw h a.toNatClampNeg) (mi0 (tw h a.toNatClampNeg)) p.toNatClampNeg (nn (tw h a.toNatClampNeg))) / Nat.gcd (60 * nn (tw h a.toNatClampNeg)) (s_lucks (tw h a.toNatClampNeg) (mi0 (tw h a.toNatClampNeg)) p.toNatClampNeg (nn (tw h a.toNatClampNeg)))) else -1) else -1
theorem a_luck {G : qm_G} (hG : G.2.2.2.2 = true) (d : Nat) (h : qm_H) {mt my ml : Nat} (hS : ST h mt my ml) (a p : Int32) (u : Bool) : qm_Ev G (d + 3) 0 0 qyX10_luck [.ref 26, .int a, .int p, .int (b2 u)] h (fun r h' => r = some (.long (p_luck h mt a p u)) ∧ pers h h') := by
  refine qm_Ev.by (M := mX10_luck) okX10_luck (Nat.le_of_ble_eq_true rfl) hG fun z hA => ?_
  obtain ⟨s1, s2, -, -, -, -, hT, -, -⟩ := hS
  refine qm_wp_ok hA [17] 30 _ _ _ _ _ _ ?_
  refine ⟨rfl, trivial, rfl, 0, 0, _, e_handC hG d (qm_si h 26 0 0) (mt := mt) s1 s2 a, ⟨Nat.le_refl _, Nat.le_refl _⟩, ?_⟩
  rintro _ _ (⟨t, ht, rfl, rfl, rfl⟩ | ⟨e0, rfl, rfl⟩)
  · obtain ⟨i1, i2⟩ := p_in ht s2
    have vT := hT t ht
    have n6 := vT.1
    have fin : pers h (hnd (qm_si h 26 0 0) t) := pers.rf.s26.tr (hnd.ps _ t)
    obtain ⟨w, hw⟩ : ∃ w, w = tw h t := ⟨_, rfl⟩
    obtain ⟨n, hn⟩ : ∃ n, n = nn w := ⟨_, rfl⟩
    rw [← hw, ← hn] at vT n6
    obtain ⟨h1, hh1⟩ : ∃ x, x = hnd (qm_si h 26 0 0) t := ⟨_, rfl⟩
    have g23 : h1.1 26 23 = nI n := by rw [hh1, hw] at *; exact vT.2.1
    have g22 : h1.1 26 22 = nI t := by rw [hh1]; rfl
    have g39 : h1.1 39 = mi0 w := by rw [hh1, hw]; rfl
    have gtw : tw h1 t = w := by rw [hh1, hw]; rfl
    rw [← hh1] at fin ⊢
    refine ⟨fun q => absurd q (by decide), fun _ => ?_⟩
    refine ⟨rfl, 0, 0, _, e_isPerson hG (d + 1) h1 p, ⟨Nat.le_refl _, Nat.le_refl _⟩, ?_⟩
    rintro _ _ ⟨rfl, rfl⟩
    rw [g23]
    refine b2_ne (fun hb => ?_) (fun hb => ⟨rfl, by rw [p_luck, i1, i2, ← hw, ← hn, show inb p n = false from hb]; rfl, fin⟩)
    have hb1 : inb p n = true := hb
    obtain ⟨q, hq, rfl⟩ := inb_e (by omega) hb1
    have eP : p_luck h mt (nI t) (nI q) u = lN ((if u then 60 * n else s_lucks w (mi0 w) q n) / Nat.gcd (60 * n) (s_lucks w (mi0 w) q n)) := by
      rw [p_luck, i1, i2, ← hw, ← hn, hb1, nI_clamp (by omega)]; rfl
    refine qm_PW.mask [true, true, true, true, true, false, true, false, false, false] ?_
    have inq : vp_in (nI q) 6 := vp_in_nI (by omega) (by decide)
    have ecq : (nI q).toNatClampNeg = q := nI_clamp (by omega)
    refine qm_for (P := fun i => qm_PW G mX10_luck z 17 0 0 [vr 26, vi (nI t), vi (nI q), vi (b2 u), vl (lN (s_lucks w (mi0 w) q i)), vu, vi (nI i), vu, vu, vu] [] h1) (N := n) ?_ ?_
    · have hle := s_lucks_le w (mi0 w) q n
      have e60 : (60 : Int64) * (h1.1 26 23).toInt64 = lN (60 * n) := by rw [g23, nI_l (by omega), show (60 : Int64) = lN 60 from rfl, lN_mul]
      refine qm_wp_ok hA [] 30 _ _ _ _ _ _ ⟨rfl, fun _ => ⟨rfl, 0, 0, _, e_partX hG (d + 1) h1 (a := s_lucks w (mi0 w) q n) (b := 60 * n) _ _ rfl e60 (by omega) (by omega) (by omega) u, ⟨Nat.le_refl _, Nat.le_refl _⟩, ?_⟩, fun (q : ¬ h1.1 26 23 ≤ nI n) => absurd (by rw [g23]; exact Int32.le_refl _) q⟩
      rintro _ _ ⟨rfl, rfl⟩
      exact ⟨rfl, by rw [eP], fin⟩
    · intro i hi key
      rw [s_lucks, ← nI_1, ← lN_add] at key
      have ini : vp_in (nI i) 6 := vp_in_nI (by omega) (by decide)
      have eci : (nI i).toNatClampNeg = i := nI_clamp (by omega)
      refine qm_wp_ok hA [25] 30 _ _ _ _ _ _ ⟨rfl, fun (q : h1.1 26 23 ≤ nI i) => absurd q (by rw [g23]; exact nI_ge hi (by omega)), fun _ => ?_⟩
      refine qm_PW.mask [true, true, true, true, true, false, true, true, true, false] ?_
      refine qm_for (P := fun f => qm_PW G mX10_luck z 25 0 0 [vr 26, vi (nI t), vi (nI q), vi (b2 u), vl (lN (s_lucks w (mi0 w) q i)), vu, vi (nI i), vi (nI (s_fresh w (mi0 w) q i f)), vi (nI f), vu] [] h1) (N := 6) ?_ ?_
      · have hfl := s_fresh_le w (mi0 w) q i 6
        have hol := onesN_le (mi0 w i) 6
        refine qm_wp_ok hA [17] 40 _ _ _ _ _ _ ⟨fun _ => ⟨fun c => ?_, fun c => ?_⟩, fun q => absurd (by decide) q⟩
        · have e0 : s_fresh w (mi0 w) q i 6 = 0 := by
            rcases Nat.eq_zero_or_pos (s_fresh w (mi0 w) q i 6) with q | q
            · exact q
            · exact absurd c (nI_nle q (by omega))
          rw [e0, Nat.mul_zero, Nat.zero_div] at key
          exact qm_PW.mask [true, true, true, true, true, false, true, false, false, false] key
        · have e0 : 0 < s_fresh w (mi0 w) q i 6 := by
            rcases Nat.eq_zero_or_pos (s_fresh w (mi0 w) q i 6) with q | q
            · exact absurd (by rw [q]; decide) c
            · exact q
          refine ⟨rfl, _, rfl, rfl, ini, ?_⟩
          rw [eci, g39]
          refine ⟨0, 0, _, e_ones hG (d + 1) h1 (mi0 w i), ⟨Nat.le_refl _, Nat.le_refl _⟩, ?_⟩
          rintro _ _ ⟨rfl, rfl⟩
          have e1 : (ones (mi0 w i) 6).toInt64 = lN (onesN (mi0 w i) 6) := by rw [ones_N, nI_l (by omega)]
          have e2 : (60 : Int64) * (nI (s_fresh w (mi0 w) q i 6)).toInt64 = lN (60 * s_fresh w (mi0 w) q i 6) := by rw [nI_l (by omega), show (60 : Int64) = lN 60 from rfl, lN_mul]
          refine ⟨?_, ?_⟩
          · rw [e1]
            exact fun q => by have := (pk_lEQ (b := 0) (by omega) (by decide)).mp q; omega
          · have e3 : lN (60 * s_fresh w (mi0 w) q i 6 / onesN (mi0 w i) 6) = (60 : Int64) * (nI (s_fresh w (mi0 w) q i 6)).toInt64 / (ones (mi0 w i) 6).toInt64 := by
              rw [e1, e2, pk_lDiv (by omega) (by omega) (by omega)]
            rw [e3] at key
            exact qm_PW.mask [true, true, true, true, true, false, true, false, false, false] key
      · intro f hf kf
        rw [s_fresh, ← nI_1] at kf
        have key2 : ∀ (v : Nat) (x : Int32) (L9 : Option Value), x = nI v → v = (if bit (mi0 w i) (nI f) = true ∧ s_hears w q i = true ∧ ¬ (s_whole w f &&& (mi0 w q ^^^ -1)) = 0 then 1 else 0) → qm_PW G mX10_luck z 25 0 0 [vr 26, vi (nI t), vi (nI q), vi (b2 u), vl (lN (s_lucks w (mi0 w) q i)), vu, vi (nI i), vi (nI (s_fresh w (mi0 w) q i f) + x), vi (nI f + 1), L9] [] h1 := by
          intro v x L9 hx hv
          rw [hx, hv, nI_add]
          exact qm_PW.mask [true, true, true, true, true, false, true, true, true, false] kf
        refine qm_wp_ok hA [25] 80 _ _ _ _ _ _ ⟨fun q => absurd q (nI_ge hf (by decide)), fun _ => ⟨rfl, _, rfl, rfl, ini, ?_⟩⟩
        rw [eci, g39]
        refine ⟨0, 0, _, e_has hG (d + 2) h1 (mi0 w i) (nI f), ⟨Nat.le_refl _, Nat.le_refl _⟩, ?_⟩
        rintro _ _ ⟨rfl, rfl⟩
        refine b2_eq (fun hx => ?_) (fun hx => ⟨fun _ => key2 0 0 _ rfl (by rw [if_neg (fun q => by rw [hx] at q; exact absurd q.1 (by decide))]), fun q => absurd rfl q⟩)
        refine ⟨rfl, 0, 0, _, e_hears hG (d + 1) h1 (t := t) (o := q) (p := i) g22 (by omega) (by omega), ⟨Nat.le_refl _, Nat.le_refl _⟩, ?_⟩
        rintro _ _ ⟨rfl, rfl⟩
        rw [gtw]
        refine b2_eq (fun hy => ?_) (fun hy => ⟨fun _ => key2 0 0 _ rfl (by rw [if_neg (fun q => by rw [hy] at q; exact absurd q.2.1 (by decide))]), fun q => absurd rfl q⟩)
        refine ⟨rfl, 0, 0, _, e_whole hG (d + 1) h1 (t := t) (f := f) g22 (by omega) hf, ⟨Nat.le_refl _, Nat.le_refl _⟩, ?_⟩
        rintro _ _ ⟨rfl, rfl⟩
        refine ⟨rfl, _, rfl, rfl, inq, ?_⟩
        rw [gtw, ecq, g39]
        refine ⟨fun c => ⟨fun _ => key2 0 0 _ rfl (by rw [if_neg (fun q => q.2.2 c)]), fun q => absurd rfl q⟩, fun c => ⟨fun q => absurd q (by decide), fun _ => key2 1 1 _ rfl (by rw [if_pos ⟨hx, hy, c⟩])⟩⟩
  · exact ⟨fun _ => ⟨rfl, by rw [p_luck, e0]; rfl, pers.rf.s26⟩, fun q => absurd rfl q⟩
/-- the sets that fit, laid -/
def FL (w lg : Nat → Int32) (m : Nat) : Nat × (Nat → Int32) := s_lay w lg m (fun _ => 0) 64
theorem s_lay_ext (w lg : Nat → Int32) (m : Nat) (a a' : Nat → Int32) : ∀ k, (s_lay w lg m a k).1 = (s_lay w lg m a' k).1 ∧ ∀ j, j < (s_lay w lg m a k).1 → (s_lay w lg m a k).2 j = (s_lay w lg m a' k).2 j
  | 0 => ⟨rfl, fun j hj => absurd hj (Nat.not_lt_zero j)⟩
  | k + 1 => by
    obtain ⟨i1, i2⟩ := s_lay_ext w lg m a a' k
    rw [s_lay, s_lay]
    split
    · refine ⟨by rw [i1], fun j hj => ?_⟩
      dsimp only at hj ⊢
      rw [← i1]
      by_cases e : j = (s_lay w lg m a k).1
      · rw [e, up_s, up_s]
      · rw [up_n _ _ e, up_n _ _ e]
        exact i2 j (by omega)
    · exact ⟨i1, i2⟩
theorem s_many_ext {a a' : Nat → Int32} {c : Nat} (h : ∀ j, j < c → a j = a' j) (f : Int32) : ∀ k, k ≤ c → s_many a f k = s_many a' f k
  | 0, _ => rfl
  | k + 1, hk => by rw [s_many, s_many, s_many_ext h f k (by omega), h k (by omega)]
theorem s_sure_ext {a a' : Nat → Int32} {c : Nat} (h : ∀ j, j < c → a j = a' j) : ∀ k, k ≤ c → s_sure a k = s_sure a' k
  | 0, _ => rfl
  | k + 1, hk => by rw [s_sure, s_sure, s_sure_ext h k (by omega), h k (by omega)]
theorem s_next_ext {a a' : Nat → Int32} {c : Nat} (h : ∀ j, j < c → a j = a' j) : ∀ f, s_next a c f = s_next a' c f
  | 0 => rfl
  | f + 1 => by rw [s_next, s_next, s_next_ext h f, s_many_ext h (nI f) c (Nat.le_refl _)]
def LC (h h' : qm_H) (t l m : Nat) : Prop := h'.1 26 22 = nI t ∧ h'.1 26 23 = tw h t 0 ∧ h'.1 26 41 = nI l ∧ h'.1 26 43 = nI (FL (tw h t) (gw h l) m).1 ∧ (∀ j, j < (FL (tw h t) (gw h l) m).1 → h'.1 48 j = (FL (tw h t) (gw h l) m).2 j) ∧ h'.1 39 = mi0 (tw h t) ∧ pers h h'
theorem LG.to {h h' : qm_H} {t l m : Nat} (a : LG h h' t l m) : ∃ h2, al h' h2 ∧ LC h h2 t l m := by
  obtain ⟨h1, a1, a2, a3, a4, a5⟩ := a
  have b := a1.hnd
  have etw : tw (qm_si h 26 41 (nI l)) t = tw h t := rfl
  refine ⟨(fun q => if q = 39 then mi0 (tw h t) else h'.1 q, h'.2), ⟨rfl, fun p => ?_⟩, ?_, ?_, ?_, ?_, ?_, ?_, ?_⟩
  · by_cases e : p = 39
    · subst e
      refine Or.inr ⟨6, rfl, fun j hj => ?_⟩
      rcases b.2 39 with q | ⟨N, q, q2⟩
      · show mi0 (tw h t) j = h'.1 39 j
        rw [a4.2 39 (by decide), ← q]
        rfl
      · have : N = 6 := by
          have q3 : (some (10, 6) : Option (Nat × Nat)) = some (10, N) := q
          cases q3
          rfl
        subst this
        show mi0 (tw h t) j = h'.1 39 j
        rw [a4.2 39 (by decide), ← q2 j hj]
        rfl
    · left
      show (if p = 39 then _ else _) = _
      rw [if_neg e]
  · exact (a5 22 (by decide)).trans a1.2.1
  · exact (a5 23 (by decide)).trans a1.2.2.1
  · exact (a5 41 (by decide)).trans ((a1.2.2.2.2.2 41 (by decide)).trans rfl)
  · show h'.1 26 43 = _
    rw [a2, FL, (s_lay_ext _ _ _ (h.1 48) (fun _ => 0) 64).1]
  · intro j hj
    show h'.1 48 j = _
    rw [a3]
    exact (s_lay_ext _ _ _ (h.1 48) (fun _ => 0) 64).2 j (by rw [(s_lay_ext _ _ _ (h.1 48) (fun _ => 0) 64).1]; exact hj)
  · rfl
  · have p1 : pers h h1 := pers.rf.s26.tr a1.ps
    refine ⟨a4.1.trans p1.1, fun q hq => ?_⟩
    show (if q = 39 then _ else _) = _
    rw [if_neg (fun e => hq (by rw [e]; decide))]
    rw [a4.2 q (fun e => hq (by revert e; simp only [List.mem_cons, List.not_mem_nil, or_false]; omega))]
    exact p1.2 q hq
theorem e_layLogC {G : qm_G} (hG : G.2.2.2.2 = true) (d : Nat) (h : qm_H) {mt my ml : Nat} (hS : ST h mt my ml) (h0 : qm_H) (e31 : h0.1 31 = h.1 31) (e34 : h0.1 34 = h.1 34) (a b : Int32) : qm_Ev G (d + 3) 0 0 qyX10_layLog [.ref 26, .int a, .int b] h0 (fun r h' => (∃ t l, t < mt ∧ l < ml ∧ a = nI t ∧ b = nI l ∧ r = some (.int 1) ∧ LC h0 h' t l (nn (gw h l))) ∨ ((inb a mt && inb b ml) = false ∧ r = some (.int 0) ∧ pers h0 h')) := by
  obtain ⟨s1, s2, -, -, s3, s4, -, -, hL⟩ := hS
  have eg : ∀ l, gw h0 l = gw h l := fun l => by unfold gw; rw [e34]
  refine (e_layLog hG d h0 (mt := mt) (ml := ml) (by rw [e31]; exact s1) s2 (by rw [e31]; exact s3) s4 (fun l => nn (gw h l)) (fun l hl => by rw [eg l]; exact hL l hl) a b).al hG ?_
  rintro v h1 (⟨t, l, e1, e2, e3, e4, e5, e6⟩ | ⟨e1, e2, e3⟩)
  · obtain ⟨h2, q1, q2⟩ := e6.to
    exact ⟨h2, q1, Or.inl ⟨t, l, e1, e2, e3, e4, e5, q2⟩⟩
  · refine ⟨h1, ⟨rfl, fun _ => Or.inl rfl⟩, Or.inr ⟨?_, e2, e3⟩⟩
    cases ha : inb a mt
    · rfl
    · cases hb : inb b ml
      · rfl
      · exact absurd ⟨inR_b hb, inR_b ha⟩ e1
def s_fits (w lg : Nat → Int32) (n m : Nat) (what : Int32) : Int32 :=
  if what < 10 then (if what = 0 then nI (FL w lg m).1 else if what = 1 then (if (FL w lg m).1 = 0 then -1 else s_sure (FL w lg m).2 (FL w lg m).1) else if what = 2 then (if (FL w lg m).1 = 0 then -1 else (s_next (FL w lg m).2 (FL w lg m).1 6).1) else if what = 3 then s_whose w lg (mi0 w) m n else -2)
  else if nI (FL w lg m).1 ≤ what - 10 then -2 else (FL w lg m).2 (what - 10).toNatClampNeg
def p_fits (h : qm_H) (mt ml : Nat) (a b what : Int32) : Int32 := if inb a mt && inb b ml then s_fits (tw h a.toNatClampNeg) (gw h b.toNatClampNeg) (nn (tw h a.toNatClampNeg)) (nn (gw h b.toNatClampNeg)) what else -2
theorem FL_le (w lg : Nat → Int32) (m : Nat) : (FL w lg m).1 ≤ 64 := s_lay_le _ _ _ _ 64
theorem a_fits {G : qm_G} (hG : G.2.2.2.2 = true) (d : Nat) (h : qm_H) {mt my ml : Nat} (hS : ST h mt my ml) (a b what : Int32) : qm_Ev G (d + 4) 0 0 qyX10_fits [.ref 26, .int a, .int b, .int what] h (fun r h' => r = some (.int (p_fits h mt ml a b what)) ∧ pers h h') := by
  refine qm_Ev.run (M := mX10_fits) okX10_fits rfl hG fun z => ?_
  refine ⟨rfl, trivial, rfl, 0, 0, _, e_layLogC hG d h hS (qm_si h 26 0 0) rfl rfl a b, ⟨Nat.le_refl _, Nat.le_refl _⟩, ?_⟩
  obtain ⟨s1, s2, -, -, s3, s4, hT, -, hL⟩ := hS
  rintro _ h2 (⟨t, l, ht, hl, rfl, rfl, rfl, c1, c2, c3, c4, c5, c6, c7⟩ | ⟨e0, rfl, e1⟩)
  · obtain ⟨i1, i2⟩ := p_in ht s2
    obtain ⟨i3, i4⟩ := p_in hl s4
    have vT := hT t ht
    have vL := hL l hl
    have n6 := vT.1
    have fin : pers h h2 := pers.rf.s26.tr c7
    have etw : tw (qm_si h 26 0 0) t = tw h t := rfl
    have egw : gw (qm_si h 26 0 0) l = gw h l := rfl
    rw [etw] at c2 c4 c5 c6
    rw [egw] at c4 c5
    have etw2 : tw h2 t = tw h t := c7.row t
    have egw2 : gw h2 l = gw h l := by
      unfold gw
      rw [c7.2 34 (by decide)]
      rfl
    have hle := FL_le (tw h t) (gw h l) (nn (gw h l))
    have eP : p_fits h mt ml (nI t) (nI l) what = s_fits (tw h t) (gw h l) (nn (tw h t)) (nn (gw h l)) what := by
      rw [p_fits, i1, i3, i2, i4]; rfl
    rw [eP]
    refine ⟨fun _ => ⟨fun c => ⟨⟨fun q => ?_, fun q => ?_, fun q => ?_, fun q => ?_, trivial⟩, fun q => ?_⟩, fun c => ⟨rfl, fun (cc : h2.1 26 43 ≤ what - 10) => ?_, fun (cc : ¬ h2.1 26 43 ≤ what - 10) => ?_⟩⟩, fun q => absurd q (by decide)⟩
    · obtain rfl : what = 0 := q
      refine ⟨rfl, trivial, ?_, fin⟩
      rw [s_fits, if_pos (by decide), if_pos rfl]
      exact congrArg (fun x => some (Value.int x)) c4
    · obtain rfl : what = 1 := q
      refine ⟨rfl, 0, 0, _, e_sure hG (d + 3) h2 c4 hle, ⟨Nat.le_refl _, Nat.le_refl _⟩, ?_⟩
      rintro _ _ ⟨rfl, rfl⟩
      refine ⟨trivial, ?_, fin⟩
      have eK : s_fits (tw h t) (gw h l) (nn (tw h t)) (nn (gw h l)) 1 = if (FL (tw h t) (gw h l) (nn (gw h l))).1 = 0 then -1 else s_sure (FL (tw h t) (gw h l) (nn (gw h l))).2 (FL (tw h t) (gw h l) (nn (gw h l))).1 := by rw [s_fits, if_pos (by decide), if_neg (by decide), if_pos rfl]
      rw [eK, s_sure_ext c5 _ (Nat.le_refl _)]
    · obtain rfl : what = 2 := q
      refine ⟨rfl, 0, 0, _, e_next hG (d + 1) h2 c4 hle, ⟨Nat.le_refl _, Nat.le_refl _⟩, ?_⟩
      rintro _ _ ⟨rfl, rfl⟩
      refine ⟨trivial, ?_, fin⟩
      have eK : s_fits (tw h t) (gw h l) (nn (tw h t)) (nn (gw h l)) 2 = if (FL (tw h t) (gw h l) (nn (gw h l))).1 = 0 then -1 else (s_next (FL (tw h t) (gw h l) (nn (gw h l))).2 (FL (tw h t) (gw h l) (nn (gw h l))).1 6).1 := by rw [s_fits, if_pos (by decide), if_neg (by decide), if_neg (by decide), if_pos rfl]
      rw [eK, s_next_ext c5]
    · obtain rfl : what = 3 := q
      refine ⟨rfl, 0, 0, _, e_whose hG d h2 (t := t) (n := nn (tw h t)) (l := l) (m := nn (gw h l)) c1 (by omega) (c2.trans vT.2.1) n6 c3 (by omega) (by rw [egw2]; exact vL), ⟨Nat.le_refl _, Nat.le_refl _⟩, ?_⟩
      rintro _ _ ⟨rfl, rfl⟩
      refine ⟨trivial, ?_, fin⟩
      rw [s_fits, if_pos (by decide), if_neg (by decide), if_neg (by decide), if_neg (by decide), if_pos rfl, etw2, egw2, c6]
    · have q' : ∀ j : Nat, j < 4 → what ≠ nI j := by
        intro j hj e
        rw [e, nI_toInt (by omega)] at q
        simp only [List.length_cons, List.length_nil, List.drop] at q
        omega
      have z0 : ¬ what = 0 := q' 0 (by decide)
      have z1 : ¬ what = 1 := q' 1 (by decide)
      have z2 : ¬ what = 2 := q' 2 (by decide)
      have z3 : ¬ what = 3 := q' 3 (by decide)
      exact ⟨trivial, by rw [s_fits, if_pos c, if_neg z0, if_neg z1, if_neg z2, if_neg z3], fin⟩
    · rw [c4] at cc
      exact ⟨trivial, by rw [s_fits, if_neg c, if_pos cc], fin⟩
    · rw [c4] at cc
      have hpos : ¬ what < 0 := fun q => c (Int32.lt_of_lt_of_le q (by decide))
      obtain ⟨x, hx, rfl⟩ := nI_of hpos
      have x1 : 10 ≤ x := by
        rcases Nat.lt_or_ge x 10 with q | q
        · exact absurd (nI_lt (b := 10) q (by decide)) c
        · exact q
      have x3 : nI x - 10 = nI (x - 10) := pk_sub x1
      have x4 : x - 10 < (FL (tw h t) (gw h l) (nn (gw h l))).1 := by
        rcases Nat.lt_or_ge (x - 10) (FL (tw h t) (gw h l) (nn (gw h l))).1 with q | q
        · exact q
        · exact absurd (by rw [x3]; exact nI_le q (by omega)) cc
      have x5 : (nI x - 10).toNatClampNeg = x - 10 := by rw [x3]; exact nI_clamp (by omega)
      refine ⟨rfl, _, rfl, rfl, (by show vp_in (nI x - 10) 64; rw [x3]; exact vp_in_nI (by omega) (by decide)), trivial, ?_, fin⟩
      rw [s_fits, if_neg c, if_neg cc, x5, ← c5 _ x4]
  · exact ⟨fun q => absurd rfl q, fun _ => ⟨trivial, by rw [p_fits, e0]; rfl, pers.rf.s26.tr e1⟩⟩
