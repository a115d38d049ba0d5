/-! the reference: weddings, sales -/
theorem mx_N {a b : Nat} (ha : a < 2 ^ 31) (hb : b < 2 ^ 31) : mx (nI a) (nI b) = nI (max a b) := by
  rw [mx]
  by_cases c : a ≤ b
  · rw [if_pos (nI_le c hb), Nat.max_eq_right c]
  · rw [if_neg (nI_ge (by omega) ha), Nat.max_eq_left (by omega)]
theorem mx_neg {a : Nat} {v : Int32} (ha : a < 2 ^ 31) (hv : v < 0) : mx (nI a) v = nI a := by
  rw [mx, if_neg (fun q => nI_pos ha (Int32.lt_of_le_of_lt q hv))]
def TB (w mi : Nat → Int32) (n : Nat) (sale : Bool) (T : Nat → Int32) (a : Nat) : Prop := ∀ a', a ≤ a' → a' ≤ n → ∀ s, s < 64 → T (64 * a' + s) = nI (cB (cgN w mi n sale) n (n - a') a' s)
theorem e_findCouples {G : qm_G} (hG : G.2.2.2.2 = true) (d : Nat) (h : qm_H) {t n : Nat} (ht : h.1 26 22 = nI t) (hk : t < 2) (hn : h.1 26 23 = nI n) (hn6 : n ≤ 6) (hw : VW (tw h t)) (sale : Bool) : qm_Ev G (d + 6) 0 0 qyX10_findCouples [.ref 26, .int (b2 sale)] h (fun r h' => r = none ∧ TB (tw h t) (h.1 39) n sale (h'.1 45) 0 ∧ sb [45] h h') := by
  refine qm_Ev.by (M := mX10_findCouples) okX10_findCouples (Nat.le_of_ble_eq_true rfl) hG fun z hA => ?_
  have hgl : ∀ a b v, cgN (tw h t) (h.1 39) n sale a b = some v → v ≤ 720 := fun a b v q => cgN_le hw hn6 q
  have fr1 : ∀ h', sb [45] h h' → h'.1 26 22 = nI t ∧ h'.1 26 23 = nI n ∧ tw h' t = tw h t ∧ h'.1 39 = h.1 39 := fun h' c => ⟨by rw [c.2 26 (by decide), ht], by rw [c.2 26 (by decide), hn], by unfold tw; rw [c.2 32 (by decide)], c.2 39 (by decide)⟩
  have loop : ∀ m, m ≤ n + 1 → ∀ h', sb [45] h h' → TB (tw h t) (h.1 39) n sale (h'.1 45) m → qm_PW G mX10_findCouples z 3 0 0 [vr 26, vi (b2 sale), vi (nI m + -1), vu, vu, vu] [] h' := by
    intro m
    induction m with
    | zero =>
      intro _ h' c1 c2
      exact qm_wp_ok hA [] 20 _ _ _ _ _ _ ⟨fun _ => ⟨rfl, rfl, c2, c1⟩, fun q => absurd (by decide) q⟩
    | succ m ih =>
      intro hm h' c1 c2
      rw [pk_m1]
      have p7 : ∀ h', sb [45] h h' → TB (tw h t) (h.1 39) n sale (h'.1 45) (m + 1) → (∀ s', s' < 0 → h'.1 45 (64 * m + s') = nI (cB (cgN (tw h t) (h.1 39) n sale) n (n - m) m s')) → qm_PW G mX10_findCouples z 7 0 0 [vr 26, vi (b2 sale), vi (nI m), vi (nI 0), vu, vu] [] h' := by
        refine qm_for (P := fun s => ∀ h', sb [45] h h' → TB (tw h t) (h.1 39) n sale (h'.1 45) (m + 1) → (∀ s', s' < s → h'.1 45 (64 * m + s') = nI (cB (cgN (tw h t) (h.1 39) n sale) n (n - m) m s')) → qm_PW G mX10_findCouples z 7 0 0 [vr 26, vi (b2 sale), vi (nI m), vi (nI s), vu, vu] [] h') (N := 64) ?_ ?_
        · intro h' c1 c2 c3
          refine qm_wp_ok hA [3] 20 _ _ _ _ _ _ ⟨fun _ => ?_, fun q => absurd (by decide) q⟩
          refine qm_PW.mask [true, true, true, false, false, false] (ih (by omega) h' c1 fun a' h1 h2 s hs => ?_)
          by_cases e : a' = m
          · rw [e]; exact c3 s hs
          · exact c2 a' (by omega) h2 s hs
        · intro s hs nx h' c1 c2 c3
          obtain ⟨f1, f2, f3, f4⟩ := fr1 h' c1
          have ei : (64 : Int32) * nI m + nI s = nI (64 * m + s) := by rw [show (64 : Int32) = nI 64 from rfl, pk_mul, nI_add]
          have fin : ∀ x, x = cB (cgN (tw h t) (h.1 39) n sale) n (n - m) m s → qm_PW G mX10_findCouples z 7 0 0 [vr 26, vi (b2 sale), vi (nI m), vi (nI s + 1), vu, vu] [] (qm_si h' 45 ((64 : Int32) * nI m + nI s).toNatClampNeg (nI x)) := by
            intro x hx
            rw [nI_1, ei, nI_clamp (by omega)]
            refine nx _ (c1.si (by decide)) (fun a' h1 h2 s' hs' => ?_) (fun s' hs' => ?_)
            · rw [si_row, up_n _ _ (by omega)]; exact c2 a' h1 h2 s' hs'
            · rw [si_row]
              by_cases e : s' = s
              · rw [e, up_s, hx]
              · rw [up_n _ _ (by omega)]; exact c3 s' (by omega)
          have h26 : vp_in ((64 : Int32) * nI m + nI s) 448 := by rw [ei]; exact vp_in_nI (by omega) (by decide)
          refine qm_wp_ok hA [7, 14] 20 _ _ _ _ _ _ ⟨fun q => absurd q (nI_ge hs (by decide)), fun _ => ?_⟩
          by_cases hmn : m = n
          · subst hmn
            refine qm_wp_ok hA [7] 40 _ _ _ _ _ _ ⟨fun q => absurd q (by decide), fun _ => ⟨rfl, fun _ => ⟨rfl, _, rfl, rfl, h26, qm_PW.mask [true, true, true, true, false, false] (fin 0 (by rw [Nat.sub_self]; rfl))⟩, fun (q : ¬ h'.1 26 23 ≤ nI m) => absurd (by rw [f2]; exact Int32.le_refl _) q⟩⟩
          · have hmn : m < n := by omega
            obtain ⟨g, hg⟩ : ∃ g, g = cgN (tw h t) (h.1 39) n sale := ⟨_, rfl⟩
            have hgl' := hgl
            have cby := fun b (hb : b < 7) => e_coupleBy hG d h' (t := t) (n := n) (a := m) (had := s) (b := b) f1 hk f2 hn6 (by rw [f3]; exact hw) hmn hs hb sale (fun s' hs' => by rw [f3, f4]; exact c2 (m + 1) (Nat.le_refl _) hmn s' hs')
            rw [f3, f4, ← hg] at cby
            rw [← hg] at fin hgl'
            have col := cO_le (n := n) (a := m) (had := s) hgl' (cB_le (n := n) hgl' (n - (m + 1)) (m + 1))
            have cml := fun j => cM_le col j
            obtain ⟨o, ho⟩ : ∃ o, o = cO g n (cB g n (n - (m + 1)) (m + 1)) m s := ⟨_, rfl⟩
            rw [← ho] at cby col cml
            have ecB : cM o 7 = cB g n (n - m) m s := by
              rw [show n - m = (n - (m + 1)) + 1 by omega, cB, ho]
            refine qm_for (P := fun b => qm_PW G mX10_findCouples z 14 0 0 [vr 26, vi (b2 sale), vi (nI m), vi (nI s), vi (nI (cM o b)), vi (nI b)] [] h') (N := 7) ?_ ?_
            · exact qm_wp_ok hA [7] 40 _ _ _ _ _ _ ⟨fun _ => ⟨rfl, _, rfl, rfl, h26, qm_PW.mask [true, true, true, true, false, false] (fin _ ecB)⟩, fun q => absurd (by decide) q⟩
            · intro b hb key
              rw [← nI_1] at key
              refine qm_wp_ok hA [7, 14] 40 _ _ _ _ _ _ ⟨fun q => absurd q (nI_nlt (by omega : b ≤ 6) (by decide)), fun _ => ⟨rfl, fun (q : h'.1 26 23 ≤ nI m) => absurd q (by rw [f2]; exact nI_ge hmn (by omega)), fun _ => ⟨rfl, 0, 0, _, cby b hb, ⟨Nat.le_refl _, Nat.le_refl _⟩, ?_⟩⟩⟩
              rintro _ _ ⟨⟨v, rfl, v1, v2⟩, rfl⟩
              refine ⟨0, 0, _, e_greater hG (d + 5) h' _ _, ⟨Nat.le_refl _, Nat.le_refl _⟩, ?_⟩
              rintro _ _ ⟨rfl, rfl⟩
              have em : mx (nI (cM o b)) v = nI (cM o (b + 1)) := by
                have hb1 := cml b
                rw [cM]
                cases q : o b with
                | none => rw [mx_neg (by omega) (v2 q)]; exact congrArg nI (Nat.max_eq_left (Nat.zero_le _)).symm
                | some x =>
                  have hx := col b x q
                  rw [v1 x q, mx_N (by omega) (by omega)]; rfl
              rw [em]
              exact key
      refine qm_wp_ok hA [3, 7] 20 _ _ _ _ _ _ ⟨fun q => absurd q (nI_pos (by omega)), fun _ => ?_⟩
      exact p7 h' c1 c2 (fun s' q => by omega)
  refine qm_wp_ok hA [3] 20 _ _ _ _ _ _ ?_
  refine ⟨rfl, ?_⟩
  have := loop (n + 1) (Nat.le_refl _) h sb.rf (fun a' h1 h2 => by omega)
  rw [pk_m1, ← hn] at this
  exact this
theorem e_layCouples {G : qm_G} (hG : G.2.2.2.2 = true) (d : Nat) (h : qm_H) {t n : Nat} (ht : h.1 26 22 = nI t) (hk : t < 2) (hn : h.1 26 23 = nI n) (hn6 : n ≤ 6) (hw : VW (tw h t)) (sale : Bool) (hT : TB (tw h t) (h.1 39) n sale (h.1 45) 0) : qm_Ev G (d + 6) 0 0 qyX10_layCouples [.ref 26, .int (b2 sale)] h (fun r h' => r = none ∧ (∀ p, p < n → h'.1 44 p = nI (cRow (cgN (tw h t) (h.1 39) n sale) n sale n 0 0 (fun _ => 6) p)) ∧ sb [44] h h') := by
  refine qm_Ev.by (M := mX10_layCouples) okX10_layCouples (Nat.le_of_ble_eq_true rfl) hG fun z hA => ?_
  have hgl : ∀ a b v, cgN (tw h t) (h.1 39) n sale a b = some v → v ≤ 720 := fun a b v q => cgN_le hw hn6 q
  have fr1 : ∀ h', sb [44] h h' → h'.1 26 22 = nI t ∧ h'.1 26 23 = nI n ∧ tw h' t = tw h t ∧ h'.1 39 = h.1 39 ∧ h'.1 45 = h.1 45 := fun h' c => ⟨by rw [c.2 26 (by decide), ht], by rw [c.2 26 (by decide), hn], by unfold tw; rw [c.2 32 (by decide)], c.2 39 (by decide), c.2 45 (by decide)⟩
  have loop : ∀ k a : Nat, a + k = n → ∀ (had : Nat) (h' : qm_H) (row : Nat → Nat), had < 64 → sb [44] h h' → (∀ p, p < n → h'.1 44 p = nI (row p)) → cRow (cgN (tw h t) (h.1 39) n sale) n sale k a had row = cRow (cgN (tw h t) (h.1 39) n sale) n sale n 0 0 (fun _ => 6) → qm_PW G mX10_layCouples z 17 0 0 [vr 26, vi (b2 sale), vi (nI had), vi (nI a), vu] [] h' := by
    intro k
    induction k with
    | zero =>
      intro a ha had h' row hh c1 c2 c3
      obtain rfl : a = n := ha
      obtain ⟨f1, f2, -⟩ := fr1 h' c1
      exact qm_wp_ok hA [] 20 _ _ _ _ _ _ ⟨rfl, fun _ => ⟨rfl, rfl, fun p hp => by rw [← c3]; exact c2 p hp, c1⟩, fun (q : ¬ h'.1 26 23 ≤ nI a) => absurd (by rw [f2]; exact Int32.le_refl _) q⟩
    | succ k ih =>
      intro a ha had h' row hh c1 c2 c3
      obtain ⟨f1, f2, f3, f4, f5⟩ := fr1 h' c1
      have hTa := hT a (Nat.zero_le _) (by omega) had hh
      rw [show n - a = k + 1 by omega] at hTa
      have cby := fun b (hb : b < 7) => e_coupleBy hG d h' (t := t) (n := n) (a := a) (had := had) (b := b) f1 hk f2 hn6 (by rw [f3]; exact hw) (by omega) hh hb sale (fun s' hs' => by rw [f3, f4, f5]; exact hT (a + 1) (Nat.zero_le _) (by omega) s' hs')
      rw [f3, f4, show n - (a + 1) = k by omega] at cby
      have hgl' := hgl
      obtain ⟨g, hg⟩ : ∃ g, g = cgN (tw h t) (h.1 39) n sale := ⟨_, rfl⟩
      rw [← hg] at cby hTa c3 hgl' ih
      obtain ⟨s1, s2, s3⟩ := cC_spec g n k a had
      rw [cRow] at c3
      obtain ⟨B, hB⟩ : ∃ B, B = cC g n k a had := ⟨_, rfl⟩
      rw [← hB] at s1 s2 s3 c3
      have hcb := cB_le (n := n) hgl' (k + 1) a had
      have col := cO_le (n := n) (a := a) (had := had) hgl' (cB_le (n := n) hgl' k (a + 1))
      have ei : (64 : Int32) * nI a + nI had = nI (64 * a + had) := by rw [show (64 : Int32) = nI 64 from rfl, pk_mul, nI_add]
      have h26 : vp_in ((64 : Int32) * nI a + nI had) 448 := by rw [ei]; exact vp_in_nI (by omega) (by decide)
      have eT : h'.1 45 ((64 : Int32) * nI a + nI had).toNatClampNeg = nI (cB g n (k + 1) a had) := by rw [ei, nI_clamp (by omega), f5, hTa]
      refine qm_wp_ok hA [23] 20 _ _ _ _ _ _ ⟨rfl, fun (q : h'.1 26 23 ≤ nI a) => absurd q (by rw [f2]; exact nI_ge (by omega) (by omega)), fun _ => ?_⟩
      refine qm_for (P := fun b => qm_PW G mX10_layCouples z 23 0 0 [vr 26, vi (b2 sale), vi (nI had), vi (nI a), vi (nI b)] [] h') (N := B) ?_ ?_
      · refine qm_wp_ok hA [17] 60 _ _ _ _ _ _ ⟨rfl, 0, 0, _, cby B s1, ⟨Nat.le_refl _, Nat.le_refl _⟩, ?_⟩
        rintro _ _ ⟨⟨v, rfl, v1, v2⟩, rfl⟩
        have ev := v1 _ s2
        subst ev
        refine ⟨rfl, _, rfl, rfl, h26, ?_⟩
        rw [eT]
        refine ⟨fun _ => ⟨fun (q : nI 6 ≤ nI B) => ?_, fun (q : ¬ nI 6 ≤ nI B) => ?_⟩, fun q => absurd rfl q⟩
        · have hB6 : ¬ B < 6 := by have := (nI_leI (by omega) (by omega)).mp q; omega
          rw [if_neg hB6] at c3
          have nx := ih (a + 1) (by omega) had h' row hh c1 c2 c3
          rw [← nI_1] at nx
          exact qm_PW.mask [true, true, true, true, false] nx
        · have hB6 : B < 6 := by
            rcases Nat.lt_or_ge B 6 with e | e
            · exact e
            · exact absurd (nI_le e (by omega)) q
          have hBn : B < n := by
            rw [cO, if_neg (by omega)] at s2
            split at s2
            · rename_i c
              exact of_decide_eq_true (Bool.and_eq_true_iff.mp c).1
            · exact absurd s2 (by simp)
          rw [if_pos hB6] at c3
          obtain ⟨o1, o2⟩ := s_or1 hh (by omega : a < 6)
          obtain ⟨o3, o4⟩ := s_or1 o2 hB6
          have eh : nI had ||| ((1 : Int32) <<< (nI a &&& 31) ||| (1 : Int32) <<< (nI B &&& 31)) = nI ((had ||| 2 ^ a) ||| 2 ^ B) := by
            rw [← o3, ← o1, Int32.or_assoc]
          have nx := ih (a + 1) (by omega) ((had ||| 2 ^ a) ||| 2 ^ B) (qm_si (qm_si h' 44 a (nI B)) 44 B (nI (if sale then 6 else a))) _ o4 ((c1.si (by decide)).si (by decide)) (fun p hp => by
            rw [si_row, si_row]
            by_cases e : p = B
            · rw [e, up_s, up_s]
            · rw [up_n _ _ e, up_n _ _ e]
              by_cases e2 : p = a
              · rw [e2, up_s, up_s]
              · rw [up_n _ _ e2, up_n _ _ e2]; exact c2 p hp) c3
          rw [← nI_1, ← eh] at nx
          refine ⟨rfl, _, rfl, rfl, (vp_in_nI (by omega) (by decide) : vp_in (nI a) 6), rfl, _, rfl, ?_⟩
          rw [nI_clamp (by omega)]
          refine b2_eq (fun hs => ?_) (fun hs => ?_)
          · rw [if_pos hs] at nx
            refine ⟨rfl, (vp_in_nI (by omega) (by decide) : vp_in (nI B) 6), ?_⟩
            rw [nI_clamp (by omega)]
            exact qm_PW.mask [true, true, true, true, false] nx
          · rw [if_neg (by rw [hs]; decide)] at nx
            refine ⟨rfl, (vp_in_nI (by omega) (by decide) : vp_in (nI B) 6), ?_⟩
            rw [nI_clamp (by omega)]
            exact qm_PW.mask [true, true, true, true, false] nx
      · intro b hb key
        rw [← nI_1] at key
        refine qm_wp_ok hA [17, 23] 60 _ _ _ _ _ _ ⟨rfl, 0, 0, _, cby b (by omega), ⟨Nat.le_refl _, Nat.le_refl _⟩, ?_⟩
        rintro _ _ ⟨⟨v, rfl, v1, v2⟩, rfl⟩
        refine ⟨rfl, _, rfl, rfl, h26, ?_⟩
        rw [eT]
        refine ⟨fun (q : v = nI (cB g n (k + 1) a had)) => ?_, fun _ => key⟩
        exfalso
        cases qo : cO g n (cB g n k (a + 1)) a had b with
        | none =>
          have := v2 qo
          rw [q] at this
          exact nI_pos (by omega) this
        | some x =>
          have hx := v1 x qo
          have hxl := col b x qo
          rw [q] at hx
          have := (nI_eq (by omega) (by omega)).mp hx
          exact s3 b hb (by rw [qo, this])
  refine qm_wp_ok hA [4] 20 _ _ _ _ _ _ ?_
  refine qm_for (P := fun a => ∀ h', sb [44] h h' → (∀ p, p < a → h'.1 44 p = nI 6) → qm_PW G mX10_layCouples z 4 0 0 [vr 26, vi (b2 sale), vi 0, vi (nI a), vu] [] h') (N := n) ?_ ?_ h sb.rf (fun p q => by omega)
  · intro h' c1 c2
    obtain ⟨f1, f2, -⟩ := fr1 h' c1
    refine qm_wp_ok hA [17] 20 _ _ _ _ _ _ ⟨rfl, fun _ => ?_, fun (q : ¬ h'.1 26 23 ≤ nI n) => absurd (by rw [f2]; exact Int32.le_refl _) q⟩
    exact loop n 0 (Nat.zero_add _) 0 h' (fun _ => 6) (by decide) c1 c2 rfl
  · intro a ha nx h' c1 c2
    obtain ⟨f1, f2, -⟩ := fr1 h' c1
    refine qm_wp_ok hA [4] 20 _ _ _ _ _ _ ⟨rfl, fun (q : h'.1 26 23 ≤ nI a) => absurd q (by rw [f2]; exact nI_ge ha (by omega)), fun _ => ⟨rfl, _, rfl, rfl, (vp_in_nI (by omega) (by decide) : vp_in (nI a) 6), ?_⟩⟩
    rw [nI_clamp (by omega)]
    have := nx (qm_si h' 44 a (nI 6)) (c1.si (by decide)) (fun p hp => by
      rw [si_row]
      by_cases e : p = a
      · rw [e, up_s]
      · rw [up_n _ _ e]; exact c2 p (by omega))
    rw [← nI_1] at this
    exact this
def s_cpl (w : Nat → Int32) (n : Nat) (sale : Bool) (k : Int32) : Int32 := if k = -1 then nI (cB (cgN w (mi0 w) n sale) n n 0 0) else if inb k n then nI (cRow (cgN w (mi0 w) n sale) n sale n 0 0 (fun _ => 6) k.toNatClampNeg) else -1
def p_cpl (h : qm_H) (mt : Nat) (sale : Bool) (a k : Int32) : Int32 := if inb a mt then s_cpl (tw h a.toNatClampNeg) (nn (tw h a.toNatClampNeg)) sale k else -1
theorem in_m1 {k : Int32} {n : Nat} (hn : n ≤ 6) : decide ((-1 : Int32) ≤ k ∧ k ≤ nI n - 1) = (decide (k = -1) || inb k n) := by
  rw [inb, Bool.eq_iff_iff, Bool.or_eq_true, decide_eq_true_eq, decide_eq_true_eq, decide_eq_true_eq]
  constructor
  · rintro ⟨h1, h2⟩
    by_cases e : k = -1
    · exact Or.inl e
    · refine Or.inr ⟨?_, h2⟩
      have h3 := Int32.le_iff_toInt_le.mp h1
      refine Int32.le_iff_toInt_le.mpr ?_
      have h4 : k.toInt ≠ -1 := fun q => e (Int32.toInt_inj.mp q)
      show (0 : Int) ≤ _
      have h5 : (-1 : Int32).toInt = -1 := rfl
      omega
  · rintro (e | ⟨h1, h2⟩)
    · subst e
      refine ⟨Int32.le_refl _, ?_⟩
      have : ∀ n, n ≤ 6 → (-1 : Int32) ≤ nI n - 1 := by decide
      exact this n hn
    · exact ⟨Int32.le_trans (by decide : (-1 : Int32) ≤ 0) h1, h2⟩
theorem a_weddings {G : qm_G} (hG : G.2.2.2.2 = true) (d : Nat) (h : qm_H) {mt my ml : Nat} (hS : ST h mt my ml) (a k : Int32) : qm_Ev G (d + 7) 0 0 qyX10_weddings [.ref 26, .int a, .int k] h (fun r h' => r = some (.int (p_cpl h mt false a k)) ∧ pers h h') := by
  obtain ⟨s1, s2, -, -, -, -, hT, -⟩ := hS
  refine qm_Ev.run (M := mX10_weddings) okX10_weddings rfl hG fun z => ?_
  refine ⟨rfl, trivial, rfl, 0, 0, _, e_handC hG (d + 4) (qm_si h 26 0 0) (mt := mt) s1 s2 a, ⟨Nat.le_refl _, Nat.le_refl _⟩, ?_⟩
  rintro _ h1 (⟨t, ht, rfl, rfl, rfl⟩ | ⟨e0, rfl, e1⟩)
  · obtain ⟨i1, i2⟩ := p_in ht s2
    have hV := hT t ht
    have hw := hV.w
    obtain ⟨hn6, hn, -⟩ := hV
    have eP : p_cpl h mt false (nI t) k = s_cpl (tw h t) (nn (tw h t)) false k := by rw [p_cpl, i1, i2]; rfl
    have p0 : pers h (hnd (qm_si h 26 0 0) t) := pers.rf.s26.tr (hnd.ps _ t)
    refine ⟨fun q => absurd q (by decide), fun _ => ⟨rfl, ?_⟩⟩
    have e23 : (hnd (qm_si h 26 0 0) t).1 26 23 = nI (nn (tw h t)) := hn
    refine ⟨0, 0, _, e_in hG (d + 6) (hnd (qm_si h 26 0 0) t) k (-1) ((hnd (qm_si h 26 0 0) t).1 26 23 - 1), ⟨Nat.le_refl _, Nat.le_refl _⟩, ?_⟩
    rintro _ _ ⟨rfl, rfl⟩
    rw [e23, in_m1 hn6]
    refine b2_ne (fun hb => ?_) (fun hb => ⟨trivial, ?_, p0⟩)
    · refine ⟨rfl, 0, 0, _, e_findCouples hG d (hnd (qm_si h 26 0 0) t) (t := t) (n := nn (tw h t)) rfl (by omega) e23 hn6 hw false, ⟨Nat.le_refl _, Nat.le_refl _⟩, ?_⟩
      rintro _ h2 ⟨rfl, c1, c2⟩
      have g22 : h2.1 26 22 = nI t := by rw [c2.2 26 (by decide)]; rfl
      have g23 : h2.1 26 23 = nI (nn (tw h t)) := by rw [c2.2 26 (by decide)]; exact e23
      have gtw : tw h2 t = tw h t := by
        have : tw (hnd (qm_si h 26 0 0) t) t = tw h t := rfl
        rw [← this]; unfold tw; rw [c2.2 32 (by decide)]
      have g39 : h2.1 39 = mi0 (tw h t) := by rw [c2.2 39 (by decide)]; rfl
      refine ⟨rfl, 0, 0, _, e_layCouples hG d h2 (t := t) (n := nn (tw h t)) g22 (by omega) g23 hn6 (by rw [gtw]; exact hw) false (by rw [gtw, g39]; exact c1), ⟨Nat.le_refl _, Nat.le_refl _⟩, ?_⟩
      rintro _ h3 ⟨rfl, c3, c4⟩
      rw [gtw, g39] at c3
      have fin : pers h h3 := (p0.tr (c2.mono (by decide))).tr (c4.mono (by decide))
      refine ⟨fun (q : ¬ k = -1) => ?_, fun (q : k = -1) => ?_⟩
      · have hb2 : inb k (nn (tw h t)) = true := by
          rw [decide_eq_false q] at hb; exact hb
        obtain ⟨kk, hkk, rfl⟩ := inb_e (by omega) hb2
        refine ⟨rfl, _, rfl, rfl, (vp_in_nI (by omega) (by decide) : vp_in (nI kk) 6), trivial, congrArg (fun v => some (Value.int v)) ?_, fin⟩
        rw [eP, s_cpl, if_neg q, if_pos hb2, nI_clamp (by omega)]
        exact c3 kk hkk
      · refine ⟨rfl, _, rfl, rfl, (vp_in_nI (n := 0) (by decide) (by decide) : vp_in (nI 0) 448), trivial, congrArg (fun v => some (Value.int v)) ?_, fin⟩
        rw [eP, s_cpl, if_pos q]
        show h3.1 45 0 = _
        rw [c4.2 45 (by decide)]
        exact c1 0 (Nat.le_refl _) (Nat.zero_le _) 0 (by decide)
    · rw [eP, s_cpl, if_neg (by intro e; rw [e] at hb; exact absurd hb (by rw [decide_eq_true rfl]; simp)), if_neg (by intro e; rw [e, Bool.or_true] at hb; exact absurd hb (by decide))]
  · exact ⟨fun _ => ⟨trivial, by rw [p_cpl, e0]; rfl, e1 ▸ pers.rf.s26⟩, fun q => absurd rfl q⟩
theorem a_sales {G : qm_G} (hG : G.2.2.2.2 = true) (d : Nat) (h : qm_H) {mt my ml : Nat} (hS : ST h mt my ml) (a k : Int32) : qm_Ev G (d + 7) 0 0 qyX10_sales [.ref 26, .int a, .int k] h (fun r h' => r = some (.int (p_cpl h mt true a k)) ∧ pers h h') := by
  obtain ⟨s1, s2, -, -, -, -, hT, -⟩ := hS
  refine qm_Ev.run (M := mX10_sales) okX10_sales rfl hG fun z => ?_
  refine ⟨rfl, trivial, rfl, 0, 0, _, e_handC hG (d + 4) (qm_si h 26 0 0) (mt := mt) s1 s2 a, ⟨Nat.le_refl _, Nat.le_refl _⟩, ?_⟩
  rintro _ h1 (⟨t, ht, rfl, rfl, rfl⟩ | ⟨e0, rfl, e1⟩)
  · obtain ⟨i1, i2⟩ := p_in ht s2
    have hV := hT t ht
    have hw := hV.w
    obtain ⟨hn6, hn, -⟩ := hV
    have eP : p_cpl h mt true (nI t) k = s_cpl (tw h t) (nn (tw h t)) true k := by rw [p_cpl, i1, i2]; rfl
    have p0 : pers h (hnd (qm_si h 26 0 0) t) := pers.rf.s26.tr (hnd.ps _ t)
    refine ⟨fun q => absurd q (by decide), fun _ => ⟨rfl, ?_⟩⟩
    have e23 : (hnd (qm_si h 26 0 0) t).1 26 23 = nI (nn (tw h t)) := hn
    refine ⟨0, 0, _, e_in hG (d + 6) (hnd (qm_si h 26 0 0) t) k (-1) ((hnd (qm_si h 26 0 0) t).1 26 23 - 1), ⟨Nat.le_refl _, Nat.le_refl _⟩, ?_⟩
    rintro _ _ ⟨rfl, rfl⟩
    rw [e23, in_m1 hn6]
    refine b2_ne (fun hb => ?_) (fun hb => ⟨trivial, ?_, p0⟩)
    · refine ⟨rfl, 0, 0, _, e_findCouples hG d (hnd (qm_si h 26 0 0) t) (t := t) (n := nn (tw h t)) rfl (by omega) e23 hn6 hw true, ⟨Nat.le_refl _, Nat.le_refl _⟩, ?_⟩
      rintro _ h2 ⟨rfl, c1, c2⟩
      have g22 : h2.1 26 22 = nI t := by rw [c2.2 26 (by decide)]; rfl
      have g23 : h2.1 26 23 = nI (nn (tw h t)) := by rw [c2.2 26 (by decide)]; exact e23
      have gtw : tw h2 t = tw h t := by
        have : tw (hnd (qm_si h 26 0 0) t) t = tw h t := rfl
        rw [← this]; unfold tw; rw [c2.2 32 (by decide)]
      have g39 : h2.1 39 = mi0 (tw h t) := by rw [c2.2 39 (by decide)]; rfl
      refine ⟨rfl, 0, 0, _, e_layCouples hG d h2 (t := t) (n := nn (tw h t)) g22 (by omega) g23 hn6 (by rw [gtw]; exact hw) true (by rw [gtw, g39]; exact c1), ⟨Nat.le_refl _, Nat.le_refl _⟩, ?_⟩
      rintro _ h3 ⟨rfl, c3, c4⟩
      rw [gtw, g39] at c3
      have fin : pers h h3 := (p0.tr (c2.mono (by decide))).tr (c4.mono (by decide))
      refine ⟨fun (q : ¬ k = -1) => ?_, fun (q : k = -1) => ?_⟩
      · have hb2 : inb k (nn (tw h t)) = true := by
          rw [decide_eq_false q] at hb; exact hb
        obtain ⟨kk, hkk, rfl⟩ := inb_e (by omega) hb2
        refine ⟨rfl, _, rfl, rfl, (vp_in_nI (by omega) (by decide) : vp_in (nI kk) 6), trivial, congrArg (fun v => some (Value.int v)) ?_, fin⟩
        rw [eP, s_cpl, if_neg q, if_pos hb2, nI_clamp (by omega)]
        exact c3 kk hkk
      · refine ⟨rfl, _, rfl, rfl, (vp_in_nI (n := 0) (by decide) (by decide) : vp_in (nI 0) 448), trivial, congrArg (fun v => some (Value.int v)) ?_, fin⟩
        rw [eP, s_cpl, if_pos q]
        show h3.1 45 0 = _
        rw [c4.2 45 (by decide)]
        exact c1 0 (Nat.le_refl _) (Nat.zero_le _) 0 (by decide)
    · rw [eP, s_cpl, if_neg (by intro e; rw [e] at hb; exact absurd hb (by rw [decide_eq_true rfl]; simp)), if_neg (by intro e; rw [e, Bool.or_true] at hb; exact absurd hb (by decide))]
  · exact ⟨fun _ => ⟨trivial, by rw [p_cpl, e0]; rfl, e1 ▸ pers.rf.s26⟩, fun q => absurd rfl q⟩
