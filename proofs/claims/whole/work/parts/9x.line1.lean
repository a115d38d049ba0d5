/-! the class: a line -/
def LE (h' : qm_H) (r : Option Value) (p : Nat) : Prop := r = some (.int 0) ∧ h'.1 8 0 = 1 ∧ h'.1 8 1 = nI p
def LOK (B : Nat → Nat) (L n m2 w : Nat) (h h' : qm_H) (r : Option Value) (R : Except Nat (Nat × (Nat × Nat) × (Nat → Int32))) : Prop := match R with
  | .error p => LE h' r p
  | .ok (a2, flt2, vs) => if tK B L a2 = 4 then r = some (.int 1) ∧ FLc h' flt2 ∧ h'.1 8 5 = nI (tE B L a2) ∧ h'.1 8 3 = nI (n + 1) ∧ h'.1 8 4 = nI m2 ∧ h'.1 9 (4 * n) = nI w ∧ (∀ i, 1 ≤ i → i ≤ 3 → h'.1 9 (4 * n + i) = vs i) ∧ (∀ j, j < 4 * n → h'.1 9 j = h.1 9 j) else LE h' r (tB B L a2)
def LSt (B : Nat → Nat) (L n m2 w : Nat) (h h' : qm_H) (a : Nat) (flt : Nat × Nat) (vs : Nat → Int32) : Prop := sb [8, 9] h h' ∧ TP (h'.1 2) B ∧ a ≤ L ∧ h'.1 8 5 = nI a ∧ FLc h' flt ∧ h'.1 8 3 = nI n ∧ h'.1 8 4 = nI m2 ∧ h'.1 9 (4 * n) = nI w ∧ (∀ i, 1 ≤ i → i ≤ 3 → h'.1 9 (4 * n + i) = vs i) ∧ (∀ j, j < 4 * n → h'.1 9 j = h.1 9 j)
theorem cf.g {h h' : qm_H} (a : cf h h') : cg [5, 6, 7, 8] h h' := a
theorem LSt.tok {B : Nat → Nat} {L n m2 w : Nat} {h h' h2 : qm_H} {a e : Nat} {flt : Nat × Nat} {vs : Nat → Int32} (k : LSt B L n m2 w h h' a flt vs) (f : cf h' h2) (he : h2.1 8 5 = nI e) (hL : e ≤ L) : LSt B L n m2 w h h2 e flt vs := by
  obtain ⟨k1, k2, k3, k4, k5, k6, k7, k8, k9, k10⟩ := k
  have e9 : h2.1 9 = h'.1 9 := f.1.2 9 (by decide)
  refine ⟨k1.tr (f.1.mono (by decide)), by rw [f.1.2 2 (by decide)]; exact k2, hL, he, k5.cg f.g (by decide) (by decide), by rw [f.2 3 (by decide)]; exact k6, by rw [f.2 4 (by decide)]; exact k7, by rw [e9]; exact k8, fun i h1 h3 => by rw [e9]; exact k9 i h1 h3, fun j hj => by rw [e9]; exact k10 j hj⟩
theorem LSt.bl {B : Nat → Nat} {L n m2 w : Nat} {h h' h2 : qm_H} {a : Nat} {flt flt' : Nat × Nat} {vs : Nat → Int32} (k : LSt B L n m2 w h h' a flt vs) (f : cg [0, 1] h' h2) (hF : FLc h2 flt') : LSt B L n m2 w h h2 a flt' vs := by
  obtain ⟨k1, k2, k3, k4, k5, k6, k7, k8, k9, k10⟩ := k
  have e9 : h2.1 9 = h'.1 9 := f.1.2 9 (by decide)
  refine ⟨k1.tr (f.1.mono (by decide)), by rw [f.1.2 2 (by decide)]; exact k2, k3, by rw [f.2 5 (by decide)]; exact k4, hF, by rw [f.2 3 (by decide)]; exact k6, by rw [f.2 4 (by decide)]; exact k7, by rw [e9]; exact k8, fun i h1 h3 => by rw [e9]; exact k9 i h1 h3, fun j hj => by rw [e9]; exact k10 j hj⟩
theorem LSt.put {B : Nat → Nat} {L n m2 w : Nat} {h h' : qm_H} {a k : Nat} {flt : Nat × Nat} {vs : Nat → Int32} {v : Int32} (q : LSt B L n m2 w h h' a flt vs) (h1 : 1 ≤ k) (h3 : k ≤ 3) : LSt B L n m2 w h (qm_si h' 9 (4 * n + k) v) a flt (va_up vs k v) := by
  obtain ⟨k1, k2, k3, k4, k5, k6, k7, k8, k9, k10⟩ := q
  have e8 : (qm_si h' 9 (4 * n + k) v).1 8 = h'.1 8 := si_ne _ _ _ (by decide)
  refine ⟨k1.si (by decide), by rw [si_ne _ _ _ (by decide)]; exact k2, k3, by rw [e8]; exact k4, ⟨by rw [e8]; exact k5.1, by rw [e8]; exact k5.2.1, k5.2.2⟩, by rw [e8]; exact k6, by rw [e8]; exact k7, by rw [si_o _ _ _ (by omega)]; exact k8, fun i i1 i3 => ?_, fun j hj => by rw [si_o _ _ _ (by omega)]; exact k10 j hj⟩
  by_cases c : i = k
  · rw [c, si_s, up_s]
  · rw [si_o _ _ _ (by omega), up_n _ _ c]; exact k9 i i1 i3
theorem ck_ok : ∀ k, k ≤ 4 → (ck k = 1 ↔ k = 2) ∧ (ck k = 3 ↔ k = 4) ∧ (ck k = 2 ↔ k = 3) ∧ (ck k = 0 ↔ k = 0) ∧ ck k ≤ 4 := by decide
theorem nu_ok : ∀ w, w < 12 → nu w ≤ 3 ∧ qm_sti 3 w = nI (nu w) := by decide
theorem rl_108 {G : qm_G} (hG : G.2.2.2.2 = true) (d : Nat) (h : qm_H) {B : Nat → Nat} {L s n m2 w : Nat} {z : qm_Z} {U : Option Value → qm_H → Prop} (hA : qm_At G true mX2_readLine z (d + 6) 0 0 U) (hL : L ≤ 600) (hn : n < 150) {R : Except Nat (Nat × (Nat × Nat) × (Nat → Int32))} (fin : ∀ r h', sb [8, 9] h h' → LOK B L n m2 w h h' r R → U r h') {h' : qm_H} {a k : Nat} {flt : Nat × Nat} {vs : Nat → Int32} (q : LSt B L n m2 w h h' a flt vs) (hR : R = .ok (a, flt, vs)) : qm_PW G mX2_readLine z 108 0 0 [vr 8, vr 2, vi (nI L), vi (nI s), vi (nI w), vi (nI (4 * n)), vi (nI k)] [] (h') := by
  obtain ⟨k1, k2, k3, k4, k5, k6, k7, k8, k9, k10⟩ := q
  refine qm_wp_ok hA [] 40 _ _ _ _ _ _ ⟨rfl, 0, 0, _, c_nextToken hG (d + 3) h' k2 hL k4 k3, ⟨Nat.le_refl _, Nat.le_refl _⟩, ?_⟩
  rintro _ h2 ⟨rfl, ⟨t1, t2, t3, t4⟩, f, b1, b2, b3⟩
  have q2 := LSt.tok ⟨k1, k2, k3, k4, k5, k6, k7, k8, k9, k10⟩ f t1 b3
  obtain ⟨j1, j2, j3, j4, j5, j6, j7, j8, j9, j10⟩ := q2
  have hk := (tE_lt (B := B) k3).2.2.2.2.2
  obtain ⟨-, y2, -, -, y5⟩ := ck_ok _ hk
  refine ⟨rfl, fun (q : h2.1 8 6 = nI 3) => ⟨rfl, rfl, trivial, rfl, fin _ _ (j1.si (by decide)) ?_⟩, fun (q : ¬ h2.1 8 6 = nI 3) => ⟨rfl, 0, 0, _, c_refuse hG _ h2, ⟨Nat.le_refl _, Nat.le_refl _⟩, ?_⟩⟩
  · rw [t3] at q
    have q : tK B L a = 4 := y2.mp ((nI_eq (by omega) (by decide)).mp q)
    rw [hR]
    show if tK B L a = 4 then _ else _
    rw [if_pos q]
    have e9 : ∀ v, (qm_si h2 8 3 v).1 9 = h2.1 9 := fun v => si_ne _ _ _ (by decide)
    refine ⟨rfl, ⟨(si_o _ _ _ (by decide)).trans j5.1, (si_o _ _ _ (by decide)).trans j5.2.1, j5.2.2⟩, (si_o _ _ _ (by decide)).trans j4, (si_s _ _ _ _).trans ?_, (si_o _ _ _ (by decide)).trans j7, (congrFun (e9 _) _).trans j8, fun i i1 i3 => (congrFun (e9 _) _).trans (j9 i i1 i3), fun j hj => (congrFun (e9 _) _).trans (j10 j hj)⟩
    show h2.1 8 3 + 1 = _
    rw [j6, nI_1]
  · rintro _ h3 ⟨rfl, r1, r2, r3⟩
    refine ⟨rfl, fin _ _ (j1.tr (r3.1.mono (by decide))) ?_⟩
    rw [t3] at q
    have q : ¬ tK B L a = 4 := fun y => q (by rw [y2.mpr y])
    rw [hR]
    show if tK B L a = 4 then _ else _
    rw [if_neg q]
    exact ⟨rfl, r1, by rw [r2, t2]⟩
theorem rl_62 {G : qm_G} (hG : G.2.2.2.2 = true) (d : Nat) (h : qm_H) {B : Nat → Nat} {L s n m2 w : Nat} {z : qm_Z} {U : Option Value → qm_H → Prop} (hA : qm_At G true mX2_readLine z (d + 6) 0 0 U) (hL : L ≤ 600) (hw : w < 12) (hn : n < 150) {R : Except Nat (Nat × (Nat × Nat) × (Nat → Int32))} (fin : ∀ r h', sb [8, 9] h h' → LOK B L n m2 w h h' r R → U r h') : ∀ (r k a : Nat) (flt : Nat × Nat) (vs : Nat → Int32) (h' : qm_H), k + r = nu w + 1 → 1 ≤ k → LSt B L n m2 w h h' a flt vs → R = pn B L w r k a flt vs → qm_PW G mX2_readLine z 62 0 0 [vr 8, vr 2, vi (nI L), vi (nI s), vi (nI w), vi (nI (4 * n)), vi (nI k)] [] (h') := by
  obtain ⟨u1, u2⟩ := nu_ok w hw
  have hq : Value.int (qm_sti 3 (nI w).toNatClampNeg) = .int (nI (nu w)) := by rw [nI_clamp (by omega), u2]
  intro r
  induction r with
  | zero =>
    intro k a flt vs h' hk k1 q hR
    refine qm_wp_ok hA [63] 10 _ _ _ _ _ _ ?_
    refine sp_gets hA rfl rfl rfl 3 rfl (k1 := 474) (by decide +kernel) ?_
    refine qm_wp_ok hA [65] 10 _ _ _ _ _ _ ?_
    refine sp_ti hA rfl rfl rfl 3 rfl (x := nI w) (y := nI (nu w)) (vp_in_nI (by omega) (by decide)) hq ?_
    exact qm_wp_ok hA [108] 10 _ _ _ _ _ _ ⟨fun _ => rl_108 hG d h hA hL hn fin q hR, fun (y : ¬ nI (nu w) < nI k) => absurd (nI_lt (by omega) (by omega)) y⟩
  | succ r ih =>
    intro k a flt vs h' hk k1 q hR
    have q0 := q
    obtain ⟨j1, j2, j3, j4, j5, j6, j7, j8, j9, j10⟩ := q
    refine qm_wp_ok hA [63] 10 _ _ _ _ _ _ ?_
    refine sp_gets hA rfl rfl rfl 3 rfl (k1 := 474) (by decide +kernel) ?_
    refine qm_wp_ok hA [65] 10 _ _ _ _ _ _ ?_
    refine sp_ti hA rfl rfl rfl 3 rfl (x := nI w) (y := nI (nu w)) (vp_in_nI (by omega) (by decide)) hq ?_
    refine qm_wp_ok hA [81, 108] 60 _ _ _ _ _ _ ⟨fun (y : nI (nu w) < nI k) => absurd y (Int32.not_lt.mpr (nI_le (by omega) (by omega))), fun _ => ⟨fun (y : nI 3 < nI k) => absurd y (Int32.not_lt.mpr (nI_le (by omega) (by decide))), fun _ => ⟨rfl, 0, 0, _, c_nextToken hG (d + 3) h' j2 hL j4 j3, ⟨Nat.le_refl _, Nat.le_refl _⟩, ?_⟩⟩⟩
    rintro _ h2 ⟨rfl, ⟨t1, t2, t3, t4⟩, f, b1, b2, b3⟩
    have q2 := q0.tok f t1 b3
    have hkk := (tE_lt (B := B) j3).2.2.2.2.2
    obtain ⟨-, -, y3, -, y5⟩ := ck_ok _ hkk
    refine ⟨rfl, fun (y : h2.1 8 6 = nI 2) => ?_, fun (y : ¬ h2.1 8 6 = nI 2) => ⟨rfl, 0, 0, _, c_refuse hG _ h2, ⟨Nat.le_refl _, Nat.le_refl _⟩, ?_⟩⟩
    · rw [t3] at y
      have y : tK B L a = 3 := y3.mp ((nI_eq (by omega) (by decide)).mp y)
      rw [pn, if_pos y] at hR
      have hv := tV_le (B := B) j3 y
      have t4 := t4 y
      obtain ⟨v, hv0⟩ : ∃ v, v = tV B L a := ⟨_, rfl⟩
      rw [← hv0] at hR hv t4
      obtain ⟨h3, hh3⟩ : ∃ h3, h3 = qm_si h2 9 (4 * n + k) (nI v) := ⟨_, rfl⟩
      have q3 : LSt B L n m2 w h h3 (tE B L a) flt (va_up vs k (nI v)) := by rw [hh3]; exact q2.put k1 (by omega)
      have e7 : h3.1 8 7 = nI (tB B L a) := by rw [hh3, si_ne _ _ _ (by decide)]; exact t2
      have e8 : h3.1 8 8 = nI v := by rw [hh3, si_ne _ _ _ (by decide)]; exact t4
      have ek : nI (4 * n) + nI k = nI (4 * n + k) := nI_add _ _
      have m106 : ∀ h4 flt', LSt B L n m2 w h h4 (tE B L a) flt' (va_up vs k (nI v)) → flt' = (if bd w k vs v then fs1 flt 2 (tB B L a) else flt) → qm_PW G mX2_readLine z 106 0 0 [vr 8, vr 2, vi (nI L), vi (nI s), vi (nI w), vi (nI (4 * n)), vi (nI k)] [] (h4) := fun h4 flt' q4 ef => by
        have nx := ih (k + 1) _ _ _ h4 (by omega) (by omega) q4 (by rw [ef]; exact hR)
        rw [← nI_1 k] at nx
        exact qm_wp_ok hA [62] 10 _ _ _ _ _ _ nx
      have m101 : bd w k vs v = true → qm_PW G mX2_readLine z 101 0 0 [vr 8, vr 2, vi (nI L), vi (nI s), vi (nI w), vi (nI (4 * n)), vi (nI k)] [] (h3) := fun hb => by
        have g := c_blame hG (d + 5) h3 q3.2.2.2.2.1 (f := 2) (p := tB B L a) (by decide) (by decide)
        rw [← e7] at g
        refine qm_wp_ok hA [106] 20 _ _ _ _ _ _ ⟨rfl, rfl, 0, 0, _, g, ⟨Nat.le_refl _, Nat.le_refl _⟩, ?_⟩
        rintro _ h4 ⟨rfl, f1, f2⟩
        exact m106 h4 _ (q3.bl f2 f1) (by rw [if_pos hb])
      have g89 : qm_PW G mX2_readLine z 89 0 0 [vr 8, vr 2, vi (nI L), vi (nI s), vi (nI w), vi (nI (4 * n)), vi (nI k)] [] (h3) := by
        refine qm_wp_ok hA [101, 106] 40 _ _ _ _ _ _ ⟨rfl, 0, 0, _, c_mostOf hG _ h3 hw k1 (by omega), ⟨Nat.le_refl _, Nat.le_refl _⟩, ?_⟩
        rintro _ _ ⟨rfl, rfl⟩
        refine ⟨fun (y : nI (mo w k) < h3.1 8 8) => ?_, fun (y : ¬ nI (mo w k) < h3.1 8 8) => ⟨rfl, 0, 0, _, c_again hG _ h3 hw (by omega : k ≤ 3) (by omega : 4 * n + 3 < 600), ⟨Nat.le_refl _, Nat.le_refl _⟩, ?_⟩⟩
        · rw [e8] at y
          have hmo : mo w k ≤ 30 := (by decide : ∀ w, w < 12 → ∀ k, k < 4 → mo w k ≤ 30) w hw k (by omega)
          have y : mo w k < v := by
            rcases Nat.lt_or_ge (mo w k) v with x | x
            · exact x
            · exact absurd y (Int32.not_lt.mpr (nI_le x (by omega)))
          exact m101 (by rw [bd, decide_eq_true y]; rfl)
        · rintro _ _ ⟨rfl, rfl⟩
          rw [e8] at y
          have y : ¬ mo w k < v := fun x => y (nI_lt x (by omega))
          have eb : bd w k vs v = (decide (k = 2) && (unl w && decide (h3.1 9 (4 * n + 1) = h3.1 9 (4 * n + 2)))) := by
            rw [bd, decide_eq_false y, Bool.false_or]
            by_cases c : k = 2
            · have z1 := q3.2.2.2.2.2.2.2.2.1 1 (by decide) (by decide)
              have z2 := q3.2.2.2.2.2.2.2.2.1 2 (by decide) (by decide)
              rw [z1, z2, c, up_s, up_n _ _ (by decide)]
            · rw [decide_eq_false c]; rfl
          rw [← eb]
          exact b2_eq (fun x => m101 x) (fun x => m106 h3 flt q3 (by rw [if_neg (by rw [x]; decide)]))
      have hin : vp_in (nI (4 * n) + nI k) 600 := by rw [ek]; exact vp_in_nI (by omega) (by decide)
      have ec : (nI (4 * n) + nI k).toNatClampNeg = 4 * n + k := by rw [ek, nI_clamp (by omega)]
      have e88 : h2.1 8 8 = nI v := t4
      rw [hh3, ← ec, ← e88] at g89
      exact qm_wp_ok hA [89] 20 _ _ _ _ _ _ ⟨rfl, _, rfl, rfl, rfl, hin, g89⟩
    · rintro _ h3 ⟨rfl, r1, r2, r3⟩
      refine ⟨rfl, fin _ _ (q2.1.tr (r3.1.mono (by decide))) ?_⟩
      rw [t3] at y
      have y : ¬ tK B L a = 3 := fun x => y (by rw [y3.mpr x])
      rw [hR, pn, if_neg y]
      exact ⟨rfl, r1, by rw [r2, t2]⟩
