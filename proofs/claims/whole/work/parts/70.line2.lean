/-! the reference: reading numbers, counting lines -/
def rf (S K : List Nat) (h h' : qm_H) : Prop := h'.2.2 = h.2.2 ∧ (∀ q, q ≠ 26 → q ∉ S → h'.1 q = h.1 q) ∧ (∀ q, q ≠ 26 → h'.2.1 q = h.2.1 q) ∧ ∀ k, k ∉ K → h'.1 26 k = h.1 26 k
theorem rf.r {S K : List Nat} {h : qm_H} : rf S K h h := ⟨rfl, fun _ _ _ => rfl, fun _ _ => rfl, fun _ _ => rfl⟩
theorem rf.tr {S K : List Nat} {h h1 h2 : qm_H} (a : rf S K h h1) (b : rf S K h1 h2) : rf S K h h2 := ⟨b.1.trans a.1, fun q hq hs => (b.2.1 q hq hs).trans (a.2.1 q hq hs), fun q hq => (b.2.2.1 q hq).trans (a.2.2.1 q hq), fun k hk => (b.2.2.2 k hk).trans (a.2.2.2 k hk)⟩
theorem rf.mono {S K S' K' : List Nat} {h h1 : qm_H} (a : rf S K h h1) (h1' : ∀ q, q ∈ S → q ∈ S') (h2' : ∀ q, q ∈ K → q ∈ K') : rf S' K' h h1 := ⟨a.1, fun q hq hs => a.2.1 q hq (fun z => hs (h1' q z)), a.2.2.1, fun k hk => a.2.2.2 k (fun z => hk (h2' k z))⟩
theorem rf.s26 {S K : List Nat} {h h1 : qm_H} (a : rf S K h h1) {k : Nat} {v : Int32} (hk : k ∈ K) : rf S K h (qm_si h1 26 k v) := ⟨a.1, fun q hq hs => by rw [si_ne _ _ _ hq]; exact a.2.1 q hq hs, a.2.2.1, fun j hj => by rw [si_row, up_n _ _ (fun e => hj (by rw [e]; exact hk))]; exact a.2.2.2 j hj⟩
theorem rf.si {S K : List Nat} {h h1 : qm_H} (a : rf S K h h1) {p k : Nat} {v : Int32} (hp : p ∈ S) (hp2 : 26 ≠ p) : rf S K h (qm_si h1 p k v) := ⟨a.1, fun q hq hs => by rw [si_ne _ _ _ (fun e => hs (by rw [e]; exact hp))]; exact a.2.1 q hq hs, a.2.2.1, fun j hj => by rw [si_ne _ _ _ hp2]; exact a.2.2.2 j hj⟩
theorem tfto {S K : List Nat} {h h1 : qm_H} (a : tf h h1) (hK : ∀ k, k ∈ [9, 11, 12, 13] → k ∈ K) : rf S K h h1 := ⟨a.1, fun q hq _ => a.2.1 q hq, a.2.2.1, fun k hk => a.2.2.2 k (fun z => hk (hK k z))⟩
def LF (h : qm_H) (a : Nat) (flt : Nat × Nat) : Prop := h.1 26 16 = nI flt.1 ∧ (flt.1 ≠ 0 → h.1 26 17 = nI flt.2 ∧ flt.2 < a) ∧ flt.1 ≤ 4
def RW (h : qm_H) (B : Nat → Nat) (L a : Nat) (flt : Nat × Nat) : Prop := TP (h.1 27) B ∧ L ≤ 600 ∧ h.1 26 10 = nI L ∧ a ≤ L ∧ h.1 26 9 = nI a ∧ LF h a flt
def RD (h : qm_H) (B : Nat → Nat) (L a : Nat) (flt : Nat × Nat) : Prop := TP (h.1 27) B ∧ L ≤ 600 ∧ h.1 26 10 = nI L ∧ a ≤ L ∧ TS h B L a ∧ LF h a flt
theorem LF.up {h : qm_H} {a a' : Nat} {flt : Nat × Nat} (k : LF h a flt) (ha : a ≤ a') : LF h a' flt := ⟨k.1, fun q => ⟨(k.2.1 q).1, by have := (k.2.1 q).2; omega⟩, k.2.2⟩
theorem RD.w {h : qm_H} {B : Nat → Nat} {L a : Nat} {flt : Nat × Nat} (k : RD h B L a flt) : RW h B L (tE B L a) flt := by
  obtain ⟨k1, k2, k3, k4, k5, k6⟩ := k
  obtain ⟨t1, t2⟩ := tB_le (B := B) k4
  obtain ⟨t3, t4, -⟩ := tE_lt (B := B) k4
  exact ⟨k1, k2, k3, t4, k5.1, k6.up (by omega)⟩
theorem RD.si {h : qm_H} {B : Nat → Nat} {L a : Nat} {flt : Nat × Nat} (k : RD h B L a flt) {p j : Nat} {v : Int32} (h1 : 26 ≠ p) (h2 : 27 ≠ p) : RD (qm_si h p j v) B L a flt := by
  have e1 : (qm_si h p j v).1 26 = h.1 26 := si_ne _ _ _ h1
  have e2 : (qm_si h p j v).1 27 = h.1 27 := si_ne _ _ _ h2
  obtain ⟨k1, k2, k3, k4, k5, k6⟩ := k
  refine ⟨by rw [e2]; exact k1, k2, by rw [e1]; exact k3, k4, ?_, ?_⟩
  · unfold TS at k5 ⊢; rw [e1]; exact k5
  · unfold LF at k6 ⊢; rw [e1]; exact k6
theorem RD.s26 {h : qm_H} {B : Nat → Nat} {L a : Nat} {flt : Nat × Nat} (k : RD h B L a flt) {j : Nat} {v : Int32} (hj : j ∉ [9, 10, 11, 12, 13, 16, 17]) : RD (qm_si h 26 j v) B L a flt := by
  have e0 : ∀ i, i ∈ [9, 10, 11, 12, 13, 16, 17] → (qm_si h 26 j v).1 26 i = h.1 26 i := fun i hi => by rw [si_row, up_n _ _ (fun e => hj (by rw [← e]; exact hi))]
  have e2 : (qm_si h 26 j v).1 27 = h.1 27 := si_ne _ _ _ (by decide)
  obtain ⟨k1, k2, k3, k4, ⟨q1, q2, q3, q4, q5⟩, ⟨l1, l2, l3⟩⟩ := k
  exact ⟨by rw [e2]; exact k1, k2, by rw [e0 10 (by decide)]; exact k3, k4, ⟨by rw [e0 9 (by decide)]; exact q1, by rw [e0 11 (by decide)]; exact q2, by rw [e0 12 (by decide)]; exact q3, fun z => by rw [e0 13 (by decide)]; exact q4 z, q5⟩, ⟨by rw [e0 16 (by decide)]; exact l1, fun z => ⟨by rw [e0 17 (by decide)]; exact (l2 z).1, (l2 z).2⟩, l3⟩⟩
theorem e_tok {G : qm_G} (hG : G.2.2.2.2 = true) (d : Nat) (h : qm_H) {B : Nat → Nat} {L a : Nat} {flt : Nat × Nat} (hR : RW h B L a flt) : qm_Ev G (d + 1) 0 0 qyX10_token [.ref 26] h (fun r h' => r = none ∧ RD h' B L a flt ∧ tf h h') := by
  obtain ⟨k1, k2, k3, k4, k5, k6⟩ := hR
  refine (e_token hG d h k1 k2 k5 k4 k3).mono ?_
  rintro _ h' ⟨rfl, q1, q2, -⟩
  refine ⟨rfl, ⟨by rw [q2.2.1 27 (by decide)]; exact k1, k2, by rw [q2.2.2.2 10 (by decide)]; exact k3, k4, q1, ?_⟩, q2⟩
  unfold LF at k6 ⊢
  rw [q2.2.2.2 16 (by decide), q2.2.2.2 17 (by decide)]
  exact k6
theorem e_fails {G : qm_G} (hG : G.2.2.2.2 = true) (d : Nat) (h : qm_H) : qm_Ev G d 0 0 qyX10_fails [.ref 26] h (fun r h' => r = some (.int 0) ∧ h' = qm_si h 26 15 (h.1 26 11)) := by
  refine qm_Ev.run (M := mX10_fails) okX10_fails rfl hG fun z => ?_
  exact ⟨rfl, rfl, trivial, rfl, rfl, rfl⟩
def fs1 (flt : Nat × Nat) (f p : Nat) : Nat × Nat := if flt.1 = 0 then (f, p) else flt
theorem e_later {G : qm_G} (hG : G.2.2.2.2 = true) (d : Nat) (h : qm_H) {a f p : Nat} {flt : Nat × Nat} (hL : LF h a flt) (hf : f ≤ 4) (hf0 : f ≠ 0) (hp : a ≤ p) (hp6 : p ≤ 600) : qm_Ev G d 0 0 qyX10_later [.ref 26, .int (nI f), .int (nI p)] h (fun r h' => r = none ∧ LF h' (p + 1) (fs1 flt f p) ∧ rf [] [16, 17] h h' ∧ h'.2 = h.2) := by
  obtain ⟨l1, l2, l3⟩ := hL
  refine qm_Ev.run (M := mX10_later) okX10_later rfl hG fun z => ?_
  refine ⟨rfl, fun (q : h.1 26 16 = 0) => ⟨rfl, trivial, rfl, trivial, rfl, rfl, ?_, ?_, rfl⟩, fun (q : ¬ h.1 26 16 = 0) => ?_⟩
  · rw [l1] at q
    have e0 : flt.1 = 0 := (nI_eq (b := 0) (by omega) (by decide)).mp q
    rw [fs1, if_pos e0]
    refine ⟨?_, fun _ => ⟨?_, by show p < p + 1; omega⟩, hf⟩
    · show (qm_si (qm_si h 26 16 (nI f)) 26 17 (nI p)).1 26 16 = nI f
      rw [si_row, up_n _ _ (by decide), si_row, up_s]
    · show (qm_si (qm_si h 26 16 (nI f)) 26 17 (nI p)).1 26 17 = nI p
      rw [si_row, up_s]
  · exact (rf.r.s26 (by decide)).s26 (by decide)
  · rw [l1] at q
    have e0 : flt.1 ≠ 0 := fun e => q (by rw [e]; rfl)
    obtain ⟨l4, l5⟩ := l2 e0
    refine ⟨rfl, fun (z : nI p < h.1 26 17) => absurd z (by rw [l4]; exact nI_nlt (by omega) (by omega)), fun _ => ⟨rfl, fun _ => ⟨rfl, rfl, ?_, rf.r, rfl⟩, fun (z : nI p = h.1 26 17) => ?_⟩⟩
    · rw [fs1, if_neg e0]
      exact ⟨l1, fun _ => ⟨l4, by omega⟩, l3⟩
    · rw [l4] at z
      have := (nI_eq (by omega) (by omega)).mp z
      omega
def KR : List Nat := [9, 11, 12, 13, 15, 16, 17, 20, 21]
def bdd (hi v : Nat) (but : Int32) : Bool := decide (hi < v) || decide (nI v = but)
theorem e_in0 {G : qm_G} (hG : G.2.2.2.2 = true) (d : Nat) (h : qm_H) {x : Int32} {v hi : Nat} (hx : x = nI v) (hv : v < 2 ^ 31) (hh : hi < 2 ^ 31) : qm_Ev G d 0 0 qyX10_in [.int x, .int 0, .int (nI hi)] h (fun r h' => r = some (.int (b2 (decide (v ≤ hi)))) ∧ h = h') := by
  refine (e_in hG d h x 0 (nI hi)).mono ?_
  rintro _ h' ⟨rfl, rfl⟩
  refine ⟨?_, rfl⟩
  have : decide ((0 : Int32) ≤ x ∧ x ≤ nI hi) = decide (v ≤ hi) := by
    rw [hx]
    exact decide_eq_decide.mpr ⟨fun q => (nI_leI hv hh).mp q.2, fun q => ⟨nI_pos' hv, nI_le q hh⟩⟩
  rw [this]
theorem e_takeBut {G : qm_G} (hG : G.2.2.2.2 = true) (d : Nat) (h : qm_H) {B : Nat → Nat} {L a : Nat} {flt : Nat × Nat} (hR : RD h B L a flt) {k hi : Nat} (hk : k < 4) (hh : hi < 256) (but : Int32) : qm_Ev G (d + 2) 0 0 qyX10_takeBut [.ref 26, .int (nI k), .int 0, .int (nI hi), .int but] h (fun r h' => (tK B L a = 3 ∧ r = some (.int 1) ∧ RD h' B L (tE B L a) (if bdd hi (tV B L a) but then fs1 flt 2 (tB B L a) else flt) ∧ h'.1 36 = va_up (h.1 36) k (nI (tV B L a)) ∧ h'.1 26 21 = (if bdd hi (tV B L a) but then 0 else h.1 26 21) ∧ h'.1 26 20 = h.1 26 20 ∧ rf [36] KR h h') ∨ (tK B L a ≠ 3 ∧ r = some (.int 0) ∧ h'.1 26 15 = nI (tB B L a) ∧ rf [] KR h h')) := by
  have hR0 := hR
  obtain ⟨k1, k2, k3, k4, k5, k6⟩ := hR
  obtain ⟨t1, t2⟩ := tB_le (B := B) k4
  obtain ⟨t3, t4, t5, -, -, t6⟩ := tE_lt (B := B) k4
  refine qm_Ev.by (M := mX10_takeBut) okX10_takeBut (Nat.le_of_ble_eq_true rfl) hG fun z hA => ?_
  by_cases c3 : tK B L a = 3
  · have hv := tV_le k4 c3
    have h13 := k5.2.2.2.1 c3
    have m31 : ∀ h2 flt2 g, RW h2 B L (tE B L a) flt2 → flt2 = (if bdd hi (tV B L a) but then fs1 flt 2 (tB B L a) else flt) → h2.1 36 = va_up (h.1 36) k (nI (tV B L a)) → h2.1 26 21 = g → g = (if bdd hi (tV B L a) but then 0 else h.1 26 21) → h2.1 26 20 = h.1 26 20 → rf [36] KR h h2 → qm_PW G mX10_takeBut z 31 0 0 [vr 26, vu, vu, vu, vu] [] h2 := by
      intro h2 flt2 g r1 r2 r3 r4 r5 r6 r7
      refine qm_wp_ok hA [] 20 _ _ _ _ _ _ ⟨rfl, 0, 0, _, e_tok hG d h2 r1, ⟨Nat.le_refl _, Nat.le_refl _⟩, ?_⟩
      rintro _ h3 ⟨rfl, s1, s2⟩
      refine ⟨rfl, Or.inl ⟨c3, rfl, by rw [← r2]; exact s1, ?_, ?_, ?_, r7.tr (tfto s2 (by decide))⟩⟩
      · rw [s2.2.1 36 (by decide), r3]
      · rw [s2.2.2.2 21 (by decide), r4, r5]
      · rw [s2.2.2.2 20 (by decide), r6]
    have hin : vp_in (nI k) 4 := vp_in_nI hk (by decide)
    have hR1 := hR0.si (p := 36) (j := k) (v := nI (tV B L a)) (by decide) (by decide)
    have m23 : bdd hi (tV B L a) but = true → qm_PW G mX10_takeBut z 23 0 0 [vr 26, vu, vu, vu, vu] [] (qm_si h 36 k (nI (tV B L a))) := by
      intro hb
      have e11 : (qm_si h 36 k (nI (tV B L a))).1 26 11 = nI (tB B L a) := by rw [si_ne _ _ _ (by decide)]; exact k5.2.1
      have el := e_later hG (d + 1) (qm_si h 36 k (nI (tV B L a))) (a := a) (f := 2) (p := tB B L a) (flt := flt) hR1.2.2.2.2.2 (by decide) (by decide) t1 (by omega)
      rw [← e11] at el
      refine qm_wp_ok hA [31] 20 _ _ _ _ _ _ ⟨rfl, rfl, 0, 0, _, el, ⟨Nat.le_refl _, Nat.le_refl _⟩, ?_⟩
      rintro _ h2 ⟨rfl, s1, s2, s3⟩
      refine ⟨rfl, ?_⟩
      have e36 : h2.1 36 = va_up (h.1 36) k (nI (tV B L a)) := by rw [s2.2.1 36 (by decide) (by decide), si_row]
      refine ⟨?_, qm_PW.mask [true, false, false, false, false] (m31 (qm_si h2 26 21 0) (fs1 flt 2 (tB B L a)) 0 ?_ (by rw [hb]; rfl) (by rw [si_ne _ _ _ (by decide), e36]) (by rw [si_row, up_s]) (by rw [hb]; rfl) (by rw [si_row, up_n _ _ (by decide), s2.2.2.2 20 (by decide), si_ne _ _ _ (by decide)]) ?_)⟩
      · first | trivial | exact Or.inl rfl | decide
      · refine ⟨?_, k2, ?_, t4, ?_, ?_⟩
        · rw [si_ne _ _ _ (by decide), s2.2.1 27 (by decide) (by decide), si_ne _ _ _ (by decide)]; exact k1
        · rw [si_row, up_n _ _ (by decide), s2.2.2.2 10 (by decide), si_ne _ _ _ (by decide)]; exact k3
        · rw [si_row, up_n _ _ (by decide), s2.2.2.2 9 (by decide), si_ne _ _ _ (by decide)]; exact k5.1
        · have := t5 (by omega)
          have s1' := s1.up (a' := tE B L a) (by omega)
          obtain ⟨z1, z2, z3⟩ := s1'
          exact ⟨by rw [si_row, up_n _ _ (by decide)]; exact z1, fun q => ⟨by rw [si_row, up_n _ _ (by decide)]; exact (z2 q).1, (z2 q).2⟩, z3⟩
      · refine rf.s26 ?_ (by decide)
        exact (rf.r.si (by decide) (by decide)).tr (s2.mono (fun q hq => absurd hq (by simp)) (by decide))
    rw [← h13] at m23 hR1
    refine qm_wp_ok hA [23, 31] 40 _ _ _ _ _ _ ⟨rfl, fun _ => ?_, fun (q : ¬ h.1 26 12 = nI 3) => absurd (by rw [k5.2.2.1, c3]) q⟩
    refine ⟨rfl, _, rfl, rfl, rfl, hin, ?_⟩
    rw [nI_clamp (by omega)]
    have e13 : (qm_si h 36 k (h.1 26 13)).1 26 13 = nI (tV B L a) := by rw [si_ne _ _ _ (by decide), h13]
    refine ⟨rfl, 0, 0, _, e_in0 hG (d + 1) (qm_si h 36 k (h.1 26 13)) (v := tV B L a) (hi := hi) e13 (by omega) (by omega), ⟨Nat.le_refl _, Nat.le_refl _⟩, ?_⟩
    rintro _ _ ⟨rfl, rfl⟩
    refine b2_eq (fun hb => ⟨rfl, fun (q : ¬ (qm_si h 36 k (h.1 26 13)).1 26 13 = but) => ?_, fun (q : (qm_si h 36 k (h.1 26 13)).1 26 13 = but) => ?_⟩) (fun hb => ?_)
    · rw [e13] at q
      have hnb : bdd hi (tV B L a) but = false := by
        rw [bdd, decide_eq_false q, decide_eq_false (by have := of_decide_eq_true hb; omega)]; rfl
      refine qm_PW.mask [true, false, false, false, false] (m31 _ flt (h.1 26 21) hR1.w (by rw [hnb]; rfl) (by rw [si_row, h13]) (by rw [si_ne _ _ _ (by decide)]) (by rw [hnb]; rfl) (by rw [si_ne _ _ _ (by decide)]) (rf.r.si (by decide) (by decide)))
    · rw [e13] at q
      exact qm_PW.mask [true, false, false, false, false] (m23 (by rw [bdd, decide_eq_true q, Bool.or_true]))
    · exact qm_PW.mask [true, false, false, false, false] (m23 (by rw [bdd, decide_eq_true (by have := of_decide_eq_false hb; omega)]; rfl))
  · refine qm_wp_ok hA [] 40 _ _ _ _ _ _ ⟨rfl, fun (q : h.1 26 12 = nI 3) => absurd ((nI_eq (by omega) (by decide)).mp (by rw [← k5.2.2.1]; exact q)) c3, fun _ => ⟨rfl, 0, 0, _, e_fails hG (d + 1) h, ⟨Nat.le_refl _, Nat.le_refl _⟩, ?_⟩⟩
    rintro _ _ ⟨rfl, rfl⟩
    exact ⟨rfl, Or.inr ⟨c3, rfl, by rw [si_row, up_s]; exact k5.2.1, rf.r.s26 (by decide)⟩⟩
theorem e_take {G : qm_G} (hG : G.2.2.2.2 = true) (d : Nat) (h : qm_H) {B : Nat → Nat} {L a : Nat} {flt : Nat × Nat} (hR : RD h B L a flt) {k hi : Nat} (hk : k < 4) (hh : hi < 256) : qm_Ev G (d + 3) 0 0 qyX10_take [.ref 26, .int (nI k), .int 0, .int (nI hi)] h (fun r h' => (tK B L a = 3 ∧ r = some (.int 1) ∧ RD h' B L (tE B L a) (if bdd hi (tV B L a) (-1) then fs1 flt 2 (tB B L a) else flt) ∧ h'.1 36 = va_up (h.1 36) k (nI (tV B L a)) ∧ h'.1 26 21 = (if bdd hi (tV B L a) (-1) then 0 else h.1 26 21) ∧ h'.1 26 20 = h.1 26 20 ∧ rf [36] KR h h') ∨ (tK B L a ≠ 3 ∧ r = some (.int 0) ∧ h'.1 26 15 = nI (tB B L a) ∧ rf [] KR h h')) := by
  refine qm_Ev.run (M := mX10_take) okX10_take rfl hG fun z => ?_
  refine ⟨rfl, 0, 0, _, e_takeBut hG d h hR hk hh (-1), ⟨Nat.le_refl _, Nat.le_refl _⟩, ?_⟩
  rintro _ h' (⟨a1, rfl, a2⟩ | ⟨a1, rfl, a2⟩)
  · exact ⟨rfl, Or.inl ⟨a1, rfl, a2⟩⟩
  · exact ⟨rfl, Or.inr ⟨a1, rfl, a2⟩⟩
theorem e_full {G : qm_G} (hG : G.2.2.2.2 = true) (d : Nat) (h : qm_H) {a c lim p : Nat} {flt : Nat × Nat} (hL : LF h a flt) (hc : h.1 35 0 = nI c) (hcl : c ≤ lim) (hl : lim ≤ 40) (hp : a ≤ p) (hp6 : p ≤ 600) : qm_Ev G (d + 1) 0 0 qyX10_full [.ref 26, .int 0, .int (nI lim), .int (nI p)] h (fun r h' => r = none ∧ LF h' (p + 1) (if lim ≤ c then fs1 flt 3 p else flt) ∧ rf [] [16, 17] h h' ∧ h'.2 = h.2) := by
  refine qm_Ev.run (M := mX10_full) okX10_full rfl hG fun z => ?_
  refine ⟨rfl, _, rfl, rfl, (vp_in_nI (n := 0) (by decide) (by decide) : vp_in (nI 0) 161), fun (q : ¬ h.1 35 0 = nI lim) => ⟨rfl, rfl, ?_, rf.r, rfl⟩, fun (q : h.1 35 0 = nI lim) => ⟨rfl, 0, 0, _, e_later hG d h (f := 3) hL (by decide) (by decide) hp hp6, ⟨Nat.le_refl _, Nat.le_refl _⟩, ?_⟩⟩
  · rw [if_neg (fun z => q (by rw [hc, show c = lim by omega]))]
    exact hL.up (by omega)
  · rintro _ h' ⟨rfl, s1, s2, s3⟩
    rw [hc] at q
    have := (nI_eq (by omega) (by omega)).mp q
    exact ⟨rfl, rfl, by rw [if_pos (by omega)]; exact s1, s2, s3⟩
