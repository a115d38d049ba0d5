/-! the reference: a tape's signs -/
def byI (b : Nat) : Int32 := (nI b).toInt8.toInt32
theorem byI_and : ∀ b, b < 256 → byI b &&& 255 = nI b := by decide +kernel
def TP (t : Nat → Int32) (B : Nat → Nat) : Prop := ∀ k, k < 600 → t k = byI (B k) ∧ B k < 256
theorem by_i2b (v : Int32) : v.toInt8.toInt32 = byI (v.toBitVec.toNat % 256) := by
  rw [byI]
  congr 1
  apply Int8.toBitVec_inj.1
  rw [Int32.toBitVec_toInt8, Int32.toBitVec_toInt8, BitVec.signExtend_eq_setWidth_of_le _ (by decide), BitVec.signExtend_eq_setWidth_of_le _ (by decide)]
  show _ = (BitVec.ofNat 32 (v.toBitVec.toNat % 256)).setWidth 8
  apply BitVec.eq_of_toNat_eq
  simp only [BitVec.toNat_setWidth, BitVec.toNat_ofNat]
  omega
def ru (p : Nat → Bool) : Nat → Nat → Nat
  | 0, a => a
  | r + 1, a => if p a then ru p r (a + 1) else a
theorem ru_spec {p : Nat → Bool} : ∀ r a, (∀ j, a + r ≤ j → p j = false) → a ≤ ru p r a ∧ (∀ j, a ≤ j → j < ru p r a → p j = true) ∧ p (ru p r a) = false
  | 0, a, h => ⟨Nat.le_refl _, fun j h1 h2 => by rw [ru] at h2; omega, h a (by omega)⟩
  | r + 1, a, h => by
    rw [ru]
    by_cases c : p a = true
    · rw [if_pos c]
      obtain ⟨k1, k2, k3⟩ := ru_spec (p := p) r (a + 1) (fun j hj => h j (by omega))
      refine ⟨by omega, fun j h1 h2 => ?_, k3⟩
      by_cases e : j = a
      · rw [e]; exact c
      · exact k2 j (by omega) h2
    · rw [if_neg c]
      refine ⟨Nat.le_refl _, fun j h1 h2 => by omega, ?_⟩
      cases q : p a
      · rfl
      · exact absurd q c
def pB (B : Nat → Nat) (L j : Nat) : Bool := decide (j < L) && (decide (B j = 10) || decide (B j = 32))
def pL (B : Nat → Nat) (L j : Nat) : Bool := decide (j < L) && (decide (97 ≤ B j) && decide (B j ≤ 122))
def pD (B : Nat → Nat) (L j : Nat) : Bool := decide (j < L) && (decide (48 ≤ B j) && decide (B j ≤ 57))
theorem pB_no {B : Nat → Nat} {L j : Nat} (h : L ≤ j) : pB B L j = false := by rw [pB, decide_eq_false (by omega)]; rfl
theorem pL_no {B : Nat → Nat} {L j : Nat} (h : L ≤ j) : pL B L j = false := by rw [pL, decide_eq_false (by omega)]; rfl
theorem pD_no {B : Nat → Nat} {L j : Nat} (h : L ≤ j) : pD B L j = false := by rw [pD, decide_eq_false (by omega)]; rfl
def tB (B : Nat → Nat) (L a : Nat) : Nat := ru (pB B L) L a
def nv (B : Nat → Nat) (b : Nat) : Nat → Nat
  | 0 => 0
  | n + 1 => if n < 2 then 10 * nv B b n + B (b + n) - 48 else nv B b n
def hs (B : Nat → Nat) (b : Nat) : Nat → Int64
  | 0 => 0
  | n + 1 => (hs B b n <<< ((8 : Int32).toInt64 &&& 63)) ||| (nI (B (b + n))).toInt64
/-- kind (0 end, 1 bad, 2 word, 3 number, 4 sign) and end of the token that begins at b -/
def tKE (B : Nat → Nat) (L b : Nat) : Nat × Nat :=
  if b < L then (if pL B L b then (2, ru (pL B L) L b) else if pD B L b then ((if ru (pD B L) L b - b ≤ 2 then 3 else 1), ru (pD B L) L b) else ((if B b = 59 then 4 else 1), b + 1)) else (0, b)
def tK (B : Nat → Nat) (L a : Nat) : Nat := (tKE B L (tB B L a)).1
def tE (B : Nat → Nat) (L a : Nat) : Nat := (tKE B L (tB B L a)).2
def tV (B : Nat → Nat) (L a : Nat) : Nat := nv B (tB B L a) (tE B L a - tB B L a)
def wH (B : Nat → Nat) (b e : Nat) : Int64 := if e - b ≤ 8 then hs B b (e - b) else 0
def TS (h : qm_H) (B : Nat → Nat) (L a : Nat) : Prop := h.1 26 9 = nI (tE B L a) ∧ h.1 26 11 = nI (tB B L a) ∧ h.1 26 12 = nI (tK B L a) ∧ (tK B L a = 3 → h.1 26 13 = nI (tV B L a)) ∧ (tK B L a = 2 → h.2.1 26 14 = wH B (tB B L a) (tE B L a))
def tf (h h' : qm_H) : Prop := h'.2.2 = h.2.2 ∧ (∀ q, q ≠ 26 → h'.1 q = h.1 q) ∧ (∀ q, q ≠ 26 → h'.2.1 q = h.2.1 q) ∧ ∀ k, k ∉ [9, 11, 12, 13] → h'.1 26 k = h.1 26 k
theorem tf.rf {h : qm_H} : tf h h := ⟨rfl, fun _ _ => rfl, fun _ _ => rfl, fun _ _ => rfl⟩
theorem tf.s {h h1 : qm_H} (a : tf h h1) {k : Nat} {v : Int32} (hk : k ∈ [9, 11, 12, 13]) : tf h (qm_si h1 26 k v) := by
  refine ⟨a.1, fun q hq => ?_, a.2.2.1, fun j hj => ?_⟩
  · rw [si_ne _ _ _ hq]; exact a.2.1 q hq
  · rw [si_row, up_n _ _ (fun e => hj (by rw [e]; exact hk))]; exact a.2.2.2 j hj
theorem tf.l {h h1 : qm_H} (a : tf h h1) {k : Nat} {v : Int64} : tf h (qm_sl h1 26 k v) := by
  refine ⟨a.1, a.2.1, fun q hq => ?_, a.2.2.2⟩
  show va_up h1.2.1 26 _ q = _
  rw [up_n _ _ hq]; exact a.2.2.1 q hq
theorem sl_1 (h : qm_H) (p k : Nat) (v : Int64) : (qm_sl h p k v).1 = h.1 := rfl
theorem sl_s (h : qm_H) (p k : Nat) (v : Int64) : (qm_sl h p k v).2.1 p k = v := by
  show va_up h.2.1 p _ p k = v
  rw [up_s, up_s]
def sI (B : Nat → Nat) (L a : Nat) : Int32 := if a < L then nI (B a) else -1
theorem tf.tr {h h1 h2 : qm_H} (a : tf h h1) (b : tf h1 h2) : tf h h2 := ⟨b.1.trans a.1, fun q hq => (b.2.1 q hq).trans (a.2.1 q hq), fun q hq => (b.2.2.1 q hq).trans (a.2.2.1 q hq), fun k hk => (b.2.2.2 k hk).trans (a.2.2.2 k hk)⟩
theorem e_see {G : qm_G} (hG : G.2.2.2.2 = true) (d : Nat) (h : qm_H) {B : Nat → Nat} {L a : Nat} (hB : TP (h.1 27) B) (hL : L ≤ 600) (ha : h.1 26 9 = nI a) (ha6 : a ≤ 600) (hl : h.1 26 10 = nI L) : qm_Ev G d 0 0 qyX10_see [.ref 26] h (fun r h' => r = some (.int (sI B L a)) ∧ h = h') := by
  obtain ⟨V, hV⟩ : ∃ V, V = sI B L a := ⟨_, rfl⟩
  rw [← hV]
  refine qm_Ev.run (M := mX10_see) okX10_see rfl hG fun z => ?_
  refine ⟨rfl, rfl, fun (q : h.1 26 10 ≤ h.1 26 9) => ⟨trivial, congV ?_, rfl⟩, fun (q : ¬ h.1 26 10 ≤ h.1 26 9) => ?_⟩
  · rw [ha, hl] at q
    have := (nI_leI (by omega) (by omega)).mp q
    rw [hV, sI, if_neg (by omega)]
  · rw [ha, hl] at q
    have hlt : a < L := by
      rcases Nat.lt_or_ge a L with e | e
      · exact e
      · exact absurd (nI_le e (by omega)) q
    refine ⟨rfl, _, rfl, rfl, rfl, ?_, trivial, congV ?_, rfl⟩
    · show vp_in (h.1 26 9) 2400
      rw [ha]; exact vp_in_nI (by omega) (by decide)
    · show h.1 27 (h.1 26 9).toNatClampNeg &&& 255 = V
      rw [ha, nI_clamp (by omega), (hB a (by omega)).1, byI_and _ (hB a (by omega)).2, hV, sI, if_pos hlt]
theorem sI_eq {B : Nat → Nat} {L a c : Nat} (hb : a < L → B a < 256) (hc : c < 256) : sI B L a = nI c ↔ a < L ∧ B a = c := by
  rw [sI]
  by_cases h : a < L
  · have := hb h
    rw [if_pos h, nI_eq (by omega) (by omega)]
    exact ⟨fun e => ⟨h, e⟩, fun e => e.2⟩
  · rw [if_neg h]
    exact ⟨fun e => absurd (show (-1 : Int32) < 0 by decide) (by rw [e]; exact nI_pos (by omega)), fun e => absurd e.1 h⟩
theorem sI_in {B : Nat → Nat} {L a lo hi : Nat} (hb : a < L → B a < 256) (hl : lo < 256) (hh : hi < 256) : decide (nI lo ≤ sI B L a ∧ sI B L a ≤ nI hi) = (decide (a < L) && (decide (lo ≤ B a) && decide (B a ≤ hi))) := by
  rw [sI]
  by_cases h : a < L
  · have := hb h
    rw [if_pos h, decide_eq_true h, Bool.true_and, Bool.eq_iff_iff, decide_eq_true_eq, Bool.and_eq_true, decide_eq_true_eq, decide_eq_true_eq, nI_leI (by omega) (by omega), nI_leI (by omega) (by omega)]
  · rw [if_neg h, decide_eq_false h, Bool.false_and]
    exact decide_eq_false (fun e => nI_m1 (by omega) e.1)
theorem nv_le {B : Nat → Nat} {b : Nat} : ∀ n, (∀ j, j < n → 48 ≤ B (b + j) ∧ B (b + j) ≤ 57) → nv B b n ≤ 99 ∧ (n ≤ 1 → nv B b n ≤ 9) ∧ (n = 0 → nv B b n = 0)
  | 0, _ => ⟨Nat.zero_le _, fun _ => Nat.zero_le _, fun _ => rfl⟩
  | n + 1, h => by
    obtain ⟨i1, i2, i3⟩ := nv_le n (fun j hj => h j (by omega))
    have := h n (by omega)
    rw [nv]
    split
    · rename_i c
      rcases Nat.eq_zero_or_pos n with e | e
      · have := i3 e
        omega
      · have := i2 (by omega)
        omega
    · omega
theorem e_token {G : qm_G} (hG : G.2.2.2.2 = true) (d : Nat) (h : qm_H) {B : Nat → Nat} {L a : Nat} (hB : TP (h.1 27) B) (hL : L ≤ 600) (ha : h.1 26 9 = nI a) (ha6 : a ≤ L) (hl : h.1 26 10 = nI L) : qm_Ev G (d + 1) 0 0 qyX10_token [.ref 26] h (fun r h' => r = none ∧ TS h' B L a ∧ tf h h' ∧ a ≤ tB B L a ∧ tB B L a ≤ tE B L a ∧ tE B L a ≤ L) := by
  obtain ⟨b1, b2, b3⟩ := ru_spec (p := pB B L) L a (fun j hj => pB_no (by omega))
  have bL : tB B L a ≤ L := by
    rcases Nat.lt_or_ge L (tB B L a) with e | e
    · have := b2 L ha6 e
      rw [pB_no (Nat.le_refl _)] at this
      exact absurd this (by decide)
    · exact e
  rw [← tB] at b1 b2 b3
  have hbb : ∀ j, j < L → B j < 256 := fun j hj => (hB j (by omega)).2
  refine qm_Ev.by (M := mX10_token) okX10_token (Nat.le_of_ble_eq_true rfl) hG fun z hA => ?_
  have fr1 : ∀ h', tf h h' → TP (h'.1 27) B ∧ h'.1 26 10 = nI L := fun h' c => ⟨by rw [c.2.1 27 (by decide)]; exact hB, by rw [c.2.2.2 10 (by decide), hl]⟩
  obtain ⟨b, hb⟩ : ∃ b, b = tB B L a := ⟨_, rfl⟩
  rw [← hb] at b1 b2 b3 bL
  have hTS : ∀ h' e k, tf h h' → tKE B L b = (k, e) → b ≤ e → e ≤ L → h'.1 26 9 = nI e → h'.1 26 11 = nI b → h'.1 26 12 = nI k → (k = 3 → h'.1 26 13 = nI (nv B b (e - b))) → (k = 2 → h'.2.1 26 14 = wH B b e) → (none : Option Value) = none ∧ TS h' B L a ∧ tf h h' ∧ a ≤ tB B L a ∧ tB B L a ≤ tE B L a ∧ tE B L a ≤ L := by
    intro h' e k c1 c2 c3 c4 c5 c6 c7 c8 c9
    have eK : tK B L a = k := by rw [tK, ← hb, c2]
    have eE : tE B L a = e := by rw [tE, ← hb, c2]
    refine ⟨rfl, ⟨by rw [c5, eE], by rw [c6, hb], by rw [c7, eK], fun q => ?_, fun q => ?_⟩, c1, by omega, by omega, by omega⟩
    · rw [c8 (by omega), tV, eE, ← hb]
    · rw [c9 (by omega), eE, hb]
  -- behind the blanks
  have rest : ∀ h', tf h h' → h'.1 26 9 = nI b → h'.1 26 11 = nI b → h'.2.1 26 14 = 0 → (b < L → pL B L b = true → qm_PW G mX10_token z 38 0 0 [vr 26, vu, vi (nI 0)] [] h') ∧ (∀ h', tf h h' → h'.1 26 9 = nI b → h'.1 26 11 = nI b → h'.1 26 13 = nI 0 → b < L → pL B L b = false → pD B L b = true → qm_PW G mX10_token z 83 0 0 [vr 26, vu, vi (nI 0)] [] h') := by
    intro h' c1 c2 c3 c4
    constructor
    · intro hbL hlet
      obtain ⟨e1, e2, e3⟩ := ru_spec (p := pL B L) L b (fun j hj => pL_no (by omega))
      have eL : ru (pL B L) L b ≤ L := by
        rcases Nat.lt_or_ge L (ru (pL B L) L b) with q | q
        · have := e2 L bL q
          rw [pL_no (Nat.le_refl _)] at this
          exact absurd this (by decide)
        · exact q
      obtain ⟨e, he⟩ : ∃ e, e = ru (pL B L) L b := ⟨_, rfl⟩
      rw [← he] at e1 e2 e3 eL
      have eKE : tKE B L b = (2, e) := by rw [tKE, if_pos hbL, if_pos hlet, he]
      refine qm_for (P := fun i => ∀ h', tf h h' → h'.1 26 9 = nI (b + i) → h'.1 26 11 = nI b → h'.2.1 26 14 = hs B b i → qm_PW G mX10_token z 38 0 0 [vr 26, vu, vi (nI i)] [] h') (N := e - b) ?_ ?_ h' c1 c2 c3 c4
      · intro h' c1 c2 c3 c4
        rw [show b + (e - b) = e by omega] at c2
        obtain ⟨f1, f2⟩ := fr1 h' c1
        refine qm_wp_ok hA [70] 40 _ _ _ _ _ _ ⟨rfl, 0, 0, _, e_see hG (d + 0) h' f1 hL c2 (by omega) f2, ⟨Nat.le_refl _, Nat.le_refl _⟩, ?_⟩
        rintro _ _ ⟨rfl, rfl⟩
        refine ⟨0, 0, _, e_in hG (d + 0) h' (sI B L e) 97 122, ⟨Nat.le_refl _, Nat.le_refl _⟩, ?_⟩
        rintro _ _ ⟨rfl, rfl⟩
        have : decide ((97 : Int32) ≤ sI B L e ∧ sI B L e ≤ 122) = pL B L e := sI_in (lo := 97) (hi := 122) (fun q => hbb e q) (by decide) (by decide)
        rw [this, e3]
        have m70 : ∀ v, v = wH B b e → qm_PW G mX10_token z 70 0 0 [vr 26, vu, vu] [.long v, .ref 26] h' := fun v hv => by
          refine qm_wp_ok hA [] 20 _ _ _ _ _ _ ⟨rfl, rfl, trivial, rfl, ?_⟩
          refine hTS (qm_si (qm_sl h' 26 14 v) 26 12 2) e 2 ((c1.l).s (by decide)) eKE e1 eL ?_ ?_ ?_ (fun q => by omega) (fun _ => ?_)
          · rw [si_row, up_n _ _ (by decide), sl_1, c2]
          · rw [si_row, up_n _ _ (by decide), sl_1, c3]
          · rw [si_row, up_s]; rfl
          · show (qm_sl h' 26 14 v).2.1 26 14 = _
            rw [sl_s, hv]
        refine ⟨fun _ => ⟨fun (q : nI (e - b) ≤ nI 8) => ⟨rfl, qm_PW.mask [true, false, false] (m70 _ ?_)⟩, fun (q : ¬ nI (e - b) ≤ nI 8) => qm_PW.mask [true, false, false] (m70 _ ?_)⟩, fun q => absurd rfl q⟩
        · have := (nI_leI (by omega) (by omega)).mp q
          rw [wH, if_pos this]; exact c4
        · have : ¬ e - b ≤ 8 := fun z => q (nI_le z (by omega))
          rw [wH, if_neg this]
      · intro i hi nx h' c1 c2 c3 c4
        obtain ⟨f1, f2⟩ := fr1 h' c1
        have hp := e2 (b + i) (by omega) (by omega)
        have hiL : b + i < L := by
          rcases Nat.lt_or_ge (b + i) L with q | q
          · exact q
          · rw [pL_no q] at hp; exact absurd hp (by decide)
        refine qm_wp_ok hA [38] 40 _ _ _ _ _ _ ⟨rfl, 0, 0, _, e_see hG (d + 0) h' f1 hL c2 (by omega) f2, ⟨Nat.le_refl _, Nat.le_refl _⟩, ?_⟩
        rintro _ _ ⟨rfl, rfl⟩
        refine ⟨0, 0, _, e_in hG (d + 0) h' (sI B L (b + i)) 97 122, ⟨Nat.le_refl _, Nat.le_refl _⟩, ?_⟩
        rintro _ _ ⟨rfl, rfl⟩
        have : decide ((97 : Int32) ≤ sI B L (b + i) ∧ sI B L (b + i) ≤ 122) = pL B L (b + i) := sI_in (lo := 97) (hi := 122) (fun q => hbb _ q) (by decide) (by decide)
        rw [this, hp]
        refine ⟨fun q => absurd q (by decide), fun _ => ⟨rfl, rfl, 0, 0, _, e_see hG (d + 0) h' f1 hL c2 (by omega) f2, ⟨Nat.le_refl _, Nat.le_refl _⟩, ?_⟩⟩
        rintro _ _ ⟨rfl, rfl⟩
        refine ⟨rfl, rfl, rfl, trivial, ?_⟩
        have k := nx (qm_si (qm_sl h' 26 14 (hs B b (i + 1))) 26 9 (nI (b + i) + 1)) ((c1.l).s (by decide)) (by rw [si_row, up_s, nI_1, Nat.add_assoc]) (by rw [si_row, up_n _ _ (by decide), sl_1, c3]) (by show (qm_sl h' 26 14 _).2.1 26 14 = _; rw [sl_s])
        rw [← nI_1, hs] at k
        have es : sI B L (b + i) = nI (B (b + i)) := by rw [sI, if_pos hiL]
        rw [← es, ← c4, ← c2] at k
        exact k
    · intro h' c1 c2 c3 c4 hbL hnl hdig
      obtain ⟨e1, e2, e3⟩ := ru_spec (p := pD B L) L b (fun j hj => pD_no (by omega))
      have eL : ru (pD B L) L b ≤ L := by
        rcases Nat.lt_or_ge L (ru (pD B L) L b) with q | q
        · have := e2 L bL q
          rw [pD_no (Nat.le_refl _)] at this
          exact absurd this (by decide)
        · exact q
      obtain ⟨e, he⟩ : ∃ e, e = ru (pD B L) L b := ⟨_, rfl⟩
      rw [← he] at e1 e2 e3 eL
      have eKE : tKE B L b = ((if e - b ≤ 2 then 3 else 1), e) := by rw [tKE, if_pos hbL, if_neg (by rw [hnl]; decide), if_pos hdig, he]
      have dig : ∀ j, j < e - b → 48 ≤ B (b + j) ∧ B (b + j) ≤ 57 := fun j hj => by
        have := e2 (b + j) (by omega) (by omega)
        rw [pD, Bool.and_eq_true, Bool.and_eq_true, decide_eq_true_eq, decide_eq_true_eq, decide_eq_true_eq] at this
        exact this.2
      refine qm_for (P := fun i => ∀ h', tf h h' → h'.1 26 9 = nI (b + i) → h'.1 26 11 = nI b → h'.1 26 13 = nI (nv B b i) → qm_PW G mX10_token z 83 0 0 [vr 26, vu, vi (nI i)] [] h') (N := e - b) ?_ ?_ h' c1 c2 c3 c4
      · intro h' c1 c2 c3 c4
        rw [show b + (e - b) = e by omega] at c2
        obtain ⟨f1, f2⟩ := fr1 h' c1
        refine qm_wp_ok hA [121] 40 _ _ _ _ _ _ ⟨rfl, 0, 0, _, e_see hG (d + 0) h' f1 hL c2 (by omega) f2, ⟨Nat.le_refl _, Nat.le_refl _⟩, ?_⟩
        rintro _ _ ⟨rfl, rfl⟩
        refine ⟨0, 0, _, e_in hG (d + 0) h' (sI B L e) 48 57, ⟨Nat.le_refl _, Nat.le_refl _⟩, ?_⟩
        rintro _ _ ⟨rfl, rfl⟩
        have : decide ((48 : Int32) ≤ sI B L e ∧ sI B L e ≤ 57) = pD B L e := sI_in (lo := 48) (hi := 57) (fun q => hbb e q) (by decide) (by decide)
        rw [this, e3]
        have m121 : ∀ k, k = (if e - b ≤ 2 then 3 else 1) → qm_PW G mX10_token z 121 0 0 [vr 26, vu, vu] [.int (nI k), .ref 26] h' := fun k hk => by
          refine qm_wp_ok hA [] 20 _ _ _ _ _ _ ⟨rfl, trivial, rfl, ?_⟩
          refine hTS (qm_si h' 26 12 (nI k)) e k (c1.s (by decide)) (by rw [eKE, hk]) e1 eL ?_ ?_ ?_ (fun _ => ?_) (fun q => by rw [hk] at q; split at q <;> omega)
          · rw [si_row, up_n _ _ (by decide), c2]
          · rw [si_row, up_n _ _ (by decide), c3]
          · rw [si_row, up_s]
          · rw [si_row, up_n _ _ (by decide), c4]
        refine ⟨fun _ => ⟨fun (q : nI (e - b) ≤ nI 2) => qm_PW.mask [true, false, false] (m121 3 ?_), fun (q : ¬ nI (e - b) ≤ nI 2) => qm_PW.mask [true, false, false] (m121 1 ?_)⟩, fun q => absurd rfl q⟩
        · have := (nI_leI (by omega) (by omega)).mp q
          rw [if_pos this]
        · have : ¬ e - b ≤ 2 := fun z => q (nI_le z (by omega))
          rw [if_neg this]
      · intro i hi nx h' c1 c2 c3 c4
        obtain ⟨f1, f2⟩ := fr1 h' c1
        have hp := e2 (b + i) (by omega) (by omega)
        have hiL : b + i < L := by
          rcases Nat.lt_or_ge (b + i) L with q | q
          · exact q
          · rw [pD_no q] at hp; exact absurd hp (by decide)
        obtain ⟨v1, v2, v3⟩ := nv_le (B := B) (b := b) i (fun j hj => dig j (by omega))
        have hdi := dig i hi
        have m105 : ∀ v, v = nI (nv B b (i + 1)) → qm_PW G mX10_token z 105 0 0 [vr 26, vu, vi (nI i)] [.int v, .ref 26] h' := fun v hv => by
          refine qm_wp_ok hA [83] 20 _ _ _ _ _ _ ⟨rfl, trivial, rfl, rfl, trivial, ?_⟩
          have k := nx (qm_si (qm_si h' 26 13 v) 26 9 (nI (b + i) + 1)) ((c1.s (by decide)).s (by decide)) (by rw [si_row, up_s, nI_1, Nat.add_assoc]) (by rw [si_row, up_n _ _ (by decide), si_row, up_n _ _ (by decide), c3]) (by rw [si_row, up_n _ _ (by decide), si_row, up_s, hv])
          have e9 : (qm_si h' 26 13 v).1 26 9 = nI (b + i) := by rw [si_row, up_n _ _ (by decide), c2]
          rw [← nI_1, ← e9] at k
          exact k
        refine qm_wp_ok hA [83, 105] 40 _ _ _ _ _ _ ⟨rfl, 0, 0, _, e_see hG (d + 0) h' f1 hL c2 (by omega) f2, ⟨Nat.le_refl _, Nat.le_refl _⟩, ?_⟩
        rintro _ _ ⟨rfl, rfl⟩
        refine ⟨0, 0, _, e_in hG (d + 0) h' (sI B L (b + i)) 48 57, ⟨Nat.le_refl _, Nat.le_refl _⟩, ?_⟩
        rintro _ _ ⟨rfl, rfl⟩
        have : decide ((48 : Int32) ≤ sI B L (b + i) ∧ sI B L (b + i) ≤ 57) = pD B L (b + i) := sI_in (lo := 48) (hi := 57) (fun q => hbb _ q) (by decide) (by decide)
        rw [this, hp]
        refine ⟨fun q => absurd q (by decide), fun _ => ⟨fun (q : nI 2 ≤ nI i) => ⟨rfl, m105 _ ?_⟩, fun (q : ¬ nI 2 ≤ nI i) => ⟨rfl, rfl, 0, 0, _, e_see hG (d + 0) h' f1 hL c2 (by omega) f2, ⟨Nat.le_refl _, Nat.le_refl _⟩, ?_⟩⟩⟩
        · have := (nI_leI (by omega) (by omega)).mp q
          rw [nv, if_neg (by omega)]; exact c4
        · rintro _ _ ⟨rfl, rfl⟩
          have hi2 : ¬ 2 ≤ i := fun z => q (nI_le z (by omega))
          refine m105 _ ?_
          show (10 : Int32) * h'.1 26 13 + sI B L (b + i) - 48 = _
          rw [c4, sI, if_pos hiL, nv, if_pos (by omega), show (10 : Int32) = nI 10 from rfl, show (48 : Int32) = nI 48 from rfl, pk_mul, nI_add, pk_sub (by omega)]
  refine qm_for (P := fun i => ∀ h', tf h h' → h'.1 26 9 = nI (a + i) → qm_PW G mX10_token z 0 0 0 [vr 26, vu, vu] [] h') (N := b - a) ?_ ?_ h tf.rf ha
  · intro h' c1 c2
    rw [show a + (b - a) = b by omega] at c2
    obtain ⟨f1, f2⟩ := fr1 h' c1
    have nb : ¬ (b < L ∧ B b = 10) ∧ ¬ (b < L ∧ B b = 32) := by
      rw [pB] at b3
      constructor
      · intro z
        rw [decide_eq_true z.1, decide_eq_true z.2] at b3
        exact absurd (show true = false from b3) Bool.noConfusion
      · intro z
        rw [decide_eq_true z.1, decide_eq_true z.2, Bool.or_true] at b3
        exact absurd b3 (by decide)
    refine qm_wp_ok hA [0, 38, 83] 80 _ _ _ _ _ _ ⟨rfl, 0, 0, _, e_see hG (d + 0) h' f1 hL c2 (by omega) f2, ⟨Nat.le_refl _, Nat.le_refl _⟩, ?_⟩
    rintro _ _ ⟨rfl, rfl⟩
    refine ⟨fun (q : sI B L b = nI 10) => absurd ((sI_eq (fun z => hbb b z) (by decide)).mp q) nb.1, fun _ => ⟨rfl, 0, 0, _, e_see hG (d + 0) h' f1 hL c2 (by omega) f2, ⟨Nat.le_refl _, Nat.le_refl _⟩, ?_⟩⟩
    rintro _ _ ⟨rfl, rfl⟩
    refine ⟨fun _ => ?_, fun (q : sI B L b = nI 32) => absurd ((sI_eq (fun z => hbb b z) (by decide)).mp q) nb.2⟩
    have d1 : tf h (qm_si h' 26 11 (h'.1 26 9)) := c1.s (by decide)
    obtain ⟨g1, g2⟩ := fr1 _ d1
    have d9 : (qm_si h' 26 11 (h'.1 26 9)).1 26 9 = nI b := by rw [si_row, up_n _ _ (by decide), c2]
    refine ⟨rfl, rfl, trivial, rfl, 0, 0, _, e_see hG (d + 0) (qm_si h' 26 11 (h'.1 26 9)) g1 hL d9 (by omega) g2, ⟨Nat.le_refl _, Nat.le_refl _⟩, ?_⟩
    rintro _ _ ⟨rfl, rfl⟩
    have x1 : tf h (qm_sl (qm_si h' 26 11 (h'.1 26 9)) 26 14 0) := d1.l
    have x9 : (qm_sl (qm_si h' 26 11 (h'.1 26 9)) 26 14 0).1 26 9 = nI b := d9
    have x11 : (qm_sl (qm_si h' 26 11 (h'.1 26 9)) 26 14 0).1 26 11 = nI b := by rw [sl_1, si_row, up_s, c2]
    have x14 : (qm_sl (qm_si h' 26 11 (h'.1 26 9)) 26 14 0).2.1 26 14 = 0 := sl_s _ _ _ _
    obtain ⟨r1, r2⟩ := rest _ x1 x9 x11 x14
    refine ⟨rfl, ?_⟩
    refine ⟨fun (q : (0 : Int32) ≤ sI B L b) => ?_, fun (q : ¬ (0 : Int32) ≤ sI B L b) => ⟨rfl, trivial, rfl, ?_⟩⟩
    · have hbL : b < L := by
        rcases Nat.lt_or_ge b L with z | z
        · exact z
        · rw [sI, if_neg (by omega)] at q; exact absurd q (by decide)
      refine ⟨0, 0, _, e_in hG (d + 0) _ (sI B L b) 97 122, ⟨Nat.le_refl _, Nat.le_refl _⟩, ?_⟩
      rintro _ _ ⟨rfl, rfl⟩
      have k1 : decide ((97 : Int32) ≤ sI B L b ∧ sI B L b ≤ 122) = pL B L b := sI_in (lo := 97) (hi := 122) (fun q => hbb _ q) (by decide) (by decide)
      rw [k1]
      refine b2_eq (fun hlet => qm_PW.mask [true, false, true] (r1 hbL hlet)) (fun hnl => ?_)
      refine ⟨0, 0, _, e_in hG (d + 0) _ (sI B L b) 48 57, ⟨Nat.le_refl _, Nat.le_refl _⟩, ?_⟩
      rintro _ _ ⟨rfl, rfl⟩
      have k2 : decide ((48 : Int32) ≤ sI B L b ∧ sI B L b ≤ 57) = pD B L b := sI_in (lo := 48) (hi := 57) (fun q => hbb _ q) (by decide) (by decide)
      rw [k2]
      refine b2_eq (fun hdig => ⟨rfl, trivial, qm_PW.mask [true, false, true] (r2 (qm_si (qm_sl (qm_si h' 26 11 (h'.1 26 9)) 26 14 0) 26 13 0) (x1.s (by decide)) (by rw [si_row, up_n _ _ (by decide), x9]) (by rw [si_row, up_n _ _ (by decide), x11]) (by rw [si_row, up_s]; rfl) hbL hnl hdig)⟩) (fun hnd => ?_)
      have eKE : tKE B L b = ((if B b = 59 then 4 else 1), b + 1) := by rw [tKE, if_pos hbL, if_neg (by rw [hnl]; decide), if_neg (by rw [hnd]; decide)]
      refine ⟨rfl, rfl, trivial, fun (q : ¬ sI B L b = nI 59) => ⟨rfl, trivial, rfl, ?_⟩, fun (q : sI B L b = nI 59) => ⟨rfl, trivial, rfl, ?_⟩⟩
      · have hne : ¬ B b = 59 := fun z => q ((sI_eq (fun z => hbb b z) (by decide)).mpr ⟨hbL, z⟩)
        rw [if_neg hne] at eKE
        refine hTS (qm_si (qm_si (qm_sl (qm_si h' 26 11 (h'.1 26 9)) 26 14 0) 26 9 ((qm_sl (qm_si h' 26 11 (h'.1 26 9)) 26 14 0).1 26 9 + 1)) 26 12 1) (b + 1) 1 ((x1.s (by decide)).s (by decide)) eKE (by omega) (by omega) ?_ ?_ ?_ (fun z => by omega) (fun z => by omega)
        · rw [si_row, up_n _ _ (by decide), si_row, up_s, x9, nI_1]
        · rw [si_row, up_n _ _ (by decide), si_row, up_n _ _ (by decide), x11]
        · rw [si_row, up_s]; rfl
      · have he := ((sI_eq (fun z => hbb b z) (by decide)).mp q).2
        rw [if_pos he] at eKE
        refine hTS (qm_si (qm_si (qm_sl (qm_si h' 26 11 (h'.1 26 9)) 26 14 0) 26 9 ((qm_sl (qm_si h' 26 11 (h'.1 26 9)) 26 14 0).1 26 9 + 1)) 26 12 4) (b + 1) 4 ((x1.s (by decide)).s (by decide)) eKE (by omega) (by omega) ?_ ?_ ?_ (fun z => by omega) (fun z => by omega)
        · rw [si_row, up_n _ _ (by decide), si_row, up_s, x9, nI_1]
        · rw [si_row, up_n _ _ (by decide), si_row, up_n _ _ (by decide), x11]
        · rw [si_row, up_s]; rfl
    · have hbL : ¬ b < L := fun z => q (by rw [sI, if_pos z]; exact nI_pos' (by have := hbb b z; omega))
      refine hTS (qm_si (qm_sl (qm_si h' 26 11 (h'.1 26 9)) 26 14 0) 26 12 0) b 0 (x1.s (by decide)) (by rw [tKE, if_neg hbL]) (Nat.le_refl _) bL ?_ ?_ ?_ (fun z => by omega) (fun z => by omega)
      · rw [si_row, up_n _ _ (by decide), x9]
      · rw [si_row, up_n _ _ (by decide), x11]
      · rw [si_row, up_s]; rfl
  · intro i hi nx h' c1 c2
    obtain ⟨f1, f2⟩ := fr1 h' c1
    have hp := b2 (a + i) (by omega) (by omega)
    have hiL : a + i < L := by
      rcases Nat.lt_or_ge (a + i) L with q | q
      · exact q
      · rw [pB_no q] at hp; exact absurd hp (by decide)
    have k := nx (qm_si h' 26 9 (nI (a + i) + 1)) (c1.s (by decide)) (by rw [si_row, up_s, nI_1, Nat.add_assoc])
    rw [← c2] at k
    rw [pB, decide_eq_true hiL, Bool.true_and, Bool.or_eq_true, decide_eq_true_eq, decide_eq_true_eq] at hp
    refine qm_wp_ok hA [0, 38, 83] 80 _ _ _ _ _ _ ⟨rfl, 0, 0, _, e_see hG (d + 0) h' f1 hL c2 (by omega) f2, ⟨Nat.le_refl _, Nat.le_refl _⟩, ?_⟩
    rintro _ _ ⟨rfl, rfl⟩
    refine ⟨fun _ => ⟨rfl, rfl, trivial, k⟩, fun (q : ¬ sI B L (a + i) = nI 10) => ⟨rfl, 0, 0, _, e_see hG (d + 0) h' f1 hL c2 (by omega) f2, ⟨Nat.le_refl _, Nat.le_refl _⟩, ?_⟩⟩
    rintro _ _ ⟨rfl, rfl⟩
    refine ⟨fun (z : ¬ sI B L (a + i) = nI 32) => ?_, fun _ => ⟨rfl, rfl, trivial, k⟩⟩
    exfalso
    rcases hp with e | e
    · exact q ((sI_eq (fun z => hbb _ z) (by decide)).mpr ⟨hiL, e⟩)
    · exact z ((sI_eq (fun z => hbb _ z) (by decide)).mpr ⟨hiL, e⟩)
