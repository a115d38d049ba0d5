/-! the reference: feed, end, text -/
def b4N (v : Int32) (i : Nat) : Nat := (v >>> (nI (24 - 8 * i) &&& 31)).toBitVec.toNat % 256
def shI (i : Nat) : Int32 := if i < 4 then nI (24 - 8 * i) else -8
theorem b4N_lt (v : Int32) (i : Nat) : b4N v i < 256 := Nat.mod_lt _ (by decide)
theorem b4_s (v : Int32) (i : Nat) : ((v >>> (nI (24 - 8 * i) &&& 31)).toInt8.toInt32).toInt8.toInt32 = byI (b4N v i) := by
  rw [by_i2b, by_i2b]
  show byI _ = _
  have : ∀ b, b < 256 → (byI b).toBitVec.toNat % 256 = b := by decide +kernel
  rw [this _ (Nat.mod_lt _ (by decide))]; rfl
/-- four bytes more -/
def F4 (h h' : qm_H) (L : Nat) (v : Int32) : Prop := h'.1 28 = va_up (h.1 28) 0 (nI (L + 4)) ∧ (∀ i, i < 4 → h'.1 27 (L + i) = byI (b4N v i)) ∧ (∀ j, j < L ∨ L + 4 ≤ j → h'.1 27 j = h.1 27 j) ∧ sb [27, 28] h h'
theorem e_four {G : qm_G} (hG : G.2.2.2.2 = true) (d : Nat) (h : qm_H) {L : Nat} (hL : h.1 28 0 = nI L) (hL6 : L + 4 ≤ 600) (v : Int32) : qm_Ev G d 0 0 qyX10_four [.ref 26, .int v] h (fun r h' => r = none ∧ F4 h h' L v) := by
  refine qm_Ev.by (M := mX10_four) okX10_four (Nat.le_of_ble_eq_true rfl) hG fun z hA => ?_
  refine qm_wp_ok hA [2] 20 _ _ _ _ _ _ ?_
  refine qm_for (P := fun i => ∀ h', sb [27, 28] h h' → h'.1 28 = va_up (h.1 28) 0 (nI (L + i)) → (∀ j, j < i → h'.1 27 (L + j) = byI (b4N v j)) → (∀ j, j < L ∨ L + 4 ≤ j → h'.1 27 j = h.1 27 j) → qm_PW G mX10_four z 2 0 0 [vr 26, vi v, vi (shI i)] [] h') (N := 4) ?_ ?_ h sb.rf ?_ (fun j q => by omega) (fun _ _ => rfl)
  · intro h' c1 c2 c3 c4
    exact qm_wp_ok hA [] 20 _ _ _ _ _ _ ⟨fun _ => ⟨rfl, rfl, c2, c3, c4, c1⟩, fun q => absurd (by decide) q⟩
  · intro i hi nx h' c1 c2 c3 c4
    have n0 : vp_in (nI 0) 4 := vp_in_nI (n := 0) (by decide) (by decide)
    have e28 : h'.1 28 0 = nI (L + i) := by rw [c2, up_s]
    have esh : shI i = nI (24 - 8 * i) := by rw [shI, if_pos hi]
    have esh1 : nI (24 - 8 * i) + -8 = shI (i + 1) := by
      rcases (by omega : i = 0 ∨ i = 1 ∨ i = 2 ∨ i = 3) with e | e | e | e <;> rw [e] <;> decide
    have hin : vp_in (h'.1 28 0) 2400 := by rw [e28]; exact vp_in_nI (by omega) (by decide)
    rw [esh]
    have cl : (h'.1 28 0).toNatClampNeg = L + i := by rw [e28, nI_clamp (by omega)]
    refine qm_wp_ok hA [2] 60 _ _ _ _ _ _ ⟨fun q => absurd q (nI_pos (by omega)), fun _ => ⟨rfl, _, rfl, rfl, _, rfl, rfl, n0, rfl, hin, rfl, _, rfl, rfl, n0, rfl, n0, ?_⟩⟩
    have k := nx (qm_si (qm_si h' 27 (L + i) (byI (b4N v i))) 28 0 (nI (L + i) + 1)) ((c1.si (by decide)).si (by decide)) (by rw [si_row, si_ne _ _ _ (by decide), c2, nI_1, Nat.add_assoc]; funext j; by_cases e : j = 0 <;> simp [va_up, e]) (fun j hj => by
      rw [si_ne _ _ _ (by decide), si_row]
      by_cases e : j = i
      · rw [e, up_s]
      · rw [up_n _ _ (by omega)]; exact c3 j (by omega)) (fun j hj => by
      rw [si_ne _ _ _ (by decide), si_row, up_n _ _ (by omega)]; exact c4 j hj)
    rw [← esh1] at k
    have e1 : (qm_si h' 27 (h'.1 28 0).toNatClampNeg (((v >>> (nI (24 - 8 * i) &&& 31)).toInt8.toInt32).toInt8.toInt32)).1 28 0 = nI (L + i) := by rw [si_ne _ _ _ (by decide), e28]
    have k3 : qm_PW G mX10_four z 2 0 0 [vr 26, vi v, vi (nI (24 - 8 * i) + -8)] [] (qm_si (qm_si h' 27 (h'.1 28 0).toNatClampNeg (((v >>> (nI (24 - 8 * i) &&& 31)).toInt8.toInt32).toInt8.toInt32)) 28 0 ((qm_si h' 27 (h'.1 28 0).toNatClampNeg (((v >>> (nI (24 - 8 * i) &&& 31)).toInt8.toInt32).toInt8.toInt32)).1 28 0 + 1)) := by
      rw [e1, cl, b4_s]; exact k
    exact k3
  · funext j
    by_cases e : j = 0
    · rw [e, up_s, hL, Nat.add_zero]
    · rw [up_n _ _ e]
/-- twenty bytes more -/
def F20 (h h' : qm_H) (L : Nat) (vs : Nat → Int32) : Prop := h'.1 28 = va_up (h.1 28) 0 (nI (L + 20)) ∧ (∀ i, i < 20 → h'.1 27 (L + i) = byI (b4N (vs (i / 4)) (i % 4))) ∧ (∀ j, j < L ∨ L + 20 ≤ j → h'.1 27 j = h.1 27 j) ∧ sb [26, 27, 28] h h'
def v5 (a b c d e : Int32) : Nat → Int32 := fun q => if q = 0 then a else if q = 1 then b else if q = 2 then c else if q = 3 then d else e
theorem a_feed {G : qm_G} (hG : G.2.2.2.2 = true) (d : Nat) (h : qm_H) {L : Nat} (hL : h.1 28 0 = nI L) (hL6 : L ≤ 600) (a b c e f : Int32) : qm_Ev G (d + 1) 0 0 qyX10_feed [.ref 26, .int a, .int b, .int c, .int e, .int f] h (fun r h' => (600 < L + 20 ∧ r = some (.int (-1)) ∧ sb [26] h h') ∨ (L + 20 ≤ 600 ∧ r = some (.int (nI (L + 20))) ∧ F20 h h' L (v5 a b c e f))) := by
  have n0 : vp_in (nI 0) 4 := vp_in_nI (n := 0) (by decide) (by decide)
  have e28 : (qm_si h 26 0 0).1 28 0 = nI L := by rw [si_ne _ _ _ (by decide)]; exact hL
  have e20 : (qm_si h 26 0 0).1 28 0 + 20 = nI (L + 20) := by rw [e28]; exact nI_add L 20
  refine qm_Ev.run (M := mX10_feed) okX10_feed rfl hG fun z => ?_
  refine ⟨rfl, trivial, rfl, _, rfl, rfl, n0, fun (q : (qm_si h 26 0 0).1 28 0 + 20 ≤ nI 600) => ?_, fun (q : ¬ (qm_si h 26 0 0).1 28 0 + 20 ≤ nI 600) => ⟨trivial, Or.inl ⟨?_, rfl, sb.rf.si (by decide)⟩⟩⟩
  · rw [e20] at q
    have hlt := (nI_leI (by omega) (by decide)).mp q
    refine ⟨rfl, 0, 0, _, e_four hG d (qm_si h 26 0 0) (L := L) e28 (by omega) a, ⟨Nat.le_refl _, Nat.le_refl _⟩, ?_⟩
    rintro _ h1 ⟨rfl, x1, x2, x3, x4⟩
    refine ⟨rfl, 0, 0, _, e_four hG d h1 (L := L + 4) (by rw [x1, up_s]) (by omega) b, ⟨Nat.le_refl _, Nat.le_refl _⟩, ?_⟩
    rintro _ h2 ⟨rfl, y1, y2, y3, y4⟩
    refine ⟨rfl, 0, 0, _, e_four hG d h2 (L := L + 4 + 4) (by rw [y1, up_s]) (by omega) c, ⟨Nat.le_refl _, Nat.le_refl _⟩, ?_⟩
    rintro _ h3 ⟨rfl, z1, z2, z3, z4⟩
    refine ⟨rfl, 0, 0, _, e_four hG d h3 (L := L + 4 + 4 + 4) (by rw [z1, up_s]) (by omega) e, ⟨Nat.le_refl _, Nat.le_refl _⟩, ?_⟩
    rintro _ h4 ⟨rfl, u1, u2, u3, u4⟩
    refine ⟨rfl, 0, 0, _, e_four hG d h4 (L := L + 4 + 4 + 4 + 4) (by rw [u1, up_s]) (by omega) f, ⟨Nat.le_refl _, Nat.le_refl _⟩, ?_⟩
    rintro _ h5 ⟨rfl, w1, w2, w3, w4⟩
    have up0 : ∀ (g : Nat → Int32) x y, va_up (va_up g 0 x) 0 y = va_up g 0 y := fun g x y => by
      funext j
      by_cases e : j = 0
      · rw [e, up_s, up_s]
      · rw [up_n _ _ e, up_n _ _ e, up_n _ _ e]
    have k28 : h5.1 28 = va_up (h.1 28) 0 (nI (L + 20)) := by rw [w1, u1, z1, y1, x1, up0, up0, up0, up0, si_ne _ _ _ (by decide)]
    refine ⟨rfl, _, rfl, rfl, n0, trivial, Or.inr ⟨hlt, congV ?_, k28, fun i hi => ?_, fun j hj => ?_, ?_⟩⟩
    · show h5.1 28 0 = _
      rw [k28, up_s]
    · rcases (by omega : i / 4 = 0 ∨ i / 4 = 1 ∨ i / 4 = 2 ∨ i / 4 = 3 ∨ i / 4 = 4) with q | q | q | q | q
      · rw [w3 _ (by omega), u3 _ (by omega), z3 _ (by omega), y3 _ (by omega), show L + i = L + i % 4 by omega, x2 _ (by omega), q]; rfl
      · rw [w3 _ (by omega), u3 _ (by omega), z3 _ (by omega), show L + i = L + 4 + i % 4 by omega, y2 _ (by omega), q]; rfl
      · rw [w3 _ (by omega), u3 _ (by omega), show L + i = L + 4 + 4 + i % 4 by omega, z2 _ (by omega), q]; rfl
      · rw [w3 _ (by omega), show L + i = L + 4 + 4 + 4 + i % 4 by omega, u2 _ (by omega), q]; rfl
      · rw [show L + i = L + 4 + 4 + 4 + 4 + i % 4 by omega, w2 _ (by omega), q]; rfl
    · rw [w3 _ (by omega), u3 _ (by omega), z3 _ (by omega), y3 _ (by omega), x3 _ (by omega), si_ne _ _ _ (by decide)]
    · have s0 : sb [26, 27, 28] h (qm_si h 26 0 0) := sb.rf.si (by decide)
      exact ((((s0.tr (x4.mono (by decide))).tr (y4.mono (by decide))).tr (z4.mono (by decide))).tr (u4.mono (by decide))).tr (w4.mono (by decide))
  · rw [e20] at q
    rcases Nat.lt_or_ge 600 (L + 20) with z | z
    · exact z
    · exact absurd (nI_le z (by decide)) q
theorem a_end {G : qm_G} (hG : G.2.2.2.2 = true) (d : Nat) (h : qm_H) {L : Nat} (hL : h.1 28 0 = nI L) (hL6 : L ≤ 600) (n : Int32) : qm_Ev G (d + 1) 0 0 qyX10_end [.ref 26, .int n] h (fun r h' => (inb n (L + 1) = false ∧ r = some (.int (-1)) ∧ sb [26] h h') ∨ (∃ m, m ≤ L ∧ n = nI m ∧ r = some (.int n) ∧ h'.1 28 = va_up (h.1 28) 0 n ∧ sb [26, 28] h h')) := by
  have n0 : vp_in (nI 0) 4 := vp_in_nI (n := 0) (by decide) (by decide)
  have e28 : (qm_si h 26 0 0).1 28 0 = nI L := by rw [si_ne _ _ _ (by decide)]; exact hL
  have einb : decide ((0 : Int32) ≤ n ∧ n ≤ (qm_si h 26 0 0).1 28 0) = inb n (L + 1) := by
    rw [e28, inb, show nI (L + 1) - 1 = nI L from by rw [show (1 : Int32) = nI 1 from rfl, pk_sub (by omega)]; rfl]
  refine qm_Ev.run (M := mX10_end) okX10_end rfl hG fun z => ?_
  refine ⟨rfl, trivial, rfl, _, rfl, rfl, n0, 0, 0, _, e_in hG d (qm_si h 26 0 0) n 0 ((qm_si h 26 0 0).1 28 0), ⟨Nat.le_refl _, Nat.le_refl _⟩, ?_⟩
  rintro _ _ ⟨rfl, rfl⟩
  refine b2_ne (fun hb => ?_) (fun hb => ⟨trivial, Or.inl ⟨by rw [← einb]; exact hb, rfl, sb.rf.si (by decide)⟩⟩)
  have hb2 : inb n (L + 1) = true := by rw [← einb]; exact hb
  obtain ⟨m, hm, hn⟩ := inb_e (by omega) hb2
  refine ⟨rfl, _, rfl, rfl, n0, trivial, Or.inr ⟨m, by omega, hn, rfl, ?_, (sb.rf.si (by decide)).si (by decide)⟩⟩
  show (qm_si (qm_si h 26 0 0) 28 0 n).1 28 = _
  rw [si_row, si_ne _ _ _ (by decide)]
def wd (s : Nat) : Nat := if s = 0 then 31 else if s = 1 then 161 else 17
/-- what a text does: nothing kept -/
def XT0 (h h' : qm_H) (F : Int32) (P : Int32) : Prop := h'.1 28 = va_up (h.1 28) 0 0 ∧ h'.1 29 = va_up (h.1 29) 0 F ∧ h'.1 30 = va_up (h.1 30) 0 P ∧ h'.2.2 = h.2.2 ∧ (∀ q, q ≠ 26 → h'.2.1 q = h.2.1 q) ∧ ∀ q, q ∉ [26, 28, 29, 30, 35, 36] → h'.1 q = h.1 q
/-- what a text does: a row kept -/
def XT1 (h h' : qm_H) (s k : Nat) (m' : Int32) (T : Nat → Int32) : Prop := h'.1 28 = va_up (h.1 28) 0 0 ∧ h'.1 29 = va_up (h.1 29) 0 0 ∧ h'.1 30 = va_up (h.1 30) 0 (-1) ∧ h'.1 31 = va_up (h.1 31) s m' ∧ (∀ j, j < wd s → h'.1 (32 + s) (wd s * k + j) = T j) ∧ (∀ j, j < wd s * k ∨ wd s * k + wd s ≤ j → h'.1 (32 + s) j = h.1 (32 + s) j) ∧ h'.2.2 = h.2.2 ∧ (∀ q, q ≠ 26 → h'.2.1 q = h.2.1 q) ∧ ∀ q, q ∉ [26, 28, 29, 30, 31, 32 + s, 35, 36] → h'.1 q = h.1 q
theorem a_text {G : qm_G} (hG : G.2.2.2.2 = true) (d : Nat) (h : qm_H) {B : Nat → Nat} {L : Nat} {m : Nat → Nat} (hB : TP (h.1 27) B) (hL : h.1 28 0 = nI L) (hL6 : L ≤ 600) (hm : ∀ i, i < 3 → h.1 31 i = nI (m i) ∧ m i ≤ 2) (srt at' : Int32) : qm_Ev G (d + 8) 0 0 qyX10_text [.ref 26, .int srt, .int at'] h (fun r h' => ((inb srt 3 = false ∨ ∃ s, s < 3 ∧ srt = nI s ∧ (at' = -1 ∧ m s = 2 ∨ at' ≠ -1 ∧ inb at' (m s) = false)) ∧ r = some (.int (-2)) ∧ XT0 h h' 0 (-1)) ∨ (∃ s k, s < 3 ∧ srt = nI s ∧ k < 2 ∧ (at' = -1 ∧ m s < 2 ∧ k = m s ∨ at' ≠ -1 ∧ at' = nI k ∧ k < m s) ∧ (((rdF B L s).1 ≠ 0 ∧ r = some (.int (-1)) ∧ XT0 h h' (nI (rdF B L s).1) (rdF B L s).2) ∨ ((rdF B L s).1 = 0 ∧ r = some (.int (nI k)) ∧ XT1 h h' s k (nI (if at' = -1 then m s + 1 else m s)) (rdT B L s))))) := by
  have n0 : vp_in (nI 0) 4 := vp_in_nI (n := 0) (by decide) (by decide)
  obtain ⟨H0, hH0⟩ : ∃ H0, H0 = qm_si (qm_si (qm_si (qm_si (qm_si h 26 0 0) 26 10 ((qm_si h 26 0 0).1 28 0)) 28 0 0) 29 0 0) 30 0 (-1) := ⟨_, rfl⟩
  have g28 : H0.1 28 = va_up (h.1 28) 0 0 := by rw [hH0, si_ne _ _ _ (by decide), si_ne _ _ _ (by decide), si_row, si_ne _ _ _ (by decide), si_ne _ _ _ (by decide)]
  have g29 : H0.1 29 = va_up (h.1 29) 0 0 := by rw [hH0, si_ne _ _ _ (by decide), si_row, si_ne _ _ _ (by decide), si_ne _ _ _ (by decide), si_ne _ _ _ (by decide)]
  have g30 : H0.1 30 = va_up (h.1 30) 0 (-1) := by rw [hH0, si_row, si_ne _ _ _ (by decide), si_ne _ _ _ (by decide), si_ne _ _ _ (by decide), si_ne _ _ _ (by decide)]
  have gne : ∀ q, q ∉ [26, 28, 29, 30] → H0.1 q = h.1 q := fun q hq => by
    simp only [List.mem_cons, List.not_mem_nil, or_false, not_or] at hq
    rw [hH0, si_ne _ _ _ (by omega), si_ne _ _ _ (by omega), si_ne _ _ _ (by omega), si_ne _ _ _ (by omega), si_ne _ _ _ (by omega)]
  have g10 : H0.1 26 10 = nI L := by rw [hH0, si_ne _ _ _ (by decide), si_ne _ _ _ (by decide), si_ne _ _ _ (by decide), si_row, up_s, si_ne _ _ _ (by decide), hL]
  have g2 : H0.2 = h.2 := by rw [hH0]; rfl
  have hm0 : ∀ i, i < 3 → H0.1 31 i = nI (m i) ∧ m i ≤ 2 := fun i hi => by rw [gne 31 (by decide)]; exact hm i hi
  have hB0 : TP (H0.1 27) B := by rw [gne 27 (by decide)]; exact hB
  have tx0 : XT0 h H0 0 (-1) := ⟨g28, g29, g30, by rw [g2], fun q _ => by rw [g2], fun q hq => gne q (fun z => hq (by revert z; simp only [List.mem_cons, List.not_mem_nil, or_false]; omega))⟩
  refine qm_Ev.by (M := mX10_text) okX10_text (Nat.le_of_ble_eq_true rfl) hG fun z hA => ?_
  have m44 : (inb srt 3 = false ∨ ∃ s, s < 3 ∧ srt = nI s ∧ (at' = -1 ∧ m s = 2 ∨ at' ≠ -1 ∧ inb at' (m s) = false)) → qm_PW G mX10_text z 44 0 0 [vr 26, vu, vu, vu] [] H0 := fun z => qm_wp_ok hA [] 20 _ _ _ _ _ _ ⟨trivial, Or.inl ⟨z, rfl, tx0⟩⟩
  have m46 : ∀ s k, s < 3 → srt = nI s → k < 2 → (at' = -1 ∧ m s < 2 ∧ k = m s ∨ at' ≠ -1 ∧ at' = nI k ∧ k < m s) → qm_PW G mX10_text z 46 0 0 [vr 26, vi srt, vi at', vu] [] H0 := by
    intro s k hs hsr hk hat
    subst hsr
    refine qm_wp_ok hA [61] 40 _ _ _ _ _ _ ⟨rfl, 0, 0, _, e_readText hG d H0 hB0 hL6 g10 hs, ⟨Nat.le_refl _, Nat.le_refl _⟩, ?_⟩
    rintro _ h1 ⟨rfl, r1, r2, r3, r4⟩
    have k28 : h1.1 28 = va_up (h.1 28) 0 0 := by rw [r4.2.1 28 (by decide) (by decide), g28]
    have up0 : ∀ (g : Nat → Int32) x y, va_up (va_up g 0 x) 0 y = va_up g 0 y := fun g x y => by
      funext j
      by_cases e : j = 0
      · rw [e, up_s, up_s]
      · rw [up_n _ _ e, up_n _ _ e, up_n _ _ e]
    have k29 : h1.1 29 = va_up (h.1 29) 0 (nI (rdF B L s).1) := by rw [r1, g29, up0]
    have k30 : h1.1 30 = va_up (h.1 30) 0 (rdF B L s).2 := by rw [r2, g30, up0]
    have kne : ∀ q, q ∉ [26, 28, 29, 30, 35, 36] → h1.1 q = h.1 q := fun q hq => by
      simp only [List.mem_cons, List.not_mem_nil, or_false, not_or] at hq
      rw [r4.2.1 q (by omega) (by simp only [List.mem_cons, List.not_mem_nil, or_false, not_or]; omega), gne q (by simp only [List.mem_cons, List.not_mem_nil, or_false, not_or]; omega)]
    have kl : ∀ q, q ≠ 26 → h1.2.1 q = h.2.1 q := fun q hq => by rw [r4.2.2.1 q hq, g2]
    have k22 : h1.2.2 = h.2.2 := by rw [r4.1, g2]
    have F : ∀ s', s' = s → True := fun _ _ => trivial
    refine b2_ne (fun hz => ?_) (fun hz => ⟨trivial, Or.inr ⟨s, k, hs, rfl, hk, hat, Or.inl ⟨of_decide_eq_false hz, rfl, k28, k29, k30, k22, kl, kne⟩⟩⟩)
    have hz := of_decide_eq_true hz
    have hF2 : (rdF B L s).2 = -1 := by
      have h0 := hz
      rw [rdF] at h0 ⊢
      cases q : prs0 B L s with
      | error p => rw [q] at h0; exact absurd (show (1 : Nat) = 0 from h0) (by decide)
      | ok x =>
        obtain ⟨acc, flt, a⟩ := x
        rw [q] at h0
        have h0 : (if flt.1 = 0 then (if s = 0 ∧ tdf 0 acc (tdI 0) 0 ≤ frf acc (-1) then ((4 : Nat), nI L) else (0, -1)) else (flt.1, nI flt.2)).1 = 0 := h0
        show (if flt.1 = 0 then (if s = 0 ∧ tdf 0 acc (tdI 0) 0 ≤ frf acc (-1) then ((4 : Nat), nI L) else (0, -1)) else (flt.1, nI flt.2)).2 = -1
        by_cases c : flt.1 = 0
        · rw [if_pos c] at h0 ⊢
          split at h0
          · exact absurd (show (4 : Nat) = 0 from h0) (by decide)
          · rename_i c2
            rw [if_neg c2]
        · rw [if_neg c] at h0
          exact absurd h0 c
    rw [hz] at k29
    rw [hF2] at k30
    have hT := r3 hz
    have hms := hm s hs
    have e31 : h1.1 31 = h.1 31 := kne 31 (by decide)
    have in31 : vp_in (nI s) 12 := vp_in_nI (by omega) (by decide)
    -- the row is kept
    have fin : ∀ h2, (∀ j, j < wd s → h2.1 (32 + s) (wd s * k + j) = h1.1 35 j) → (∀ j, j < wd s * k ∨ wd s * k + wd s ≤ j → h2.1 (32 + s) j = h1.1 (32 + s) j) → sb [32 + s] (qm_si h1 31 s (nI (if at' = -1 then m s + 1 else m s))) h2 → XT1 h h2 s k (nI (if at' = -1 then m s + 1 else m s)) (rdT B L s) := by
      intro h2 q1 q2 q3
      have hne : ∀ q, q ≠ 32 + s → h2.1 q = (qm_si h1 31 s (nI (if at' = -1 then m s + 1 else m s))).1 q := fun q hq => q3.2 q (by rw [List.mem_singleton]; exact hq)
      have hw : wd s ≤ 161 := by
        rw [wd]
        split
        · omega
        · split <;> omega
      refine ⟨?_, ?_, ?_, ?_, fun j hj => by rw [q1 j hj]; exact hT j (by omega), fun j hj => by rw [q2 j hj, kne (32 + s) (by simp only [List.mem_cons, List.not_mem_nil, or_false, not_or]; omega)], by rw [q3.1]; exact k22, fun q hq => by rw [q3.1]; exact kl q hq, fun q hq => ?_⟩
      · rw [hne 28 (by omega), si_ne _ _ _ (by decide), k28]
      · rw [hne 29 (by omega), si_ne _ _ _ (by decide), k29]; rfl
      · rw [hne 30 (by omega), si_ne _ _ _ (by decide), k30]
      · rw [hne 31 (by omega), si_row, e31]
      · simp only [List.mem_cons, List.not_mem_nil, or_false, not_or] at hq
        rw [hne q (by omega), si_ne _ _ _ (by omega), kne q (by simp only [List.mem_cons, List.not_mem_nil, or_false, not_or]; omega)]
    have m73 : ∀ x, x = (if at' = -1 then (1 : Int32) else 0) → qm_PW G mX10_text z 73 0 0 [vr 26, vi (nI s), vi at', vi (nI k)] [.int x, .int (h1.1 31 (nI s).toNatClampNeg), .int (nI s), .ref 31] h1 := by
      intro x hx
      have ex : h1.1 31 (nI s).toNatClampNeg + x = nI (if at' = -1 then m s + 1 else m s) := by
        rw [nI_clamp (by omega), e31, hms.1, hx]
        by_cases e : at' = -1
        · rw [if_pos e, if_pos e, nI_1]
        · rw [if_neg e, if_neg e]; exact Int32.add_zero _
      have X35 : (qm_si h1 31 (nI s).toNatClampNeg (h1.1 31 (nI s).toNatClampNeg + x)).1 35 = h1.1 35 := by rw [si_ne _ _ _ (by decide)]
      have eH : qm_si h1 31 (nI s).toNatClampNeg (h1.1 31 (nI s).toNatClampNeg + x) = qm_si h1 31 s (nI (if at' = -1 then m s + 1 else m s)) := by
        rw [ex, nI_clamp (by omega)]
      refine qm_wp_ok hA [] 60 _ _ _ _ _ _ ⟨rfl, in31, fun (q : ¬ nI s = nI 0) => ⟨fun (q1 : ¬ nI s = nI 1) => ?_, fun (q1 : nI s = nI 1) => ?_⟩, fun (q : nI s = nI 0) => ?_⟩
      · have e2 : s = 2 := by
          have h0 : s ≠ 0 := fun e => q (by rw [e])
          have h1 : s ≠ 1 := fun e => q1 (by rw [e])
          omega
        have es := e_store34 hG (d + 7) (qm_si h1 31 (nI s).toNatClampNeg (h1.1 31 (nI s).toNatClampNeg + x)) hk
        refine ⟨rfl, _, rfl, rfl, 0, 0, _, es, ⟨Nat.le_refl _, Nat.le_refl _⟩, ?_⟩
        rintro _ h2 ⟨rfl, t1, t2, t3⟩
        have t3 : sb [34] (qm_si h1 31 (nI s).toNatClampNeg (h1.1 31 (nI s).toNatClampNeg + x)) h2 := t3
        rw [eH] at t3
        have T := fin h2 (by rw [e2]; exact fun j hj => (t1 j hj).trans (by rw [X35])) (by rw [e2]; exact fun j hj => (t2 j hj).trans (by rw [si_ne _ _ _ (by decide)])) (by rw [e2] at t3 ⊢; exact t3)
        exact ⟨trivial, Or.inr ⟨s, k, hs, rfl, hk, hat, Or.inr ⟨hz, rfl, T⟩⟩⟩
      · have e2 : s = 1 := (nI_eq (by omega) (by decide)).mp q1
        have es := e_store33 hG (d + 7) (qm_si h1 31 (nI s).toNatClampNeg (h1.1 31 (nI s).toNatClampNeg + x)) hk
        refine ⟨rfl, _, rfl, rfl, 0, 0, _, es, ⟨Nat.le_refl _, Nat.le_refl _⟩, ?_⟩
        rintro _ h2 ⟨rfl, t1, t2, t3⟩
        have t3 : sb [33] (qm_si h1 31 (nI s).toNatClampNeg (h1.1 31 (nI s).toNatClampNeg + x)) h2 := t3
        rw [eH] at t3
        have T := fin h2 (by rw [e2]; exact fun j hj => (t1 j hj).trans (by rw [X35])) (by rw [e2]; exact fun j hj => (t2 j hj).trans (by rw [si_ne _ _ _ (by decide)])) (by rw [e2] at t3 ⊢; exact t3)
        exact ⟨trivial, Or.inr ⟨s, k, hs, rfl, hk, hat, Or.inr ⟨hz, rfl, T⟩⟩⟩
      · have e2 : s = 0 := (nI_eq (by omega) (by decide)).mp q
        have es := e_store32 hG (d + 7) (qm_si h1 31 (nI s).toNatClampNeg (h1.1 31 (nI s).toNatClampNeg + x)) hk
        refine ⟨rfl, _, rfl, rfl, 0, 0, _, es, ⟨Nat.le_refl _, Nat.le_refl _⟩, ?_⟩
        rintro _ h2 ⟨rfl, t1, t2, t3⟩
        have t3 : sb [32] (qm_si h1 31 (nI s).toNatClampNeg (h1.1 31 (nI s).toNatClampNeg + x)) h2 := t3
        rw [eH] at t3
        have T := fin h2 (by rw [e2]; exact fun j hj => (t1 j hj).trans (by rw [X35])) (by rw [e2]; exact fun j hj => (t2 j hj).trans (by rw [si_ne _ _ _ (by decide)])) (by rw [e2] at t3 ⊢; exact t3)
        exact ⟨trivial, Or.inr ⟨s, k, hs, rfl, hk, hat, Or.inr ⟨hz, rfl, T⟩⟩⟩
    have m61 : ∀ y, y = nI k → qm_PW G mX10_text z 61 0 0 [vr 26, vi (nI s), vi at', vu] [.int y] h1 := by
      intro y hy
      subst hy
      refine qm_wp_ok hA [73] 20 _ _ _ _ _ _ ⟨rfl, _, rfl, rfl, in31, fun (q : ¬ at' = -1) => m73 0 (by rw [if_neg q]), fun (q : at' = -1) => m73 1 (by rw [if_pos q])⟩
    refine ⟨fun (q : ¬ at' = -1) => ?_, fun (q : at' = -1) => ⟨rfl, _, rfl, rfl, in31, ?_⟩⟩
    · rcases hat with ⟨e, -⟩ | ⟨-, e, -⟩
      · exact absurd e q
      · exact m61 at' e
    · rcases hat with ⟨-, -, e⟩ | ⟨e, -⟩
      · exact m61 _ (by rw [nI_clamp (by omega), e31, hms.1, e])
      · exact absurd q e
  rw [hH0] at m44 m46
  refine qm_wp_ok hA [44, 46] 60 _ _ _ _ _ _ ⟨rfl, trivial, rfl, _, rfl, rfl, n0, rfl, trivial, rfl, _, rfl, rfl, n0, rfl, _, rfl, rfl, n0, rfl, _, rfl, rfl, n0, 0, 0, _, e_in hG (d + 7) _ srt 0 2, ⟨Nat.le_refl _, Nat.le_refl _⟩, ?_⟩
  rintro _ _ ⟨rfl, rfl⟩
  refine b2_eq (fun hb => ?_) (fun hb => qm_PW.mask [true, false, false, false] (m44 (Or.inl hb)))
  obtain ⟨s, hs, rfl⟩ := inb_e (m := 3) (by decide) hb
  have hms := hm s hs
  refine ⟨fun (q : ¬ at' = -1) => ⟨rfl, ?_⟩, fun (q : at' = -1) => ⟨rfl, _, rfl, rfl, (vp_in_nI (by omega) (by decide) : vp_in (nI s) 12), ?_⟩⟩
  · have ei := e_is hG (d + 6) H0 (s := s) hs at'
    rw [(hm0 s hs).1] at ei
    rw [hH0] at ei
    refine ⟨0, 0, _, ei, ⟨Nat.le_refl _, Nat.le_refl _⟩, ?_⟩
    rintro _ _ ⟨rfl, rfl⟩
    refine b2_ne (fun hb2 => ?_) (fun hb2 => qm_PW.mask [true, false, false, false] (m44 (Or.inr ⟨s, hs, rfl, Or.inr ⟨q, hb2⟩⟩)))
    obtain ⟨k, hk, hk2⟩ := inb_e (m := m s) (by omega) hb2
    exact qm_PW.mask [true, true, true, false] (m46 s k hs rfl (by omega) (Or.inr ⟨q, hk2, hk⟩))
  · have e31 : H0.1 31 (nI s).toNatClampNeg = nI (m s) := by rw [nI_clamp (by omega)]; exact (hm0 s hs).1
    rw [hH0] at e31
    refine ⟨fun (z : ¬ (qm_si (qm_si (qm_si (qm_si (qm_si h 26 0 0) 26 10 ((qm_si h 26 0 0).1 28 0)) 28 0 0) 29 0 0) 30 0 (-1)).1 31 (nI s).toNatClampNeg = nI 2) => ?_, fun (z : (qm_si (qm_si (qm_si (qm_si (qm_si h 26 0 0) 26 10 ((qm_si h 26 0 0).1 28 0)) 28 0 0) 29 0 0) 30 0 (-1)).1 31 (nI s).toNatClampNeg = nI 2) => ?_⟩
    · rw [e31] at z
      have : m s ≠ 2 := fun e => z (by rw [e])
      exact qm_PW.mask [true, true, true, false] (m46 s (m s) hs rfl (by omega) (Or.inl ⟨q, by omega, rfl⟩))
    · rw [e31] at z
      exact qm_PW.mask [true, false, false, false] (m44 (Or.inr ⟨s, hs, rfl, Or.inl ⟨q, (nI_eq (by omega) (by decide)).mp z⟩⟩))
