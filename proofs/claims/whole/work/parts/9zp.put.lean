/-! the class: what a text told is kept -/
theorem fs1_4 {flt : Nat × Nat} {k p : Nat} (h : flt.1 ≤ 4) (hk : k ≤ 4) : (fs1 flt k p).1 ≤ 4 := by
  rw [fs1]
  split
  · exact hk
  · exact h
theorem pn_4 {B : Nat → Nat} {L w : Nat} : ∀ r k a flt vs a2 flt2 vs2, flt.1 ≤ 4 → pn B L w r k a flt vs = .ok (a2, flt2, vs2) → flt2.1 ≤ 4
  | 0, k, a, flt, vs, a2, flt2, vs2, ha, h => by
    rw [pn] at h
    injection h with h
    injection h with h1 h2
    injection h2 with h2 h3
    rw [← h2]; exact ha
  | r + 1, k, a, flt, vs, a2, flt2, vs2, ha, h => by
    rw [pn] at h
    split at h
    · refine pn_4 r _ _ _ _ a2 flt2 vs2 ?_ h
      split
      · exact fs1_4 ha (by decide)
      · exact ha
    · exact absurd h (by simp)
theorem pl_4 {B : Nat → Nat} {L srt a c : Nat} {flt : Nat × Nat} {w a2 : Nat} {flt2 : Nat × Nat} {vs : Nat → Int32} (ha : flt.1 ≤ 4) (h : pl B L srt a c flt = .ok (w, a2, flt2, vs)) : flt2.1 ≤ 4 := by
  rw [pl] at h
  cases q : wof (wrd B L a) (ws srt) with
  | none => rw [q] at h; exact absurd h (by simp)
  | some w0 =>
    rw [q] at h
    cases q2 : pn B L w0 (nu w0) 1 (tE B L a) (if cnd srt w0 && decide (lim srt ≤ c) then fs1 flt 3 (tB B L a) else flt) (fun _ => -1) with
    | error p =>
      simp only [q2] at h
      exact absurd h (by simp)
    | ok x =>
      simp only [q2] at h
      obtain ⟨y1, y2, y3⟩ := x
      injection h with h
      injection h with h1 h2
      injection h2 with h2 h3
      injection h3 with h3 h4
      rw [← h3]
      refine pn_4 _ _ _ _ _ _ _ _ ?_ q2
      split
      · exact fs1_4 ha (by decide)
      · exact ha
theorem prs_4 {B : Nat → Nat} {L srt : Nat} : ∀ r a c flt acc acc2 flt2 a2, flt.1 ≤ 4 → prs B L srt r a c flt acc = .ok (acc2, flt2, a2) → flt2.1 ≤ 4
  | 0, a, c, flt, acc, acc2, flt2, a2, ha, h => by rw [prs] at h; exact absurd h (by simp)
  | r + 1, a, c, flt, acc, acc2, flt2, a2, ha, h => by
    rw [prs] at h
    split at h
    · injection h with h
      injection h with h1 h2
      injection h2 with h2 h3
      rw [← h2]; exact ha
    · cases q : pl B L srt a c flt with
      | error p => rw [q] at h; exact absurd h (by simp)
      | ok x =>
        obtain ⟨w, a3, flt3, vs⟩ := x
        rw [q] at h
        have h : (if tK B L a3 = 4 then prs B L srt r (tE B L a3) (cn srt w c) flt3 (acc ++ [(w, vs)]) else .error (tB B L a3)) = .ok (acc2, flt2, a2) := h
        split at h
        · exact prs_4 r _ _ _ _ acc2 flt2 a2 (pl_4 ha q) h
        · exact absurd h (by simp)
theorem rdF_4 (B : Nat → Nat) (L srt : Nat) : (rdF B L srt).1 ≤ 4 := by
  rw [rdF]
  cases q : prs0 B L srt with
  | error p => exact (by decide : 1 ≤ 4)
  | ok x =>
    obtain ⟨acc, flt, a⟩ := x
    have := prs_4 601 0 0 (0, 0) [] acc flt a (by decide) q
    show (if flt.1 = 0 then (if srt = 0 ∧ tdf 0 acc (tdI 0) 0 ≤ frf acc (-1) then ((4 : Nat), nI L) else (0, -1)) else (flt.1, nI flt.2)).1 ≤ 4
    split
    · split
      · exact Nat.le_refl _
      · exact Nat.zero_le _
    · exact this
theorem rdF_m (B : Nat → Nat) (L srt : Nat) (h : (rdF B L srt).1 = 0) : (rdF B L srt).2 = -1 := by
  rw [rdF] at h ⊢
  cases q : prs0 B L srt with
  | error p => rw [q] at h; exact absurd (show (1 : Nat) = 0 from h) (by decide)
  | ok x =>
    obtain ⟨acc, flt, a⟩ := x
    rw [q] at h
    have h : (if flt.1 = 0 then (if srt = 0 ∧ tdf 0 acc (tdI 0) 0 ≤ frf acc (-1) then ((4 : Nat), nI L) else (0, -1)) else (flt.1, nI flt.2)).1 = 0 := h
    show (if flt.1 = 0 then (if srt = 0 ∧ tdf 0 acc (tdI 0) 0 ≤ frf acc (-1) then ((4 : Nat), nI L) else (0, -1)) else (flt.1, nI flt.2)).2 = -1
    by_cases c : flt.1 = 0
    · rw [if_pos c] at h ⊢
      split at h
      · exact absurd (show (4 : Nat) = 0 from h) (by decide)
      · rename_i c2
        rw [if_neg c2]
    · rw [if_neg c] at h
      exact absurd h c
/-- what is kept of a sort at the place Q -/
def KQ (h : qm_H) (s Q : Nat) (T : Nat → Int32) : Prop := (s = 0 → TO h Q T (nn T)) ∧ (s = 1 → RO h Q 4 T (nn T)) ∧ (s = 2 → RO h Q 2 T (nn T))
def PT (h h' : qm_H) (s k : Nat) (m' : Int32) (T : Nat → Int32) : Prop := ∃ n, n ≤ 8 ∧ ge [6] [3 + s] n h h' ∧ h'.1 6 = va_up (h.1 6) s m' ∧ h'.2.2.1 (3 + s) = va_up (h.2.2.1 (3 + s)) k (some h.2.2.2.2) ∧ KQ h' s h.2.2.2.2 T
theorem KQ.ge {S R : List Nat} {n : Nat} {h h' : qm_H} {s Q : Nat} {T : Nat → Int32} (t : KQ h s Q T) (a : ge S R n h h') (h5 : 51 ≤ Q) (hS : ∀ q, q ∈ S → q < 51) (hR : ∀ q, q ∈ R → q < 51) : KQ h' s Q T := by
  have n1 : ∀ k, Q + k ∉ S := fun k z => by have := hS _ z; omega
  have n2 : Q ∉ R := fun z => by have := hR _ z; omega
  exact ⟨fun e => (t.1 e).ge a (fun k _ => n1 k) n2, fun e => (t.2.1 e).ge a ⟨n1 0, n1 1⟩ n2, fun e => (t.2.2 e).ge a ⟨n1 0, n1 1⟩ n2⟩
theorem c_put {G : qm_G} (hG : G.2.2.2.2 = true) (d : Nat) (h : qm_H) {B : Nat → Nat} {L s k m : Nat} {acc : List (Nat × (Nat → Int32))} {flt : Nat × Nat} {a : Nat} (hs : s < 3) (hk : k < 2) (hm : h.1 6 s = nI m) (hm2 : m ≤ 2) (hp : prs0 B L s = .ok (acc, flt, a)) (h0 : (rdF B L s).1 = 0) (hS : LNS h acc) (h5 : 51 ≤ h.2.2.2.2) (hz : h.2.2.2.2 + 8 < 1000000) : qm_Ev G (d + 4) 8 602 qyX7_put [.ref 1, .ref 8, .int (nI s), .int (nI k)] h (fun r h' => r = none ∧ PT h h' s k (nI (if m < k + 1 then k + 1 else m)) (rdT B L s)) := by
  refine qm_Ev.by (M := mX7_put) okX7_put (Nat.le_of_ble_eq_true rfl) hG fun z hA => ?_
  have ek : (nI k).toNatClampNeg = k := nI_clamp (by omega)
  have es : (nI s).toNatClampNeg = s := nI_clamp (by omega)
  have in3 : vp_in (nI s) 3 := vp_in_nI hs (by decide)
  have in2 : vp_in (nI k) 2 := vp_in_nI hk (by decide)
  have m38 : ∀ c0 s0 h1 n, n ≤ 8 → gr [] n h h1 → KQ h1 s h.2.2.2.2 (rdT B L s) → qm_PW G mX7_put z 38 c0 s0 [vr 1, vu, vi (nI s), vi (nI k)] [] (qm_sr h1 (3 + s) (nI k).toNatClampNeg (some h.2.2.2.2)) := by
    intro c0 s0 h1 n hn g q
    obtain ⟨H, hH⟩ : ∃ H, H = qm_sr h1 (3 + s) (nI k).toNatClampNeg (some h.2.2.2.2) := ⟨_, rfl⟩
    rw [← hH]
    have gH : ge [6] [3 + s] n h H := by
      rw [hH]
      exact ((ge.gr g).mono (fun q hq => by simp at hq) (fun q hq => by simp at hq)).sr (List.mem_singleton.mpr rfl)
    have v6 : H.1 6 (nI s).toNatClampNeg = nI m := by
      rw [es, hH]
      show h1.1 6 s = nI m
      rw [(g.2 6 (by omega)).1 (by simp)]; exact hm
    have r6 : H.1 6 = h.1 6 := by
      rw [hH]
      exact (g.2 6 (by omega)).1 (by simp)
    refine qm_wp_ok hA [48] 20 _ _ _ _ _ _ ⟨rfl, _, rfl, rfl, _, rfl, rfl, in3, ?_⟩
    refine sp_mmax hA rfl rfl rfl (k1 := 602) (by decide +kernel) (Nat.le_of_ble_eq_true rfl) ?_
    have ev : (if H.1 6 (nI s).toNatClampNeg < nI k + 1 then nI k + 1 else H.1 6 (nI s).toNatClampNeg) = nI (if m < k + 1 then k + 1 else m) := by
      rw [v6, nI_1]
      by_cases c : m < k + 1
      · rw [if_pos c, if_pos (nI_lt c (by omega))]
      · rw [if_neg c, if_neg (Int32.not_lt.mpr (nI_le (by omega) (by omega)))]
    refine qm_wp_ok hA [] 10 _ _ _ _ _ _ ⟨rfl, in3, rfl, rfl, n, hn, gH.si (List.mem_singleton.mpr rfl), ?_, ?_, ?_⟩
    · show (qm_si H 6 (nI s).toNatClampNeg (if H.1 6 (nI s).toNatClampNeg < nI k + 1 then nI k + 1 else H.1 6 (nI s).toNatClampNeg)).1 6 = _
      rw [ev, es, si_row, r6]
    · show H.2.2.1 (3 + s) = _
      rw [hH]
      show va_up h1.2.2.1 (3 + s) (va_up (h1.2.2.1 (3 + s)) (nI k).toNatClampNeg (some h.2.2.2.2)) (3 + s) = _
      rw [up_s, ek, (g.2 (3 + s) (by omega)).2.2.1]
    · have q1 : KQ H s h.2.2.2.2 (rdT B L s) := by
        rw [hH]
        exact q.ge (S := [6]) (R := [3 + s]) (ge.rf.sr (List.mem_singleton.mpr rfl)) h5 (fun q hq => by simp at hq; omega) (fun q hq => by simp at hq; omega)
      exact q1.ge (S := [6]) (R := [3 + s]) (ge.rf.si (List.mem_singleton.mpr rfl)) h5 (fun q hq => by simp at hq; omega) (fun q hq => by simp at hq; omega)
  have m11 : qm_PW G mX7_put z 11 0 0 [vr 1, vr 8, vi (nI s), vi (nI k)] [] h := by
    by_cases e0 : s = 0
    · subst e0
      refine qm_wp_ok hA [38] 40 _ _ _ _ _ _ ⟨fun q => absurd rfl q, fun _ => ⟨rfl, _, rfl, rfl, 8, 109, _, c_toTown hG d h hp h0 hS h5 hz, ⟨by decide, by decide⟩, ?_⟩⟩
      rintro _ h1 ⟨rfl, g1, t1⟩
      refine ⟨rfl, (is_hi h5).mpr ?_, in2, wr_fr (Or.inl rfl) _ _, qm_PW.mask [true, false, true, true] (m38 8 109 h1 8 (by decide) g1 ⟨fun _ => t1, fun e => absurd e (by decide), fun e => absurd e (by decide)⟩)⟩
      exact (is_hi h5).mp t1.2.1
    · by_cases e1 : s = 1
      · subst e1
        have hl : acc.length ≤ 150 := hS.2.1
        refine qm_wp_ok hA [38] 40 _ _ _ _ _ _ ⟨fun _ => ⟨fun q => absurd rfl q, fun _ => ⟨rfl, _, rfl, rfl, 2, 2 + 4 * acc.length, _, c_toRows hG (d + 1) h (f := 5) hS h5 (by omega), ⟨by decide, (by omega : 0 + (2 + 4 * acc.length) ≤ 602)⟩, ?_⟩⟩, fun q => absurd q (by decide)⟩
        rintro _ h1 ⟨rfl, n1, w1⟩
        have t1 : RO h1 h.2.2.2.2 4 (rdT B L 1) (nn (rdT B L 1)) := RO_rd (Or.inl ⟨rfl, rfl, rfl⟩) hp h0 h5 n1 w1
        exact ⟨rfl, t1.2.1, in2, wr_fr (Or.inr (Or.inl rfl)) _ _, qm_PW.mask [true, false, true, true] (m38 _ _ h1 2 (by decide) n1.1 ⟨fun e => absurd e (by decide), fun _ => t1, fun e => absurd e (by decide)⟩)⟩
      · obtain rfl : s = 2 := by omega
        have hl : acc.length ≤ 150 := hS.2.1
        refine qm_wp_ok hA [38] 40 _ _ _ _ _ _ ⟨fun _ => ⟨fun _ => ⟨rfl, _, rfl, rfl, 2, 2 + 4 * acc.length, _, c_toRows hG (d + 1) h (f := 10) hS h5 (by omega), ⟨by decide, (by omega : 0 + (2 + 4 * acc.length) ≤ 602)⟩, ?_⟩, fun q => absurd q (by decide)⟩, fun q => absurd q (by decide)⟩
        rintro _ h1 ⟨rfl, n1, w1⟩
        have t1 : RO h1 h.2.2.2.2 2 (rdT B L 2) (nn (rdT B L 2)) := RO_rd (Or.inr ⟨rfl, rfl, rfl⟩) hp h0 h5 n1 w1
        exact ⟨rfl, t1.2.1, in2, wr_fr (Or.inr (Or.inr (Or.inl rfl))) _ _, qm_PW.mask [true, false, true, true] (m38 _ _ h1 2 (by decide) n1.1 ⟨fun e => absurd e (by decide), fun e => absurd e (by decide), fun _ => t1⟩)⟩
  exact qm_wp_ok hA [11] 20 _ _ _ _ _ _ ⟨fun q => absurd q (nI_pos (by omega)), fun _ => ⟨fun (q : nI 3 ≤ nI s) => absurd q (nI_ge hs (by decide)), fun _ => ⟨fun q => absurd q (nI_pos (by omega)), fun _ => ⟨fun _ => m11, fun (q : ¬ nI k < nI 2) => absurd (nI_lt hk (by decide)) q⟩⟩⟩⟩
/-- a text of which nothing is kept -/
def YT0 (h h' : qm_H) (F P : Int32) : Prop := h'.1 1 1 = 0 ∧ h'.1 1 2 = F ∧ h'.1 1 3 = P ∧ sb [1, 8, 9] h h'
/-- a text that is kept -/
def YT1 (h h' : qm_H) (s k : Nat) (m' : Int32) (T : Nat → Int32) : Prop := h'.1 1 1 = 0 ∧ h'.1 1 2 = 0 ∧ h'.1 1 3 = -1 ∧ ∃ n, n ≤ 8 ∧ ge [1, 6, 8, 9] [3 + s] n h h' ∧ h'.1 6 = va_up (h.1 6) s m' ∧ h'.2.2.1 (3 + s) = va_up (h.2.2.1 (3 + s)) k (some h.2.2.2.2) ∧ KQ h' s h.2.2.2.2 T
theorem b_text {G : qm_G} (hG : G.2.2.2.2 = true) (d : Nat) (h : qm_H) {B : Nat → Nat} {L : Nat} {m : Nat → Nat} (hB : TP (h.1 2) B) (hL : h.1 1 1 = nI L) (hL6 : L ≤ 600) (hm : ∀ i, i < 3 → h.1 6 i = nI (m i) ∧ m i ≤ 2) (h5 : 51 ≤ h.2.2.2.2) (hz : h.2.2.2.2 + 8 < 1000000) (srt at' : Int32) : qm_Ev G (d + 8) 8 602 qyX9_text [.ref 0, .int srt, .int at'] h (fun r h' => ((inb srt 3 = false ∨ ∃ s, s < 3 ∧ srt = nI s ∧ (at' = -1 ∧ m s = 2 ∨ at' ≠ -1 ∧ inb at' (m s) = false)) ∧ r = some (.int (-2)) ∧ YT0 h h' 0 (-1)) ∨ (∃ s k, s < 3 ∧ srt = nI s ∧ k < 2 ∧ (at' = -1 ∧ m s < 2 ∧ k = m s ∨ at' ≠ -1 ∧ at' = nI k ∧ k < m s) ∧ (((rdF B L s).1 ≠ 0 ∧ r = some (.int (-1)) ∧ YT0 h h' (nI (rdF B L s).1) (rdF B L s).2) ∨ ((rdF B L s).1 = 0 ∧ r = some (.int (nI k)) ∧ YT1 h h' s k (nI (if at' = -1 then m s + 1 else m s)) (rdT B L s))))) := by
  obtain ⟨H0, hH0⟩ : ∃ H0, H0 = qm_si (qm_si (qm_si h 1 1 0) 1 2 0) 1 3 (-1) := ⟨_, rfl⟩
  have g1 : H0.1 1 1 = 0 := by rw [hH0, si_o _ _ _ (by decide), si_o _ _ _ (by decide), si_s]
  have g2 : H0.1 1 2 = 0 := by rw [hH0, si_o _ _ _ (by decide), si_s]
  have g3 : H0.1 1 3 = -1 := by rw [hH0, si_s]
  have sH : sb [1, 8, 9] h H0 := by rw [hH0]; exact ((sb.rf.si (by decide)).si (by decide)).si (by decide)
  have e6 : H0.1 6 = h.1 6 := sH.2 6 (by decide)
  have y0 : YT0 h H0 0 (-1) := ⟨g1, g2, g3, sH⟩
  refine qm_Ev.by (M := mX9_text) okX9_text (Nat.le_of_ble_eq_true rfl) hG fun z hA => ?_
  have m36 : (inb srt 3 = false ∨ ∃ s, s < 3 ∧ srt = nI s ∧ (at' = -1 ∧ m s = 2 ∨ at' ≠ -1 ∧ inb at' (m s) = false)) → qm_PW G mX9_text z 36 0 0 [vr 0, vu, vu, vu, vu, vu] [] (H0) := fun x => qm_wp_ok hA [] 10 _ _ _ _ _ _ ⟨trivial, Or.inl ⟨x, rfl, y0⟩⟩
  have m38 : ∀ s k, s < 3 → srt = nI s → k < 2 → (at' = -1 ∧ m s < 2 ∧ k = m s ∨ at' ≠ -1 ∧ at' = nI k ∧ k < m s) → qm_PW G mX9_text z 38 0 0 [vr 0, vi srt, vi at', vi (nI L), vi (nI (m s)), vu] [] (H0) := by
    intro s k hs hsr hk hat
    subst hsr
    refine qm_wp_ok hA [64] 40 _ _ _ _ _ _ ⟨rfl, _, rfl, rfl, _, rfl, rfl, _, rfl, rfl, 0, 0, _, c_read hG (d + 0) H0 (B := B) (L := L) (by rw [sH.2 2 (by decide)]; exact hB) hL6 hs, ⟨by decide, by decide⟩, ?_⟩
    rintro _ h1 ⟨rfl, r1, r2, r3, r4⟩
    obtain ⟨h2, hh2⟩ : ∃ h2, h2 = qm_si (qm_si h1 1 2 (h1.1 8 0)) 1 3 ((qm_si h1 1 2 (h1.1 8 0)).1 8 1) := ⟨_, rfl⟩
    have f1 : h2.1 1 1 = 0 := by rw [hh2, si_o _ _ _ (by decide), si_o _ _ _ (by decide), r1.2 1 (by decide), g1]
    have f2 : h2.1 1 2 = nI (rdF B L s).1 := by rw [hh2, si_o _ _ _ (by decide), si_s, r2]
    have f3 : h2.1 1 3 = (rdF B L s).2 := by rw [hh2, si_s, si_ne _ _ _ (by decide), r3]
    have s2 : sb [1, 8, 9] h h2 := by
      rw [hh2]
      exact ((sH.tr (r1.mono (fun q hq => by simp at hq; simp [hq]))).si (by decide)).si (by decide)
    have e8 : h2.1 8 = h1.1 8 := by rw [hh2, si_ne _ _ _ (by decide), si_ne _ _ _ (by decide)]
    have e9 : h2.1 9 = h1.1 9 := by rw [hh2, si_ne _ _ _ (by decide), si_ne _ _ _ (by decide)]
    have hF := rdF_4 B L s
    have v0 : h2.1 8 0 = nI (rdF B L s).1 := by rw [e8, r2]
    have g64 : (rdF B L s).1 = 0 → qm_PW G mX9_text z 64 0 0 [vr 0, vi (nI s), vi at', vu, vi (nI (m s)), vu] [] (h2) := by
      intro z0
      obtain ⟨acc, flt, a, p1, p2, p3⟩ := r4 z0
      have S2 : LNS h2 acc := by
        obtain ⟨x1, x2, x3⟩ := p3
        exact ⟨by rw [e8]; exact x1, x2, fun k hk => by rw [e9]; exact x3 k hk⟩
      have m6 := hm s hs
      have z2 : h2.2.2.2.2 = h.2.2.2.2 := by rw [s2.1]
      have e62 : h2.1 6 = h.1 6 := s2.2 6 (by decide)
      have pt := c_put hG (d + 3) h2 (B := B) (L := L) (k := k) hs hk (by rw [e62]; exact m6.1) m6.2 p1 z0 S2 (by rw [z2]; exact h5) (by rw [z2]; exact hz)
      have em : (if m s < k + 1 then k + 1 else m s) = (if at' = -1 then m s + 1 else m s) := by
        rcases hat with ⟨x, y, w⟩ | ⟨x, y, w⟩
        · rw [if_pos x, w, if_pos (Nat.lt_succ_self _)]
        · rw [if_neg x, if_neg (by omega)]
      rw [em] at pt
      have g71 : qm_PW G mX9_text z 71 0 0 [vr 0, vi (nI s), vu, vu, vu, vi (nI k)] [] (h2) := by
        refine qm_wp_ok hA [] 20 _ _ _ _ _ _ ⟨rfl, _, rfl, rfl, _, rfl, rfl, 8, 602, _, pt, ⟨by decide, by decide⟩, ?_⟩
        rintro _ h3 ⟨rfl, n, n8, G3, c6, c3, kq⟩
        have e1 : h3.1 1 = h2.1 1 := (G3.2 1 (by omega)).1 (by decide)
        have G4 : ge [1, 6, 8, 9] [3 + s] n h h3 := by
          have := ((ge.sb s2).mono (S' := [1, 6, 8, 9]) (R' := [3 + s]) (fun q hq => by simp at hq; simp; omega) (fun q hq => by simp at hq)).tr (G3.mono (S' := [1, 6, 8, 9]) (R' := [3 + s]) (fun q hq => by simp at hq; simp; omega) (fun q hq => hq))
          rw [Nat.zero_add] at this
          exact this
        refine ⟨trivial, Or.inr ⟨s, k, hs, rfl, hk, hat, Or.inr ⟨z0, rfl, by rw [e1]; exact f1, ?_, ?_, n, n8, G4, by rw [c6, e62], ?_, by rw [← z2]; exact kq⟩⟩⟩
        · rw [e1, f2, z0]; rfl
        · rw [e1, f3]; exact rdF_m B L s z0
        · rw [c3, z2, s2.1]
      rcases hat with ⟨x, y, w⟩ | ⟨x, y, w⟩
      · rw [w] at g71
        exact qm_wp_ok hA [71] 20 _ _ _ _ _ _ ⟨fun q => absurd x q, fun _ => qm_PW.mask [true, true, false, false, false, true] g71⟩
      · rw [← y] at g71
        exact qm_wp_ok hA [71] 20 _ _ _ _ _ _ ⟨fun _ => qm_PW.mask [true, true, false, false, false, true] g71, fun q => absurd q x⟩
    rw [hh2] at g64 v0
    refine ⟨rfl, _, rfl, rfl, _, rfl, rfl, rfl, trivial, rfl, _, rfl, rfl, _, rfl, rfl, rfl, trivial, rfl, _, rfl, rfl, fun (c : _ = (0 : Int32)) => ?_, fun (c : ¬ _ = (0 : Int32)) => ?_⟩
    · exact qm_PW.mask [true, true, true, false, true, true] (g64 ((nI_eq (b := 0) (by omega) (by decide)).mp (v0.symm.trans c)))
    · refine ⟨trivial, Or.inr ⟨s, k, hs, rfl, hk, hat, Or.inl ⟨fun z0 => c (v0.trans (by rw [z0]; rfl)), rfl, ?_⟩⟩⟩
      rw [hh2] at f1 f2 f3 s2
      exact ⟨f1, f2, f3, s2⟩
  have g20 : qm_PW G mX9_text z 20 0 0 [vr 0, vi srt, vi at', vi (nI L), vu, vu] [.int (if inb srt 3 then H0.1 6 srt.toNatClampNeg else -2)] (H0) := by
    by_cases c : inb srt 3 = true
    · obtain ⟨s, hs, rfl⟩ := inb_e (by decide) c
      obtain ⟨m1, m2⟩ := hm s hs
      rw [c, if_pos rfl, nI_clamp (by omega), e6, m1]
      have lo : ∀ {a : Int32}, ¬ a < -1 → ¬ a = -1 → 0 ≤ a := fun {a} x y => by
        rw [Int32.lt_iff_toInt_lt] at x
        rw [Int32.le_iff_toInt_le]
        have y' : a.toInt ≠ -1 := fun e => y (Int32.toInt_inj.mp e)
        have : (-1 : Int32).toInt = -1 := rfl
        have : (0 : Int32).toInt = 0 := rfl
        omega
      have n2 : ¬ nI (m s) = -2 := fun q => by
        have := nI_pos (n := m s) (by omega)
        rw [q] at this
        exact this (by decide)
      have m2' : m s < 2 ^ 31 := by omega
      refine qm_wp_ok hA [36, 38] 20 _ _ _ _ _ _ ⟨fun q => absurd q n2, fun _ => ⟨fun (q : at' < -1) => ?_, fun (q : ¬ at' < -1) => ⟨fun (q1 : nI (m s) ≤ at') => ?_, fun (q1 : ¬ nI (m s) ≤ at') => ⟨fun (q2 : ¬ at' = -1) => ?_, fun (q2 : at' = -1) => ⟨fun (q3 : nI (m s) < nI 2) => ?_, fun (q3 : ¬ nI (m s) < nI 2) => ?_⟩⟩⟩⟩⟩
      · refine qm_PW.mask [true, false, false, false, false, false] (m36 (Or.inr ⟨s, hs, rfl, Or.inr ⟨fun e => by rw [e] at q; exact absurd q (by decide), ?_⟩⟩))
        cases e : inb at' (m s) with
        | false => rfl
        | true =>
          obtain ⟨t, t1, rfl⟩ := inb_e m2' e
          exact absurd (Int32.lt_trans q (by decide)) (nI_pos (n := t) (by omega))
      · refine qm_PW.mask [true, false, false, false, false, false] (m36 (Or.inr ⟨s, hs, rfl, Or.inr ⟨fun e => ?_, ?_⟩⟩))
        · rw [e] at q1
          exact absurd (Int32.lt_of_le_of_lt q1 (by decide)) (nI_pos (n := m s) (by omega))
        · cases e : inb at' (m s) with
          | false => rfl
          | true =>
            obtain ⟨t, t1, rfl⟩ := inb_e m2' e
            exact absurd q1 (nI_ge t1 m2')
      · have h0 := lo q q2
        have ib : inb at' (m s) = true := by
          rw [inb_lt (by omega : m s ≤ 1000), Bool.and_eq_true, decide_eq_true_eq, decide_eq_true_eq]
          exact ⟨h0, Int32.not_le.mp q1⟩
        obtain ⟨t, t1, rfl⟩ := inb_e m2' ib
        exact qm_PW.mask [true, true, true, true, true, false] (m38 s t hs rfl (by omega) (Or.inr ⟨q2, rfl, t1⟩))
      · have : m s < 2 := by
          rcases Nat.lt_or_ge (m s) 2 with x | x
          · exact x
          · exact absurd q3 (Int32.not_lt.mpr (nI_le x (by omega)))
        exact qm_PW.mask [true, true, true, true, true, false] (m38 s (m s) hs rfl this (Or.inl ⟨q2, this, rfl⟩))
      · refine qm_PW.mask [true, false, false, false, false, false] (m36 (Or.inr ⟨s, hs, rfl, Or.inl ⟨q2, ?_⟩⟩))
        rcases Nat.lt_or_ge (m s) 2 with x | x
        · exact absurd (nI_lt x (by decide)) q3
        · omega
    · have c' : inb srt 3 = false := by simpa using c
      rw [c', if_neg (by decide)]
      exact qm_wp_ok hA [36] 10 _ _ _ _ _ _ ⟨fun _ => qm_PW.mask [true, false, false, false, false, false] (m36 (Or.inl c')), fun q => absurd rfl q⟩
  have hw := c_howMany hG (d + 7) H0 srt
  rw [hH0] at g20 hw
  rw [← hL] at g20
  refine qm_wp_ok hA [20] 60 _ _ _ _ _ _ ⟨rfl, _, rfl, rfl, rfl, _, rfl, rfl, trivial, rfl, _, rfl, rfl, trivial, rfl, _, rfl, rfl, trivial, rfl, _, rfl, rfl, 0, 0, _, hw, ⟨by decide, by decide⟩, ?_⟩
  rintro _ _ ⟨rfl, rfl⟩
  exact g20
