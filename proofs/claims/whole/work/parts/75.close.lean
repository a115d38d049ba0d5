/-! the reference: all that follows; a text read -/
def clF (b : Nat) (T : Nat → Int32) : Nat → Nat → Int32
  | 0 => T
  | f + 1 => va_up (clF b T f) (7 + f) (clF b T f (7 + f) ||| (if bit (clF b T f (7 + f)) (nI b) then clF b T f (7 + b) else 0))
def clB (T : Nat → Int32) : Nat → Nat → Int32
  | 0 => T
  | b + 1 => clF b (clB T b) 6
def clK (p : Nat) (set : Int32) (T : Nat → Int32) : Nat → Nat → Int32
  | 0 => T
  | f + 1 => va_up (clK p set T f) (19 + p) (clK p set T f (19 + p) ||| (if bit set (nI f) then clK p set T f (7 + f) else 0))
def clP (T : Nat → Int32) : Nat → Nat → Int32
  | 0 => T
  | p + 1 => clK p (clP T p (19 + p)) (clP T p) 6
def cls (T : Nat → Int32) : Nat → Int32 := clP (clB T 6) 6
theorem e_close {G : qm_G} (hG : G.2.2.2.2 = true) (d : Nat) (h : qm_H) : qm_Ev G (d + 1) 0 0 qyX10_close [.ref 26] h (fun r h' => r = none ∧ h'.1 35 = cls (h.1 35) ∧ sb [35] h h') := by
  refine qm_Ev.by (M := mX10_close) okX10_close (Nat.le_of_ble_eq_true rfl) hG fun z hA => ?_
  have i7 : ∀ x, (7 : Int32) + nI x = nI (7 + x) := fun x => nI_add 7 x
  have i19 : ∀ x, (19 : Int32) + nI x = nI (19 + x) := fun x => nI_add 19 x
  have n7 : ∀ x, x < 6 → vp_in ((7 : Int32) + nI x) 161 := fun x hx => by rw [i7]; exact vp_in_nI (by omega) (by decide)
  have n19 : ∀ x, x < 6 → vp_in ((19 : Int32) + nI x) 161 := fun x hx => by rw [i19]; exact vp_in_nI (by omega) (by decide)
  have c7 : ∀ x, x < 6 → ((7 : Int32) + nI x).toNatClampNeg = 7 + x := fun x hx => by rw [i7, nI_clamp (by omega)]
  have c19 : ∀ x, x < 6 → ((19 : Int32) + nI x).toNatClampNeg = 19 + x := fun x hx => by rw [i19, nI_clamp (by omega)]
  obtain ⟨T0, hT0⟩ : ∃ T0, T0 = h.1 35 := ⟨_, rfl⟩
  have second : ∀ h', sb [35] h h' → h'.1 35 = clB T0 6 → qm_PW G mX10_close z 42 0 0 [vr 26, vi (nI 0), vu, vu] [] h' := by
    refine qm_for (P := fun p => ∀ h', sb [35] h h' → h'.1 35 = clP (clB T0 6) p → qm_PW G mX10_close z 42 0 0 [vr 26, vi (nI p), vu, vu] [] h') (N := 6) ?_ ?_
    · intro h' c1 c2
      exact qm_wp_ok hA [] 20 _ _ _ _ _ _ ⟨fun _ => ⟨rfl, rfl, by rw [c2, cls, hT0], c1⟩, fun q => absurd (by decide) q⟩
    · intro p hp nx h' c1 c2
      refine qm_wp_ok hA [54] 30 _ _ _ _ _ _ ⟨fun q => absurd q (nI_ge hp (by decide)), fun _ => ⟨rfl, _, rfl, rfl, n19 p hp, ?_⟩⟩
      have e0 : h'.1 35 ((19 : Int32) + nI p).toNatClampNeg = clP (clB T0 6) p (19 + p) := by rw [c19 p hp, c2]
      obtain ⟨S, hS⟩ : ∃ S, S = clP (clB T0 6) p (19 + p) := ⟨_, rfl⟩
      refine qm_for (P := fun f => ∀ h2, sb [35] h h2 → h2.1 35 = clK p S (clP (clB T0 6) p) f → qm_PW G mX10_close z 54 0 0 [vr 26, vi (nI p), vi (h'.1 35 ((19 : Int32) + nI p).toNatClampNeg), vi (nI f)] [] h2) (N := 6) ?_ ?_ h' c1 c2
      · intro h2 d1 d2
        refine qm_wp_ok hA [42] 20 _ _ _ _ _ _ ⟨fun _ => ?_, fun q => absurd (by decide) q⟩
        have k := nx h2 d1 (by rw [d2, clP, hS])
        rw [← nI_1] at k
        exact qm_PW.mask [true, true, false, false] k
      · intro f hf nx2 h2 d1 d2
        have m76 : ∀ y, y = (if bit S (nI f) then clK p S (clP (clB T0 6) p) f (7 + f) else 0) → qm_PW G mX10_close z 76 0 0 [vr 26, vi (nI p), vi (h'.1 35 ((19 : Int32) + nI p).toNatClampNeg), vi (nI f)] [.int y, .int (h2.1 35 ((19 : Int32) + nI p).toNatClampNeg), .int ((19 : Int32) + nI p), .ref 35] h2 := by
          intro y hy
          refine qm_wp_ok hA [54] 20 _ _ _ _ _ _ ⟨rfl, n19 p hp, ?_⟩
          have k := nx2 (qm_si h2 35 (19 + p) (h2.1 35 (19 + p) ||| y)) (d1.si (by decide)) (by rw [si_row, d2, hy, clK])
          rw [← nI_1, ← c19 p hp] at k
          exact k
        refine qm_wp_ok hA [54, 76] 40 _ _ _ _ _ _ ⟨fun q => absurd q (nI_ge hf (by decide)), fun _ => ⟨rfl, _, rfl, rfl, n19 p hp, 0, 0, _, e_has hG d h2 _ (nI f), ⟨Nat.le_refl _, Nat.le_refl _⟩, ?_⟩⟩
        rintro _ _ ⟨rfl, rfl⟩
        refine b2_eq (fun hb => ⟨rfl, _, rfl, rfl, n7 f hf, m76 _ ?_⟩) (fun hb => m76 0 ?_)
        · rw [show h'.1 35 ((19 : Int32) + nI p).toNatClampNeg = S from e0.trans hS.symm] at hb
          show h2.1 35 ((7 : Int32) + nI f).toNatClampNeg = _
          rw [c7 f hf, d2, if_pos hb]
        · rw [show h'.1 35 ((19 : Int32) + nI p).toNatClampNeg = S from e0.trans hS.symm] at hb
          rw [if_neg (by rw [hb]; decide)]
  refine qm_wp_ok hA [2] 20 _ _ _ _ _ _ ?_
  refine qm_for (P := fun b => ∀ h', sb [35] h h' → h'.1 35 = clB T0 b → qm_PW G mX10_close z 2 0 0 [vr 26, vi (nI b), vu, vu] [] h') (N := 6) ?_ ?_ h sb.rf hT0.symm
  · intro h' c1 c2
    refine qm_wp_ok hA [42] 20 _ _ _ _ _ _ ⟨fun _ => ?_, fun q => absurd (by decide) q⟩
    exact second h' c1 c2
  · intro b hb nx h' c1 c2
    refine qm_wp_ok hA [7] 20 _ _ _ _ _ _ ⟨fun q => absurd q (nI_ge hb (by decide)), fun _ => ?_⟩
    refine qm_for (P := fun f => ∀ h2, sb [35] h h2 → h2.1 35 = clF b (clB T0 b) f → qm_PW G mX10_close z 7 0 0 [vr 26, vi (nI b), vi (nI f), vu] [] h2) (N := 6) ?_ ?_ h' c1 c2
    · intro h2 d1 d2
      refine qm_wp_ok hA [2] 20 _ _ _ _ _ _ ⟨fun _ => ?_, fun q => absurd (by decide) q⟩
      have k := nx h2 d1 (by rw [d2, clB])
      rw [← nI_1] at k
      exact qm_PW.mask [true, true, false, false] k
    · intro f hf nx2 h2 d1 d2
      have m34 : ∀ y, y = (if bit (clF b (clB T0 b) f (7 + f)) (nI b) then clF b (clB T0 b) f (7 + b) else 0) → qm_PW G mX10_close z 34 0 0 [vr 26, vi (nI b), vi (nI f), vu] [.int y, .int (h2.1 35 ((7 : Int32) + nI f).toNatClampNeg), .int ((7 : Int32) + nI f), .ref 35] h2 := by
        intro y hy
        refine qm_wp_ok hA [7] 20 _ _ _ _ _ _ ⟨rfl, n7 f hf, ?_⟩
        have k := nx2 (qm_si h2 35 (7 + f) (h2.1 35 (7 + f) ||| y)) (d1.si (by decide)) (by rw [si_row, d2, hy, clF])
        rw [← nI_1] at k
        rw [c7 f hf]
        exact k
      refine qm_wp_ok hA [7, 34] 40 _ _ _ _ _ _ ⟨fun q => absurd q (nI_ge hf (by decide)), fun _ => ⟨rfl, _, rfl, rfl, n7 f hf, rfl, _, rfl, rfl, n7 f hf, 0, 0, _, e_has hG d h2 _ (nI b), ⟨Nat.le_refl _, Nat.le_refl _⟩, ?_⟩⟩
      rintro _ _ ⟨rfl, rfl⟩
      refine b2_eq (fun hbb => ⟨rfl, _, rfl, rfl, n7 b hb, m34 _ ?_⟩) (fun hbb => m34 0 ?_)
      · rw [show h2.1 35 ((7 : Int32) + nI f).toNatClampNeg = clF b (clB T0 b) f (7 + f) by rw [c7 f hf, d2]] at hbb
        show h2.1 35 ((7 : Int32) + nI b).toNatClampNeg = _
        rw [c7 b hb, d2, if_pos hbb]
      · rw [show h2.1 35 ((7 : Int32) + nI f).toNatClampNeg = clF b (clB T0 b) f (7 + f) by rw [c7 f hf, d2]] at hbb
        rw [if_neg (by rw [hbb]; decide)]
def tdI (srt : Nat) : Nat → Int32 := fun j => if srt = 0 ∧ 1 ≤ j ∧ j ≤ 6 then 1 else 0
def prs0 (B : Nat → Nat) (L srt : Nat) : Except Nat (List (Nat × (Nat → Int32)) × (Nat × Nat) × Nat) := prs B L srt 601 0 0 (0, 0) []
/-- a text's fault and its place -/
def rdF (B : Nat → Nat) (L srt : Nat) : Nat × Int32 := match prs0 B L srt with
  | .error p => (1, nI p)
  | .ok (acc, flt, _) => if flt.1 = 0 then (if srt = 0 ∧ tdf 0 acc (tdI 0) 0 ≤ frf acc (-1) then (4, nI L) else (0, -1)) else (flt.1, nI flt.2)
/-- what a text without a fault tells -/
def rdT (B : Nat → Nat) (L srt : Nat) : Nat → Int32 := match prs0 B L srt with
  | .error _ => fun _ => 0
  | .ok (acc, _, _) => if srt = 0 then cls (tdf 0 acc (tdI 0)) else tdf srt acc (tdI srt)
def OKv (vs : Nat → Int32) : Prop := ∀ k, vs k = -1 ∨ ∃ v, v ≤ 99 ∧ vs k = nI v
theorem pn_vs {B : Nat → Nat} {L w : Nat} : ∀ r k a flt vs a2 flt2 vs2, a ≤ L → OKv vs → pn B L w r k a flt vs = .ok (a2, flt2, vs2) → OKv vs2
  | 0, k, a, flt, vs, a2, flt2, vs2, ha, ho, h => by
    rw [pn] at h
    injection h with h
    injection h with h1 h2
    injection h2 with h2 h3
    rw [← h3]; exact ho
  | r + 1, k, a, flt, vs, a2, flt2, vs2, ha, ho, h => by
    rw [pn] at h
    split at h
    · rename_i c
      obtain ⟨t3, t4, -⟩ := tE_lt (B := B) ha
      refine pn_vs r (k + 1) _ _ _ a2 flt2 vs2 t4 (fun j => ?_) h
      by_cases e : j = k
      · rw [e, up_s]; exact Or.inr ⟨_, tV_le ha c, rfl⟩
      · rw [up_n _ _ e]; exact ho j
    · exact absurd h (by simp)
theorem pl_vs {B : Nat → Nat} {L srt a c : Nat} {flt : Nat × Nat} {w a2 : Nat} {flt2 : Nat × Nat} {vs : Nat → Int32} (ha : a ≤ L) (h : pl B L srt a c flt = .ok (w, a2, flt2, vs)) : OKv vs := by
  rw [pl] at h
  cases q : wof (wrd B L a) (ws srt) with
  | none => rw [q] at h; exact absurd h (by simp)
  | some w' =>
    rw [q] at h
    have h : (match pn B L w' (nu w') 1 (tE B L a) (if cnd srt w' && decide (lim srt ≤ c) then fs1 flt 3 (tB B L a) else flt) (fun _ => -1) with
      | .error p => .error p
      | .ok x => .ok (w', x) : Except Nat (Nat × Nat × (Nat × Nat) × (Nat → Int32))) = .ok (w, a2, flt2, vs) := h
    cases q2 : pn B L w' (nu w') 1 (tE B L a) (if cnd srt w' && decide (lim srt ≤ c) then fs1 flt 3 (tB B L a) else flt) (fun _ => -1) with
    | error p => rw [q2] at h; exact absurd h (by simp)
    | ok x =>
      rw [q2] at h
      injection h with h
      injection h with h1 h2
      rw [h2] at q2
      obtain ⟨t3, t4, -⟩ := tE_lt (B := B) ha
      exact pn_vs _ _ _ _ _ a2 flt2 vs t4 (fun _ => Or.inl rfl) q2
theorem prs_vs {B : Nat → Nat} {L srt : Nat} : ∀ r a c flt acc acc2 flt2 a2, a ≤ L → (∀ l, l ∈ acc → OKv l.2) → prs B L srt r a c flt acc = .ok (acc2, flt2, a2) → ∀ l, l ∈ acc2 → OKv l.2
  | 0, a, c, flt, acc, acc2, flt2, a2, ha, ho, h => by rw [prs] at h; exact absurd h (by simp)
  | r + 1, a, c, flt, acc, acc2, flt2, a2, ha, ho, h => by
    rw [prs] at h
    split at h
    · injection h with h
      injection h with h1 h2
      rw [← h1]; exact ho
    · cases q : pl B L srt a c flt with
      | error p => rw [q] at h; exact absurd h (by simp)
      | ok x =>
        obtain ⟨w, a3, flt3, vs⟩ := x
        rw [q] at h
        have h : (if tK B L a3 = 4 then prs B L srt r (tE B L a3) (cn srt w c) flt3 (acc ++ [(w, vs)]) else .error (tB B L a3)) = .ok (acc2, flt2, a2) := h
        split at h
        · obtain ⟨l1, l2, -⟩ := pl_le ha q
          obtain ⟨t3, t4, -⟩ := tE_lt (B := B) l2
          refine prs_vs r _ _ _ _ acc2 flt2 a2 t4 (fun l hl => ?_) h
          rcases List.mem_append.mp hl with e | e
          · exact ho l e
          · rw [List.mem_singleton.mp e]; exact pl_vs ha q
        · exact absurd h (by simp)
def A161 (T T' : Nat → Int32) : Prop := ∀ j, j < 161 → T j = T' j
theorem A161.up {T T' : Nat → Int32} (h : A161 T T') {k : Nat} {v v' : Int32} (hv : v = v') : A161 (va_up T k v) (va_up T' k v') := fun j hj => by
  by_cases e : j = k
  · rw [e, up_s, up_s, hv]
  · rw [up_n _ _ e, up_n _ _ e]; exact h j hj
theorem OKv.le {vs : Nat → Int32} (h : OKv vs) (k : Nat) : (vs k).toNatClampNeg ≤ 99 := by
  rcases h k with e | ⟨v, h1, e⟩
  · rw [e]; decide
  · rw [e, nI_clamp (by omega)]; exact h1
theorem tdR_co {wide lm : Nat} {kd : Int32} {vs T T' : Nat → Int32} (h : A161 T T') : A161 (tdR wide lm kd vs T) (tdR wide lm kd vs T') := by
  rw [tdR, tdR, h 0 (by decide)]
  split
  · exact h
  · refine A161.up ?_ rfl
    generalize (T' 0).toNatClampNeg = c
    have : ∀ m, A161 (krow wide c (fun i => if i = 0 then kd else vs i) T m) (krow wide c (fun i => if i = 0 then kd else vs i) T' m) := by
      intro m
      induction m with
      | zero => exact h
      | succ m ih => exact ih.up rfl
    exact this wide
theorem td_co {srt w : Nat} {vs T T' : Nat → Int32} (h : A161 T T') (ho : OKv vs) : A161 (td srt w vs T) (td srt w vs T') := by
  have h1 := ho.le 1
  rw [td, td]
  split
  · rw [tdT, tdT]
    split
    · rw [h 0 (by decide)]
      split
      · exact (h.up rfl).up rfl
      · exact h
    · split
      · exact h.up rfl
      · have : bs0 w ≤ 25 := by
          rw [bs0]
          split
          · omega
          · split <;> omega
        exact h.up (by rw [h _ (by omega)])
  · split
    · exact tdR_co h
    · exact tdR_co h
theorem tdf_co {srt : Nat} : ∀ (acc : List (Nat × (Nat → Int32))) (T T' : Nat → Int32), A161 T T' → (∀ l, l ∈ acc → OKv l.2) → A161 (tdf srt acc T) (tdf srt acc T')
  | [], T, T', h, _ => h
  | l :: acc, T, T', h, ho => tdf_co acc _ _ (td_co h (ho l List.mem_cons_self)) (fun x hx => ho x (List.mem_cons_of_mem _ hx))
theorem clF_co {b : Nat} {T T' : Nat → Int32} (hb : b < 6) (h : A161 T T') : ∀ f, f ≤ 6 → A161 (clF b T f) (clF b T' f)
  | 0, _ => h
  | f + 1, hf => by
    have ih := clF_co hb h f (by omega)
    exact ih.up (by rw [ih (7 + f) (by omega), ih (7 + b) (by omega)])
theorem clB_co {T T' : Nat → Int32} (h : A161 T T') : ∀ b, b ≤ 6 → A161 (clB T b) (clB T' b)
  | 0, _ => h
  | b + 1, hb => clF_co (by omega) (clB_co h b (by omega)) 6 (Nat.le_refl _)
theorem clK_co {p : Nat} {S : Int32} {T T' : Nat → Int32} (hp : p < 6) (h : A161 T T') : ∀ f, f ≤ 6 → A161 (clK p S T f) (clK p S T' f)
  | 0, _ => h
  | f + 1, hf => by
    have ih := clK_co (S := S) hp h f (by omega)
    exact ih.up (by rw [ih (19 + p) (by omega), ih (7 + f) (by omega)])
theorem clP_co {T T' : Nat → Int32} (h : A161 T T') : ∀ p, p ≤ 6 → A161 (clP T p) (clP T' p)
  | 0, _ => h
  | p + 1, hp => by
    have ih := clP_co h p (by omega)
    rw [clP, clP, ih (19 + p) (by omega)]
    exact clK_co (by omega) ih 6 (Nat.le_refl _)
theorem cls_co {T T' : Nat → Int32} (h : A161 T T') : A161 (cls T) (cls T') := clP_co (clB_co h 6 (Nat.le_refl _)) 6 (Nat.le_refl _)
theorem e_readText {G : qm_G} (hG : G.2.2.2.2 = true) (d : Nat) (h : qm_H) {B : Nat → Nat} {L srt : Nat} (hB : TP (h.1 27) B) (hL : L ≤ 600) (hl : h.1 26 10 = nI L) (hs : srt < 3) : qm_Ev G (d + 7) 0 0 qyX10_readText [.ref 26, .int (nI srt)] h (fun r h' => r = some (.int (b2 (decide ((rdF B L srt).1 = 0)))) ∧ h'.1 29 = va_up (h.1 29) 0 (nI (rdF B L srt).1) ∧ h'.1 30 = va_up (h.1 30) 0 (rdF B L srt).2 ∧ ((rdF B L srt).1 = 0 → A161 (h'.1 35) (rdT B L srt)) ∧ rf [29, 30, 35, 36] KR h h') := by
  obtain ⟨Fp, hFp⟩ : ∃ Fp, Fp = rdF B L srt := ⟨_, rfl⟩
  obtain ⟨RT, hRT⟩ : ∃ RT, RT = rdT B L srt := ⟨_, rfl⟩
  rw [← hFp, ← hRT]
  refine qm_Ev.by (M := mX10_readText) okX10_readText (Nat.le_of_ble_eq_true rfl) hG fun z hA => ?_
  have n0 : vp_in (nI 0) 4 := vp_in_nI (n := 0) (by decide) (by decide)
  -- the end
  have m59 : ∀ h1 fine, rf [29, 30, 35, 36] KR h h1 → h1.1 29 = h.1 29 → h1.1 30 = h.1 30 → (fine = 0 ∧ Fp.1 = 1 ∧ h1.1 26 15 = Fp.2 ∨ fine = 1 ∧ Fp.1 ≤ 4 ∧ h1.1 26 16 = nI Fp.1 ∧ (Fp.1 = 0 → Fp.2 = -1) ∧ (Fp.1 ≠ 0 → h1.1 26 17 = Fp.2)) → (Fp.1 = 0 → A161 (h1.1 35) RT) → qm_PW G mX10_readText z 59 0 0 [vr 26, vu, vi fine] [] h1 := by
    intro h1 fine c1 c2 c3 c4 c5
    have fin : ∀ x y, x = nI Fp.1 → y = Fp.2 → Fp.1 ≤ 4 → qm_PW G mX10_readText z 84 0 0 [vr 26, vu, vi fine] [.int y, .int 0, .ref 30] (qm_si h1 29 0 x) := by
      intro x y hx hy hF
      have e29 : (qm_si (qm_si h1 29 0 x) 30 0 y).1 29 0 = nI Fp.1 := by rw [si_ne _ _ _ (by decide), si_row, up_s, hx]
      have E : (qm_si (qm_si h1 29 0 x) 30 0 y).1 29 = va_up (h.1 29) 0 (nI Fp.1) ∧ (qm_si (qm_si h1 29 0 x) 30 0 y).1 30 = va_up (h.1 30) 0 Fp.2 ∧ (Fp.1 = 0 → A161 ((qm_si (qm_si h1 29 0 x) 30 0 y).1 35) RT) ∧ rf [29, 30, 35, 36] KR h (qm_si (qm_si h1 29 0 x) 30 0 y) := by
        refine ⟨by rw [si_ne _ _ _ (by decide), si_row, hx, c2], by rw [si_row, si_ne _ _ _ (by decide), c3, hy], fun q => ?_, (c1.si (by decide) (by decide)).si (by decide) (by decide)⟩
        rw [si_ne _ _ _ (by decide), si_ne _ _ _ (by decide)]; exact c5 q
      refine qm_wp_ok hA [] 40 _ _ _ _ _ _ ⟨rfl, n0, rfl, _, rfl, rfl, n0, fun (q : ¬ (qm_si (qm_si h1 29 0 x) 30 0 y).1 29 0 = 0) => ⟨rfl, ?_, E⟩, fun (q : (qm_si (qm_si h1 29 0 x) 30 0 y).1 29 0 = 0) => ⟨rfl, ?_, E⟩⟩
      · rw [decide_eq_false (fun e => q (by rw [e29, e]; rfl))]; rfl
      · rw [decide_eq_true ((nI_eq (b := 0) (by omega) (by decide)).mp (by rw [← e29]; exact q))]; rfl
    rcases c4 with ⟨rfl, f1, f2⟩ | ⟨rfl, f1, f2, f3, f4⟩
    · refine qm_wp_ok hA [84] 40 _ _ _ _ _ _ ⟨rfl, _, rfl, fun _ => ⟨rfl, n0, rfl, _, rfl, fun z => absurd rfl z, fun _ => ⟨rfl, ?_⟩⟩, fun z => absurd rfl z⟩
      refine qm_PW.mask [true, false, true] (fin 1 _ (by rw [f1]; rfl) ?_ (by omega))
      show (qm_si h1 29 0 1).1 26 15 = _
      rw [si_ne _ _ _ (by decide)]; exact f2
    · have e16 : (qm_si h1 29 0 (h1.1 26 16)).1 26 16 = nI Fp.1 := by rw [si_ne _ _ _ (by decide)]; exact f2
      refine qm_wp_ok hA [84] 40 _ _ _ _ _ _ ⟨rfl, _, rfl, fun z => absurd z (by decide), fun _ => ⟨rfl, rfl, n0, rfl, _, rfl, fun _ => ⟨rfl, fun (q : (qm_si h1 29 0 (h1.1 26 16)).1 26 16 ≤ 0) => ?_, fun (q : ¬ (qm_si h1 29 0 (h1.1 26 16)).1 26 16 ≤ 0) => ⟨rfl, ?_⟩⟩, fun z => absurd z (by decide)⟩⟩
      · rw [e16] at q
        have e0 : Fp.1 = 0 := by
          rcases Nat.eq_zero_or_pos Fp.1 with e | e
          · exact e
          · exact absurd q (nI_nle e (by omega))
        exact qm_PW.mask [true, false, true] (fin (h1.1 26 16) (-1) f2 (f3 e0).symm f1)
      · rw [e16] at q
        have e0 : Fp.1 ≠ 0 := fun e => q (by rw [e]; exact Int32.le_refl _)
        refine qm_PW.mask [true, false, true] (fin (h1.1 26 16) _ f2 ?_ f1)
        show (qm_si h1 29 0 (h1.1 26 16)).1 26 17 = _
        rw [si_ne _ _ _ (by decide)]; exact f4 e0
  -- told, all that follows
  have m55 : ∀ h1 fine, rf [29, 30, 35, 36] KR h h1 → h1.1 29 = h.1 29 → h1.1 30 = h.1 30 → (fine = 0 ∧ Fp.1 = 1 ∧ h1.1 26 15 = Fp.2 ∨ fine = 1 ∧ Fp.1 ≤ 4 ∧ h1.1 26 16 = nI Fp.1 ∧ (Fp.1 = 0 → Fp.2 = -1) ∧ (Fp.1 ≠ 0 → h1.1 26 17 = Fp.2)) → (Fp.1 = 0 → A161 (if srt = 0 then cls (h1.1 35) else h1.1 35) RT) → qm_PW G mX10_readText z 55 0 0 [vr 26, vi (nI srt), vi fine] [] h1 := by
    intro h1 fine c1 c2 c3 c4 c5
    refine qm_wp_ok hA [59] 20 _ _ _ _ _ _ ⟨fun (q : ¬ nI srt = nI 0) => ?_, fun (q : nI srt = nI 0) => ⟨rfl, 0, 0, _, e_close hG (d + 5) h1, ⟨Nat.le_refl _, Nat.le_refl _⟩, ?_⟩⟩
    · refine qm_PW.mask [true, false, true] (m59 h1 fine c1 c2 c3 c4 (fun z => ?_))
      have := c5 z
      rw [if_neg (fun e => q (by rw [e]))] at this
      exact this
    · have hs0 := (nI_eq (by omega) (by decide)).mp q
      rintro _ h2 ⟨rfl, y1, y2⟩
      have e26 : h2.1 26 = h1.1 26 := y2.2 26 (by decide)
      refine qm_PW.mask [true, false, true] (m59 h2 fine ?_ (by rw [y2.2 29 (by decide), c2]) (by rw [y2.2 30 (by decide), c3]) (by rw [e26]; exact c4) (fun z => ?_))
      · exact c1.tr ⟨by rw [y2.1], fun q hq hs => y2.2 q (fun e => hs (by rw [List.mem_singleton.mp e]; decide)), fun q hq => by rw [y2.1], fun k hk => by rw [e26]⟩
      · have := c5 z
        rw [if_pos hs0] at this
        rw [y1]; exact this
  have n161 : ∀ j, j < 161 → vp_in (nI j) 161 := fun j hj => vp_in_nI hj (by decide)
  refine qm_wp_ok hA [2] 20 _ _ _ _ _ _ ?_
  refine qm_for (P := fun i => ∀ h', sb [35] h h' → (∀ j, j < i → h'.1 35 j = tdI srt j) → qm_PW G mX10_readText z 2 0 0 [vr 26, vi (nI srt), vi (nI i)] [] h') (N := 161) ?_ ?_ h sb.rf (fun j q => by omega)
  · intro h1 c1 c2
    have e26 : ∀ k, h1.1 26 k = h.1 26 k := fun k => by rw [c1.2 26 (by decide)]
    obtain ⟨H, hH⟩ : ∃ H, H = qm_si (qm_si (qm_si h1 26 20 (-1)) 26 9 0) 26 16 0 := ⟨_, rfl⟩
    have W0 : RW (qm_si (qm_si (qm_si h1 26 20 (-1)) 26 9 0) 26 16 0) B L 0 (0, 0) := by
      refine ⟨?_, hL, ?_, Nat.zero_le _, ?_, ?_, fun z => absurd rfl z, Nat.zero_le _⟩
      · rw [si_ne _ _ _ (by decide), si_ne _ _ _ (by decide), si_ne _ _ _ (by decide), c1.2 27 (by decide)]; exact hB
      · rw [si_row, up_n _ _ (by decide), si_row, up_n _ _ (by decide), si_row, up_n _ _ (by decide), e26, hl]
      · rw [si_row, up_n _ _ (by decide), si_row, up_s]; rfl
      · rw [si_row, up_s]; rfl
    have x20 : (qm_si (qm_si (qm_si h1 26 20 (-1)) 26 9 0) 26 16 0).1 26 20 = -1 := by rw [si_row, up_n _ _ (by decide), si_row, up_n _ _ (by decide), si_row, up_s]
    have xne : ∀ q, q ≠ 26 → (qm_si (qm_si (qm_si h1 26 20 (-1)) 26 9 0) 26 16 0).1 q = h1.1 q := fun q hq => by rw [si_ne _ _ _ hq, si_ne _ _ _ hq, si_ne _ _ _ hq]
    have F00 : rf [29, 30, 35, 36] KR h h1 := ⟨by rw [c1.1], fun q hq hs => c1.2 q (fun e => hs (by rw [List.mem_singleton.mp e]; decide)), fun q hq => by rw [c1.1], fun k hk => e26 k⟩
    have F0 : rf [29, 30, 35, 36] KR h (qm_si (qm_si (qm_si h1 26 20 (-1)) 26 9 0) 26 16 0) := ((F00.s26 (by decide)).s26 (by decide)).s26 (by decide)
    refine qm_wp_ok hA [55] 60 _ _ _ _ _ _ ⟨fun _ => ⟨rfl, trivial, rfl, trivial, rfl, trivial, rfl, 0, 0, _, e_tok hG (d + 5) _ W0, ⟨Nat.le_refl _, Nat.le_refl _⟩, ?_⟩, fun q => absurd (by decide) q⟩
    rintro _ h2 ⟨rfl, s1, s2⟩
    have s2 : tf (qm_si (qm_si (qm_si h1 26 20 (-1)) 26 9 0) 26 16 0) h2 := s2
    have y35 : h2.1 35 = h1.1 35 := by rw [s2.2.1 35 (by decide), xne 35 (by decide)]
    have y20 : h2.1 26 20 = -1 := by rw [s2.2.2.2 20 (by decide), x20]
    have z0 : h2.1 35 0 = nI 0 := by rw [y35, c2 0 (by decide), tdI, if_neg (by omega)]; rfl
    refine ⟨rfl, 0, 0, _, e_lines hG d h2 (srt := srt) (c := 0) s1 hs z0 (Nat.zero_le _) (h2.1 35) (-1) (fun _ => ⟨rfl, fun _ => y20⟩) 601 (by omega), ⟨Nat.le_refl _, Nat.le_refl _⟩, ?_⟩
    rintro rr h3 ⟨q1, q2⟩
    have F3 : rf [29, 30, 35, 36] KR h h3 := (F0.tr (tfto s2 (by decide))).tr (q1.mono (by decide) (fun q hq => hq))
    have g29 : h3.1 29 = h.1 29 := by rw [q1.2.1 29 (by decide) (by decide), s2.2.1 29 (by decide), xne 29 (by decide), c1.2 29 (by decide)]
    have g30 : h3.1 30 = h.1 30 := by rw [q1.2.1 30 (by decide) (by decide), s2.2.1 30 (by decide), xne 30 (by decide), c1.2 30 (by decide)]
    have hA : A161 (h2.1 35) (tdI srt) := fun j hj => by rw [y35]; exact c2 j hj
    rw [rdF] at hFp
    rw [rdT] at hRT
    rw [prs0] at hFp hRT
    cases qp : prs B L srt 601 0 0 (0, 0) [] with
    | error p =>
      rw [qp] at q2 hFp
      have hFp : Fp = (1, nI p) := hFp
      obtain ⟨rfl, q3⟩ := q2
      refine ⟨fun _ => ?_, fun z => absurd rfl z⟩
      exact m55 h3 0 F3 g29 g30 (Or.inl ⟨rfl, by rw [hFp], by rw [hFp]; exact q3⟩) (fun z => by rw [hFp] at z; exact absurd (show (1 : Nat) = 0 from z) (by decide))
    | ok x =>
      obtain ⟨acc, flt, a⟩ := x
      rw [qp] at q2 hFp hRT
      obtain ⟨rfl, R3, k0, q4⟩ := q2
      have hOK := prs_vs 601 0 0 (0, 0) [] acc flt a (Nat.zero_le _) (fun l hl => absurd hl (by simp)) qp
      have hco := tdf_co (srt := srt) acc _ _ hA hOK
      have hFp : Fp = if flt.1 = 0 then (if srt = 0 ∧ tdf 0 acc (tdI 0) 0 ≤ frf acc (-1) then (4, nI L) else (0, -1)) else (flt.1, nI flt.2) := hFp
      have hRT : RT = if srt = 0 then cls (tdf 0 acc (tdI 0)) else tdf srt acc (tdI srt) := hRT
      have lf3 := R3.2.2.2.2.2
      have aL := R3.2.2.2.1
      obtain ⟨t1, t2⟩ := tB_le (B := B) aL
      have hbL : tB B L a = L := by
        have h1 : tK B L a = 0 := k0
        rw [tK, tKE] at h1
        split at h1
        · exfalso
          split at h1
          · exact absurd h1 (by simp)
          · split at h1
            · have h1 : (if ru (pD B L) L (tB B L a) - tB B L a ≤ 2 then 3 else 1) = 0 := h1
              split at h1 <;> omega
            · have h1 : (if B (tB B L a) = 59 then 4 else 1) = 0 := h1
              split at h1 <;> omega
        · omega
      refine ⟨fun z => absurd z (by decide), fun _ => ?_⟩
      by_cases hf : flt.1 = 0
      · obtain ⟨g1, g2⟩ := q4 hf
        rw [if_pos hf] at hFp
        have e16 : h3.1 26 16 = 0 := by rw [lf3.1, hf]; rfl
        by_cases hs0 : srt = 0
        · subst hs0
          have g2 := g2 rfl
          have g0 : h3.1 35 0 = tdf 0 acc (tdI 0) 0 := by rw [g1]; exact hco 0 (by decide)
          refine ⟨fun z => absurd rfl z, fun _ => ⟨rfl, fun (z : ¬ h3.1 26 16 = 0) => absurd e16 z, fun _ => ⟨rfl, rfl, _, rfl, rfl, n161 0 (by decide), fun (z : h3.1 26 20 < h3.1 35 0) => ?_, fun (z : ¬ h3.1 26 20 < h3.1 35 0) => ⟨rfl, rfl, ?_⟩⟩⟩⟩
          · rw [g2, g0] at z
            rw [if_neg (fun q => Int32.not_le.mpr z q.2)] at hFp
            refine m55 h3 1 F3 g29 g30 (Or.inr ⟨rfl, by rw [hFp]; decide, by rw [hFp, e16]; rfl, fun _ => by rw [hFp], fun q => absurd (by rw [hFp]) q⟩) (fun _ => ?_)
            rw [if_pos rfl, hRT, if_pos rfl, g1]
            exact cls_co hco
          · rw [g2, g0] at z
            rw [if_pos ⟨rfl, Int32.not_lt.mp z⟩] at hFp
            have e11 : h3.1 26 11 = nI (tB B L a) := R3.2.2.2.2.1.2.1
            have el := e_later hG (d + 6) h3 (a := a) (f := 4) (p := tB B L a) (flt := flt) lf3 (by decide) (by decide) t1 (by omega)
            rw [← e11] at el
            refine ⟨0, 0, _, el, ⟨Nat.le_refl _, Nat.le_refl _⟩, ?_⟩
            rintro _ h4 ⟨rfl, l1, l2, l3⟩
            rw [fs1, if_pos hf] at l1
            refine m55 h4 1 (F3.tr (l2.mono (fun q hq => absurd hq (by simp)) (by decide))) (by rw [l2.2.1 29 (by decide) (by decide), g29]) (by rw [l2.2.1 30 (by decide) (by decide), g30]) (Or.inr ⟨rfl, by rw [hFp]; exact (by decide : (4 : Nat) ≤ 4), by rw [hFp]; exact l1.1, fun q => absurd (show (4 : Nat) = 0 by rw [hFp] at q; exact q) (by decide), fun _ => by rw [hFp, (l1.2.1 (show (4 : Nat) ≠ 0 by decide)).1, hbL]⟩) (fun q => absurd (show (4 : Nat) = 0 by rw [hFp] at q; exact q) (by decide))
        · rw [if_neg (fun q => hs0 q.1)] at hFp
          refine ⟨fun _ => ?_, fun (z : nI srt = nI 0) => absurd ((nI_eq (by omega) (by decide)).mp z) hs0⟩
          refine m55 h3 1 F3 g29 g30 (Or.inr ⟨rfl, by rw [hFp]; decide, by rw [hFp, e16]; rfl, fun _ => by rw [hFp], fun q => absurd (by rw [hFp]) q⟩) (fun _ => ?_)
          rw [if_neg hs0, hRT, if_neg hs0, g1]
          exact hco
      · rw [if_neg hf] at hFp
        have m := m55 h3 1 F3 g29 g30 (Or.inr ⟨rfl, by rw [hFp]; exact lf3.2.2, by rw [hFp]; exact lf3.1, fun q => absurd (by rw [hFp] at q; exact q) hf, fun _ => by rw [hFp]; exact (lf3.2.1 hf).1⟩) (fun q => absurd (by rw [hFp] at q; exact q) hf)
        refine ⟨fun _ => m, fun (z : nI srt = nI 0) => ⟨rfl, fun _ => m, fun (z : h3.1 26 16 = 0) => absurd ((nI_eq (b := 0) (by have := lf3.2.2; omega) (by decide)).mp (by rw [← lf3.1]; exact z)) hf⟩⟩
  · intro i hi nx h' c1 c2
    have m18 : ∀ y, y = tdI srt i → qm_PW G mX10_readText z 18 0 0 [vr 26, vi (nI srt), vi (nI i)] [.int y, .int (nI i), .ref 35] h' := by
      intro y hy
      refine qm_wp_ok hA [2] 20 _ _ _ _ _ _ ⟨rfl, n161 i hi, ?_⟩
      have k := nx (qm_si h' 35 i y) (c1.si (by decide)) (fun j hj => by
        rw [si_row]
        by_cases e : j = i
        · rw [e, up_s, hy]
        · rw [up_n _ _ e]; exact c2 j (by omega))
      rw [← nI_1] at k
      rw [nI_clamp (by omega)]
      exact k
    refine qm_wp_ok hA [18] 40 _ _ _ _ _ _ ⟨fun q => absurd q (nI_ge hi (by decide)), fun _ => ⟨rfl, _, rfl, fun (q : ¬ nI srt = nI 0) => ?_, fun (q : nI srt = nI 0) => ⟨0, 0, _, e_in hG (d + 6) h' (nI i) 1 6, ⟨Nat.le_refl _, Nat.le_refl _⟩, ?_⟩⟩⟩
    · exact m18 0 (by rw [tdI, if_neg (fun e => q (by rw [e.1]))])
    · rintro _ _ ⟨rfl, rfl⟩
      have hs0 := (nI_eq (by omega) (by decide)).mp q
      refine b2_eq (fun hb => m18 1 ?_) (fun hb => m18 0 ?_)
      · have hb := of_decide_eq_true hb
        rw [tdI, if_pos ⟨hs0, (nI_leI (a := 1) (by decide) (by omega)).mp hb.1, (nI_leI (b := 6) (by omega) (by decide)).mp hb.2⟩]
      · have hb := of_decide_eq_false hb
        rw [tdI, if_neg (fun e => hb ⟨nI_le (a := 1) e.2.1 (by omega), nI_le (b := 6) e.2.2 (by decide)⟩)]
