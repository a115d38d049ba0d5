/-! what a text without a fault tells is well made -/
def LV (srt : Nat) (l : Nat × (Nat → Int32)) : Prop := l.1 ∈ ws srt ∧ (∀ j, 1 ≤ j → j ≤ nu l.1 → ∃ v, v ≤ mo l.1 j ∧ l.2 j = nI v) ∧ (∀ j, nu l.1 < j → l.2 j = -1) ∧ (unl l.1 = true → l.2 1 ≠ l.2 2)
theorem pn_ok {B : Nat → Nat} {L w : Nat} : ∀ r k a flt vs a2 flt2 vs2, a ≤ L → pn B L w r k a flt vs = .ok (a2, flt2, vs2) → flt2.1 = 0 → (∀ j, j < k ∨ k + r ≤ j → vs2 j = vs j) ∧ (∀ j, k ≤ j → j < k + r → ∃ v, v ≤ mo w j ∧ vs2 j = nI v) ∧ (k ≤ 2 → 2 < k + r → unl w = true → vs2 1 ≠ vs2 2)
  | 0, k, a, flt, vs, a2, flt2, vs2, ha, h, h0 => by
    rw [pn] at h
    injection h with h
    injection h with h1 h2
    injection h2 with h2 h3
    rw [← h3]
    exact ⟨fun _ _ => rfl, fun j h1 h2 => by omega, fun h1 h2 => by omega⟩
  | r + 1, k, a, flt, vs, a2, flt2, vs2, ha, h, h0 => by
    rw [pn] at h
    split at h
    · rename_i c
      obtain ⟨t3, t4, -⟩ := tE_lt (B := B) ha
      obtain ⟨i1, i2, i3⟩ := pn_ok r (k + 1) _ _ _ a2 flt2 vs2 t4 h h0
      obtain ⟨-, -, m1⟩ := pn_le r (k + 1) _ _ _ a2 flt2 vs2 t4 h
      have hb : bd w k vs (tV B L a) = false := by
        cases q : bd w k vs (tV B L a)
        · rfl
        · have := m1 h0
          rw [q, if_pos rfl] at this
          exact absurd this (fs1_0 (by decide))
      rw [bd] at hb
      obtain ⟨hb1, hb2⟩ := Bool.or_eq_false_iff.mp hb
      have hvk : vs2 k = nI (tV B L a) := by rw [i1 k (Or.inl (by omega)), up_s]
      refine ⟨fun j hj => ?_, fun j h1 h2 => ?_, fun h1 h2 hu => ?_⟩
      · rw [i1 j (by omega), up_n _ _ (by omega)]
      · by_cases e : j = k
        · rw [e]; exact ⟨_, by have := of_decide_eq_false hb1; omega, hvk⟩
        · exact i2 j (by omega) (by omega)
      · by_cases e : k = 2
        · subst e
          rw [hvk, i1 1 (Or.inl (by omega)), up_n _ _ (by decide)]
          rw [decide_eq_true rfl, hu, Bool.true_and, Bool.true_and] at hb2
          exact of_decide_eq_false hb2
        · exact i3 (by omega) (by omega) hu
    · exact absurd h (by simp)
theorem wof_in {l : List Nat} {w : Nat} : ∀ is, wof l is = some w → w ∈ is ∧ l = nm w
  | [], h => by rw [wof] at h; exact absurd h (by simp)
  | i :: is, h => by
    rw [wof] at h
    split at h
    · have := Option.some.inj h
      subst this
      exact ⟨List.mem_cons_self, by assumption⟩
    · obtain ⟨a, b⟩ := wof_in is h
      exact ⟨List.mem_cons_of_mem _ a, b⟩
theorem pl_ok {B : Nat → Nat} {L srt a c : Nat} {flt : Nat × Nat} {w a2 : Nat} {flt2 : Nat × Nat} {vs : Nat → Int32} (ha : a ≤ L) (h : pl B L srt a c flt = .ok (w, a2, flt2, vs)) (h0 : flt2.1 = 0) : LV srt (w, vs) ∧ (cnd srt w = true → c < lim srt) := by
  obtain ⟨-, -, -, hw⟩ := pl_le ha h
  rw [pl, hw] at h
  have h : (match pn B L w (nu w) 1 (tE B L a) (if cnd srt w && decide (lim srt ≤ c) then fs1 flt 3 (tB B L a) else flt) (fun _ => -1) with
    | .error p => .error p
    | .ok x => .ok (w, x) : Except Nat (Nat × Nat × (Nat × Nat) × (Nat → Int32))) = .ok (w, a2, flt2, vs) := h
  cases q2 : pn B L w (nu w) 1 (tE B L a) (if cnd srt w && decide (lim srt ≤ c) then fs1 flt 3 (tB B L a) else flt) (fun _ => -1) with
  | error p => rw [q2] at h; exact absurd h (by simp)
  | ok x =>
    rw [q2] at h
    injection h with h
    injection h with h1 h2
    rw [h2] at q2
    obtain ⟨t3, t4, -⟩ := tE_lt (B := B) ha
    obtain ⟨i1, i2, i3⟩ := pn_ok _ _ _ _ _ a2 flt2 vs t4 q2 h0
    obtain ⟨-, -, m1⟩ := pn_le _ _ _ _ _ a2 flt2 vs t4 q2
    have m2 := m1 h0
    refine ⟨⟨(wof_in _ hw).1, fun j h1 (h2 : j ≤ nu w) => i2 j h1 (by omega), fun j (hj : nu w < j) => i1 j (Or.inr (by omega)), fun hu => i3 (by omega) ?_ hu⟩, fun hc => ?_⟩
    · have h : unl w = true := hu
      rw [unl] at h
      rcases (by simpa using h : w = 2 ∨ w = 4 ∨ w = 8) with e | e | e <;> subst e <;> decide
    · rcases Nat.lt_or_ge c (lim srt) with e | e
      · exact e
      · rw [hc, decide_eq_true e, Bool.true_and, if_pos rfl] at m2
        exact absurd m2 (fs1_0 (by decide))
def cnt (srt : Nat) (acc : List (Nat × (Nat → Int32))) : Nat := (acc.filter (fun l => cnd srt l.1)).length
theorem cnt_a (srt : Nat) (acc : List (Nat × (Nat → Int32))) (l : Nat × (Nat → Int32)) : cnt srt (acc ++ [l]) = cnt srt acc + (if cnd srt l.1 then 1 else 0) := by
  rw [cnt, cnt, List.filter_append, List.length_append]
  congr 1
  cases q : cnd srt l.1
  · rw [List.filter_cons_of_neg (by rw [q]; decide)]; rfl
  · rw [List.filter_cons_of_pos (by rw [q])]; rfl
theorem prs_ok {B : Nat → Nat} {L srt : Nat} : ∀ r a c flt acc acc2 flt2 a2, a ≤ L → (∀ l, l ∈ acc → LV srt l) → c = cnt srt acc → c ≤ lim srt → prs B L srt r a c flt acc = .ok (acc2, flt2, a2) → flt2.1 = 0 → (∀ l, l ∈ acc2 → LV srt l) ∧ cnt srt acc2 ≤ lim srt
  | 0, a, c, flt, acc, acc2, flt2, a2, ha, ho, hc, hcl, h, h0 => by rw [prs] at h; exact absurd h (by simp)
  | r + 1, a, c, flt, acc, acc2, flt2, a2, ha, ho, hc, hcl, h, h0 => by
    rw [prs] at h
    split at h
    · injection h with h
      injection h with h1 h2
      rw [← h1]; exact ⟨ho, by rw [← hc]; exact hcl⟩
    · cases q : pl B L srt a c flt with
      | error p => rw [q] at h; exact absurd h (by simp)
      | ok x =>
        obtain ⟨w, a3, flt3, vs⟩ := x
        rw [q] at h
        have h : (if tK B L a3 = 4 then prs B L srt r (tE B L a3) (cn srt w c) flt3 (acc ++ [(w, vs)]) else .error (tB B L a3)) = .ok (acc2, flt2, a2) := h
        split at h
        · obtain ⟨l1, l2, -⟩ := pl_le ha q
          obtain ⟨t3, t4, -⟩ := tE_lt (B := B) l2
          have mono : ∀ r a c flt acc, a ≤ L → prs B L srt r a c flt acc = .ok (acc2, flt2, a2) → flt.1 = 0 := by
            intro r
            induction r with
            | zero => intro a c flt acc _ h; rw [prs] at h; exact absurd h (by simp)
            | succ r ih =>
              intro a c flt acc ha h
              rw [prs] at h
              split at h
              · injection h with h
                injection h with h1 h2
                injection h2 with h2 h3
                rw [h2]; exact h0
              · cases q : pl B L srt a c flt with
                | error p => rw [q] at h; exact absurd h (by simp)
                | ok x =>
                  obtain ⟨w, a3, flt3, vs⟩ := x
                  rw [q] at h
                  have h : (if tK B L a3 = 4 then prs B L srt r (tE B L a3) (cn srt w c) flt3 (acc ++ [(w, vs)]) else .error (tB B L a3)) = .ok (acc2, flt2, a2) := h
                  split at h
                  · obtain ⟨l1, l2, l3, -⟩ := pl_le ha q
                    obtain ⟨t3, t4, -⟩ := tE_lt (B := B) l2
                    exact l3 (ih _ _ _ _ t4 h)
                  · exact absurd h (by simp)
          have f3 := mono r _ _ _ _ t4 h
          obtain ⟨v1, v2⟩ := pl_ok ha q f3
          refine prs_ok r _ _ _ _ acc2 flt2 a2 t4 (fun l hl => ?_) ?_ ?_ h h0
          · rcases List.mem_append.mp hl with e | e
            · exact ho l e
            · rw [List.mem_singleton.mp e]; exact v1
          · rw [cnt_a, cn, ← hc]
            show _ = c + (if cnd srt w then 1 else 0)
            by_cases e : cnd srt w = true
            · rw [if_pos e, if_pos e, Nat.min_eq_left (v2 e)]
            · rw [if_neg e, if_neg e, Nat.add_zero]
          · rw [cn]
            split <;> omega
        · exact absurd h (by simp)
/-! rows of years, of logs -/
theorem krow_at {wide c : Nat} {r T : Nat → Int32} : ∀ m j, krow wide c r T m j = if 1 + wide * c ≤ j ∧ j < 1 + wide * c + m then r (j - (1 + wide * c)) else T j
  | 0, j => by rw [krow, if_neg (by omega)]
  | m + 1, j => by
    rw [krow]
    by_cases e : j = 1 + wide * c + m
    · rw [e, up_s, if_pos (by omega), show 1 + wide * c + m - (1 + wide * c) = m by omega]
    · rw [up_n _ _ e, krow_at m j]
      by_cases q : 1 + wide * c ≤ j ∧ j < 1 + wide * c + m
      · rw [if_pos q, if_pos (by omega)]
      · rw [if_neg q, if_neg (by omega)]
def lat (acc : List (Nat × (Nat → Int32))) (k : Nat) : Nat × (Nat → Int32) := acc.getD k (0, fun _ => 0)
theorem rows_F {srt wide lm b0 : Nat} (ht : ∀ w vs T, td srt w vs T = tdR wide lm (nI (w - b0)) vs T) (hw : 0 < wide) (hl : lm ≤ 40) (hI : tdI srt 0 = 0) : ∀ n acc, acc.length = n → n ≤ lm → tdf srt acc (tdI srt) 0 = nI n ∧ ∀ k, k < n → ∀ i, i < wide → tdf srt acc (tdI srt) (1 + wide * k + i) = if i = 0 then nI ((lat acc k).1 - b0) else (lat acc k).2 i
  | 0, acc, h, hn => by
    rw [List.length_eq_zero_iff] at h
    subst h
    exact ⟨hI, fun k hk => by omega⟩
  | n + 1, acc, h, hn => by
    obtain ⟨acc', l, rfl⟩ : ∃ acc' l, acc = acc' ++ [l] := by
      refine ⟨acc.dropLast, acc.getLast (by intro e; rw [e] at h; exact absurd h (by simp)), (List.dropLast_concat_getLast _).symm⟩
    have hlen : acc'.length = n := by simpa using h
    obtain ⟨i1, i2⟩ := rows_F ht hw hl hI n acc' hlen (by omega)
    rw [tdf_a, ht, tdR, i1, if_neg (fun q => by have := (nI_eq (by omega) (by omega)).mp q; omega), nI_clamp (by omega)]
    refine ⟨by rw [up_s, nI_1], fun k hk i hi => ?_⟩
    rw [up_n _ _ (by omega), krow_at]
    by_cases e : k = n
    · subst e
      rw [if_pos (by omega), show 1 + wide * k + i - (1 + wide * k) = i by omega]
      have : lat (acc' ++ [l]) k = l := by rw [lat, List.getD_eq_getElem?_getD, List.getElem?_append_right (by omega), hlen, Nat.sub_self]; rfl
      rw [this]
    · have hle : wide * (k + 1) ≤ wide * n := Nat.mul_le_mul_left _ (by omega)
      rw [Nat.mul_add] at hle
      rw [if_neg (by omega), i2 k (by omega) i hi]
      have : lat (acc' ++ [l]) k = lat acc' k := by rw [lat, lat, List.getD_eq_getElem?_getD, List.getD_eq_getElem?_getD, List.getElem?_append_left (by omega)]
      rw [this]
