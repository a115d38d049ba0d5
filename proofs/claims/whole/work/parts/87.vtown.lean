/-! years, logs, towns as texts tell them -/
theorem lat_in {acc : List (Nat × (Nat → Int32))} {k : Nat} (h : k < acc.length) : lat acc k ∈ acc := by
  rw [lat, List.getD_eq_getElem?_getD, List.getElem?_eq_getElem h]
  exact List.getElem_mem h
theorem cnt_len {srt : Nat} (hs : srt ≠ 0) (acc : List (Nat × (Nat → Int32))) : cnt srt acc = acc.length := by
  rw [cnt]
  congr 1
  exact List.filter_eq_self.mpr (fun l _ => by rw [cnd, decide_eq_true hs]; rfl)
/-- the lines of a text without a fault -/
theorem rd_acc {B : Nat → Nat} {L srt : Nat} (h : (rdF B L srt).1 = 0) : ∃ acc flt a, prs0 B L srt = .ok (acc, flt, a) ∧ flt.1 = 0 ∧ (∀ l, l ∈ acc → LV srt l) ∧ cnt srt acc ≤ lim srt ∧ (srt = 0 → ¬ tdf 0 acc (tdI 0) 0 ≤ frf acc (-1)) := by
  rw [rdF] at h
  cases q : prs0 B L srt with
  | error p => rw [q] at h; exact absurd (show (1 : Nat) = 0 from h) (by decide)
  | ok x =>
    obtain ⟨acc, flt, a⟩ := x
    rw [q] at h
    have h : (if flt.1 = 0 then (if srt = 0 ∧ tdf 0 acc (tdI 0) 0 ≤ frf acc (-1) then ((4 : Nat), nI L) else (0, -1)) else (flt.1, nI flt.2)).1 = 0 := h
    have hf : flt.1 = 0 := by
      by_cases c : flt.1 = 0
      · exact c
      · rw [if_neg c] at h; exact absurd h c
    rw [if_pos hf] at h
    obtain ⟨v1, v2⟩ := prs_ok 601 0 0 (0, 0) [] acc flt a (Nat.zero_le _) (fun l hl => absurd hl (by simp)) rfl (Nat.zero_le _) q hf
    refine ⟨acc, flt, a, rfl, hf, v1, v2, fun hs z => ?_⟩
    rw [if_pos ⟨hs, z⟩] at h
    exact absurd (show (4 : Nat) = 0 from h) (by decide)
theorem VY_rd {B : Nat → Nat} {L : Nat} (h : (rdF B L 1).1 = 0) : VY (rdT B L 1) (nn (rdT B L 1)) := by
  obtain ⟨acc, flt, a, e1, e2, e3, e4, -⟩ := rd_acc h
  rw [cnt_len (by decide)] at e4
  have eT : rdT B L 1 = tdf 1 acc (tdI 1) := by rw [rdT, e1]; rfl
  obtain ⟨r1, r2⟩ := rows_F (srt := 1) (wide := 4) (lm := 40) (b0 := 5) (fun w vs T => by rw [td, if_neg (by decide), if_pos rfl]) (by decide) (by decide) rfl acc.length acc rfl e4
  have e4 : acc.length ≤ 40 := e4
  have en : nn (rdT B L 1) = acc.length := by rw [nn, eT, r1, nI_clamp (by omega)]
  rw [en, eT]
  refine ⟨e4, r1, fun k hk => ?_⟩
  obtain ⟨l1, l2, l3, l4⟩ := e3 _ (lat_in hk)
  have hw : (lat acc k).1 = 5 ∨ (lat acc k).1 = 6 ∨ (lat acc k).1 = 7 ∨ (lat acc k).1 = 8 ∨ (lat acc k).1 = 9 := by
    have : (lat acc k).1 ∈ [5, 6, 7, 8, 9] := l1
    simpa using this
  refine ⟨(lat acc k).1 - 5, by omega, ?_, fun hwh => ?_⟩
  · have := r2 k hk 0 (by decide)
    rw [if_pos rfl] at this
    exact this
  · have hr := r2 k hk 2 (by decide)
    rw [if_neg (by decide)] at hr
    have h2 : nu (lat acc k).1 = 2 ∧ mo (lat acc k).1 2 = 5 := by
      rcases hw with e | e | e | e | e <;> rw [e] at hwh ⊢ <;> first | exact ⟨rfl, rfl⟩ | omega
    obtain ⟨v, v1, v2⟩ := l2 2 (by decide) (by omega)
    exact ⟨v, by omega, by rw [hr, v2]⟩
theorem VL_rd {B : Nat → Nat} {L : Nat} (h : (rdF B L 2).1 = 0) : VL (rdT B L 2) (nn (rdT B L 2)) := by
  obtain ⟨acc, flt, a, e1, e2, e3, e4, -⟩ := rd_acc h
  rw [cnt_len (by decide)] at e4
  have eT : rdT B L 2 = tdf 2 acc (tdI 2) := by rw [rdT, e1]; rfl
  obtain ⟨r1, r2⟩ := rows_F (srt := 2) (wide := 2) (lm := 8) (b0 := 10) (fun w vs T => by rw [td, if_neg (by decide), if_neg (by decide)]) (by decide) (by decide) rfl acc.length acc rfl e4
  have e4 : acc.length ≤ 8 := e4
  have en : nn (rdT B L 2) = acc.length := by rw [nn, eT, r1, nI_clamp (by omega)]
  rw [en, eT]
  refine ⟨e4, r1, fun k hk => ?_⟩
  obtain ⟨l1, l2, l3, l4⟩ := e3 _ (lat_in hk)
  have hw : (lat acc k).1 = 10 ∨ (lat acc k).1 = 11 := by
    have : (lat acc k).1 ∈ [10, 11] := l1
    simpa using this
  have hr0 := r2 k hk 0 (by decide)
  rw [if_pos rfl, Nat.add_zero] at hr0
  have hr := r2 k hk 1 (by decide)
  rw [if_neg (by decide)] at hr
  have h2 : nu (lat acc k).1 = 1 ∧ mo (lat acc k).1 1 = 5 := by
    rcases hw with e | e <;> rw [e] <;> exact ⟨rfl, rfl⟩
  obtain ⟨v, v1, v2⟩ := l2 1 (by decide) (by omega)
  refine ⟨?_, v, by omega, by rw [hr, v2]⟩
  rw [hr0]
  rcases hw with e | e <;> rw [e]
  · exact Or.inl rfl
  · exact Or.inr rfl
/-! towns -/
def farN (f : Int32) : Prop := f = -1 ∨ ∃ q, q ≤ 5 ∧ f = nI q
theorem far_mx {f : Int32} {v : Nat} (hf : farN f) (hv : v ≤ 5) : farN (mx f (nI v)) ∧ nI v ≤ mx f (nI v) ∧ ∀ p, p ≤ 5 → nI p ≤ f → nI p ≤ mx f (nI v) := by
  rcases hf with e | ⟨q, q1, e⟩
  · subst e
    have : mx (-1) (nI v) = nI v := by rw [mx, if_pos (m1_nI (by omega))]
    rw [this]
    exact ⟨Or.inr ⟨v, hv, rfl⟩, Int32.le_refl _, fun p hp h => absurd h (nI_m1 (by omega))⟩
  · subst e
    rw [mx_N (by omega) (by omega)]
    refine ⟨Or.inr ⟨max q v, by omega, rfl⟩, nI_le (by omega) (by omega), fun p hp h => ?_⟩
    have := (nI_leI (by omega) (by omega)).mp h
    exact nI_le (by omega) (by omega)
def TVI (T : Nat → Int32) (n : Nat) (far : Int32) : Prop := T 0 = nI n ∧ farN far ∧ (∀ f, f < 6 → ∃ v, v ≤ 20 ∧ T (1 + f) = nI v) ∧ (∀ f, f < 6 → ∃ s, s < 64 ∧ T (7 + f) = nI s) ∧ (∀ p, p < 6 → ∃ v, v ≤ 30 ∧ T (13 + p) = nI v) ∧ (∀ p, p < 6 → ∃ s, s < 64 ∧ T (19 + p) = nI s ∧ (s ≠ 0 → nI p ≤ far)) ∧ (∀ p, p < 6 → ∃ s, s < 64 ∧ T (25 + p) = nI s ∧ (s ≠ 0 → nI p ≤ far) ∧ ∀ o, o < 6 → s.testBit o = true → nI o ≤ far)
theorem TVI_step {T : Nat → Int32} {n : Nat} {far : Int32} {w : Nat} {vs : Nat → Int32} (h : TVI T n far) (hl : LV 0 (w, vs)) (hn : cnd 0 w = true → n < 6) : TVI (td 0 w vs T) (n + (if cnd 0 w then 1 else 0)) (far2 w vs far) := by
  obtain ⟨t0, tf, t1, t2, t3, t4, t5⟩ := h
  obtain ⟨l1, l2, l3, -⟩ := hl
  have hw : w = 0 ∨ w = 1 ∨ w = 2 ∨ w = 3 ∨ w = 4 := by
    have : w ∈ [0, 1, 2, 3, 4] := l1
    simpa using this
  rw [td, if_pos rfl, tdT]
  rcases hw with e | e | e | e | e <;> subst e
  · obtain ⟨v, v1, v2⟩ := l2 1 (by decide) (Nat.le_of_ble_eq_true rfl)
    have v1 : v ≤ 30 := v1
    have v2 : vs 1 = nI v := v2
    have hn := hn rfl
    rw [if_pos rfl, t0, if_pos (show nI n < (6 : Int32) from nI_lt (b := 6) hn (by decide)), nI_clamp (by omega), v2, nI_1]
    have fe : far2 0 vs far = far := by rw [far2, if_neg (by decide), far1, if_neg (by decide)]
    rw [fe, show (if cnd 0 0 then 1 else 0) = 1 from rfl]
    refine ⟨up_s _ _ _, tf, fun f hf => ?_, fun f hf => ?_, fun p hp => ?_, fun p hp => ?_, fun p hp => ?_⟩
    · rw [up_n _ _ (by omega), up_n _ _ (by omega)]; exact t1 f hf
    · rw [up_n _ _ (by omega), up_n _ _ (by omega)]; exact t2 f hf
    · rw [up_n _ _ (by omega)]
      by_cases q : p = n
      · rw [q, up_s]; exact ⟨v, v1, rfl⟩
      · rw [up_n _ _ (by omega)]; exact t3 p hp
    · rw [up_n _ _ (by omega), up_n _ _ (by omega)]; exact t4 p hp
    · rw [up_n _ _ (by omega), up_n _ _ (by omega)]; exact t5 p hp
  · obtain ⟨v, v1, v2⟩ := l2 1 (by decide) (Nat.le_of_ble_eq_true rfl)
    have v1 : v ≤ 5 := v1
    have v2 : vs 1 = nI v := v2
    obtain ⟨u, u1, u2⟩ := l2 2 (by decide) (Nat.le_of_ble_eq_true rfl)
    have u1 : u ≤ 20 := u1
    have u2 : vs 2 = nI u := u2
    rw [if_neg (by decide), if_pos rfl, v2, nI_clamp (by omega), u2]
    have fe : far2 1 vs far = far := by rw [far2, if_neg (by decide), far1, if_neg (by decide)]
    rw [fe, show (if cnd 0 1 then 1 else 0) = 0 from rfl, Nat.add_zero]
    refine ⟨by rw [up_n _ _ (by omega)]; exact t0, tf, fun f hf => ?_, fun f hf => ?_, fun p hp => ?_, fun p hp => ?_, fun p hp => ?_⟩
    · by_cases q : f = v
      · rw [q, up_s]; exact ⟨u, u1, rfl⟩
      · rw [up_n _ _ (by omega)]; exact t1 f hf
    · rw [up_n _ _ (by omega)]; exact t2 f hf
    · rw [up_n _ _ (by omega)]; exact t3 p hp
    · rw [up_n _ _ (by omega)]; exact t4 p hp
    · rw [up_n _ _ (by omega)]; exact t5 p hp
  · obtain ⟨v, v1, v2⟩ := l2 1 (by decide) (Nat.le_of_ble_eq_true rfl)
    have v1 : v ≤ 5 := v1
    have v2 : vs 1 = nI v := v2
    obtain ⟨u, u1, u2⟩ := l2 2 (by decide) (Nat.le_of_ble_eq_true rfl)
    have u1 : u ≤ 5 := u1
    have u2 : vs 2 = nI u := u2
    rw [if_neg (by decide), if_neg (by decide), v2, nI_clamp (by omega), u2, show bs0 2 = 7 from rfl]
    have fe : far2 2 vs far = far := by rw [far2, if_neg (by decide), far1, if_neg (by decide)]
    rw [fe, show (if cnd 0 2 then 1 else 0) = 0 from rfl, Nat.add_zero]
    obtain ⟨s, s1, s2⟩ := t2 v (by omega)
    obtain ⟨o1, o2⟩ := s_or1 s1 (by omega : u < 6)
    rw [s2, o1]
    refine ⟨by rw [up_n _ _ (by omega)]; exact t0, tf, fun f hf => ?_, fun f hf => ?_, fun p hp => ?_, fun p hp => ?_, fun p hp => ?_⟩
    · rw [up_n _ _ (by omega)]; exact t1 f hf
    · by_cases q : f = v
      · rw [q, up_s]; exact ⟨_, o2, rfl⟩
      · rw [up_n _ _ (by omega)]; exact t2 f hf
    · rw [up_n _ _ (by omega)]; exact t3 p hp
    · rw [up_n _ _ (by omega)]; exact t4 p hp
    · rw [up_n _ _ (by omega)]; exact t5 p hp
  · obtain ⟨v, v1, v2⟩ := l2 1 (by decide) (Nat.le_of_ble_eq_true rfl)
    have v1 : v ≤ 5 := v1
    have v2 : vs 1 = nI v := v2
    obtain ⟨u, u1, u2⟩ := l2 2 (by decide) (Nat.le_of_ble_eq_true rfl)
    have u1 : u ≤ 5 := u1
    have u2 : vs 2 = nI u := u2
    rw [if_neg (by decide), if_neg (by decide), v2, nI_clamp (by omega), u2, show bs0 3 = 19 from rfl]
    have fe : far2 3 vs far = mx far (nI v) := by rw [far2, if_neg (by decide), far1, if_pos (Or.inl rfl), v2]
    rw [fe, show (if cnd 0 3 then 1 else 0) = 0 from rfl, Nat.add_zero]
    obtain ⟨x1, x2, x3⟩ := far_mx tf v1
    obtain ⟨s, s1, s2, s3⟩ := t4 v (by omega)
    obtain ⟨o1, o2⟩ := s_or1 s1 (by omega : u < 6)
    rw [s2, o1]
    refine ⟨by rw [up_n _ _ (by omega)]; exact t0, x1, fun f hf => ?_, fun f hf => ?_, fun p hp => ?_, fun p hp => ?_, fun p hp => ?_⟩
    · rw [up_n _ _ (by omega)]; exact t1 f hf
    · rw [up_n _ _ (by omega)]; exact t2 f hf
    · rw [up_n _ _ (by omega)]; exact t3 p hp
    · by_cases q : p = v
      · rw [q, up_s]; exact ⟨_, o2, rfl, fun _ => x2⟩
      · rw [up_n _ _ (by omega)]
        obtain ⟨y, y1, y2, y3⟩ := t4 p hp
        exact ⟨y, y1, y2, fun z => x3 p (by omega) (y3 z)⟩
    · rw [up_n _ _ (by omega)]
      obtain ⟨y, y1, y2, y3, y4⟩ := t5 p hp
      exact ⟨y, y1, y2, fun z => x3 p (by omega) (y3 z), fun o ho z => x3 o (by omega) (y4 o ho z)⟩
  · obtain ⟨v, v1, v2⟩ := l2 1 (by decide) (Nat.le_of_ble_eq_true rfl)
    have v1 : v ≤ 5 := v1
    have v2 : vs 1 = nI v := v2
    obtain ⟨u, u1, u2⟩ := l2 2 (by decide) (Nat.le_of_ble_eq_true rfl)
    have u1 : u ≤ 5 := u1
    have u2 : vs 2 = nI u := u2
    rw [if_neg (by decide), if_neg (by decide), v2, nI_clamp (by omega), u2, show bs0 4 = 25 from rfl]
    have fe : far2 4 vs far = mx (mx far (nI v)) (nI u) := by rw [far2, if_pos rfl, far1, if_pos (Or.inr rfl), v2, u2]
    rw [fe, show (if cnd 0 4 then 1 else 0) = 0 from rfl, Nat.add_zero]
    obtain ⟨x1, x2, x3⟩ := far_mx tf v1
    obtain ⟨z1, z2, z3⟩ := far_mx x1 u1
    have up : ∀ p, p ≤ 5 → nI p ≤ far → nI p ≤ mx (mx far (nI v)) (nI u) := fun p hp h => z3 p hp (x3 p hp h)
    obtain ⟨s, s1, s2, s3, s4⟩ := t5 v (by omega)
    obtain ⟨o1, o2⟩ := s_or1 s1 (by omega : u < 6)
    rw [s2, o1]
    refine ⟨by rw [up_n _ _ (by omega)]; exact t0, z1, fun f hf => ?_, fun f hf => ?_, fun p hp => ?_, fun p hp => ?_, fun p hp => ?_⟩
    · rw [up_n _ _ (by omega)]; exact t1 f hf
    · rw [up_n _ _ (by omega)]; exact t2 f hf
    · rw [up_n _ _ (by omega)]; exact t3 p hp
    · rw [up_n _ _ (by omega)]
      obtain ⟨y, y1, y2, y3⟩ := t4 p hp
      exact ⟨y, y1, y2, fun z => up p (by omega) (y3 z)⟩
    · by_cases q : p = v
      · rw [q, up_s]
        refine ⟨_, o2, rfl, fun _ => z3 v v1 x2, fun o ho z => ?_⟩
        rw [Nat.testBit_or, Bool.or_eq_true] at z
        rcases z with z | z
        · exact up o (by omega) (s4 o ho z)
        · rw [Nat.testBit_two_pow, decide_eq_true_eq] at z
          rw [← z]; exact z2
      · rw [up_n _ _ (by omega)]
        obtain ⟨y, y1, y2, y3, y4⟩ := t5 p hp
        exact ⟨y, y1, y2, fun z => up p (by omega) (y3 z), fun o ho z => up o (by omega) (y4 o ho z)⟩
theorem TVI_all : ∀ n acc, acc.length = n → (∀ l, l ∈ acc → LV 0 l) → cnt 0 acc ≤ 6 → TVI (tdf 0 acc (tdI 0)) (cnt 0 acc) (frf acc (-1))
  | 0, acc, h, _, _ => by
    rw [List.length_eq_zero_iff] at h
    subst h
    have e0 : ∀ j, 7 ≤ j → tdI 0 j = nI 0 := fun j hj => by rw [tdI, if_neg (by omega)]; rfl
    refine ⟨rfl, Or.inl rfl, fun f hf => ⟨1, by decide, ?_⟩, fun f hf => ⟨0, by decide, e0 _ (by omega)⟩, fun p hp => ⟨0, by decide, e0 _ (by omega)⟩, fun p hp => ⟨0, by decide, e0 _ (by omega), fun z => absurd rfl z⟩, fun p hp => ⟨0, by decide, e0 _ (by omega), fun z => absurd rfl z, fun o _ z => absurd z (by simp)⟩⟩
    show tdI 0 (1 + f) = nI 1
    rw [tdI, if_pos (by omega)]; rfl
  | n + 1, acc, h, hv, hc => by
    obtain ⟨acc', l, rfl⟩ : ∃ acc' l, acc = acc' ++ [l] := by
      refine ⟨acc.dropLast, acc.getLast (by intro e; rw [e] at h; exact absurd h (by simp)), (List.dropLast_concat_getLast _).symm⟩
    have hlen : acc'.length = n := by simpa using h
    rw [cnt_a] at hc ⊢
    have ih := TVI_all n acc' hlen (fun x hx => hv x (List.mem_append_left _ hx)) (by omega)
    rw [tdf_a, frf_a]
    refine TVI_step ih (hv l (List.mem_append_right _ (List.mem_singleton.mpr rfl))) (fun hcn => ?_)
    rw [if_pos hcn] at hc
    omega
/-! all that follows -/
theorem clF_at {b : Nat} (hb : b < 6) (T : Nat → Int32) : ∀ m, m ≤ 6 → (∀ j, (j < 7 ∨ 7 + m ≤ j) → clF b T m j = T j) ∧ clF b T m (7 + b) = T (7 + b) ∧ ∀ f, f < m → clF b T m (7 + f) = (T (7 + f) ||| (if bit (T (7 + f)) (nI b) then T (7 + b) else 0))
  | 0, _ => ⟨fun _ _ => rfl, rfl, fun f hf => by omega⟩
  | m + 1, hm => by
    obtain ⟨i1, i2, i3⟩ := clF_at hb T m (by omega)
    have e0 : clF b T m (7 + m) = T (7 + m) := i1 _ (by omega)
    have key : clF b T (m + 1) (7 + m) = (T (7 + m) ||| (if bit (T (7 + m)) (nI b) then T (7 + b) else 0)) := by rw [clF, up_s, e0, i2]
    refine ⟨fun j hj => by rw [clF, up_n _ _ (by omega)]; exact i1 j (by omega), ?_, fun f hf => ?_⟩
    · by_cases e : b = m
      · subst e
        rw [key]
        split
        · exact Int32.or_self
        · exact Int32.or_zero
      · rw [clF, up_n _ _ (by omega), i2]
    · by_cases e : f = m
      · rw [e]; exact key
      · rw [clF, up_n _ _ (by omega)]; exact i3 f (by omega)
theorem clB_at (T : Nat → Int32) (hT : ∀ f, f < 6 → ∃ s, s < 64 ∧ T (7 + f) = nI s) : ∀ b, b ≤ 6 → (∀ j, (j < 7 ∨ 13 ≤ j) → clB T b j = T j) ∧ (∀ f, f < 6 → ∃ s, s < 64 ∧ clB T b (7 + f) = nI s) ∧ ∀ j, j < b → ∀ f k, f < 6 → k < 6 → bit (clB T b (7 + f)) (nI j) = true → bit (clB T b (7 + j)) (nI k) = true → bit (clB T b (7 + f)) (nI k) = true
  | 0, _ => ⟨fun _ _ => rfl, hT, fun j hj => by omega⟩
  | b + 1, hb => by
    obtain ⟨i1, i2, i3⟩ := clB_at T hT b (by omega)
    obtain ⟨c1, c2, c3⟩ := clF_at (by omega : b < 6) (clB T b) 6 (Nat.le_refl _)
    have row : ∀ f, f < 6 → ∀ k, k < 32 → bit (clB T (b + 1) (7 + f)) (nI k) = (bit (clB T b (7 + f)) (nI k) || (bit (clB T b (7 + f)) (nI b) && bit (clB T b (7 + b)) (nI k))) := fun f hf k hk => by
      rw [clB, c3 f hf, bit_or _ _ hk]
      cases bit (clB T b (7 + f)) (nI b)
      · rw [if_neg (by decide), bit_0 hk]; rfl
      · rw [if_pos rfl]; rfl
    refine ⟨fun j hj => by rw [clB, c1 j (by omega)]; exact i1 j hj, fun f hf => ?_, fun j hj f k hf hk h1 h2 => ?_⟩
    · obtain ⟨s, s1, s2⟩ := i2 f hf
      obtain ⟨u, u1, u2⟩ := i2 b (by omega)
      rw [clB, c3 f hf, s2]
      split
      · rw [u2, fa_or]; exact ⟨_, Nat.or_lt_two_pow (n := 6) s1 u1, rfl⟩
      · rw [show (0 : Int32) = nI 0 from rfl, fa_or, Nat.or_zero]; exact ⟨s, s1, rfl⟩
    · rw [row f hf _ (by omega)] at h1 ⊢
      rw [row j (by omega) _ (by omega)] at h2
      by_cases e : j = b
      · subst e
        cases q1 : bit (clB T j (7 + f)) (nI j)
        · rw [q1] at h1; exact absurd h1 (by simp)
        · cases q2 : bit (clB T j (7 + j)) (nI k)
          · rw [q2, Bool.and_false, Bool.or_false] at h2; exact absurd h2 (by decide)
          · simp
      · have I := i3 j (by omega)
        cases a1 : bit (clB T b (7 + f)) (nI k) with
        | true => rfl
        | false =>
          rw [Bool.false_or]
          have hfb : bit (clB T b (7 + f)) (nI b) = true := by
            cases q : bit (clB T b (7 + f)) (nI b) with
            | true => rfl
            | false =>
              rw [q, Bool.false_and, Bool.or_false] at h1
              cases q3 : bit (clB T b (7 + j)) (nI k) with
              | true => have := I f k hf hk h1 q3; rw [a1] at this; exact absurd this (by decide)
              | false =>
                rw [q3, Bool.false_or, Bool.and_eq_true] at h2
                have := I f b hf (by omega) h1 h2.1
                rw [q] at this; exact absurd this (by decide)
          rw [hfb, Bool.true_and]
          cases q3 : bit (clB T b (7 + b)) (nI k) with
          | true => rfl
          | false =>
            exfalso
            rw [q3, Bool.and_false, Bool.or_false] at h2
            rw [hfb, Bool.true_and] at h1
            cases q4 : bit (clB T b (7 + f)) (nI j) with
            | true => have := I f k hf hk q4 h2; rw [a1] at this; exact absurd this (by decide)
            | false =>
              rw [q4, Bool.false_or] at h1
              have := I b k (by omega) hk h1 h2
              rw [q3] at this; exact absurd this (by decide)
theorem s_closed_co {w w' : Nat → Int32} {S : Int32} : ∀ m, (∀ f, f < m → w (7 + f) = w' (7 + f)) → s_closed w S m = s_closed w' S m
  | 0, _ => rfl
  | m + 1, h => by rw [s_closed, s_closed, s_closed_co m (fun f hf => h f (by omega)), h m (by omega)]
theorem clK_at {p : Nat} (hp : p < 6) (S : Int32) (T : Nat → Int32) (hS : S = T (19 + p)) : ∀ m, m ≤ 6 → (∀ j, j ≠ 19 + p → clK p S T m j = T j) ∧ clK p S T m (19 + p) = s_closed T S m
  | 0, _ => ⟨fun _ _ => rfl, by rw [clK, s_closed, hS]⟩
  | m + 1, hm => by
    obtain ⟨i1, i2⟩ := clK_at hp S T hS m (by omega)
    refine ⟨fun j hj => by rw [clK, up_n _ _ hj]; exact i1 j hj, ?_⟩
    rw [clK, up_s, i2, i1 (7 + m) (by omega), s_closed]
theorem clP_at (T : Nat → Int32) : ∀ p, p ≤ 6 → (∀ j, (j < 19 ∨ 19 + p ≤ j) → clP T p j = T j) ∧ ∀ q, q < p → clP T p (19 + q) = s_closed T (T (19 + q)) 6
  | 0, _ => ⟨fun _ _ => rfl, fun q hq => by omega⟩
  | p + 1, hp => by
    obtain ⟨i1, i2⟩ := clP_at T p (by omega)
    obtain ⟨k1, k2⟩ := clK_at (by omega : p < 6) (clP T p (19 + p)) (clP T p) rfl 6 (Nat.le_refl _)
    refine ⟨fun j hj => by rw [clP, k1 j (by omega)]; exact i1 j (by omega), fun q hq => ?_⟩
    by_cases e : q = p
    · subst e
      rw [clP, k2, i1 (19 + q) (by omega)]
      exact s_closed_co 6 (fun f hf => i1 _ (by omega))
    · rw [clP, k1 _ (by omega)]; exact i2 q (by omega)
theorem s_closed_b {w : Nat → Int32} {S : Int32} {k : Nat} (hk : k < 32) : ∀ m, m ≤ 6 → (bit (s_closed w S m) (nI k) = true ↔ bit S (nI k) = true ∨ ∃ f, f < m ∧ bit S (nI f) = true ∧ bit (w (7 + f)) (nI k) = true)
  | 0, _ => ⟨fun h => Or.inl h, fun h => h.elim id (fun ⟨f, hf, _⟩ => by omega)⟩
  | m + 1, hm => by
    have ih := s_closed_b (w := w) (S := S) hk m (by omega)
    rw [s_closed, bit_or _ _ hk, Bool.or_eq_true, ih]
    constructor
    · rintro ((h | ⟨f, h1, h2, h3⟩) | h)
      · exact Or.inl h
      · exact Or.inr ⟨f, by omega, h2, h3⟩
      · split at h
        · exact Or.inr ⟨m, by omega, by assumption, h⟩
        · rw [bit_0 hk] at h; exact absurd h (by decide)
    · rintro (h | ⟨f, h1, h2, h3⟩)
      · exact Or.inl (Or.inl h)
      · by_cases e : f = m
        · subst e
          exact Or.inr (by rw [if_pos h2]; exact h3)
        · exact Or.inl (Or.inr ⟨f, by omega, h2, h3⟩)
theorem s_closed_lt {w : Nat → Int32} (hw : ∀ f, f < 6 → ∃ s, s < 64 ∧ w (7 + f) = nI s) {s : Nat} (hs : s < 64) : ∀ m, m ≤ 6 → ∃ u, u < 64 ∧ s_closed w (nI s) m = nI u
  | 0, _ => ⟨s, hs, rfl⟩
  | m + 1, hm => by
    obtain ⟨u, u1, u2⟩ := s_closed_lt hw hs m (by omega)
    obtain ⟨x, x1, x2⟩ := hw m (by omega)
    rw [s_closed, u2]
    split
    · rw [x2, fa_or]; exact ⟨_, Nat.or_lt_two_pow (n := 6) u1 x1, rfl⟩
    · rw [show (0 : Int32) = nI 0 from rfl, fa_or, Nat.or_zero]; exact ⟨u, u1, rfl⟩
theorem s_closed_0 (w : Nat → Int32) : ∀ m, m ≤ 6 → s_closed w 0 m = 0
  | 0, _ => rfl
  | m + 1, hm => by rw [s_closed, s_closed_0 w m (by omega), bit_0 (by omega), if_neg (by decide), Int32.or_zero]
theorem cls_at (T : Nat → Int32) (hT : ∀ f, f < 6 → ∃ s, s < 64 ∧ T (7 + f) = nI s) : (∀ j, j < 7 ∨ (13 ≤ j ∧ j < 19) ∨ 25 ≤ j → cls T j = T j) ∧ (∀ f, f < 6 → cls T (7 + f) = clB T 6 (7 + f)) ∧ ∀ p, p < 6 → cls T (19 + p) = s_closed (clB T 6) (T (19 + p)) 6 := by
  obtain ⟨b1, b2, b3⟩ := clB_at T hT 6 (Nat.le_refl _)
  obtain ⟨p1, p2⟩ := clP_at (clB T 6) 6 (Nat.le_refl _)
  refine ⟨fun j hj => by rw [cls, p1 j (by omega)]; exact b1 j (by omega), fun f hf => by rw [cls, p1 _ (by omega)], fun p hp => ?_⟩
  rw [cls, p2 p hp, b1 (19 + p) (by omega)]
theorem VT_rd {B : Nat → Nat} {L : Nat} (h : (rdF B L 0).1 = 0) : VT (rdT B L 0) (nn (rdT B L 0)) := by
  obtain ⟨acc, flt, a, e1, e2, e3, e4, e5⟩ := rd_acc h
  have e4 : cnt 0 acc ≤ 6 := e4
  have eT : rdT B L 0 = cls (tdf 0 acc (tdI 0)) := by rw [rdT, e1]; rfl
  have I := TVI_all acc.length acc rfl e3 e4
  have e5 := e5 rfl
  obtain ⟨T, hT⟩ : ∃ T, T = tdf 0 acc (tdI 0) := ⟨_, rfl⟩
  obtain ⟨n, hn⟩ : ∃ n, n = cnt 0 acc := ⟨_, rfl⟩
  rw [← hT] at I eT e5
  rw [← hn] at I e4
  obtain ⟨t0, tf, t1, t2, t3, t4, t5⟩ := I
  obtain ⟨c1, c2, c3⟩ := cls_at T t2
  obtain ⟨b1, b2, b3⟩ := clB_at T t2 6 (Nat.le_refl _)
  have en : nn (rdT B L 0) = n := by rw [nn, eT, c1 0 (by omega), t0, nI_clamp (by omega)]
  rw [en, eT]
  rw [t0] at e5
  have hfar : ∀ p, p ≤ 5 → nI p ≤ frf acc (-1) → p < n := fun p hp z => by
    rcases Nat.lt_or_ge p n with q | q
    · exact q
    · exact absurd (Int32.le_trans (nI_le q (by omega)) z) e5
  refine ⟨e4, by rw [c1 0 (by omega)]; exact t0, fun f hf => by rw [c1 _ (by omega)]; exact t1 f hf, fun f hf => by rw [c2 f hf]; exact b2 f hf, fun p hp => by rw [c1 _ (by omega)]; exact t3 p hp, fun p hp => ?_, fun p hp => ?_, fun f g k hf hg hk h1 h2 => ?_, fun p g k hp hg hk h1 h2 => ?_⟩
  · obtain ⟨s, s1, s2, s3⟩ := t4 p hp
    rw [c3 p hp, s2]
    obtain ⟨u, u1, u2⟩ := s_closed_lt b2 s1 6 (Nat.le_refl _)
    refine ⟨u, u1, u2, fun hnp => ?_⟩
    have hs0 : s = 0 := by
      rcases Nat.eq_zero_or_pos s with q | q
      · exact q
      · have := hfar p (by omega) (s3 (by omega)); omega
    rw [hs0, show nI 0 = (0 : Int32) from rfl, s_closed_0 _ 6 (Nat.le_refl _)] at u2
    exact ((nI_eq (a := 0) (by decide) (by omega)).mp u2).symm
  · obtain ⟨s, s1, s2, s3, s4⟩ := t5 p hp
    rw [c1 _ (by omega), s2]
    refine ⟨s, ?_, rfl, fun hnp => ?_⟩
    · refine Nat.lt_pow_two_of_testBit s fun i hi => ?_
      cases q : s.testBit i with
      | false => rfl
      | true =>
        exfalso
        rcases Nat.lt_or_ge i 6 with z | z
        · have := hfar i (by omega) (s4 i z q); omega
        · have : s.testBit i = false := Nat.testBit_lt_two_pow (Nat.lt_of_lt_of_le s1 (by
            calc 64 = 2 ^ 6 := rfl
              _ ≤ 2 ^ i := Nat.pow_le_pow_right (by decide) z))
          rw [this] at q; exact absurd q (by decide)
    · rcases Nat.eq_zero_or_pos s with q | q
      · exact q
      · have := hfar p (by omega) (s3 (by omega)); omega
  · rw [c2 f hf] at h1 ⊢
    rw [c2 g hg] at h2
    exact b3 g hg f k hf hk h1 h2
  · rw [c3 p hp] at h1 ⊢
    rw [c2 g hg] at h2
    rw [s_closed_b (by omega) 6 (Nat.le_refl _)] at h1 ⊢
    rcases h1 with h1 | ⟨f, f1, f2, f3⟩
    · exact Or.inr ⟨g, hg, h1, h2⟩
    · exact Or.inr ⟨f, f1, f2, b3 g hg f k f1 hk f3 h2⟩
