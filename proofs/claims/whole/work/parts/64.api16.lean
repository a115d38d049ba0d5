/-! the reference: by turns, folded -/
def am (q : Nat → Option Int) : Nat → Option (Nat × Int)
  | 0 => none
  | j + 1 => match q j with
    | none => am q j
    | some x => match am q j with
      | none => some (j, x)
      | some (b, v) => if v < x then some (j, x) else some (b, v)
theorem am_b {q : Nat → Option Int} {B : Int} (h : ∀ j x, q j = some x → -B ≤ x ∧ x ≤ B) : ∀ k b v, am q k = some (b, v) → b < k ∧ -B ≤ v ∧ v ≤ B
  | 0, b, v, e => by rw [am] at e; exact absurd e (by simp)
  | k + 1, b, v, e => by
    rw [am] at e
    cases q1 : q k with
    | none =>
      rw [q1] at e
      have := am_b h k b v e
      omega
    | some x =>
      rw [q1] at e
      have hx := h k x q1
      cases q2 : am q k with
      | none =>
        rw [q2] at e
        have := Option.some.inj e
        injection this with a b
        omega
      | some bv =>
        obtain ⟨b0, v0⟩ := bv
        have h0 := am_b h k b0 v0 q2
        rw [q2] at e
        by_cases c : v0 < x
        · have e2 : some (k, x) = some (b, v) := (if_pos c).symm.trans e
          have := Option.some.inj e2
          injection this with a b
          omega
        · have e2 : some (b0, v0) = some (b, v) := (if_neg c).symm.trans e
          have := Option.some.inj e2
          injection this with a b
          omega
theorem am_no {q : Nat → Option Int} : ∀ k, (∀ j, j < k → q j = none) → am q k = none
  | 0, _ => rfl
  | k + 1, h => by rw [am, h k (by omega)]; exact am_no k (fun j hj => h j (by omega))
theorem am_some {q : Nat → Option Int} {k : Nat} {x : Int} (h : q k = some x) : ∃ b v, am q (k + 1) = some (b, v) := by
  rw [am, h]
  cases q2 : am q k with
  | none => exact ⟨_, _, rfl⟩
  | some bv =>
    obtain ⟨b0, v0⟩ := bv
    by_cases c : v0 < x
    · exact ⟨_, _, if_pos c⟩
    · exact ⟨_, _, if_neg c⟩
def qv (L : (Nat → Int32) → Nat → Int) (w : Nat → Int32) (n : Nat) (mi : Nat → Int32) (had j : Nat) : Option Int :=
  if j = 36 then some (- L mi had) else if mvb n mi had j then some ((toldN w mi (j / 6) (j % 6) n : Int) - L (tM w n mi (j / 6) (j % 6)) (had ||| 2 ^ (j / 6))) else none
def tv (w : Nat → Int32) (n : Nat) : Nat → (Nat → Int32) → Nat → Int
  | 0, _, _ => 0
  | r + 1, mi, had => match am (qv (tv w n r) w n mi had) 37 with
    | none => 0
    | some (_, v) => v
theorem qv_b {w : Nat → Int32} (hw : VW w) {n : Nat} (hn : n ≤ 6) {L : (Nat → Int32) → Nat → Int} {B : Int} (hL : ∀ mi had, -B ≤ L mi had ∧ L mi had ≤ B) (mi : Nat → Int32) (had : Nat) : ∀ j x, qv L w n mi had j = some x → -(B + 720) ≤ x ∧ x ≤ B + 720 := by
  intro j x e
  rw [qv] at e
  split at e
  · have := Option.some.inj e
    have := hL mi had
    omega
  · split at e
    · have := Option.some.inj e
      have := hL (tM w n mi (j / 6) (j % 6)) (had ||| 2 ^ (j / 6))
      have := toldN_le hw mi (j / 6) (j % 6) n
      omega
    · exact absurd e (by simp)
theorem tv_b {w : Nat → Int32} (hw : VW w) {n : Nat} (hn : n ≤ 6) : ∀ (r : Nat) (mi : Nat → Int32) (had : Nat), -(720 * (r : Int)) ≤ tv w n r mi had ∧ tv w n r mi had ≤ 720 * (r : Int)
  | 0, mi, had => by rw [tv]; omega
  | r + 1, mi, had => by
    have qb := qv_b hw hn (tv_b hw hn r) mi had
    rw [tv]
    cases q : am (qv (tv w n r) w n mi had) 37 with
    | none => exact ⟨by show _ ≤ (0 : Int); omega, by show (0 : Int) ≤ _; omega⟩
    | some bv =>
      obtain ⟨b, v⟩ := bv
      have := am_b qb 37 b v q
      exact ⟨by show _ ≤ v; omega, by show v ≤ _; omega⟩
def fd1 (by' : Int32) (k : Nat) (most : Bool) (p : Int32 × Int32) : Int32 × Int32 :=
  if by' = -9999 then p else if p.1 = -9999 then (by', nI k) else if most then (if by' ≤ p.1 then p else (by', nI k)) else (if p.1 ≤ by' then p else (by', nI k))
def fd (T : Nat → Int32) (fr : Nat) (most : Bool) : Nat → Int32 × Int32
  | 0 => (-9999, -1)
  | k + 1 => fd1 (T (fr + k)) k most (fd T fr most k)
theorem iI_w {x : Int} (h1 : -9000 ≤ x) (h2 : x ≤ 9000) : ¬ iI x = -9999 := fun q => by
  have : iI x = iI (-9999) := q
  have := (iI_eq (by omega) (by omega) (by omega) (by omega)).mp this
  omega
theorem fd_am {T : Nat → Int32} {fr : Nat} {most : Bool} {q : Nat → Option Int} {acc s : Int} (hs : s = if most then 1 else -1) (hb : ∀ j x, q j = some x → -9000 ≤ acc + s * x ∧ acc + s * x ≤ 9000) : ∀ k, (∀ j, j < k → T (fr + j) = match q j with
    | none => (-9999 : Int32)
    | some x => iI (acc + s * x)) → fd T fr most k = match am q k with
    | none => ((-9999 : Int32), (-1 : Int32))
    | some (b, v) => (iI (acc + s * v), nI b)
  | 0, _ => rfl
  | k + 1, h => by
    have ih := fd_am hs hb k (fun j hj => h j (by omega))
    rw [fd, ih, h k (by omega), am]
    have hv : ∀ b v, am q k = some (b, v) → -9000 ≤ acc + s * v ∧ acc + s * v ≤ 9000 := by
      have key : ∀ k b v, am q k = some (b, v) → ∃ j, q j = some v := by
        intro k
        induction k with
        | zero => intro b v e; rw [am] at e; exact absurd e (by simp)
        | succ k ih2 =>
          intro b v e
          rw [am] at e
          cases q1 : q k with
          | none => rw [q1] at e; exact ih2 b v e
          | some x =>
            rw [q1] at e
            cases q2 : am q k with
            | none =>
              rw [q2] at e
              have := Option.some.inj e
              injection this with a b
              exact ⟨k, by rw [q1, b]⟩
            | some bv =>
              obtain ⟨b0, v0⟩ := bv
              rw [q2] at e
              by_cases c : v0 < x
              · have e2 : some (k, x) = some (b, v) := (if_pos c).symm.trans e
                have := Option.some.inj e2
                injection this with a b
                exact ⟨k, by rw [q1, b]⟩
              · have e2 : some (b0, v0) = some (b, v) := (if_neg c).symm.trans e
                have := Option.some.inj e2
                injection this with a b
                rw [← b]
                exact ih2 b0 v0 q2
      intro b v e
      obtain ⟨j, hj⟩ := key k b v e
      exact hb j v hj
    cases q1 : q k with
    | none => exact if_pos rfl
    | some x =>
      obtain ⟨x1, x2⟩ := hb k x q1
      have nx := iI_w x1 x2
      cases q2 : am q k with
      | none =>
        show fd1 (iI (acc + s * x)) k most (-9999, -1) = (iI (acc + s * x), nI k)
        rw [fd1, if_neg nx, if_pos rfl]
      | some bv =>
        obtain ⟨b, v⟩ := bv
        obtain ⟨v1, v2⟩ := hv b v q2
        show fd1 (iI (acc + s * x)) k most (iI (acc + s * v), nI b) = match (if v < x then some (k, x) else some (b, v)) with
          | none => ((-9999 : Int32), (-1 : Int32))
          | some (b, v) => (iI (acc + s * v), nI b)
        rw [fd1, if_neg nx, if_neg (iI_w v1 v2)]
        cases most with
        | true =>
          rw [if_pos rfl] at hs ⊢
          subst hs
          rw [Int.one_mul] at x1 x2 v1 v2
          by_cases c : v < x
          · rw [if_pos c, if_neg (fun z => by have := (iI_le (by omega) (by omega) (by omega) (by omega)).mp z; omega)]
          · rw [if_neg c, if_pos ((iI_le (by omega) (by omega) (by omega) (by omega)).mpr (by omega))]
        | false =>
          rw [if_neg (by decide)] at hs ⊢
          subst hs
          by_cases c : v < x
          · rw [if_pos c, if_neg (fun z => by have := (iI_le (by omega) (by omega) (by omega) (by omega)).mp z; omega)]
          · rw [if_neg c, if_pos ((iI_le (by omega) (by omega) (by omega) (by omega)).mpr (by omega))]
def fo (h h' : qm_H) : Prop := h'.2 = h.2 ∧ (∀ q, q ≠ 26 → h'.1 q = h.1 q) ∧ ∀ k, k ≠ 40 → h'.1 26 k = h.1 26 k
theorem fo.s {h h1 : qm_H} (a : fo h h1) {v : Int32} : fo h (qm_si h1 26 40 v) := by
  refine ⟨a.1, fun q hq => ?_, fun k hk => ?_⟩
  · rw [si_ne _ _ _ hq]; exact a.2.1 q hq
  · rw [si_row, up_n _ _ hk]; exact a.2.2 k hk
theorem e_fold {G : qm_G} (hG : G.2.2.2.2 = true) (d : Nat) (h : qm_H) {fr : Nat} (hfr : fr + 37 ≤ 50653) (most : Bool) : qm_Ev G d 0 0 qyX10_fold [.ref 26, .int (nI fr), .int (b2 most)] h (fun r h' => r = some (.int (fd (h.1 47) fr most 37).1) ∧ h'.1 26 40 = (fd (h.1 47) fr most 37).2 ∧ fo h h') := by
  refine qm_Ev.by (M := mX10_fold) okX10_fold (Nat.le_of_ble_eq_true rfl) hG fun z hA => ?_
  refine qm_wp_ok hA [7] 20 _ _ _ _ _ _ ?_
  refine ⟨rfl, trivial, ?_⟩
  refine qm_for (P := fun k => ∀ h', fo h h' → h'.1 26 40 = (fd (h.1 47) fr most k).2 → qm_PW G mX10_fold z 7 0 0 [vr 26, vi (nI fr), vi (b2 most), vi (fd (h.1 47) fr most k).1, vi (nI k), vu] [] h') (N := 37) ?_ ?_ (qm_si h 26 40 (-1)) (fo.s ⟨rfl, fun _ _ => rfl, fun _ _ => rfl⟩) (by rw [si_row, up_s]; rfl)
  · intro h' c1 c2
    exact qm_wp_ok hA [] 20 _ _ _ _ _ _ ⟨fun _ => ⟨trivial, rfl, c2, c1⟩, fun q => absurd (by decide) q⟩
  · intro k hk nx h' c1 c2
    rw [fd] at nx
    have e47 : h'.1 47 = h.1 47 := c1.2.1 47 (by decide)
    have ei : nI fr + nI k = nI (fr + k) := nI_add fr k
    have hin : vp_in (nI fr + nI k) 50653 := by rw [ei]; exact vp_in_nI (by omega) (by decide)
    obtain ⟨B, hB⟩ : ∃ B, B = h.1 47 (fr + k) := ⟨_, rfl⟩
    have eB : h'.1 47 (nI fr + nI k).toNatClampNeg = B := by rw [ei, nI_clamp (by omega), e47, hB]
    obtain ⟨p, hp⟩ : ∃ p, p = fd (h.1 47) fr most k := ⟨_, rfl⟩
    rw [← hB, ← hp, ← nI_1] at nx
    rw [← hp] at c2 ⊢
    have skip : fd1 B k most p = p → qm_PW G mX10_fold z 7 0 0 [vr 26, vi (nI fr), vi (b2 most), vi p.1, vi (nI k + 1), vu] [] h' := fun e => by
      have := nx h' c1 (by rw [e]; exact c2)
      rw [e] at this
      exact this
    have take : fd1 B k most p = (B, nI k) → qm_PW G mX10_fold z 7 0 0 [vr 26, vi (nI fr), vi (b2 most), vi B, vi (nI k + 1), vu] [] (qm_si h' 26 40 (nI k)) := fun e => by
      have := nx (qm_si h' 26 40 (nI k)) c1.s (by rw [e, si_row, up_s])
      rw [e] at this
      exact this
    refine qm_wp_ok hA [7] 40 _ _ _ _ _ _ ⟨fun q => absurd q (nI_ge hk (by decide)), fun _ => ⟨rfl, _, rfl, rfl, hin, ?_⟩⟩
    rw [eB]
    refine ⟨fun (q : B = -9999) => qm_PW.mask [true, true, true, true, true, false] (skip (by rw [fd1, if_pos q])), fun (q : ¬ B = -9999) => ⟨fun (c : p.1 = -9999) => ⟨rfl, trivial, qm_PW.mask [true, true, true, true, true, false] (take (by rw [fd1, if_neg q, if_pos c]))⟩, fun (c : ¬ p.1 = -9999) => ?_⟩⟩
    refine b2_eq (fun hm => ⟨fun (z : B ≤ p.1) => qm_PW.mask [true, true, true, true, true, false] (skip (by rw [fd1, if_neg q, if_neg c, if_pos hm, if_pos z])), fun (z : ¬ B ≤ p.1) => ⟨rfl, trivial, qm_PW.mask [true, true, true, true, true, false] (take (by rw [fd1, if_neg q, if_neg c, if_pos hm, if_neg z]))⟩⟩) (fun hm => ⟨fun (z : p.1 ≤ B) => qm_PW.mask [true, true, true, true, true, false] (skip (by rw [fd1, if_neg q, if_neg c, if_neg (by rw [hm]; decide), if_pos z])), fun (z : ¬ p.1 ≤ B) => ⟨rfl, trivial, qm_PW.mask [true, true, true, true, true, false] (take (by rw [fd1, if_neg q, if_neg c, if_neg (by rw [hm]; decide), if_neg z]))⟩⟩)
/-- the value of a path of t turns, the rest played best -/
def lv (w : Nat → Int32) (n N t k : Nat) : Int32 := match pth w n t k with
  | none => -9999
  | some (mi, had, acc) => iI (acc + sg t * tv w n (N - t) mi had)
def wh (w : Nat → Int32) (n N : Nat) : Int32 := if N = 0 then -1 else match am (qv (tv w n (N - 1)) w n (mi0 w) 0) 37 with
  | none => -1
  | some (b, _) => nI b
theorem sg_s (t : Nat) : sg (t + 1) = - sg t := by
  rw [sg, sg]
  split <;> split <;> omega
theorem lv_fold {w : Nat → Int32} (hw : VW w) {n N t k : Nat} (hn : n ≤ 6) (ht : t < N) (hN : N ≤ 3) {T : Nat → Int32} (hT : ∀ j, j < 37 → T (37 * k + j) = lv w n N (t + 1) (37 * k + j)) : (fd T (37 * k) (decide (t % 2 = 0)) 37).1 = lv w n N t k ∧ (t = 0 → (fd T (37 * k) (decide (t % 2 = 0)) 37).2 = wh w n N) := by
  have hch : ∀ j, j < 37 → pth w n (t + 1) (37 * k + j) = match pth w n t k with
      | none => none
      | some (mi, had, acc) => stp w n t mi had acc j := fun j hj => by
    rw [pth, show (37 * k + j) / 37 = k by omega, show (37 * k + j) % 37 = j by omega]
    cases pth w n t k with
    | none => rfl
    | some st => rfl
  cases q : pth w n t k with
  | none =>
    have h0 := fd_am (T := T) (fr := 37 * k) (most := decide (t % 2 = 0)) (q := fun _ => none) (acc := 0) (s := if decide (t % 2 = 0) then 1 else -1) rfl (fun j x e => absurd e (by simp)) 37 (fun j hj => by
      rw [hT j hj, lv, hch j hj, q])
    rw [am_no 37 (fun _ _ => rfl)] at h0
    rw [h0]
    refine ⟨by rw [lv, q], fun e => ?_⟩
    subst e
    rw [pth] at q
    exact absurd q (by simp)
  | some st =>
    obtain ⟨mi, had, acc⟩ := st
    obtain ⟨b1, b2, b3⟩ := pth_b hw hn t k mi had acc q
    have hs : sg t = if decide (t % 2 = 0) = true then 1 else -1 := by
      rw [sg]
      by_cases c : t % 2 = 0
      · rw [if_pos c, if_pos (decide_eq_true c)]
      · rw [if_neg c, if_neg (by rw [decide_eq_false c]; decide)]
    have qb := qv_b hw hn (tv_b hw hn (N - (t + 1))) mi had
    have hq : ∀ j x, qv (tv w n (N - (t + 1))) w n mi had j = some x → -9000 ≤ acc + sg t * x ∧ acc + sg t * x ≤ 9000 := fun j x e => by
      have := qb j x e
      rw [sg]
      split <;> omega
    have h0 := fd_am (T := T) (fr := 37 * k) (most := decide (t % 2 = 0)) (q := qv (tv w n (N - (t + 1))) w n mi had) (acc := acc) (s := sg t) hs hq 37 (fun j hj => by
      rw [hT j hj, lv, hch j hj, q]
      show (match stp w n t mi had acc j with
        | none => (-9999 : Int32)
        | some (mi, had, acc) => iI (acc + sg (t + 1) * tv w n (N - (t + 1)) mi had)) = _
      rw [stp, qv]
      by_cases c : j = 36
      · rw [if_pos c, if_pos c]
        show iI (acc + sg (t + 1) * tv w n (N - (t + 1)) mi had) = iI (acc + sg t * -tv w n (N - (t + 1)) mi had)
        rw [sg_s, Int.neg_mul, Int.mul_neg]
      · rw [if_neg c, if_neg c]
        by_cases c2 : mvb n mi had j = true
        · rw [if_pos c2, if_pos c2]
          show iI (acc + sg t * (toldN w mi (j / 6) (j % 6) n : Int) + sg (t + 1) * tv w n (N - (t + 1)) (tM w n mi (j / 6) (j % 6)) (had ||| 2 ^ (j / 6))) = iI (acc + sg t * ((toldN w mi (j / 6) (j % 6) n : Int) - tv w n (N - (t + 1)) (tM w n mi (j / 6) (j % 6)) (had ||| 2 ^ (j / 6))))
          rw [sg_s, Int.neg_mul, Int.mul_sub]
          congr 1
          omega
        · rw [if_neg c2, if_neg c2])
    obtain ⟨b, v, hbv⟩ := am_some (q := qv (tv w n (N - (t + 1))) w n mi had) (k := 36) (x := - tv w n (N - (t + 1)) mi had) (by rw [qv, if_pos rfl])
    have hbv : am (qv (tv w n (N - (t + 1))) w n mi had) 37 = some (b, v) := hbv
    rw [hbv] at h0
    have h1 : fd T (37 * k) (decide (t % 2 = 0)) 37 = (iI (acc + sg t * v), nI b) := h0
    rw [h1]
    refine ⟨?_, fun e => ?_⟩
    · rw [lv, q]
      show iI (acc + sg t * v) = iI (acc + sg t * tv w n (N - t) mi had)
      rw [show N - t = (N - (t + 1)) + 1 by omega, tv, hbv]
    · subst e
      rw [pth] at q
      have := Option.some.inj q
      injection this with a b'
      injection b' with b' c'
      rw [wh, if_neg (by omega), a, b', show N - 1 = N - (0 + 1) by omega, hbv]
def s_turns (w : Nat → Int32) (n N : Nat) (first : Bool) : Int32 :=
  if first then (if wh w n N = -1 then -1 else if wh w n N = 36 then 99 else 10 * (wh w n N / 6) + (wh w n N - wh w n N / 6 * 6)) else iI (tv w n N (mi0 w) 0)
def p_turns (h : qm_H) (mt : Nat) (a k : Int32) (first : Bool) : Int32 := if inb k 4 && inb a mt then s_turns (tw h a.toNatClampNeg) (nn (tw h a.toNatClampNeg)) k.toNatClampNeg first else -999
def fb (h h' : qm_H) : Prop := h'.2 = h.2 ∧ (∀ q, q ∉ [26, 39, 47] → h'.1 q = h.1 q) ∧ ∀ k, k ≠ 40 → h'.1 26 k = h.1 26 k
theorem fb.si {h h1 : qm_H} (a : fb h h1) {k : Nat} {v : Int32} : fb h (qm_si h1 47 k v) := ⟨a.1, fun q hq => by
  rw [si_ne _ _ _ (by intro e; subst e; exact hq (by decide))]; exact a.2.1 q hq, fun k hk => by rw [si_ne _ _ _ (by decide)]; exact a.2.2 k hk⟩
theorem fb.s39 {h h1 h2 : qm_H} (a : fb h h1) (b : sb [39] h1 h2) : fb h h2 := ⟨b.1.trans a.1, fun q hq => by
  rw [b.2 q (by intro e; exact hq (by rw [List.mem_singleton.mp e]; decide))]; exact a.2.1 q hq, fun k hk => by rw [b.2 26 (by decide)]; exact a.2.2 k hk⟩
theorem fb.fo {h h1 h2 : qm_H} (a : fb h h1) (b : fo h1 h2) : fb h h2 := ⟨b.1.trans a.1, fun q hq => by
  rw [b.2.1 q (by intro e; exact hq (by rw [e]; decide))]; exact a.2.1 q hq, fun k hk => by rw [b.2.2 k hk]; exact a.2.2 k hk⟩
theorem fb.ps {h h1 : qm_H} (a : fb h h1) : pers h h1 := ⟨a.1, fun q hq => a.2.1 q (fun e => hq (by revert e; simp only [List.mem_cons, List.not_mem_nil, or_false]; omega))⟩
theorem a_byTurns {G : qm_G} (hG : G.2.2.2.2 = true) (d : Nat) (h : qm_H) {mt my ml : Nat} (hS : ST h mt my ml) (a k : Int32) (first : Bool) : qm_Ev G (d + 4) 0 0 qyX10_byTurns [.ref 26, .int a, .int k, .int (b2 first)] h (fun r h' => r = some (.int (p_turns h mt a k first)) ∧ pers h h') := by
  obtain ⟨s1, s2, -, -, -, -, hT, -⟩ := hS
  refine qm_Ev.by (M := mX10_byTurns) okX10_byTurns (Nat.le_of_ble_eq_true rfl) hG fun z hA => ?_
  refine qm_wp_ok hA [19] 40 _ _ _ _ _ _ ?_
  refine ⟨rfl, trivial, 0, 0, _, e_in hG (d + 3) (qm_si h 26 0 0) k 0 3, ⟨Nat.le_refl _, Nat.le_refl _⟩, ?_⟩
  rintro _ _ ⟨rfl, rfl⟩
  refine b2_eq (fun hb => ?_) (fun hb => ⟨trivial, by rw [p_turns, show inb k 4 = false from hb]; rfl, pers.rf.s26⟩)
  have hb : inb k 4 = true := hb
  obtain ⟨N, hN, rfl⟩ := inb_e (by decide) hb
  refine ⟨rfl, 0, 0, _, e_handC hG (d + 1) (qm_si h 26 0 0) (mt := mt) s1 s2 a, ⟨Nat.le_refl _, Nat.le_refl _⟩, ?_⟩
  rintro _ h1 (⟨t, ht, rfl, rfl, rfl⟩ | ⟨e0, rfl, e1⟩)
  · obtain ⟨i1, i2⟩ := p_in ht s2
    have hV := hT t ht
    have hw := hV.w
    obtain ⟨hn6, hn, -⟩ := hV
    have eP : p_turns h mt (nI t) (nI N) first = s_turns (tw h t) (nn (tw h t)) N first := by rw [p_turns, hb, i1, i2, nI_clamp (by omega)]; rfl
    obtain ⟨h0, hh0⟩ : ∃ h0, h0 = hnd (qm_si h 26 0 0) t := ⟨_, rfl⟩
    have p0 : pers h h0 := by rw [hh0]; exact pers.rf.s26.tr (hnd.ps _ t)
    have e22 : h0.1 26 22 = nI t := by rw [hh0]; rfl
    have e23 : h0.1 26 23 = nI (nn (tw h t)) := by rw [hh0]; exact hn
    have etw : tw h0 t = tw h t := by rw [hh0]; rfl
    rw [← hh0]
    obtain ⟨n, hnn⟩ : ∃ n, n = nn (tw h t) := ⟨_, rfl⟩
    obtain ⟨w, hww⟩ : ∃ w, w = tw h t := ⟨_, rfl⟩
    rw [← hnn] at e23 eP hn6
    rw [← hww] at etw eP hw
    refine ⟨fun _ => ?_, fun q => absurd q (by decide)⟩
    refine ⟨0, 0, _, e_allEnds hG (d + 3) h0 (n := N) (by omega), ⟨Nat.le_refl _, Nat.le_refl _⟩, ?_⟩
    rintro _ _ ⟨rfl, rfl⟩
    have hpow : ∀ r, r ≤ 3 → 0 < 37 ^ r ∧ 37 ^ r ≤ 50653 := by decide
    have fr1 : ∀ h', fb h0 h' → h'.1 26 22 = nI t ∧ h'.1 26 23 = nI n ∧ tw h' t = w := fun h' c => ⟨by rw [c.2.2 22 (by decide), e22], by rw [c.2.2 23 (by decide), e23], by rw [← etw]; unfold tw; rw [c.2.1 32 (by decide)]⟩
    have n37 : ¬ (37 : Int32) = 0 := by decide
    have n6 : ¬ (6 : Int32) = 0 := by decide
    have main : ∀ s, s ≤ N → ∀ h', fb h0 h' → (∀ j, j < 37 ^ s → h'.1 47 j = lv w n N s j) → (s = 0 → h'.1 26 40 = wh w n N) → qm_PW G mX10_byTurns z 39 0 0 [vr 26, vi (nI t), vi (nI N), vi (b2 first), vi (nI (37 ^ s)), vi (nI s + -1), vu] [] h' := by
      intro s
      induction s with
      | zero =>
        intro _ h' c1 c2 c3
        have c3 := c3 rfl
        have fin : pers h h' := p0.tr c1.ps
        refine qm_wp_ok hA [] 40 _ _ _ _ _ _ ⟨fun _ => ?_, fun q => absurd (by decide) q⟩
        refine b2_ne (fun hf => ?_) (fun hf => ?_)
        · rw [s_turns, if_pos hf] at eP
          refine ⟨rfl, fun (q : ¬ h'.1 26 40 = -1) => ⟨rfl, fun (q2 : ¬ h'.1 26 40 = 36) => ⟨rfl, n6, rfl, n6, trivial, ?_, fin⟩, fun (q2 : h'.1 26 40 = 36) => ⟨trivial, ?_, fin⟩⟩, fun (q : h'.1 26 40 = -1) => ⟨trivial, ?_, fin⟩⟩
          · rw [c3] at q q2
            rw [if_neg q, if_neg q2, ← c3] at eP
            exact congrArg (fun v => some (Value.int v)) eP.symm
          · rw [c3] at q q2
            rw [if_neg q, if_pos q2] at eP
            rw [eP]
          · rw [c3] at q
            rw [if_pos q] at eP
            rw [eP]
        · rw [s_turns, if_neg (by rw [hf]; decide)] at eP
          refine ⟨rfl, _, rfl, rfl, (vp_in_nI (n := 0) (by decide) (by decide) : vp_in (nI 0) 50653), trivial, congrArg (fun v => some (Value.int v)) ?_, fin⟩
          rw [eP]
          show h'.1 47 0 = _
          rw [c2 0 (by decide), lv]
          show iI (0 + sg 0 * tv w n (N - 0) (mi0 w) 0) = _
          rw [Nat.sub_zero, sg, if_pos rfl, Int.one_mul, Int.zero_add]
      | succ s ih =>
        intro hs h' c1 c2 _
        obtain ⟨p1, p2⟩ := hpow s (by omega)
        obtain ⟨p3, p4⟩ := hpow (s + 1) (by omega)
        have ep : 37 ^ (s + 1) = 37 ^ s * 37 := Nat.pow_succ _ _
        have ed : nI (37 ^ (s + 1)) / 37 = nI (37 ^ s) := by
          rw [show (37 : Int32) = nI 37 from rfl, pk_div (by omega) (by decide) (by decide), Nat.pow_succ, Nat.mul_div_cancel _ (by decide)]
        rw [pk_m1]
        refine qm_wp_ok hA [47] 40 _ _ _ _ _ _ ⟨fun q => absurd q (nI_pos (by omega)), fun _ => ⟨n37, ?_⟩⟩
        rw [ed]
        obtain ⟨P, hP⟩ : ∃ P, P = 37 ^ s := ⟨_, rfl⟩
        rw [← hP] at p1 p2 ep ih ⊢
        refine qm_for (P := fun j => ∀ h', fb h0 h' → (∀ i, i < j → h'.1 47 i = lv w n N s i) → (∀ i, 37 * j ≤ i → i < 37 * P → h'.1 47 i = lv w n N (s + 1) i) → (0 < j → s = 0 → h'.1 26 40 = wh w n N) → qm_PW G mX10_byTurns z 47 0 0 [vr 26, vi (nI t), vi (nI N), vi (b2 first), vi (nI P), vi (nI s), vi (nI j)] [] h') (N := P) ?_ ?_ h' c1 (fun i q => by omega) (fun i _ q => c2 i (by omega)) (fun q => absurd q (by omega))
        · intro h' c1 c2 _ c4
          refine qm_wp_ok hA [39] 40 _ _ _ _ _ _ ⟨fun _ => ?_, fun (q : ¬ nI P ≤ nI P) => absurd (Int32.le_refl _) q⟩
          exact qm_PW.mask [true, true, true, true, true, true, false] (ih (by omega) h' c1 c2 (fun e => c4 p1 e))
        · intro j hj nx h' c1 c2 c3 c4
          obtain ⟨g1, g2⟩ := lv_fold hw (n := n) (N := N) (t := s) (k := j) hn6 (by omega) (by omega) (T := h'.1 47) (fun i hi => c3 (37 * j + i) (by omega) (by omega))
          have e2r : nI s - nI s / 2 * 2 = nI (s % 2) := by rw [show (2 : Int32) = nI 2 from rfl, pk_rem (by omega) (by decide) (by decide)]
          have e37 : (37 : Int32) * nI j = nI (37 * j) := by rw [show (37 : Int32) = nI 37 from rfl, pk_mul]
          have hin : vp_in (nI j) 50653 := vp_in_nI (by omega) (by decide)
          have fin : ∀ b, b = decide (s % 2 = 0) → ∀ h2, h2.1 26 40 = (fd (h'.1 47) (37 * j) b 37).2 → fo h' h2 → qm_PW G mX10_byTurns z 47 0 0 [vr 26, vi (nI t), vi (nI N), vi (b2 first), vi (nI P), vi (nI s), vi (nI j + 1)] [] (qm_si h2 47 j (fd (h'.1 47) (37 * j) b 37).1) := by
            intro b eb h2 d1 d2
            subst eb
            rw [nI_1, g1]
            have e47 : h2.1 47 = h'.1 47 := d2.2.1 47 (by decide)
            refine nx _ (c1.fo d2).si (fun i hi => ?_) (fun i hi hi2 => ?_) (fun _ e => ?_)
            · rw [si_row]
              by_cases e : i = j
              · rw [e, up_s]
              · rw [up_n _ _ e, e47]; exact c2 i (by omega)
            · rw [si_row, up_n _ _ (by omega), e47]
              exact c3 i (by omega) hi2
            · rw [si_ne _ _ _ (by decide), d1]; exact g2 e
          refine qm_wp_ok hA [47] 60 _ _ _ _ _ _ ⟨fun (q : nI P ≤ nI j) => absurd q (nI_ge hj (by omega)), fun _ => ⟨rfl, _, rfl, (by decide : ¬ (2 : Int32) = 0), ?_⟩⟩
          rw [e2r, e37]
          refine ⟨fun (q : ¬ nI (s % 2) = 0) => ⟨rfl, 0, 0, _, e_fold hG (d + 3) h' (fr := 37 * j) (by omega) false, ⟨Nat.le_refl _, Nat.le_refl _⟩, ?_⟩, fun (q : nI (s % 2) = 0) => ⟨rfl, 0, 0, _, e_fold hG (d + 3) h' (fr := 37 * j) (by omega) true, ⟨Nat.le_refl _, Nat.le_refl _⟩, ?_⟩⟩
          · rintro _ h2 ⟨rfl, d1, d2⟩
            refine ⟨rfl, hin, ?_⟩
            rw [nI_clamp (by omega)]
            exact fin false (decide_eq_false (fun e => q (by rw [e]; rfl))).symm h2 d1 d2
          · rintro _ h2 ⟨rfl, d1, d2⟩
            refine ⟨rfl, hin, ?_⟩
            rw [nI_clamp (by omega)]
            exact fin true (decide_eq_true ((nI_eq (b := 0) (by omega) (by decide)).mp q)).symm h2 d1 d2
    obtain ⟨p1, p2⟩ := hpow N (by omega)
    refine qm_for (P := fun j => ∀ h', fb h0 h' → (∀ i, i < j → h'.1 47 i = lv w n N N i) → qm_PW G mX10_byTurns z 19 0 0 [vr 26, vi (nI t), vi (nI N), vi (b2 first), vi (nI (37 ^ N)), vi (nI j), vu] [] h') (N := 37 ^ N) ?_ ?_ h0 ⟨rfl, fun _ _ => rfl, fun _ _ => rfl⟩ (fun i q => by omega)
    · intro h' c1 c2
      refine qm_wp_ok hA [39] 40 _ _ _ _ _ _ ⟨fun _ => ⟨rfl, trivial, ?_⟩, fun (q : ¬ nI (37 ^ N) ≤ nI (37 ^ N)) => absurd (Int32.le_refl _) q⟩
      have k := main N (Nat.le_refl _) (qm_si h' 26 40 (-1)) (c1.fo (fo.s ⟨rfl, fun _ _ => rfl, fun _ _ => rfl⟩)) (fun i hi => by rw [si_ne _ _ _ (by decide)]; exact c2 i hi) (fun e => by rw [si_row, up_s, wh, if_pos e])
      rw [← Int32.sub_eq_add_neg] at k
      exact k
    · intro j hj nx h' c1 c2
      obtain ⟨f1, f2, f3⟩ := fr1 h' c1
      refine qm_wp_ok hA [19] 40 _ _ _ _ _ _ ⟨fun (q : nI (37 ^ N) ≤ nI j) => absurd q (nI_ge hj (by omega)), fun _ => ⟨rfl, _, rfl, rfl, 0, 0, _, e_endOf hG d h' (t := t) (n := n) (N := N) (number := j) f1 (by omega) f2 hn6 (by rw [f3]; exact hw) (by omega) hj, ⟨Nat.le_refl _, Nat.le_refl _⟩, ?_⟩⟩
      rintro _ h2 ⟨rfl, d2⟩
      rw [f3]
      refine ⟨rfl, (vp_in_nI (by omega) (by decide) : vp_in (nI j) 50653), ?_⟩
      rw [nI_clamp (by omega)]
      have eq1 : oE (pth w n N j) = lv w n N N j := by
        rw [lv]
        cases q : pth w n N j with
        | none => rfl
        | some st =>
          obtain ⟨mi, had, acc⟩ := st
          show iI acc = iI (acc + sg N * tv w n (N - N) mi had)
          rw [Nat.sub_self, tv, Int.mul_zero, Int.add_zero]
      have k := nx (qm_si h2 47 j (oE (pth w n N j))) (c1.s39 d2).si (fun i hi => by
        rw [si_row]
        by_cases e : i = j
        · rw [e, up_s, eq1]
        · rw [up_n _ _ e, d2.2 47 (by decide)]; exact c2 i (by omega))
      rw [← nI_1] at k
      exact k
  · exact ⟨fun q => absurd rfl q, fun _ => ⟨trivial, by rw [p_turns, e0, Bool.and_false]; rfl, e1 ▸ pers.rf.s26⟩⟩
