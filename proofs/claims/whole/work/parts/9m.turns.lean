/-! the class: two who tell by turns -/
theorem iI_sub (x y : Int) : iI x - iI y = iI (x - y) := by
  rw [Int32.sub_eq_add_neg, iI_neg, iI_add]; congr 1
def encI (b : Nat) : Int32 := nI (10 * (b / 6) + b % 6)
def lst (x : Int) (a : Option (Nat × Int)) : Int × Int32 := match a with
  | none => (x, 99)
  | some (b, v) => if x ≤ v then (v, encI b) else (x, 99)
theorem enc_99 {b : Nat} (hb : b < 36) : ¬ encI b = 99 := fun e => by
  have := (nI_eq (b := 99) (by omega) (by decide)).mp e
  omega
theorem lst_n {q : Nat → Option Int} {x : Int} {J : Nat} (h : q J = none) : lst x (am q (J + 1)) = lst x (am q J) := by rw [am, h]
theorem lst_y {q : Nat → Option Int} {x y : Int} {J : Nat} (h : q J = some y) (hJ : J ≤ 36) : lst x (am q (J + 1)) = if (lst x (am q J)).1 < y ∨ (y = (lst x (am q J)).1 ∧ (lst x (am q J)).2 = 99) then (y, encI J) else lst x (am q J) := by
  rw [am, h]
  cases a : am q J with
  | none =>
    show (if x ≤ y then (y, encI J) else (x, 99)) = if x < y ∨ (y = x ∧ (99 : Int32) = 99) then _ else (x, 99)
    by_cases c : x ≤ y
    · rw [if_pos c, if_pos (by rcases Int.lt_or_eq_of_le c with z | z; exact Or.inl z; exact Or.inr ⟨z.symm, rfl⟩)]
    · rw [if_neg c, if_neg (fun z => z.elim (fun z => c (by omega)) (fun z => c (by omega)))]
  | some bv =>
    obtain ⟨b, v⟩ := bv
    have hbJ : b < J := by
      have : ∀ J b v, am q J = some (b, v) → b < J := by
        intro J
        induction J with
        | zero => intro b v h; rw [am] at h; exact absurd h (by simp)
        | succ J ih =>
          intro b v h
          rw [am] at h
          cases z : q J with
          | none => rw [z] at h; have := ih b v h; omega
          | some y =>
            rw [z] at h
            cases w : am q J with
            | none => rw [w] at h; have e := Option.some.inj h; injection e with e1 e2; omega
            | some bv =>
              obtain ⟨b', v'⟩ := bv
              rw [w] at h
              have h : (if v' < y then some (J, y) else some (b', v')) = some (b, v) := h
              split at h
              · have e := Option.some.inj h; injection e with e1 e2; omega
              · have := ih b v (w.trans h); omega
      exact this J b v a
    have h99 := enc_99 (by omega : b < 36)
    show lst x (if v < y then some (J, y) else some (b, v)) = if (if x ≤ v then (v, encI b) else (x, 99)).1 < y ∨ (y = (if x ≤ v then (v, encI b) else (x, 99)).1 ∧ (if x ≤ v then (v, encI b) else (x, 99)).2 = 99) then (y, encI J) else (if x ≤ v then (v, encI b) else (x, 99))
    by_cases c : x ≤ v
    · rw [if_pos c]
      by_cases c2 : v < y
      · rw [if_pos c2, if_pos (Or.inl c2)]
        exact if_pos (by omega)
      · rw [if_neg c2, if_neg (fun z => z.elim c2 (fun z => h99 z.2))]
        exact if_pos c
    · rw [if_neg c]
      by_cases c2 : v < y
      · rw [if_pos c2]
        show (if x ≤ y then (y, encI J) else (x, 99)) = _
        by_cases c3 : x ≤ y
        · rw [if_pos c3, if_pos (by rcases Int.lt_or_eq_of_le c3 with z | z; exact Or.inl z; exact Or.inr ⟨z.symm, rfl⟩)]
        · rw [if_neg c3, if_neg (fun z => z.elim (fun z => c3 (by have : x < y := z; omega)) (fun z => c3 (by have : y = x := z.1; omega)))]
      · rw [if_neg c2, if_neg (fun z => z.elim (fun z => c2 (by have : x < y := z; omega)) (fun z => c2 (by have : y = x := z.1; omega)))]
        exact if_neg c
/-- what is at the head of the moves -/
def fmo (w : Nat → Int32) (n r : Nat) (mi : Nat → Int32) (had : Nat) : Int32 := match r with
  | 0 => -1
  | r + 1 => match am (qv (tv w n r) w n mi had) 37 with
    | none => -1
    | some (b, _) => if b = 36 then 99 else encI b
theorem am_sk {q : Nat → Option Int} : ∀ m k, (∀ j, k ≤ j → j < k + m → q j = none) → am q (k + m) = am q k
  | 0, k, _ => rfl
  | m + 1, k, h => by
    rw [show k + (m + 1) = (k + m) + 1 from rfl, am, h (k + m) (by omega) (by omega)]
    exact am_sk m k (fun j h1 h2 => h j h1 (by omega))
theorem lst_fin {w : Nat → Int32} {n r : Nat} (hn : n ≤ 6) (mi : Nat → Int32) (had : Nat) : lst (- tv w n r mi had) (am (qv (tv w n r) w n mi had) (6 * n)) = (tv w n (r + 1) mi had, fmo w n (r + 1) mi had) := by
  have q36 : qv (tv w n r) w n mi had 36 = some (- tv w n r mi had) := by rw [qv, if_pos rfl]
  have sk := am_sk (q := qv (tv w n r) w n mi had) (36 - 6 * n) (6 * n) (fun j h1 h2 => by
    have hj : ¬ j / 6 < n := by omega
    rw [qv, if_neg (by omega), mvb, decide_eq_false hj]; rfl)
  rw [show 6 * n + (36 - 6 * n) = 36 by omega] at sk
  have e37 : am (qv (tv w n r) w n mi had) 37 = match am (qv (tv w n r) w n mi had) 36 with
    | none => some (36, - tv w n r mi had)
    | some (b, v) => if v < - tv w n r mi had then some (36, - tv w n r mi had) else some (b, v) := by
    show am _ (36 + 1) = _
    rw [am, q36]
    rfl
  rw [tv, fmo, e37, ← sk]
  cases a : am (qv (tv w n r) w n mi had) 36 with
  | none => rfl
  | some bv =>
    obtain ⟨b, v⟩ := bv
    have hb : b < 36 := by
      have gen : ∀ J b v, am (qv (tv w n r) w n mi had) J = some (b, v) → b < J := by
        intro J
        induction J with
        | zero => intro b v h; rw [am] at h; exact absurd h (by simp)
        | succ J ih =>
          intro b v h
          rw [am] at h
          cases z : qv (tv w n r) w n mi had J with
          | none => rw [z] at h; have := ih b v h; omega
          | some y =>
            rw [z] at h
            cases w' : am (qv (tv w n r) w n mi had) J with
            | none => rw [w'] at h; have e := Option.some.inj h; injection e with e1 e2; omega
            | some bv =>
              obtain ⟨b', v'⟩ := bv
              rw [w'] at h
              have h : (if v' < y then some (J, y) else some (b', v')) = some (b, v) := h
              split at h
              · have e := Option.some.inj h; injection e with e1 e2; omega
              · have := ih b v (w'.trans h); omega
      exact gen 36 b v a
    show (if - tv w n r mi had ≤ v then (v, encI b) else (- tv w n r mi had, 99)) = _
    by_cases c : - tv w n r mi had ≤ v
    · rw [if_pos c]
      show _ = (match (if v < - tv w n r mi had then some (36, - tv w n r mi had) else some (b, v)) with
        | none => 0
        | some (_, v) => v, match (if v < - tv w n r mi had then some (36, - tv w n r mi had) else some (b, v)) with
        | none => -1
        | some (b, _) => if b = 36 then 99 else encI b)
      rw [if_neg (by omega)]
      show (v, encI b) = (v, if b = 36 then 99 else encI b)
      rw [if_neg (by omega)]
    · rw [if_neg c]
      show _ = (match (if v < - tv w n r mi had then some (36, - tv w n r mi had) else some (b, v)) with
        | none => 0
        | some (_, v) => v, match (if v < - tv w n r mi had then some (36, - tv w n r mi had) else some (b, v)) with
        | none => -1
        | some (b, _) => if b = 36 then 99 else encI b)
      rw [if_pos (by omega)]
      rfl
/-- the search by turns -/
def f5 (h h' : qm_H) : Prop := h'.2 = h.2 ∧ (∀ q, q ∉ [17, 20] → h'.1 q = h.1 q)
theorem f5.tr {h h1 h2 : qm_H} (a : f5 h h1) (b : f5 h1 h2) : f5 h h2 := ⟨b.1.trans a.1, fun q hq => (b.2 q hq).trans (a.2 q hq)⟩
theorem f5.rf {h : qm_H} : f5 h h := ⟨rfl, fun _ _ => rfl⟩
theorem f520 {h h1 : qm_H} (a : sb [20] h h1) : f5 h h1 := ⟨a.1, fun q hq => a.2 q (fun e => hq (by rw [List.mem_singleton.mp e]; decide))⟩
theorem f5.s1 {h h1 : qm_H} (a : f5 h h1) {k : Nat} {v : Int32} : f5 h (qm_si h1 17 k v) := ⟨a.1, fun q hq => by rw [si_ne _ _ _ (fun e => hq (by rw [e]; decide))]; exact a.2 q hq⟩
theorem f5XL : ∀ q, q ∈ [17, 20] → q ∈ XL := by decide
theorem f5.x {h h1 : qm_H} (a : f5 h h1) : sb XL h h1 := ⟨a.1, fun q hq => a.2 q (fun e => hq (f5XL q e))⟩
theorem f5.to {h h1 : qm_H} (a : f5 h h1) {P n : Nat} {w : Nat → Int32} (t : TO h P w n) : TO h1 P w n := t.sb a.x XL51
/-- the contract of leadOf with r turns left -/
def LO (G : qm_G) (d P n r : Nat) (w : Nat → Int32) : Prop := ∀ (h : qm_H) (k had : Nat) (mi : Nat → Int32), TO h P w n → k + r ≤ 3 → had < 64 → (∀ q, q < n → h.1 20 (6 * k + q) = mi q) → qm_Ev G (d + 2 * r + 2) 0 0 qyX4_leadOf [.ref 17, .ref P, .int (nI k), .int (nI r), .int (nI had)] h (fun r' h' => r' = some (.int (iI (tv w n r mi had))) ∧ h'.1 17 1 = fmo w n r mi had ∧ (∀ j, j < 6 * (k + 1) → h'.1 20 j = h.1 20 j) ∧ f5 h h')
theorem c_leadBy {G : qm_G} (hG : G.2.2.2.2 = true) (d : Nat) {P n r : Nat} {w : Nat → Int32} (v : VT w n) (L : LO G d P n r w) (h : qm_H) (k had p f : Nat) (mi : Nat → Int32) (t : TO h P w n) (hk : k + r + 1 ≤ 3) (hh : had < 64) (hm : ∀ q, q < n → h.1 20 (6 * k + q) = mi q) (hp : p < n) (hf : f < 6) : qm_Ev G (d + 2 * r + 3) 0 0 qyX4_leadBy [.ref 17, .ref P, .int (nI k), .int (nI (r + 1)), .int (nI had), .int (nI p), .int (nI f)] h (fun r' h' => r' = some (.int (iI ((toldN w mi p f n : Int) - tv w n r (tM w n mi p f) (had ||| 2 ^ p)))) ∧ (∀ j, j < 6 * (k + 1) → h'.1 20 j = h.1 20 j) ∧ f5 h h') := by
  have hn := v.1
  obtain ⟨s, s1, s2⟩ := v.wh hf
  obtain ⟨o1, o2⟩ := s_or1 hh (by omega : p < 6)
  refine qm_Ev.by (M := mX4_leadBy) okX4_leadBy (Nat.le_of_ble_eq_true rfl) hG fun z hA => ?_
  refine qm_wp_ok hA [] 60 _ _ _ _ _ _ ⟨t.is, 0, 0, _, c_wholeOf hG _ h t hf, ⟨Nat.le_refl _, Nat.le_refl _⟩, ?_⟩
  rintro _ _ ⟨rfl, rfl⟩
  refine ⟨rfl, 0, 0, _, c_hearFrom hG (d + 2 * r + 1) h t v (by omega : k < 6) (by omega : p < 6) s1 (s_whole w f) s2 mi hm, ⟨Nat.le_refl _, Nat.le_refl _⟩, ?_⟩
  rintro _ h1 ⟨rfl, k1, k2, k3⟩
  rw [toldX_w]
  cases r with
  | zero =>
    refine ⟨fun _ => ⟨trivial, congV ?_, k2, f520 k3⟩, fun z => absurd (by decide) z⟩
    show nI _ = iI ((toldN w mi p f n : Int) - 0)
    rw [Int.sub_zero]; rfl
  | succ r =>
    have hm1 : ∀ q, q < n → h1.1 20 (6 * (k + 1) + q) = tM w n mi p f q := fun q hq => by
      rw [k1 q hq, tM, if_pos hq]; rfl
    have kl := L h1 (k + 1) (had ||| 2 ^ p) (tM w n mi p f) ((f520 k3).to t) (by omega) o2 hm1
    have e1 : nI (r + 1 + 1) - 1 = nI (r + 1) := nI_pred (r + 1)
    rw [← nI_1, ← e1, ← o1] at kl
    refine ⟨fun z => absurd z (nI_ge (a := 1) (by omega) (by omega)), fun _ => ⟨rfl, 0, 0, _, kl, ⟨Nat.le_refl _, Nat.le_refl _⟩, ?_⟩⟩
    rintro _ h2 ⟨rfl, -, m2, m3⟩
    refine ⟨trivial, congV ?_, fun j hj => by rw [m2 j (by omega)]; exact k2 j hj, (f520 k3).tr m3⟩
    show nI (toldN w mi p f n) - iI _ = _
    rw [← iI_n, iI_sub]
theorem c_leadOf {G : qm_G} (hG : G.2.2.2.2 = true) (d : Nat) {P n : Nat} {w : Nat → Int32} (v : VT w n) : ∀ r, LO G d P n r w
  | 0 => by
    intro h k had mi t hk hh hm
    refine qm_Ev.by (M := mX4_leadOf) okX4_leadOf (Nat.le_of_ble_eq_true rfl) hG fun z hA => ?_
    refine qm_wp_ok hA [] 30 _ _ _ _ _ _ ⟨fun _ => ⟨rfl, trivial, trivial, rfl, si_s _ _ _ _, fun j _ => by rw [si_ne _ _ _ (by decide)], f5.rf.s1⟩, fun z => absurd (by decide) z⟩
  | r + 1 => by
    intro h k had mi t hk hh hm
    have hn := v.1
    have L := c_leadOf hG d (P := P) v r
    have tb := fun m s => tv_b v.w hn r m s
    have tb1 := tv_b v.w hn (r + 1) mi had
    have qb := qv_b v.w hn (L := tv w n r) (B := 720 * (r : Int)) (fun m s => tb m s) mi had
    have e1 : nI (r + 1) - 1 = nI r := nI_pred r
    obtain ⟨x, hx⟩ : ∃ x, x = - tv w n r mi had := ⟨_, rfl⟩
    obtain ⟨Q, hQ⟩ : ∃ Q, Q = qv (tv w n r) w n mi had := ⟨_, rfl⟩
    have x0 := tb mi had
    have lb : ∀ J, -10000 ≤ (lst x (am Q J)).1 ∧ (lst x (am Q J)).1 ≤ 10000 := fun J => by
      cases a : am Q J with
      | none =>
        show -10000 ≤ x ∧ x ≤ 10000
        omega
      | some bv =>
        obtain ⟨b, y⟩ := bv
        have := am_b (q := Q) (B := 720 * (r : Int) + 720) (fun j x' h' => by rw [hQ] at h'; have := qb j x' h'; omega) J b y a
        show -10000 ≤ (if x ≤ y then (y, encI b) else (x, 99)).1 ∧ (if x ≤ y then (y, encI b) else (x, 99)).1 ≤ 10000
        split
        · show -10000 ≤ y ∧ y ≤ 10000
          omega
        · show -10000 ≤ x ∧ x ≤ 10000
          omega
    refine qm_Ev.by (M := mX4_leadOf) okX4_leadOf (Nat.le_of_ble_eq_true rfl) hG fun z hA => ?_
    refine qm_wp_ok hA [33] 60 _ _ _ _ _ _ ⟨fun z => absurd z (nI_nle (by omega) (by omega)), fun _ => ⟨fun z => absurd z (nI_pos (by omega)), fun _ => ⟨fun z => absurd z (nI_ge (b := 3) (by omega) (by decide)), fun _ => ⟨rfl, 0, 0, _, c_hearFrom hG (d + 2 * r + 2) h t v (by omega : k < 6) (by decide : 0 < 6) (by decide : 0 < 64) 0 rfl mi hm, ⟨Nat.le_refl _, Nat.le_refl _⟩, ?_⟩⟩⟩⟩
    rintro _ h1 ⟨rfl, k1, k2, k3⟩
    rw [toldX_0]
    have hm1 : ∀ q, q < n → h1.1 20 (6 * (k + 1) + q) = mi q := fun q hq => by rw [k1 q hq, frx_0, Int32.or_zero]
    have kl := c_leadOf hG (d + 1) (P := P) v r h1 (k + 1) had mi ((f520 k3).to t) (by omega) hh hm1
    rw [← nI_1, ← e1] at kl
    refine ⟨rfl, 0, 0, _, (by rw [show d + 2 * (r + 1) + 1 = (d + 1) + 2 * r + 2 by omega]; exact kl), ⟨Nat.le_refl _, Nat.le_refl _⟩, ?_⟩
    rintro _ h2 ⟨rfl, -, m2, m3⟩
    have fr2 : f5 h h2 := (f520 k3).tr m3
    have hd2 : ∀ j, j < 6 * (k + 1) → h2.1 20 j = h.1 20 j := fun j hj => by rw [m2 j (by omega)]; exact k2 j hj
    have l0 : iI x = nI 0 - iI (tv w n r mi had) := by rw [← iI_n, iI_sub, hx]; congr 1; omega
    have start := qm_for (P := fun p => ∀ h', (∀ j, j < 6 * (k + 1) → h'.1 20 j = h.1 20 j) → f5 h h' → qm_PW G mX4_leadOf z 33 0 0 [vr 17, vr P, vi (nI k), vi (nI (r + 1)), vi (nI had), vi (lst x (am Q (6 * p))).2, vi (iI (lst x (am Q (6 * p))).1), vi (nI p), vu, vu, vu] [] (h')) (N := n) ?_ ?_
    · have st := start h2 hd2 fr2
      have st : qm_PW G mX4_leadOf z 33 0 0 [vr 17, vr P, vi (nI k), vi (nI (r + 1)), vi (nI had), vi 99, vi (iI x), vi (nI 0), vu, vu, vu] [] (h2) := st
      rw [l0] at st
      exact st
    · intro h' hd fr
      have t' := fr.to t
      have fin := lst_fin (w := w) (r := r) hn mi had
      rw [← hx, ← hQ] at fin
      refine qm_wp_ok hA [] 30 _ _ _ _ _ _ ⟨t'.is, fun _ => ⟨rfl, trivial, trivial, congV (by rw [fin]), ?_, fun j hj => by rw [si_ne _ _ _ (by decide)]; exact hd j hj, fr.s1⟩, fun (z : ¬ h'.1 P 0 ≤ nI n) => absurd (by rw [t'.pp]; exact Int32.le_refl _) z⟩
      show (qm_si h' 17 1 (lst x (am Q (6 * n))).2).1 17 1 = _
      rw [si_s, fin]
    · intro p hp key h' hd fr
      have t' := fr.to t
      have ei : (6 : Int32) * nI k + nI p = nI (6 * k + p) := by rw [show (6 : Int32) = nI 6 from rfl, pk_mul, nI_add]
      have hini : vp_in ((6 : Int32) * nI k + nI p) 42 := by rw [ei]; exact vp_in_nI (by omega) (by decide)
      have ev : h'.1 20 ((6 : Int32) * nI k + nI p).toNatClampNeg = mi p := by rw [ei, nI_clamp (by omega), hd _ (by omega)]; exact hm p hp
      rw [← nI_1 p] at key
      have inner : ∀ can, (∀ f, f < 6 → bit can (nI f) = (!bit (nI had) (nI p) && bit (mi p) (nI f))) → qm_PW G mX4_leadOf z 54 0 0 [vr 17, vr P, vi (nI k), vi (nI (r + 1)), vi (nI had), vi (lst x (am Q (6 * p + 0))).2, vi (iI (lst x (am Q (6 * p + 0))).1), vi (nI p), vi can, vi (nI 0), vu] [] (h') := by
        intro can hcan
        refine (qm_for (P := fun f => ∀ h', (∀ j, j < 6 * (k + 1) → h'.1 20 j = h.1 20 j) → f5 h h' → qm_PW G mX4_leadOf z 54 0 0 [vr 17, vr P, vi (nI k), vi (nI (r + 1)), vi (nI had), vi (lst x (am Q (6 * p + f))).2, vi (iI (lst x (am Q (6 * p + f))).1), vi (nI p), vi can, vi (nI f), vu] [] (h')) (N := 6) ?_ ?_) h' hd fr
        · intro h' hd fr
          have kk := key h' hd fr
          rw [show 6 * (p + 1) = 6 * p + 6 by omega] at kk
          exact qm_wp_ok hA [33] 20 _ _ _ _ _ _ ⟨fun _ => kk.mask [true, true, true, true, true, true, true, true, false, false, false], fun z => absurd (by decide) z⟩
        · intro f hf k2 h' hd fr
          have t' := fr.to t
          have ed1 : (6 * p + f) / 6 = p := by omega
          have ed2 : (6 * p + f) % 6 = f := by omega
          have eQ : Q (6 * p + f) = if (!bit (nI had) (nI p) && bit (mi p) (nI f)) = true then some ((toldN w mi p f n : Int) - tv w n r (tM w n mi p f) (had ||| 2 ^ p)) else none := by
            rw [hQ, qv, if_neg (by omega), mvb, ed1, ed2, decide_eq_true hp, Bool.true_and]
          have b0 := lb (6 * p + f)
          rw [← hcan f hf] at eQ
          refine qm_wp_ok hA [54] 60 _ _ _ _ _ _ ⟨fun z => absurd z (nI_ge hf (by decide)), fun _ => ⟨0, 0, _, c_isIn hG _ h' can (nI f), ⟨Nat.le_refl _, Nat.le_refl _⟩, ?_⟩⟩
          rintro _ _ ⟨rfl, rfl⟩
          refine b2_eq (fun hb => ?_) (fun hb => ?_)
          · rw [if_pos hb] at eQ
            obtain ⟨y, hy⟩ : ∃ y, y = (toldN w mi p f n : Int) - tv w n r (tM w n mi p f) (had ||| 2 ^ p) := ⟨_, rfl⟩
            rw [← hy] at eQ
            have yb := qb (6 * p + f) y (by rw [← hQ]; exact eQ)
            have kb := c_leadBy hG d v L h' k had p f mi t' (by omega) hh (fun q hq => by rw [hd _ (by omega)]; exact hm q hq) hp hf
            rw [← hy] at kb
            have ly := lst_y (x := x) eQ (by omega)
            refine ⟨rfl, 0, 0, _, (by rw [show d + 2 * (r + 1) + 1 = d + 2 * r + 3 by omega]; exact kb), ⟨Nat.le_refl _, Nat.le_refl _⟩, ?_⟩
            rintro _ h3 ⟨rfl, n2, n3⟩
            have hd3 : ∀ j, j < 6 * (k + 1) → h3.1 20 j = h.1 20 j := fun j hj => by rw [n2 j hj]; exact hd j hj
            have kk := k2 h3 hd3 (fr.tr n3)
            rw [show 6 * p + (f + 1) = 6 * p + f + 1 from rfl, ly, ← nI_1 f] at kk
            have eenc : encI (6 * p + f) = 10 * nI p + nI f := by
              rw [encI, ed1, ed2, show (10 : Int32) = nI 10 from rfl, pk_mul, nI_add]
            refine ⟨fun (z : iI (lst x (am Q (6 * p + f))).1 < iI y) => ?_, fun (z : ¬ iI (lst x (am Q (6 * p + f))).1 < iI y) => ⟨fun (z2 : ¬ iI y = iI (lst x (am Q (6 * p + f))).1) => ?_, fun (z2 : iI y = iI (lst x (am Q (6 * p + f))).1) => ⟨fun (z3 : ¬ (lst x (am Q (6 * p + f))).2 = 99) => ?_, fun (z3 : (lst x (am Q (6 * p + f))).2 = 99) => ?_⟩⟩⟩
            · have c : (lst x (am Q (6 * p + f))).1 < y := by
                rcases (by omega : (lst x (am Q (6 * p + f))).1 < y ∨ y ≤ (lst x (am Q (6 * p + f))).1) with q | q
                · exact q
                · exact absurd z (Int32.not_lt.mpr ((iI_le (by omega) (by omega) (by omega) (by omega)).mpr q))
              rw [if_pos (Or.inl c), eenc] at kk
              exact kk.mask [true, true, true, true, true, true, true, true, true, true, false]
            · have c1 : ¬ (lst x (am Q (6 * p + f))).1 < y := fun q => z (Int32.not_le.mp (fun q2 => by have := (iI_le (by omega) (by omega) (by omega) (by omega)).mp q2; omega))
              have c2 : ¬ y = (lst x (am Q (6 * p + f))).1 := fun q => z2 (by rw [← q])
              rw [if_neg (fun q => q.elim c1 (fun q => c2 q.1))] at kk
              exact kk.mask [true, true, true, true, true, true, true, true, true, true, false]
            · have c1 : ¬ (lst x (am Q (6 * p + f))).1 < y := fun q => z (Int32.not_le.mp (fun q2 => by have := (iI_le (by omega) (by omega) (by omega) (by omega)).mp q2; omega))
              rw [if_neg (fun q => q.elim c1 (fun q => z3 q.2))] at kk
              exact kk.mask [true, true, true, true, true, true, true, true, true, true, false]
            · have c2 : y = (lst x (am Q (6 * p + f))).1 := (iI_eq (by omega) (by omega) (by omega) (by omega)).mp z2
              rw [if_pos (Or.inr ⟨c2, z3⟩), eenc] at kk
              exact kk.mask [true, true, true, true, true, true, true, true, true, true, false]
          · rw [if_neg (by rw [hb]; decide)] at eQ
            have kk := k2 h' hd fr
            rw [show 6 * p + (f + 1) = 6 * p + f + 1 from rfl, lst_n eQ, ← nI_1 f] at kk
            have em : iI (lst x (am Q (6 * p + f))).1 - 1 = iI ((lst x (am Q (6 * p + f))).1 - 1) := by
              rw [show (1 : Int32) = iI 1 from rfl, iI_sub]
            refine ⟨fun (z : iI (lst x (am Q (6 * p + f))).1 < iI (lst x (am Q (6 * p + f))).1 - 1) => ?_, fun _ => ⟨fun _ => kk.mask [true, true, true, true, true, true, true, true, true, true, false], fun (z : iI (lst x (am Q (6 * p + f))).1 - 1 = iI (lst x (am Q (6 * p + f))).1) => ?_⟩⟩
            · rw [em] at z
              exact absurd z (Int32.not_lt.mpr ((iI_le (by omega) (by omega) (by omega) (by omega)).mpr (by omega)))
            · rw [em] at z
              have := (iI_eq (by omega) (by omega) (by omega) (by omega)).mp z
              omega
      refine qm_wp_ok hA [54] 40 _ _ _ _ _ _ ⟨t'.is, fun (z : h'.1 P 0 ≤ nI p) => absurd z (by rw [t'.pp]; exact nI_ge hp (by omega)), fun _ => ⟨0, 0, _, c_isIn hG _ h' (nI had) (nI p), ⟨Nat.le_refl _, Nat.le_refl _⟩, ?_⟩⟩
      rintro _ _ ⟨rfl, rfl⟩
      refine b2_eq (fun hb => ?_) (fun hb => ⟨rfl, _, rfl, rfl, hini, ?_⟩)
      · exact (inner 0 (fun f hf => by rw [hb, bit_0 (by omega)]; rfl)).mask [true, true, true, true, true, true, true, true, true, true, false]
      · exact (inner (h'.1 20 ((6 : Int32) * nI k + nI p).toNatClampNeg) (fun f hf => by rw [hb, ev]; rfl)).mask [true, true, true, true, true, true, true, true, true, true, false]
theorem c_takeTurns {G : qm_G} (hG : G.2.2.2.2 = true) (d : Nat) (h : qm_H) {P n : Nat} {w : Nat → Int32} (t : TO h P w n) (v : VT w n) {N : Nat} (hN : N ≤ 3) : qm_Ev G (d + 9) 0 0 qyX4_takeTurns [.ref 17, .ref P, .int (nI N)] h (fun r h' => r = none ∧ h'.1 17 0 = iI (tv w n N (mi0 w) 0) ∧ h'.1 17 1 = fmo w n N (mi0 w) 0 ∧ sb XL h h') := by
  have hn := v.1
  refine qm_Ev.by (M := mX4_takeTurns) okX4_takeTurns (Nat.le_of_ble_eq_true rfl) hG fun z hA => ?_
  refine qm_wp_ok hA [7] 30 _ _ _ _ _ _ ⟨t.is, _, t.rd (k := 4) (by decide) (by decide), rfl, _, rfl, ?_⟩
  refine sp_cpn hA rfl rfl rfl (k1 := 774) (by decide +kernel) (Nat.le_of_ble_eq_true rfl) (kd := 10) (a := 0) (a' := 0) (m := 6) (q := 20) (Or.inl rfl) (t.ar (k := 4) (by decide) (by decide)) rfl rfl rfl rfl (by decide) (by decide) (by decide) (by rw [(t.2.2.2.1 4 (by decide) (by decide)).2.2]; decide) (Nat.le_of_ble_eq_true rfl) (fun q => absurd q (by decide)) ?_
  intro h2 d2 k2 c2 _
  have fr2 : f5 h h2 := ⟨d2, fun q hq => k2 q (fun z => hq (by rw [z]; decide))⟩
  have kr := c_leadOf hG (d + 2 * (3 - N)) v N h2 0 0 (mi0 w) (fr2.to t) (by omega) (by decide) (fun q hq => by
    have := c2 q (by omega)
    rw [Nat.zero_add] at this ⊢
    exact this.trans (t.2.2.2.2.1 q (by omega)).2.2.2.1)
  rw [show d + 2 * (3 - N) + 2 * N + 2 = d + 8 by omega] at kr
  refine qm_wp_ok hA [] 30 _ _ _ _ _ _ ⟨rfl, 0, 0, _, kr, ⟨Nat.le_refl _, Nat.le_refl _⟩, ?_⟩
  rintro _ h3 ⟨rfl, e1, -, f3⟩
  refine ⟨rfl, trivial, rfl, rfl, si_s _ _ _ _, ?_, (fr2.tr f3).s1.x⟩
  rw [si_row, up_n _ _ (by decide)]; exact e1
theorem turns_r {w : Nat → Int32} {n N : Nat} (hN : N ≤ 3) (u : Bool) : s_turns w n N u = if u then fmo w n N (mi0 w) 0 else iI (tv w n N (mi0 w) 0) := by
  rw [s_turns]
  cases u
  · rfl
  · rw [if_pos rfl, if_pos rfl]
    cases N with
    | zero => rfl
    | succ r =>
      have ew : wh w n (r + 1) = (match am (qv (tv w n r) w n (mi0 w) 0) 37 with
        | none => -1
        | some (b, _) => nI b) := by
        rw [wh, if_neg (show ¬ r + 1 = 0 by omega)]; rfl
      rw [ew, fmo]
      cases a : am (qv (tv w n r) w n (mi0 w) 0) 37 with
      | none => rfl
      | some bv =>
        obtain ⟨b, y⟩ := bv
        have hb : b < 37 := by
          have gen : ∀ J b v, am (qv (tv w n r) w n (mi0 w) 0) J = some (b, v) → b < J := by
            intro J
            induction J with
            | zero => intro b v h; rw [am] at h; exact absurd h (by simp)
            | succ J ih =>
              intro b v h
              rw [am] at h
              cases z : qv (tv w n r) w n (mi0 w) 0 J with
              | none => rw [z] at h; have := ih b v h; omega
              | some y =>
                rw [z] at h
                cases w' : am (qv (tv w n r) w n (mi0 w) 0) J with
                | none => rw [w'] at h; have e := Option.some.inj h; injection e with e1 e2; omega
                | some bv =>
                  obtain ⟨b', v'⟩ := bv
                  rw [w'] at h
                  have h : (if v' < y then some (J, y) else some (b', v')) = some (b, v) := h
                  split at h
                  · have e := Option.some.inj h; injection e with e1 e2; omega
                  · have := ih b v (w'.trans h); omega
          exact gen 37 b y a
        show (if nI b = -1 then -1 else if nI b = 36 then 99 else 10 * (nI b / 6) + (nI b - nI b / 6 * 6)) = if b = 36 then 99 else encI b
        rw [if_neg (nI_ne1 (by omega))]
        by_cases c : b = 36
        · rw [if_pos (by rw [c]; rfl), if_pos c]
        · rw [if_neg (show ¬ nI b = 36 from fun z => c ((nI_eq (b := 36) (by omega) (by decide)).mp z)), if_neg c, encI]
          have e1 : nI b / 6 = nI (b / 6) := pk_div (d := 6) (by omega) (by decide) (by decide)
          have e2 : nI b - nI b / 6 * 6 = nI (b % 6) := pk_rem (d := 6) (by omega) (by decide) (by decide)
          rw [e2, e1, show (10 : Int32) = nI 10 from rfl, pk_mul, nI_add]
theorem b_byTurns {G : qm_G} (hG : G.2.2.2.2 = true) (d : Nat) (h : qm_H) {mt : Nat} (hm : mt ≤ 2) (hT : TWN h 3 mt (tw h)) (a k : Int32) (u : Bool) : qm_Ev G (d + 10) 0 0 qyX9_byTurns [.ref 0, .int a, .int k, .int (b2 u)] h (fun r h' => r = some (.int (p_turns h mt a k u)) ∧ sb XL h h') := by
  have ik := inb_lt (a := k) (n := 4) (by decide)
  have i3 : k < nI 4 ↔ k ≤ nI 3 := by
    rw [Int32.le_iff_toInt_le, Int32.lt_iff_toInt_lt, nI_toInt (by decide), nI_toInt (by decide)]; omega
  refine qm_Ev.run (M := mX9_byTurns) okX9_byTurns rfl hG fun z => ?_
  refine ⟨rfl, _, rfl, rfl, 0, 0, _, c_townAt hG _ h hm hT a, ⟨Nat.le_refl _, Nat.le_refl _⟩, ?_⟩
  rintro _ _ ⟨⟨t, Q, t1, rfl, rfl, T, V⟩ | ⟨hno, rfl⟩, rfl⟩
  · refine ⟨fun (c : k < 0) => ⟨trivial, congV ?_, sb.rf⟩, fun (c : ¬ k < 0) => ⟨fun (c2 : k ≤ nI 3) => ?_, fun (c2 : ¬ k ≤ nI 3) => ⟨trivial, congV ?_, sb.rf⟩⟩⟩
    · rw [p_turns, ik, decide_eq_false (Int32.not_le.mpr c)]; rfl
    · have ht : inb k 4 = true := by rw [ik, decide_eq_true (Int32.not_lt.mp c), decide_eq_true (i3.mpr c2)]; rfl
      obtain ⟨kk, kk1, rfl⟩ := inb_e (by decide) ht
      have eP : p_turns h mt (nI t) (nI kk) u = s_turns (tw h t) (nn (tw h t)) kk u := by
        rw [p_turns, ht, (p_in t1 hm).1, (p_in t1 hm).2, nI_clamp (by omega)]; rfl
      rw [eP, turns_r (by omega)]
      refine ⟨rfl, _, rfl, rfl, 0, 0, _, c_takeTurns hG d h T V (by omega : kk ≤ 3), ⟨Nat.le_refl _, Nat.le_refl _⟩, ?_⟩
      rintro _ h1 ⟨rfl, e1, e2, f1⟩
      refine b2_eq (fun hu => ⟨rfl, _, rfl, rfl, trivial, congV ?_, f1⟩) (fun hu => ⟨rfl, _, rfl, rfl, trivial, congV ?_, f1⟩)
      · rw [hu, if_pos rfl]; exact e2
      · rw [hu]; exact e1
    · rw [p_turns, ik, decide_eq_false (fun q => c2 (i3.mp q)), Bool.and_false]; rfl
  · refine ⟨trivial, congV ?_, sb.rf⟩
    rw [p_turns, hno, Bool.and_false]; rfl
