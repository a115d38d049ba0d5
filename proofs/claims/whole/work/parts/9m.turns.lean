/-! the class: two who tell by turns -/
theorem iI_sub (x y : Int) : iI x - iI y = iI (x - y) := by
  rw [Int32.sub_eq_add_neg, iI_neg, iI_add]; congr 1
def encI (b : Nat) : Int32 := nI (10 * (b / 6) + b % 6)
def lst (x : Int) (a : Option (Nat × Int)) : Int × Int32 := match a with
  | none => (x, 99)
  | some (b, v) => if x ≤ v then (v, encI b) else (x, 99)
theorem enc_99 {b : Nat} (hb : b < 36) : ¬ encI b = 99 := fun e => by
  have := (nI_eq (b := 99) (by omega) (by decide)).mp e
  omega
theorem lst_n {q : Nat → Option Int} {x : Int} {J : Nat} (h : q J = none) : lst x (am q (J + 1)) = lst x (am q J) := by rw [am, h]
theorem lst_y {q : Nat → Option Int} {x y : Int} {J : Nat} (h : q J = some y) (hJ : J ≤ 36) : lst x (am q (J + 1)) = if (lst x (am q J)).1 < y ∨ (y = (lst x (am q J)).1 ∧ (lst x (am q J)).2 = 99) then (y, encI J) else lst x (am q J) := by
  rw [am, h]
  cases a : am q J with
  | none =>
    show (if x ≤ y then (y, encI J) else (x, 99)) = if x < y ∨ (y = x ∧ (99 : Int32) = 99) then _ else (x, 99)
    by_cases c : x ≤ y
    · rw [if_pos c, if_pos (by rcases Int.lt_or_eq_of_le c with z | z; exact Or.inl z; exact Or.inr ⟨z.symm, rfl⟩)]
    · rw [if_neg c, if_neg (fun z => z.elim (fun z => c (by omega)) (fun z => c (by omega)))]
  | some bv =>
    obtain ⟨b, v⟩ := bv
    have hbJ : b < J := by
      have : ∀ J b v, am q J = some (b, v) → b < J := by
        intro J
        induction J with
        | zero => intro b v h; rw [am] at h; exact absurd h (by simp)
        | succ J ih =>
          intro b v h
          rw [am] at h
          cases z : q J with
          | none => rw [z] at h; have := ih b v h; omega
          | some y =>
            rw [z] at h
            cases w : am q J with
            | none => rw [w] at h; have e := Option.some.inj h; injection e with e1 e2; omega
            | some bv =>
              obtain ⟨b', v'⟩ := bv
              rw [w] at h
              have h : (if v' < y then some (J, y) else some (b', v')) = some (b, v) := h
              split at h
              · have e := Option.some.inj h; injection e with e1 e2; omega
              · have := ih b v (w.trans h); omega
      exact this J b v a
    have h99 := enc_99 (by omega : b < 36)
    show lst x (if v < y then some (J, y) else some (b, v)) = if (if x ≤ v then (v, encI b) else (x, 99)).1 < y ∨ (y = (if x ≤ v then (v, encI b) else (x, 99)).1 ∧ (if x ≤ v then (v, encI b) else (x, 99)).2 = 99) then (y, encI J) else (if x ≤ v then (v, encI b) else (x, 99))
    by_cases c : x ≤ v
    · rw [if_pos c]
      by_cases c2 : v < y
      · rw [if_pos c2, if_pos (Or.inl c2)]
        exact if_pos (by omega)
      · rw [if_neg c2, if_neg (fun z => z.elim c2 (fun z => h99 z.2))]
        exact if_pos c
    · rw [if_neg c]
      by_cases c2 : v < y
      · rw [if_pos c2]
        show (if x ≤ y then (y, encI J) else (x, 99)) = _
        by_cases c3 : x ≤ y
        · rw [if_pos c3, if_pos (by rcases Int.lt_or_eq_of_le c3 with z | z; exact Or.inl z; exact Or.inr ⟨z.symm, rfl⟩)]
        · rw [if_neg c3, if_neg (fun z => z.elim (fun z => c3 (by have : x < y := z; omega)) (fun z => c3 (by have : y = x := z.1; omega)))]
      · rw [if_neg c2, if_neg (fun z => z.elim (fun z => c2 (by have : x < y := z; omega)) (fun z => c2 (by have : y = x := z.1; omega)))]
        exact if_neg c
/-- what is at the head of the moves -/
def fmv (w : Nat → Int32) (n r : Nat) (mi : Nat → Int32) (had : Nat) : Int32 := match r with
  | 0 => -1
  | r + 1 => match am (qv (tv w n r) w n mi had) 37 with
    | none => -1
    | some (b, _) => if b = 36 then 99 else encI b
theorem am_sk {q : Nat → Option Int} : ∀ m k, (∀ j, k ≤ j → j < k + m → q j = none) → am q (k + m) = am q k
  | 0, k, _ => rfl
  | m + 1, k, h => by
    rw [show k + (m + 1) = (k + m) + 1 from rfl, am, h (k + m) (by omega) (by omega)]
    exact am_sk m k (fun j h1 h2 => h j h1 (by omega))
theorem lst_fin {w : Nat → Int32} {n r : Nat} (hn : n ≤ 6) (mi : Nat → Int32) (had : Nat) : lst (- tv w n r mi had) (am (qv (tv w n r) w n mi had) (6 * n)) = (tv w n (r + 1) mi had, fmv w n (r + 1) mi had) := by
  have q36 : qv (tv w n r) w n mi had 36 = some (- tv w n r mi had) := by rw [qv, if_pos rfl]
  have sk := am_sk (q := qv (tv w n r) w n mi had) (36 - 6 * n) (6 * n) (fun j h1 h2 => by
    have hj : ¬ j / 6 < n := by omega
    rw [qv, if_neg (by omega), mvb, decide_eq_false hj]; rfl)
  rw [show 6 * n + (36 - 6 * n) = 36 by omega] at sk
  have e37 : am (qv (tv w n r) w n mi had) 37 = match am (qv (tv w n r) w n mi had) 36 with
    | none => some (36, - tv w n r mi had)
    | some (b, v) => if v < - tv w n r mi had then some (36, - tv w n r mi had) else some (b, v) := by
    show am _ (36 + 1) = _
    rw [am, q36]
  rw [tv, fmv, e37, ← sk]
  cases a : am (qv (tv w n r) w n mi had) 36 with
  | none => rfl
  | some bv =>
    obtain ⟨b, v⟩ := bv
    have hb : b < 36 := by
      have gen : ∀ J b v, am (qv (tv w n r) w n mi had) J = some (b, v) → b < J := by
        intro J
        induction J with
        | zero => intro b v h; rw [am] at h; exact absurd h (by simp)
        | succ J ih =>
          intro b v h
          rw [am] at h
          cases z : qv (tv w n r) w n mi had J with
          | none => rw [z] at h; have := ih b v h; omega
          | some y =>
            rw [z] at h
            cases w' : am (qv (tv w n r) w n mi had) J with
            | none => rw [w'] at h; have e := Option.some.inj h; injection e with e1 e2; omega
            | some bv =>
              obtain ⟨b', v'⟩ := bv
              rw [w'] at h
              have h : (if v' < y then some (J, y) else some (b', v')) = some (b, v) := h
              split at h
              · have e := Option.some.inj h; injection e with e1 e2; omega
              · have := ih b v (w'.trans h); omega
      exact gen 36 b v a
    show (if - tv w n r mi had ≤ v then (v, encI b) else (- tv w n r mi had, 99)) = _
    by_cases c : - tv w n r mi had ≤ v
    · rw [if_pos c]
      show _ = (match (if v < - tv w n r mi had then some (36, - tv w n r mi had) else some (b, v)) with
        | none => 0
        | some (_, v) => v, match (if v < - tv w n r mi had then some (36, - tv w n r mi had) else some (b, v)) with
        | none => -1
        | some (b, _) => if b = 36 then 99 else encI b)
      rw [if_neg (by omega)]
      show (v, encI b) = (v, if b = 36 then 99 else encI b)
      rw [if_neg (by omega)]
    · rw [if_neg c]
      show _ = (match (if v < - tv w n r mi had then some (36, - tv w n r mi had) else some (b, v)) with
        | none => 0
        | some (_, v) => v, match (if v < - tv w n r mi had then some (36, - tv w n r mi had) else some (b, v)) with
        | none => -1
        | some (b, _) => if b = 36 then 99 else encI b)
      rw [if_pos (by omega)]
      rfl
