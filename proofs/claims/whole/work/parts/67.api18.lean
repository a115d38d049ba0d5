/-! the reference: the bell -/
def bst (w : Nat → Int32) (n p : Nat) (mi : Nat → Int32) (acc v : Nat) : Option ((Nat → Int32) × Nat) :=
  if v = 6 then some (mi, acc) else if bit (mi0 w p) (nI v) then some (tM w n mi p v, acc + toldN w mi p v n) else none
def bth (w : Nat → Int32) (n : Nat) : Nat → Nat → Option ((Nat → Int32) × Nat)
  | 0, _ => some (mi0 w, 0)
  | p + 1, K => match bth w n p (K / 7) with
    | none => none
    | some (mi, acc) => bst w n p mi acc (K % 7)
def bval (w : Nat → Int32) (n k : Nat) : Option Nat := match bth w n n k with
  | none => none
  | some (_, acc) => some acc
def cmb (x y : Option (Nat × Nat)) : Option (Nat × Nat) := match y with
  | none => x
  | some (j, v) => match x with
    | none => some (j, v)
    | some (b, u) => if u < v then some (j, v) else some (b, u)
theorem cmb_as (x y z : Option (Nat × Nat)) : cmb (cmb x y) z = cmb x (cmb y z) := by
  cases z with
  | none => rfl
  | some z =>
    obtain ⟨zj, zv⟩ := z
    cases y with
    | none => rfl
    | some y =>
      obtain ⟨yj, yv⟩ := y
      cases x with
      | none =>
        show cmb (some (yj, yv)) (some (zj, zv)) = cmb none (cmb (some (yj, yv)) (some (zj, zv)))
        cases cmb (some (yj, yv)) (some (zj, zv)) with
        | none => rfl
        | some _ => rfl
      | some x =>
        obtain ⟨xj, xv⟩ := x
        show cmb (if xv < yv then some (yj, yv) else some (xj, xv)) (some (zj, zv)) = cmb (some (xj, xv)) (if yv < zv then some (zj, zv) else some (yj, yv))
        by_cases c1 : xv < yv
        · rw [if_pos c1]
          by_cases c2 : yv < zv
          · rw [if_pos c2]
            show (if yv < zv then some (zj, zv) else some (yj, yv)) = if xv < zv then some (zj, zv) else some (xj, xv)
            rw [if_pos c2, if_pos (by omega)]
          · rw [if_neg c2]
            show (if yv < zv then some (zj, zv) else some (yj, yv)) = if xv < yv then some (yj, yv) else some (xj, xv)
            rw [if_neg c2, if_pos c1]
        · rw [if_neg c1]
          by_cases c2 : yv < zv
          · rw [if_pos c2]
          · rw [if_neg c2]
            show (if xv < zv then some (zj, zv) else some (xj, xv)) = if xv < yv then some (yj, yv) else some (xj, xv)
            rw [if_neg c1, if_neg (by omega)]
def fdc (x : Option (Nat × Nat)) (g : Nat → Option (Nat × Nat)) : Nat → Option (Nat × Nat)
  | 0 => x
  | k + 1 => cmb (fdc x g k) (g k)
theorem fdc_as (x : Option (Nat × Nat)) (g : Nat → Option (Nat × Nat)) : ∀ k, fdc x g k = cmb x (fdc none g k)
  | 0 => rfl
  | k + 1 => by rw [fdc, fdc, fdc_as x g k, cmb_as]
theorem fdc_co {x : Option (Nat × Nat)} {g g' : Nat → Option (Nat × Nat)} : ∀ k, (∀ j, j < k → g j = g' j) → fdc x g k = fdc x g' k
  | 0, _ => rfl
  | k + 1, h => by rw [fdc, fdc, fdc_co k (fun j hj => h j (by omega)), h k (by omega)]
theorem fdc_no {x : Option (Nat × Nat)} {g : Nat → Option (Nat × Nat)} : ∀ k, (∀ j, j < k → g j = none) → fdc x g k = x
  | 0, _ => rfl
  | k + 1, h => by rw [fdc, fdc_no k (fun j hj => h j (by omega)), h k (by omega)]; rfl
/-- the first of the greatest -/
theorem fdc_first {g : Nat → Option (Nat × Nat)} {F J M : Nat} (hF : g F = some (J, M)) (hlt : ∀ v j x, v < F → g v = some (j, x) → x < M) : ∀ k, (∀ v j x, v < k → g v = some (j, x) → x ≤ M) → (k ≤ F → ∀ j x, fdc none g k = some (j, x) → x < M) ∧ (F < k → fdc none g k = some (J, M))
  | 0, _ => ⟨fun _ j x q => by rw [fdc] at q; exact absurd q (by simp), fun q => by omega⟩
  | k + 1, hle => by
    obtain ⟨i1, i2⟩ := fdc_first hF hlt k (fun v j x hv => hle v j x (by omega))
    refine ⟨fun hk j x q => ?_, fun hk => ?_⟩
    · rw [fdc] at q
      cases q1 : g k with
      | none => rw [q1] at q; exact i1 (by omega) j x q
      | some gv =>
        obtain ⟨gj, gx⟩ := gv
        have h1 := hlt k gj gx (by omega) q1
        rw [q1] at q
        cases q2 : fdc none g k with
        | none =>
          rw [q2] at q
          have := Option.some.inj q
          injection this with a b
          omega
        | some fv =>
          obtain ⟨fj, fx⟩ := fv
          have h2 := i1 (by omega) fj fx q2
          rw [q2] at q
          by_cases c : fx < gx
          · have e := Option.some.inj ((if_pos c).symm.trans q : some (gj, gx) = some (j, x))
            injection e with a b
            omega
          · have e := Option.some.inj ((if_neg c).symm.trans q : some (fj, fx) = some (j, x))
            injection e with a b
            omega
    · rw [fdc]
      by_cases e : k = F
      · subst e
        rw [hF]
        cases q2 : fdc none g k with
        | none => rfl
        | some fv =>
          obtain ⟨fj, fx⟩ := fv
          exact if_pos (i1 (Nat.le_refl _) fj fx q2)
      · rw [i2 (by omega)]
        cases q1 : g k with
        | none => rfl
        | some gv =>
          obtain ⟨gj, gx⟩ := gv
          exact if_neg (by have := hle k gj gx (by omega) q1; omega)
def bvO (L : (Nat → Int32) → Nat) (w : Nat → Int32) (n p : Nat) (mi : Nat → Int32) (v : Nat) : Option Nat :=
  if v = 6 then some (L mi) else if bit (mi0 w p) (nI v) then some (toldN w mi p v n + L (tM w n mi p v)) else none
def bV (w : Nat → Int32) (n : Nat) : Nat → Nat → (Nat → Int32) → Nat
  | 0, _, _ => 0
  | r + 1, p, mi => cM (bvO (bV w n r (p + 1)) w n p mi) 7
def bF (w : Nat → Int32) (n r p : Nat) (mi : Nat → Int32) : Nat := ff (fun v => decide (bvO (bV w n r (p + 1)) w n p mi v = some (bV w n (r + 1) p mi))) 7 0
theorem bF_spec (w : Nat → Int32) (n r p : Nat) (mi : Nat → Int32) : bF w n r p mi < 7 ∧ bvO (bV w n r (p + 1)) w n p mi (bF w n r p mi) = some (bV w n (r + 1) p mi) ∧ ∀ v, v < bF w n r p mi → ¬ bvO (bV w n r (p + 1)) w n p mi v = some (bV w n (r + 1) p mi) := by
  have hat : ∃ v, v < 7 ∧ bvO (bV w n r (p + 1)) w n p mi v = some (bV w n (r + 1) p mi) := by
    rw [bV]
    rcases Nat.eq_zero_or_pos (cM (bvO (bV w n r (p + 1)) w n p mi) 7) with e | e
    · refine ⟨6, by omega, ?_⟩
      have h6 : bvO (bV w n r (p + 1)) w n p mi 6 = some (bV w n r (p + 1) mi) := by rw [bvO, if_pos rfl]
      have := cM_ge h6 7 (by omega)
      rw [h6, e, show bV w n r (p + 1) mi = 0 by omega]
    · exact cM_at 7 e
  obtain ⟨v, h1, h2⟩ := hat
  obtain ⟨k1, k2, -, k4⟩ := ff_spec (p := fun v => decide (bvO (bV w n r (p + 1)) w n p mi v = some (bV w n (r + 1) p mi))) 7 0 ⟨v, by omega, by omega, decide_eq_true h2⟩
  refine ⟨by rw [bF]; omega, of_decide_eq_true k1, fun j hj q => ?_⟩
  exact absurd q (of_decide_eq_false (k4 j (by omega) hj))
def bmi (w : Nat → Int32) (n p : Nat) (mi : Nat → Int32) (v : Nat) : Nat → Int32 := if v = 6 then mi else tM w n mi p v
def bN (w : Nat → Int32) (n : Nat) : Nat → Nat → (Nat → Int32) → Nat
  | 0, _, _ => 0
  | r + 1, p, mi => bF w n r p mi * 7 ^ r + bN w n r (p + 1) (bmi w n p mi (bF w n r p mi))
theorem bst_v {w : Nat → Int32} {n p : Nat} {mi : Nat → Int32} {acc v : Nat} {L : (Nat → Int32) → Nat} : (bst w n p mi acc v = none ∧ bvO L w n p mi v = none) ∨ (∃ a, bst w n p mi acc v = some (bmi w n p mi v, acc + a) ∧ bvO L w n p mi v = some (a + L (bmi w n p mi v))) := by
  rw [bst, bvO, bmi]
  by_cases e : v = 6
  · rw [if_pos e, if_pos e, if_pos e]
    exact Or.inr ⟨0, by rw [Nat.add_zero], by rw [Nat.zero_add]⟩
  · rw [if_neg e, if_neg e, if_neg e]
    by_cases c : bit (mi0 w p) (nI v) = true
    · rw [if_pos c, if_pos c]
      exact Or.inr ⟨_, rfl, rfl⟩
    · rw [if_neg c, if_neg c]
      exact Or.inl ⟨rfl, rfl⟩
def kv (k : Nat) (o : Option Nat) : Option (Nat × Nat) := match o with
  | none => none
  | some v => some (k, v)
def amN (q : Nat → Option Nat) : Nat → Option (Nat × Nat) := fdc none (fun k => kv k (q k))
def blk (w : Nat → Int32) (n r p K : Nat) : Option (Nat × Nat) := match bth w n p K with
  | none => none
  | some (mi, acc) => some (7 ^ r * K + bN w n r p mi, acc + bV w n r p mi)
theorem amN_blk (w : Nat → Int32) (n : Nat) : ∀ r p K, p + r = n → amN (bval w n) (7 ^ r * (K + 1)) = cmb (amN (bval w n) (7 ^ r * K)) (blk w n r p K)
  | 0, p, K, h => by
    obtain rfl : p = n := h
    rw [Nat.pow_zero, Nat.one_mul, Nat.one_mul]
    show cmb (amN (bval w p) K) _ = _
    congr 1
    show kv K (bval w p K) = blk w p 0 p K
    rw [bval, blk]
    cases bth w p p K with
    | none => rfl
    | some st =>
      obtain ⟨mi, acc⟩ := st
      show some (K, acc) = some (7 ^ 0 * K + 0, acc + 0)
      rw [Nat.pow_zero, Nat.one_mul]; rfl
  | r + 1, p, K, h => by
    have ih := fun v => amN_blk w n r (p + 1) (7 * K + v) (by omega)
    have e7 : 7 ^ (r + 1) * K = 7 ^ r * (7 * K) := by rw [Nat.pow_succ, Nat.mul_assoc]
    have e8 : 7 ^ (r + 1) * (K + 1) = 7 ^ r * (7 * K + 7) := by rw [Nat.pow_succ, Nat.mul_assoc, Nat.mul_add]
    rw [e7, e8]
    have hf : ∀ k, amN (bval w n) (7 ^ r * (7 * K + k)) = fdc (amN (bval w n) (7 ^ r * (7 * K))) (fun v => blk w n r (p + 1) (7 * K + v)) k := by
      intro k
      induction k with
      | zero => rfl
      | succ k ihk => rw [fdc, ← ihk, ← Nat.add_assoc, ih k]
    rw [hf 7]
    have hch : ∀ j, j < 7 → bth w n (p + 1) (7 * K + j) = match bth w n p K with
        | none => none
        | some (mi, acc) => bst w n p mi acc j := fun j hj => by
      rw [bth, show (7 * K + j) / 7 = K by omega, show (7 * K + j) % 7 = j by omega]
    cases q : bth w n p K with
    | none =>
      rw [fdc_no 7 (fun j hj => by rw [blk, hch j hj, q])]
      rw [blk, q]; rfl
    | some st =>
      obtain ⟨mi, acc⟩ := st
      rw [fdc_as]
      congr 1
      obtain ⟨f1, f2, f3⟩ := bF_spec w n r p mi
      have hg : ∀ v, v < 7 → ∀ j x, blk w n r (p + 1) (7 * K + v) = some (j, x) → ∃ y, bvO (bV w n r (p + 1)) w n p mi v = some y ∧ x = acc + y := fun v hv j x e => by
        rw [blk, hch v hv, q] at e
        rcases bst_v (w := w) (n := n) (p := p) (mi := mi) (acc := acc) (v := v) (L := bV w n r (p + 1)) with ⟨b1, b2⟩ | ⟨a, b1, b2⟩
        · have e : (match bst w n p mi acc v with
            | none => none
            | some (mi, acc) => some (7 ^ r * (7 * K + v) + bN w n r (p + 1) mi, acc + bV w n r (p + 1) mi)) = some (j, x) := e
          rw [b1] at e; exact absurd e (by simp)
        · have e : (match bst w n p mi acc v with
            | none => none
            | some (mi, acc) => some (7 ^ r * (7 * K + v) + bN w n r (p + 1) mi, acc + bV w n r (p + 1) mi)) = some (j, x) := e
          rw [b1] at e
          have e := Option.some.inj e
          injection e with e1 e2
          exact ⟨_, b2, by omega⟩
      have hFb : blk w n r (p + 1) (7 * K + bF w n r p mi) = some (7 ^ r * (7 * K) + bN w n (r + 1) p mi, acc + bV w n (r + 1) p mi) := by
        rw [blk, hch _ f1, q]
        show (match bst w n p mi acc (bF w n r p mi) with
            | none => none
            | some (m2, a2) => some (7 ^ r * (7 * K + bF w n r p mi) + bN w n r (p + 1) m2, a2 + bV w n r (p + 1) m2)) = some (7 ^ r * (7 * K) + bN w n (r + 1) p mi, acc + bV w n (r + 1) p mi)
        rcases bst_v (w := w) (n := n) (p := p) (mi := mi) (acc := acc) (v := bF w n r p mi) (L := bV w n r (p + 1)) with ⟨b1, b2⟩ | ⟨a, b1, b2⟩
        · rw [f2] at b2; exact absurd b2 (by simp)
        · rw [b1]
          show some (_, _) = some (_, _)
          rw [f2] at b2
          rw [Option.some.inj b2, bN, Nat.mul_add, Nat.add_assoc acc, Nat.mul_comm (7 ^ r) (bF w n r p mi), Nat.add_assoc]
      have := (fdc_first (g := fun v => blk w n r (p + 1) (7 * K + v)) (F := bF w n r p mi) hFb (fun v j x hv e => by
        obtain ⟨y, y1, y2⟩ := hg v (by omega) j x e
        have h1 : y ≤ bV w n (r + 1) p mi := by rw [bV]; exact cM_ge y1 7 (by omega)
        have h2 : y ≠ bV w n (r + 1) p mi := fun z => f3 v hv (by rw [y1, z])
        omega) 7 (fun v j x hv e => by
        obtain ⟨y, y1, y2⟩ := hg v hv j x e
        have h1 : y ≤ bV w n (r + 1) p mi := by rw [bV]; exact cM_ge y1 7 hv
        omega)).2 f1
      rw [this, blk, q]
      show some (_, _) = some (7 ^ (r + 1) * K + _, _)
      rw [e7]
theorem amN_bell (w : Nat → Int32) (n : Nat) : amN (bval w n) (7 ^ n) = some (bN w n n 0 (mi0 w), bV w n n 0 (mi0 w)) := by
  have h := amN_blk w n n 0 0 (Nat.zero_add _)
  rw [Nat.zero_add, Nat.mul_one, Nat.mul_zero] at h
  rw [h, blk, bth]
  show some (7 ^ n * 0 + _, 0 + _) = _
  rw [Nat.mul_zero, Nat.zero_add, Nat.zero_add]
theorem amN_in {q : Nat → Option Nat} : ∀ k b v, amN q k = some (b, v) → b < k ∧ q b = some v
  | 0, b, v, h => by
    have h : (none : Option (Nat × Nat)) = some (b, v) := h
    exact absurd h (by simp)
  | k + 1, b, v, h => by
    have h : cmb (amN q k) (kv k (q k)) = some (b, v) := h
    cases q1 : q k with
    | none =>
      rw [q1] at h
      have := amN_in k b v h
      exact ⟨by omega, this.2⟩
    | some x =>
      rw [q1] at h
      cases q2 : amN q k with
      | none =>
        rw [q2] at h
        have := Option.some.inj h
        injection this with a c
        exact ⟨by omega, by rw [← a, q1, c]⟩
      | some bv =>
        obtain ⟨b0, v0⟩ := bv
        rw [q2] at h
        by_cases c : v0 < x
        · have e := Option.some.inj ((if_pos c).symm.trans h : some (k, x) = some (b, v))
          injection e with e1 e2
          exact ⟨by omega, by rw [← e1, q1, e2]⟩
        · have e := Option.some.inj ((if_neg c).symm.trans h : some (b0, v0) = some (b, v))
          injection e with e1 e2
          have := amN_in k b0 v0 q2
          rw [← e1, ← e2]
          exact ⟨by omega, this.2⟩
/-! what a row brings, told one behind the other -/
theorem or_an (a b : Int32) : a ||| (b &&& (a ^^^ -1)) = a ||| b := by
  refine bit_ext fun k hk => ?_
  rw [bit_or _ _ hk, bit_and _ _ hk, bit_not _ hk, bit_or _ _ hk]
  cases bit a (nI k) <;> cases bit b (nI k) <;> rfl
def sumo (g : Nat → Nat) : Nat → Nat
  | 0 => 0
  | o + 1 => sumo g o + g o
theorem sumo_add {g a b : Nat → Nat} : ∀ k, (∀ o, o < k → g o = a o + b o) → sumo g k = sumo a k + sumo b k
  | 0, _ => rfl
  | k + 1, h => by
    rw [sumo, sumo, sumo, sumo_add k (fun o ho => h o (by omega)), h k (by omega)]
    omega
theorem told_sumo (w mi : Nat → Int32) (p f : Nat) : ∀ k, toldN w mi p f k = sumo (fun o => worthN w (frs w mi p f o) 6) k
  | 0 => rfl
  | k + 1 => by rw [toldN, sumo, told_sumo w mi p f k]
theorem row_co {w : Nat → Int32} {row row' : Nat → Int32} {o : Nat} : ∀ p, (∀ j, j < p → row j = row' j) → s_rowset w row o p = s_rowset w row' o p
  | 0, _ => rfl
  | p + 1, h => by rw [s_rowset, s_rowset, row_co p (fun j hj => h j (by omega)), h p (by omega)]
theorem byRow_N {w : Nat → Int32} (hw : VW w) (mi row : Nat → Int32) (n : Nat) : ∀ k, s_byRow w mi row n k = nI (sumo (fun o => worthN w (s_rowset w row o n &&& (mi o ^^^ -1)) 6) k) ∧ sumo (fun o => worthN w (s_rowset w row o n &&& (mi o ^^^ -1)) 6) k ≤ 120 * k
  | 0 => ⟨rfl, Nat.le_refl _⟩
  | k + 1 => by
    obtain ⟨i1, i2⟩ := byRow_N hw mi row n k
    obtain ⟨j1, j2⟩ := worth_N hw (s_rowset w row k n &&& (mi k ^^^ -1)) 6 (Nat.le_refl _)
    rw [s_byRow, sumo, i1, j1, nI_add]
    exact ⟨rfl, by omega⟩
theorem bth_row {w : Nat → Int32} {n k : Nat} : ∀ p, p ≤ n → match bth w n p (k / 7 ^ (n - p)) with
    | none => ¬ ∀ j, j < p → s_rok (mi0 w) n k j
    | some (mi, acc) => (∀ j, j < p → s_rok (mi0 w) n k j) ∧ (∀ o, o < n → mi o = mi0 w o ||| s_rowset w (fun j => nI (s_dg n k j)) o p) ∧ acc = sumo (fun o => worthN w (s_rowset w (fun j => nI (s_dg n k j)) o p &&& (mi0 w o ^^^ -1)) 6) n
  | 0, _ => by
    rw [bth]
    refine ⟨fun j hj => by omega, fun o _ => ?_, ?_⟩
    · rw [s_rowset]; exact (Int32.or_zero).symm
    · have : ∀ m, sumo (fun o => worthN w (s_rowset w (fun j => nI (s_dg n k j)) o 0 &&& (mi0 w o ^^^ -1)) 6) m = 0 := by
        intro m
        induction m with
        | zero => rfl
        | succ m ih =>
          rw [sumo, ih, s_rowset, Nat.zero_add]
          have : ∀ x, x ≤ 6 → worthN w ((0 : Int32) &&& (mi0 w m ^^^ -1)) x = 0 := by
            intro x
            induction x with
            | zero => exact fun _ => rfl
            | succ x ihx =>
              intro hx
              rw [worthN, ihx (by omega), bit_and _ _ (by omega), bit_0 (by omega)]; rfl
          exact this 6 (Nat.le_refl _)
      exact (this n).symm
  | p + 1, hp => by
    have ih := bth_row (w := w) (n := n) (k := k) p (by omega)
    have ek : k / 7 ^ (n - (p + 1)) / 7 = k / 7 ^ (n - p) := by
      rw [Nat.div_div_eq_div_mul, ← Nat.pow_succ, show (n - (p + 1)).succ = n - p by omega]
    have ed : k / 7 ^ (n - (p + 1)) % 7 = s_dg n k p := by
      rw [s_dg, show n - (p + 1) = n - 1 - p by omega]
    rw [bth, ek, ed]
    cases q : bth w n p (k / 7 ^ (n - p)) with
    | none =>
      rw [q] at ih
      exact fun z => ih (fun j hj => z j (by omega))
    | some st =>
      obtain ⟨mi, acc⟩ := st
      rw [q] at ih
      obtain ⟨r1, r2, r3⟩ := ih
      have hd7 : s_dg n k p < 7 := Nat.mod_lt _ (by decide)
      obtain ⟨v, hv⟩ : ∃ v, v = s_dg n k p := ⟨_, rfl⟩
      show (match bst w n p mi acc (s_dg n k p) with
        | none => ¬ ∀ j, j < p + 1 → s_rok (mi0 w) n k j
        | some (mi, acc) => (∀ j, j < p + 1 → s_rok (mi0 w) n k j) ∧ (∀ o, o < n → mi o = mi0 w o ||| s_rowset w (fun j => nI (s_dg n k j)) o (p + 1)) ∧ acc = sumo (fun o => worthN w (s_rowset w (fun j => nI (s_dg n k j)) o (p + 1) &&& (mi0 w o ^^^ -1)) 6) n)
      rw [bst]
      by_cases c6 : s_dg n k p = 6
      · rw [if_pos c6]
        have ers : ∀ o, s_rowset w (fun j => nI (s_dg n k j)) o (p + 1) = s_rowset w (fun j => nI (s_dg n k j)) o p := fun o => by
          rw [s_rowset]
          simp only [c6]
          rw [if_neg (fun z => absurd z.1 (by decide))]
          exact Int32.or_zero
        refine ⟨fun j hj => ?_, fun o ho => ?_, ?_⟩
        · by_cases e : j = p
          · rw [e]; intro z; omega
          · exact r1 j (by omega)
        · rw [ers]; exact r2 o ho
        · rw [r3]; simp only [ers]
      · rw [if_neg c6]
        have hlt : s_dg n k p < 6 := by omega
        by_cases cb : bit (mi0 w p) (nI (s_dg n k p)) = true
        · rw [if_pos cb]
          have ers : ∀ o, s_rowset w (fun j => nI (s_dg n k j)) o (p + 1) = s_rowset w (fun j => nI (s_dg n k j)) o p ||| (if s_hears w o p = true then s_whole w (s_dg n k p) else 0) := fun o => by
            rw [s_rowset]
            show _ ||| (if nI (s_dg n k p) < 6 ∧ s_hears w o p = true then s_whole w (nI (s_dg n k p)).toNatClampNeg else 0) = _
            rw [nI_clamp (by omega)]
            by_cases ch : s_hears w o p = true
            · rw [if_pos ⟨nI_lt (b := 6) hlt (by decide), ch⟩, if_pos ch]
            · rw [if_neg (fun z => ch z.2), if_neg ch]
          refine ⟨fun j hj => ?_, fun o ho => ?_, ?_⟩
          · by_cases e : j = p
            · rw [e]; exact fun _ => cb
            · exact r1 j (by omega)
          · show tM w n mi p (s_dg n k p) o = _
            rw [tM, if_pos ho, frs, ers, r2 o ho]
            split
            · rw [or_an, Int32.or_assoc]
            · rw [Int32.or_zero, Int32.or_zero]
          · show acc + toldN w mi p (s_dg n k p) n = _
            rw [r3, told_sumo]
            refine (sumo_add n fun o ho => ?_).symm
            refine worth_add 6 (Nat.le_refl _) fun f hf => ?_
            rw [frs, ers, r2 o ho]
            split
            · rw [bit_and _ _ (by omega), bit_or _ _ (by omega), bit_not _ (by omega), bit_and _ _ (by omega), bit_not _ (by omega), bit_and _ _ (by omega), bit_not _ (by omega), bit_or _ _ (by omega)]
              cases bit (mi0 w o) (nI f) <;> cases bit (s_rowset w (fun j => nI (s_dg n k j)) o p) (nI f) <;> cases bit (s_whole w (s_dg n k p)) (nI f) <;> exact ⟨rfl, rfl⟩
            · rw [Int32.or_zero, bit_0 (by omega), Bool.or_false, Bool.and_false]
              exact ⟨rfl, rfl⟩
        · rw [if_neg cb]
          exact fun z => cb (z p (by omega) hlt)
theorem bval_le {w : Nat → Int32} (hw : VW w) {n k v : Nat} (hn : n ≤ 6) (h : bval w n k = some v) : v ≤ 720 := by
  have hr := bth_row (w := w) (n := n) (k := k) n (Nat.le_refl _)
  rw [Nat.sub_self, Nat.pow_zero, Nat.div_one] at hr
  rw [bval] at h
  cases q : bth w n n k with
  | none => rw [q] at h; exact absurd h (by simp)
  | some st =>
    obtain ⟨mi, acc⟩ := st
    rw [q] at h hr
    have e : acc = v := Option.some.inj h
    have := (byRow_N hw (mi0 w) (fun j => nI (s_dg n k j)) n n).2
    have := hr.2.2
    omega
def s_bell (w : Nat → Int32) (n : Nat) (k : Int32) : Int32 := if k = -1 then nI (bV w n n 0 (mi0 w)) else if inb k n then nI (s_dg n (bN w n n 0 (mi0 w)) k.toNatClampNeg) else -1
def p_bell (h : qm_H) (mt : Nat) (a k : Int32) : Int32 := if inb a mt then s_bell (tw h a.toNatClampNeg) (nn (tw h a.toNatClampNeg)) k else -1
theorem am_step {x : Option (Nat × Nat)} {k : Nat} {o : Option Nat} (hx : ∀ b v, x = some (b, v) → v ≤ 720) (ho : ∀ v, o = some v → v ≤ 720) : (if s_oi o ≤ oi2 x then oi1 x else nI k) = oi1 (cmb x (kv k o)) ∧ mx (oi2 x) (s_oi o) = oi2 (cmb x (kv k o)) := by
  cases o with
  | none =>
    cases x with
    | none => exact ⟨rfl, rfl⟩
    | some bv =>
      obtain ⟨b, v⟩ := bv
      have := hx b v rfl
      show (if (-1 : Int32) ≤ nI v then nI b else nI k) = nI b ∧ mx (nI v) (-1) = nI v
      rw [if_pos (m1_nI (by omega)), mx, if_neg (nI_m1 (by omega))]
      exact ⟨rfl, rfl⟩
  | some u =>
    have hu := ho u rfl
    cases x with
    | none =>
      show (if nI u ≤ (-1 : Int32) then -1 else nI k) = nI k ∧ mx (-1) (nI u) = nI u
      rw [if_neg (nI_m1 (by omega)), mx, if_pos (m1_nI (by omega))]
      exact ⟨rfl, rfl⟩
    | some bv =>
      obtain ⟨b, v⟩ := bv
      have hv := hx b v rfl
      show (if nI u ≤ nI v then nI b else nI k) = oi1 (if v < u then some (k, u) else some (b, v)) ∧ mx (nI v) (nI u) = oi2 (if v < u then some (k, u) else some (b, v))
      by_cases c : v < u
      · rw [if_pos c, if_neg (nI_ge c (by omega)), mx_N (by omega) (by omega), Nat.max_eq_right (by omega)]
        exact ⟨rfl, rfl⟩
      · rw [if_neg c, if_pos (nI_le (by omega) (by omega)), mx_N (by omega) (by omega), Nat.max_eq_left (by omega)]
        exact ⟨rfl, rfl⟩
theorem a_bell {G : qm_G} (hG : G.2.2.2.2 = true) (d : Nat) (h : qm_H) {mt my ml : Nat} (hS : ST h mt my ml) (a k : Int32) : qm_Ev G (d + 4) 0 0 qyX10_bell [.ref 26, .int a, .int k] h (fun r h' => r = some (.int (p_bell h mt a k)) ∧ pers h h') := by
  obtain ⟨s1, s2, -, -, -, -, hT, -⟩ := hS
  refine qm_Ev.by (M := mX10_bell) okX10_bell (Nat.le_of_ble_eq_true rfl) hG fun z hA => ?_
  refine qm_wp_ok hA [26] 40 _ _ _ _ _ _ ?_
  refine ⟨rfl, trivial, rfl, 0, 0, _, e_handC hG (d + 1) (qm_si h 26 0 0) (mt := mt) s1 s2 a, ⟨Nat.le_refl _, Nat.le_refl _⟩, ?_⟩
  rintro _ h1 (⟨t, ht, rfl, rfl, rfl⟩ | ⟨e0, rfl, e1⟩)
  · obtain ⟨i1, i2⟩ := p_in ht s2
    have hV := hT t ht
    have hw := hV.w
    obtain ⟨hn6, hn, -⟩ := hV
    have eP : p_bell h mt (nI t) k = s_bell (tw h t) (nn (tw h t)) k := by rw [p_bell, i1, i2]; rfl
    have p0 : pers h (hnd (qm_si h 26 0 0) t) := pers.rf.s26.tr (hnd.ps _ t)
    have e22 : (hnd (qm_si h 26 0 0) t).1 26 22 = nI t := rfl
    have e23 : (hnd (qm_si h 26 0 0) t).1 26 23 = nI (nn (tw h t)) := hn
    have e39 : (hnd (qm_si h 26 0 0) t).1 39 = mi0 (tw h t) := rfl
    have etw : tw (hnd (qm_si h 26 0 0) t) t = tw h t := rfl
    obtain ⟨h0, hh0⟩ : ∃ h0, h0 = hnd (qm_si h 26 0 0) t := ⟨_, rfl⟩
    obtain ⟨n, hnn⟩ : ∃ n, n = nn (tw h t) := ⟨_, rfl⟩
    obtain ⟨w, hww⟩ : ∃ w, w = tw h t := ⟨_, rfl⟩
    rw [← hh0] at p0 e22 e23 e39 etw
    rw [← hnn] at eP e23 hn6
    rw [← hww] at eP e39 etw hw
    rw [← hh0]
    refine ⟨fun q => absurd q (by decide), fun _ => ⟨rfl, ?_⟩⟩
    refine ⟨0, 0, _, e_in hG (d + 3) h0 k (-1) (h0.1 26 23 - 1), ⟨Nat.le_refl _, Nat.le_refl _⟩, ?_⟩
    rintro _ _ ⟨rfl, rfl⟩
    rw [e23, in_m1 hn6]
    have fr1 : ∀ h', sb [44] h0 h' → h'.1 26 22 = nI t ∧ h'.1 26 23 = nI n ∧ tw h' t = w ∧ h'.1 39 = mi0 w := fun h' c => ⟨by rw [c.2 26 (by decide), e22], by rw [c.2 26 (by decide), e23], by rw [← etw]; unfold tw; rw [c.2 32 (by decide)], by rw [c.2 39 (by decide), e39]⟩
    obtain ⟨p1, p2⟩ := s_pow7 hn6
    refine b2_ne (fun hb => ?_) (fun hb => ⟨trivial, congV ?_, p0⟩)
    · refine ⟨rfl, 0, 0, _, e_rows hG (d + 3) h0 e23 hn6, ⟨Nat.le_refl _, Nat.le_refl _⟩, ?_⟩
      rintro _ _ ⟨rfl, rfl⟩
      refine qm_for (P := fun j => ∀ h', sb [44] h0 h' → qm_PW G mX10_bell z 26 0 0 [vr 26, vi (nI t), vi k, vi (oi1 (amN (bval w n) j)), vi (oi2 (amN (bval w n) j)), vi (nI (7 ^ n)), vi (nI j), vu] [] h') (N := 7 ^ n) ?_ ?_ h0 sb.rf
      · intro h' c1
        obtain ⟨g22, g23, gtw, g39⟩ := fr1 h' c1
        have hbell := amN_bell w n
        obtain ⟨b1, b2⟩ := amN_in _ _ _ hbell
        rw [hbell]
        refine qm_wp_ok hA [] 40 _ _ _ _ _ _ ⟨fun _ => ⟨rfl, 0, 0, _, e_layRow hG (d + 2) h' (n := n) (k := bN w n n 0 (mi0 w)) g23 hn6 (by omega), ⟨Nat.le_refl _, Nat.le_refl _⟩, ?_⟩, fun (q : ¬ nI (7 ^ n) ≤ nI (7 ^ n)) => absurd (Int32.le_refl _) q⟩
        rintro _ h2 ⟨d1, ⟨rfl, d2⟩ | ⟨rfl, d2⟩⟩
        · have fin : pers h h2 := p0.tr ((c1.tr d1).mono (by decide))
          refine ⟨fun (q : ¬ k = -1) => ?_, fun (q : k = -1) => ⟨trivial, congV (by rw [eP, s_bell, if_pos q]; rfl), fin⟩⟩
          have hb2 : inb k n = true := by
            rw [decide_eq_false q] at hb; exact hb
          obtain ⟨kk, hkk, rfl⟩ := inb_e (by omega) hb2
          refine ⟨rfl, _, rfl, rfl, (vp_in_nI (by omega) (by decide) : vp_in (nI kk) 6), trivial, congV ?_, fin⟩
          rw [eP, s_bell, if_neg q, if_pos hb2, nI_clamp (by omega)]
          exact (d2 kk hkk).2
        · exfalso
          rw [g39] at d2
          obtain ⟨p, hp, hpr⟩ := d2
          have hr := bth_row (w := w) (n := n) (k := bN w n n 0 (mi0 w)) n (Nat.le_refl _)
          rw [Nat.sub_self, Nat.pow_zero, Nat.div_one] at hr
          rw [bval] at b2
          cases q : bth w n n (bN w n n 0 (mi0 w)) with
          | none => rw [q] at b2; exact absurd b2 (by simp)
          | some st =>
            obtain ⟨mi, acc⟩ := st
            rw [q] at hr
            exact hpr (hr.1 p hp)
      · intro j hj nx h' c1
        obtain ⟨g22, g23, gtw, g39⟩ := fr1 h' c1
        have hst := am_step (x := amN (bval w n) j) (k := j) (o := bval w n j) (fun b v e => bval_le hw hn6 (amN_in _ _ _ e).2) (fun v e => bval_le hw hn6 e)
        have hnx : amN (bval w n) (j + 1) = cmb (amN (bval w n) j) (kv j (bval w n j)) := rfl
        rw [← hnx] at hst
        have m37 : ∀ h2, sb [44] h0 h2 → ∀ s0, s0 = s_oi (bval w n j) → qm_PW G mX10_bell z 37 0 0 [vr 26, vi (nI t), vi k, vi (oi1 (amN (bval w n) j)), vi (oi2 (amN (bval w n) j)), vi (nI (7 ^ n)), vi (nI j), vu] [.int s0] h2 := by
          intro h2 c2 s0 hs
          have key := nx h2 c2
          rw [← hst.1, ← hst.2, ← nI_1, ← hs] at key
          refine qm_wp_ok hA [26] 40 _ _ _ _ _ _ ⟨fun (q : s0 ≤ oi2 (amN (bval w n) j)) => ⟨0, 0, _, e_greater hG (d + 3) h2 _ _, ⟨Nat.le_refl _, Nat.le_refl _⟩, ?_⟩, fun (q : ¬ s0 ≤ oi2 (amN (bval w n) j)) => ⟨0, 0, _, e_greater hG (d + 3) h2 _ _, ⟨Nat.le_refl _, Nat.le_refl _⟩, ?_⟩⟩
          · rintro _ _ ⟨rfl, rfl⟩
            rw [if_pos q] at key
            exact qm_PW.mask [true, true, true, true, true, true, true, false] key
          · rintro _ _ ⟨rfl, rfl⟩
            rw [if_neg q] at key
            exact qm_PW.mask [true, true, true, true, true, true, true, false] key
        have hr := bth_row (w := w) (n := n) (k := j) n (Nat.le_refl _)
        rw [Nat.sub_self, Nat.pow_zero, Nat.div_one] at hr
        refine qm_wp_ok hA [37] 40 _ _ _ _ _ _ ⟨fun (q : nI (7 ^ n) ≤ nI j) => absurd q (nI_ge hj (by omega)), fun _ => ⟨rfl, 0, 0, _, e_layRow hG (d + 2) h' (n := n) (k := j) g23 hn6 (by omega), ⟨Nat.le_refl _, Nat.le_refl _⟩, ?_⟩⟩
        rintro _ h2 ⟨d1, ⟨rfl, d2⟩ | ⟨rfl, d2⟩⟩
        · refine ⟨fun q => absurd q (by decide), fun _ => ?_⟩
          obtain ⟨k22, k23, ktw, k39⟩ := fr1 h2 (c1.tr d1)
          refine ⟨rfl, 0, 0, _, e_learntByRow hG (d + 1) h2 (t := t) (n := n) k22 (by omega) k23 hn6 (fun p hp => ⟨_, Nat.mod_lt _ (by decide), (d2 p hp).2⟩), ⟨Nat.le_refl _, Nat.le_refl _⟩, ?_⟩
          rintro _ _ ⟨rfl, rfl⟩
          rw [ktw, k39]
          refine m37 h2 (c1.tr d1) _ ?_
          obtain ⟨v1, v2⟩ := byRow_N hw (mi0 w) (h2.1 44) n n
          rw [v1, bval]
          cases q : bth w n n j with
          | none =>
            rw [q] at hr
            exact absurd (fun p hp => by have := (d2 p hp).1; rw [g39] at this; exact this) hr
          | some st =>
            obtain ⟨mi, acc⟩ := st
            rw [q] at hr
            show nI _ = nI acc
            have e := hr.2.2
            rw [e]
            have eset : ∀ o, s_rowset w (h2.1 44) o n = s_rowset w (fun p => nI (s_dg n j p)) o n := fun o => row_co n (fun p hp => (d2 p hp).2)
            simp only [eset]
        · refine ⟨fun _ => ?_, fun q => absurd rfl q⟩
          refine m37 h2 (c1.tr d1) _ ?_
          obtain ⟨p, hp, hpr⟩ := d2
          rw [g39] at hpr
          rw [bval]
          cases q : bth w n n j with
          | none => rfl
          | some st =>
            obtain ⟨mi, acc⟩ := st
            rw [q] at hr
            exact absurd (hr.1 p hp) hpr
    · rw [eP, s_bell, if_neg (by intro e; rw [e] at hb; exact absurd hb (by rw [decide_eq_true rfl]; simp)), if_neg (by intro e; rw [e, Bool.or_true] at hb; exact absurd hb (by decide))]
  · exact ⟨fun _ => ⟨trivial, by rw [p_bell, e0]; rfl, e1 ▸ pers.rf.s26⟩, fun q => absurd rfl q⟩
