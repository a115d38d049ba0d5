/-! the class and the reference hold the same -/
theorem VT_co {w w' : Nat → Int32} {n : Nat} (e : ∀ j, j < 31 → w' j = w j) (v : VT w n) : VT w' n := by
  obtain ⟨a1, a2, a3, a4, a5, a6, a7, a8, a9⟩ := v
  refine ⟨a1, by rw [e 0 (by omega)]; exact a2, fun f hf => by rw [e _ (by omega)]; exact a3 f hf, fun f hf => by rw [e _ (by omega)]; exact a4 f hf, fun f hf => by rw [e _ (by omega)]; exact a5 f hf, fun f hf => by rw [e _ (by omega)]; exact a6 f hf, fun f hf => by rw [e _ (by omega)]; exact a7 f hf, fun f g k hf hg hk => ?_, fun f g k hf hg hk => ?_⟩
  · rw [e (7 + f) (by omega), e (7 + g) (by omega)]; exact a8 f g k hf hg hk
  · rw [e (19 + f) (by omega), e (7 + g) (by omega)]; exact a9 f g k hf hg hk
theorem nn_co {w w' : Nat → Int32} (e : w' 0 = w 0) : nn w' = nn w := by rw [nn, nn, e]
theorem TO_co {h : qm_H} {P n : Nat} {w w' : Nat → Int32} (e : ∀ j, j < 31 → w' j = w j) (hn : n ≤ 6) (t : TO h P w n) : TO h P w' n := by
  obtain ⟨t1, t3, t4, t5, t6, t7, t8⟩ := t
  refine ⟨t1, t3, t4, t5, fun j hj => ?_, fun s hs => ?_, fun s hs => ?_⟩
  · obtain ⟨k1, k2, k3, k4, k5, k6⟩ := t6 j hj
    rw [e _ (by omega), e _ (by omega), e _ (by omega), e _ (by omega), e _ (by omega), hbN_co (w := w') (w' := w) n (fun o ho => e _ (by omega))]
    exact ⟨k1, k2, k3, k4, k5, k6⟩
  · rw [worthN_co (w := w') (w' := w) 6 (fun o ho => e _ (by omega))]; exact t7 s hs
  · rw [s_closed_co (w := w') (w' := w) 6 (fun o ho => e _ (by omega))]; exact t8 s hs
theorem RO_co {h : qm_H} {Q c m : Nat} {w w' : Nat → Int32} (e : ∀ j, j < 1 + c * m → w' j = w j) (t : RO h Q c w m) : RO h Q c w' m := by
  obtain ⟨t1, t3, t4, t5, t6, t7, t8⟩ := t
  refine ⟨t1, t3, t4, t5, t6, t7, fun k hk j hj => ?_⟩
  have := Nat.mul_le_mul_left c (show k + 1 ≤ m from hk)
  rw [Nat.mul_add, Nat.mul_one] at this
  rw [e _ (by omega)]; exact t8 k hk j hj
theorem VY_co {w w' : Nat → Int32} {m : Nat} (e : ∀ j, j < 161 → w' j = w j) (v : VY w m) : VY w' m := by
  obtain ⟨a1, a2, a3⟩ := v
  refine ⟨a1, by rw [e 0 (by omega)]; exact a2, fun k hk => ?_⟩
  rw [e _ (by omega), e _ (by omega)]; exact a3 k hk
theorem VYc_co {w w' : Nat → Int32} {m : Nat} (hm : m ≤ 40) (e : ∀ j, j < 161 → w' j = w j) (v : VYc w m) : VYc w' m := fun k hk => by
  rw [e _ (by omega), e _ (by omega)]; exact v k hk
theorem VL_co {w w' : Nat → Int32} {m : Nat} (e : ∀ j, j < 17 → w' j = w j) (v : VL w m) : VL w' m := by
  obtain ⟨a1, a2, a3⟩ := v
  refine ⟨a1, by rw [e 0 (by omega)]; exact a2, fun k hk => ?_⟩
  rw [e _ (by omega), e _ (by omega)]; exact a3 k hk
/-- what was kept stays -/
def OB (h h' : qm_H) : Prop := (∀ Q w n, TO h Q w n → TO h' Q w n) ∧ ∀ Q c w n, RO h Q c w n → RO h' Q c w n
theorem OB.tr {h h1 h2 : qm_H} (a : OB h h1) (b : OB h1 h2) : OB h h2 := ⟨fun Q w n t => b.1 Q w n (a.1 Q w n t), fun Q c w n t => b.2 Q c w n (a.2 Q c w n t)⟩
theorem OB.tl {T n : Nat} {h h' : qm_H} (a : ge (TLi T) (TLr T) n h h') (l : TL h T) : OB h h' := ⟨fun Q w n t => t.ge a (t.tl l).1 (t.tl l).2, fun Q c w n t => t.ge a (t.tl l).1 (t.tl l).2⟩
theorem OB.ge {S R : List Nat} {n : Nat} {h h' : qm_H} (a : ge S R n h h') (hS : ∀ q, q ∈ S → q < 51) (hR : ∀ q, q ∈ R → q < 51) : OB h h' := by
  refine ⟨fun Q w n t => t.ge a (fun k _ z => ?_) (fun z => ?_), fun Q c w n t => t.ge a ⟨fun z => ?_, fun z => ?_⟩ (fun z => ?_)⟩
  · have := hS _ z; have := t.1.1; omega
  · have := hR _ z; have := t.1.1; omega
  · have := hS _ z; have := t.1.1; omega
  · have := hS _ z; have := t.1.1; omega
  · have := hR _ z; have := t.1.1; omega
/-- the reference's rows: layer i has become layer i' -/
def ROW (h h' : qm_H) (i i' : Nat) : Prop := (∀ j, j < 600 → h'.1 27 (600 * i' + j) = h.1 27 (600 * i + j)) ∧ h'.1 28 i' = h.1 28 i ∧ h'.1 29 i' = h.1 29 i ∧ h'.1 30 i' = h.1 30 i ∧ (∀ j, j < 3 → h'.1 31 (3 * i' + j) = h.1 31 (3 * i + j)) ∧ (∀ j, j < 62 → h'.1 32 (62 * i' + j) = h.1 32 (62 * i + j)) ∧ (∀ j, j < 322 → h'.1 33 (322 * i' + j) = h.1 33 (322 * i + j)) ∧ ∀ j, j < 34 → h'.1 34 (34 * i' + j) = h.1 34 (34 * i + j)
theorem ROW.same {h h' : qm_H} (e : ∀ q, 27 ≤ q → q ≤ 34 → h'.1 q = h.1 q) (i : Nat) : ROW h h' i i := by
  refine ⟨fun j _ => by rw [e 27 (by decide) (by decide)], by rw [e 28 (by decide) (by decide)], by rw [e 29 (by decide) (by decide)], by rw [e 30 (by decide) (by decide)], fun j _ => by rw [e 31 (by decide) (by decide)], fun j _ => by rw [e 32 (by decide) (by decide)], fun j _ => by rw [e 33 (by decide) (by decide)], fun j _ => by rw [e 34 (by decide) (by decide)]⟩
theorem ROW.tr {h h1 h2 : qm_H} {i j k : Nat} (a : ROW h h1 i j) (b : ROW h1 h2 j k) : ROW h h2 i k := by
  obtain ⟨a1, a2, a3, a4, a5, a6, a7, a8⟩ := a
  obtain ⟨b1, b2, b3, b4, b5, b6, b7, b8⟩ := b
  exact ⟨fun j hj => (b1 j hj).trans (a1 j hj), b2.trans a2, b3.trans a3, b4.trans a4, fun j hj => (b5 j hj).trans (a5 j hj), fun j hj => (b6 j hj).trans (a6 j hj), fun j hj => (b7 j hj).trans (a7 j hj), fun j hj => (b8 j hj).trans (a8 j hj)⟩
def LT (h : qm_H) (i t : Nat) : Nat → Int32 := fun j => h.1 32 (62 * i + (31 * t + j))
def LYy (h : qm_H) (i t : Nat) : Nat → Int32 := fun j => h.1 33 (322 * i + (161 * t + j))
def LGg (h : qm_H) (i t : Nat) : Nat → Int32 := fun j => h.1 34 (34 * i + (17 * t + j))
theorem LT_0 (h : qm_H) : LT h 0 = tw h := by
  funext t j
  show h.1 32 (62 * 0 + (31 * t + j)) = h.1 32 (31 * t + j)
  rw [Nat.mul_zero, Nat.zero_add]
theorem LYy_0 (h : qm_H) : LYy h 0 = yw h := by
  funext t j
  show h.1 33 (322 * 0 + (161 * t + j)) = h.1 33 (161 * t + j)
  rw [Nat.mul_zero, Nat.zero_add]
theorem LGg_0 (h : qm_H) : LGg h 0 = gw h := by
  funext t j
  show h.1 34 (34 * 0 + (17 * t + j)) = h.1 34 (17 * t + j)
  rw [Nat.mul_zero, Nat.zero_add]
/-- the numbers of the Told at T are those of the layer i -/
def NUM (h : qm_H) (T i : Nat) : Prop := (∀ j, j < 600 → h.1 (T + 1) j = h.1 27 (600 * i + j)) ∧ h.1 T 1 = h.1 28 i ∧ h.1 T 2 = h.1 29 i ∧ h.1 T 3 = h.1 30 i ∧ ∀ s, s < 3 → h.1 (T + 5) s = h.1 31 (3 * i + s)
/-- the Told at T holds the layer i -/
def LYR (h : qm_H) (T i : Nat) : Prop := TL h T ∧ NUM h T i ∧ ∃ (m : Nat → Nat) (L : Nat), L ≤ 600 ∧ h.1 28 i = nI L ∧ (∀ s, s < 3 → m s ≤ 2 ∧ h.1 31 (3 * i + s) = nI (m s)) ∧ TWN h (T + 2) (m 0) (LT h i) ∧ YRS h (T + 3) (m 1) (LYy h i) ∧ LGS h (T + 4) (m 2) (LGg h i)
/-- the Told at T of h is the one at T' of h' -/
def TDE (h h' : qm_H) (T T' : Nat) : Prop := (∀ j, j < 600 → h'.1 (T' + 1) j = h.1 (T + 1) j) ∧ h'.1 T' 1 = h.1 T 1 ∧ h'.1 T' 2 = h.1 T 2 ∧ h'.1 T' 3 = h.1 T 3 ∧ ∀ s, s < 3 → h'.1 (T' + 5) s = h.1 (T + 5) s
def RFE (h h' : qm_H) (T T' : Nat) : Prop := ∀ k, 2 ≤ k → k ≤ 4 → ∀ t, t < 2 → qm_rd true h' (T' + k) t = qm_rd true h (T + k) t
theorem TWN.to {h h' : qm_H} {a a' m : Nat} {W W' : Nat → Nat → Int32} (y : TWN h a m W) (o : OB h h') (f : ∀ t, t < 2 → qm_rd true h' a' t = qm_rd true h a t) (e : ∀ t, t < m → t < 2 → ∀ j, j < 31 → W' t j = W t j) : TWN h' a' m W' := fun t ht => by
  obtain ⟨y1, y2⟩ := y t ht
  refine ⟨fun q => ?_, fun q => by rw [f t ht]; exact y2 q⟩
  obtain ⟨Q, q1, q2, q3⟩ := y1 q
  have en := nn_co (e t q ht 0 (by decide))
  exact ⟨Q, by rw [f t ht]; exact q1, by rw [en]; exact TO_co (e t q ht) q3.1 (o.1 _ _ _ q2), by rw [en]; exact VT_co (e t q ht) q3⟩
theorem YRS.to {h h' : qm_H} {a a' m : Nat} {W W' : Nat → Nat → Int32} (y : YRS h a m W) (o : OB h h') (f : ∀ t, t < 2 → qm_rd true h' a' t = qm_rd true h a t) (e : ∀ t, t < m → t < 2 → ∀ j, j < 161 → W' t j = W t j) : YRS h' a' m W' := fun t ht => by
  obtain ⟨y1, y2⟩ := y t ht
  refine ⟨fun q => ?_, fun q => by rw [f t ht]; exact y2 q⟩
  obtain ⟨Q, q1, q2, q3, q4⟩ := y1 q
  have en := nn_co (e t q ht 0 (by decide))
  have := q3.1
  exact ⟨Q, by rw [f t ht]; exact q1, by rw [en]; exact RO_co (fun j hj => e t q ht j (by omega)) (o.2 _ _ _ _ q2), by rw [en]; exact VY_co (e t q ht) q3, by rw [en]; exact VYc_co this (e t q ht) q4⟩
theorem LGS.to {h h' : qm_H} {a a' m : Nat} {W W' : Nat → Nat → Int32} (y : LGS h a m W) (o : OB h h') (f : ∀ t, t < 2 → qm_rd true h' a' t = qm_rd true h a t) (e : ∀ t, t < m → t < 2 → ∀ j, j < 17 → W' t j = W t j) : LGS h' a' m W' := fun t ht => by
  obtain ⟨y1, y2⟩ := y t ht
  refine ⟨fun q => ?_, fun q => by rw [f t ht]; exact y2 q⟩
  obtain ⟨Q, q1, q2, q3⟩ := y1 q
  have en := nn_co (e t q ht 0 (by decide))
  have := q3.1
  exact ⟨Q, by rw [f t ht]; exact q1, by rw [en]; exact RO_co (fun j hj => e t q ht j (by omega)) (o.2 _ _ _ _ q2), by rw [en]; exact VL_co (e t q ht) q3⟩
theorem NUM.to {h h' : qm_H} {T T' i i' : Nat} (y : NUM h T i) (d : TDE h h' T T') (r : ROW h h' i i') : NUM h' T' i' := by
  obtain ⟨y1, y2, y3, y4, y5⟩ := y
  obtain ⟨d1, d2, d3, d4, d5⟩ := d
  obtain ⟨r1, r2, r3, r4, r5, -⟩ := r
  exact ⟨fun j hj => by rw [d1 j hj, r1 j hj]; exact y1 j hj, by rw [d2, r2]; exact y2, by rw [d3, r3]; exact y3, by rw [d4, r4]; exact y4, fun s hs => by rw [d5 s hs, r5 s hs]; exact y5 s hs⟩
theorem LYR.to {h h' : qm_H} {T T' i i' : Nat} (y : LYR h T i) (t' : TL h' T') (d : TDE h h' T T') (f : RFE h h' T T') (o : OB h h') (r : ROW h h' i i') : LYR h' T' i' := by
  obtain ⟨y1, y2, m, L, y3, y4, y5, y6, y7, y8⟩ := y
  refine ⟨t', y2.to d r, m, L, y3, by rw [r.2.1]; exact y4, fun s hs => by rw [r.2.2.2.2.1 s hs]; exact y5 s hs, ?_, ?_, ?_⟩
  · exact y6.to o (f 2 (by decide) (by decide)) (fun t _ ht j hj => r.2.2.2.2.2.1 (31 * t + j) (by omega))
  · exact y7.to o (f 3 (by decide) (by decide)) (fun t _ ht j hj => r.2.2.2.2.2.2.1 (161 * t + j) (by omega))
  · exact y8.to o (f 4 (by decide) (by decide)) (fun t _ ht j hj => r.2.2.2.2.2.2.2 (17 * t + j) (by omega))
def IMG (h : qm_H) (s : Nat) : Prop := (h.1 50 s = 1 ∧ ∃ T, 51 ≤ T ∧ h.2.2.1 7 s = some T ∧ LYR h T (s + 1)) ∨ (h.1 50 s = 0 ∧ h.2.2.1 7 s = none)
/-- what holds between two calls -/
def INV (h : qm_H) : Prop := 51 ≤ h.2.2.2.2 ∧ BY (h.1 27) ∧ LYR h 1 0 ∧ (∀ s, s < 3 → IMG h s) ∧ ∀ s s' T, s < 3 → s' < 3 → s ≠ s' → h.2.2.1 7 s = some T → h.2.2.1 7 s' ≠ some T
/-- a Told that is not touched -/
theorem LYR.ge {S R : List Nat} {n : Nat} {h h' : qm_H} {T i : Nat} (y : LYR h T i) (a : ge S R n h h') (o : OB h h') (hS : ∀ k, k ≤ 5 → T + k ∉ S) (hR : ∀ k, k ≤ 5 → T + k ∉ R) (r : ROW h h' i i) : LYR h' T i := by
  have l := y.1
  have hz := l.1
  have e := fun k (hk : k ≤ 5) => (a.2 (T + k) (by omega)).1 (hS k hk)
  have e0 : h'.1 T = h.1 T := e 0 (by decide)
  exact y.to (l.ge a (hR 0 (by decide))) ⟨fun j _ => by rw [e 1 (by decide)], by rw [e0], by rw [e0], by rw [e0], fun s _ => by rw [e 5 (by decide)]⟩ (fun k x z t ht => rd_ge a (by omega) (hR k (by omega)) t) o r
/-- a call that changes at most the first layer -/
theorem INV.l0 {S R : List Nat} {n : Nat} {h h' : qm_H} (v : INV h) (a : ge S R n h h') (hS : ∀ q, q ∈ S → q < 50) (hR : ∀ q, q ∈ R → q < 51 ∧ q ≠ 7) (r : ∀ i, 1 ≤ i → i ≤ 3 → ROW h h' i i) (b : BY (h'.1 27)) (l : LYR h' 1 0) : INV h' := by
  obtain ⟨v1, v2, v3, v4, v5⟩ := v
  have e7 : h'.2.2.1 7 = h.2.2.1 7 := (a.2 7 (by omega)).2.2.1 (fun z => (hR 7 z).2 rfl)
  have e50 : h'.1 50 = h.1 50 := (a.2 50 (by omega)).1 (fun z => by have := hS 50 z; omega)
  have o := OB.ge a (fun q hq => by have := hS q hq; omega) (fun q hq => (hR q hq).1)
  refine ⟨by rw [a.1]; omega, b, l, fun s hs => ?_, fun s s' T h1 h2 h3 => by rw [e7]; exact v5 s s' T h1 h2 h3⟩
  rcases v4 s hs with ⟨x1, T, x2, x3, x4⟩ | ⟨x1, x2⟩
  · exact Or.inl ⟨by rw [e50]; exact x1, T, x2, by rw [e7]; exact x3, x4.ge a o (fun k hk z => by have := hS _ z; omega) (fun k hk z => by have := (hR _ z).1; omega) (r (s + 1) (by omega) (by omega))⟩
  · exact Or.inr ⟨by rw [e50]; exact x1, by rw [e7]; exact x2⟩
/-- a call that changes nothing of it -/
theorem INV.keep {S : List Nat} {n : Nat} {h h' : qm_H} (v : INV h) (a : ge S [] n h h') (hS : ∀ q, q ∈ S → 7 < q ∧ q < 50 ∧ (q ≤ 26 ∨ 35 ≤ q)) : INV h' := by
  have e : ∀ q, 27 ≤ q → q ≤ 34 → h'.1 q = h.1 q := fun q h1 h2 => (a.2 q (by have := v.1; omega)).1 (fun z => by have := hS q z; omega)
  have o : OB h h' := OB.ge a (fun q hq => by have := hS q hq; omega) (fun q hq => by simp at hq)
  exact v.l0 a (fun q hq => (hS q hq).2.1) (fun q hq => by simp at hq) (fun i _ _ => ROW.same e i) (by rw [e 27 (by decide) (by decide)]; exact v.2.1) (v.2.2.1.ge a o (fun k hk z => by have := hS _ z; omega) (fun k hk z => by simp at z) (ROW.same e 0))
theorem INV.st {h : qm_H} (v : INV h) : ∃ (m : Nat → Nat) (L : Nat), L ≤ 600 ∧ h.1 28 0 = nI L ∧ h.1 1 1 = nI L ∧ (∀ s, s < 3 → m s ≤ 2 ∧ h.1 31 s = nI (m s) ∧ h.1 6 s = nI (m s)) ∧ TWN h 3 (m 0) (tw h) ∧ YRS h 4 (m 1) (yw h) ∧ LGS h 5 (m 2) (gw h) ∧ ST h (m 0) (m 1) (m 2) := by
  obtain ⟨v1, v2, ⟨l1, ⟨n1, n2, n3, n4, n5⟩, m, L, y3, y4, y5, y6, y7, y8⟩, v4⟩ := v
  rw [LT_0] at y6
  rw [LYy_0] at y7
  rw [LGg_0] at y8
  have c := fun s (hs : s < 3) => (y5 s hs)
  have c0 := c 0 (by decide)
  have c1 := c 1 (by decide)
  have c2 := c 2 (by decide)
  refine ⟨m, L, y3, y4, n2.trans y4, fun s hs => ?_, y6, y7, y8, c0.2, c0.1, c1.2, c1.1, c2.2, c2.1, fun t ht => ?_, fun t ht => ?_, fun t ht => ?_⟩
  · obtain ⟨k1, k2⟩ := c s hs
    rw [Nat.mul_zero, Nat.zero_add] at k2
    have := n5 s hs
    rw [Nat.mul_zero, Nat.zero_add] at this
    exact ⟨k1, k2, this.trans k2⟩
  · obtain ⟨Q, -, -, q⟩ := (y6 t (by have := c0.1; omega)).1 ht
    exact q
  · obtain ⟨Q, -, -, q, -⟩ := (y7 t (by have := c1.1; omega)).1 ht
    exact q
  · obtain ⟨Q, -, -, q⟩ := (y8 t (by have := c2.1; omega)).1 ht
    exact q
