/-! the class: images -/
theorem is_nwb {b : Bool} {h : qm_H} {T kd k n : Nat} (i : qm_is b h T kd) (hl : T < h.2.2.2.2) : qm_is b (qm_nw h k n) T kd := by
  unfold qm_is at i ⊢
  cases e : (bif b then qm_SKK[T]? else none) with
  | some x => rw [e] at i; exact i
  | none =>
    rw [e] at i
    refine ⟨Nat.lt_succ_of_lt i.1, ?_⟩
    show (va_up h.2.2.2.1 h.2.2.2.2 (k, n) T).1 = kd
    rw [up_n _ _ (Nat.ne_of_lt hl)]; exact i.2
/-- what a new Told is -/
def iT1 (h : qm_H) (T : Nat) : qm_H := qm_si (qm_si (qm_si (qm_sr (qm_nw h 9 600) T 0 (some h.2.2.2.2)) T 1 0) T 2 0) T 3 (-1)
def iT2 (h : qm_H) (T : Nat) : qm_H := qm_sr (qm_nw (iT1 h T) 14 2) T 4 (some (iT1 h T).2.2.2.2)
def iT3 (h : qm_H) (T : Nat) : qm_H := qm_sr (qm_nw (iT2 h T) 12 2) T 5 (some (iT2 h T).2.2.2.2)
def iT4 (h : qm_H) (T : Nat) : qm_H := qm_sr (qm_nw (iT3 h T) 12 2) T 6 (some (iT3 h T).2.2.2.2)
def iTold (h : qm_H) (T : Nat) : qm_H := qm_sr (qm_nw (iT4 h T) 10 3) T 7 (some (iT4 h T).2.2.2.2)
theorem n_told {G : qm_G} {b : Bool} (hG : G.2.2.2.2 = b) (d : Nat) (h : qm_H) {T : Nat} (i : qm_is b h T 5) (hl : T < h.2.2.2.2) (hw : ∀ k v, qm_wr b T k v) (hz : h.2.2.2.2 + 5 < 1000000) : qm_Ev G (d + 1) 5 609 qyX7_init [.ref T] h (fun r h' => r = none ∧ h' = iTold h T) := by
  refine qm_Ev.by (M := mX7_init) okX7_init (Nat.le_of_ble_eq_true rfl) hG fun z hA => ?_
  have i1 : qm_is b (qm_nw h 9 600) T 5 := is_nwb i hl
  have i1' : qm_is b (iT1 h T) T 5 := i1
  have i2 : qm_is b (qm_nw (iT1 h T) 14 2) T 5 := is_nwb i1' (by show T < h.2.2.2.2 + 1; omega)
  have i2' : qm_is b (iT2 h T) T 5 := i2
  have i3 : qm_is b (qm_nw (iT2 h T) 12 2) T 5 := is_nwb i2' (by show T < h.2.2.2.2 + 1 + 1; omega)
  have i3' : qm_is b (iT3 h T) T 5 := i3
  have i4 : qm_is b (qm_nw (iT3 h T) 12 2) T 5 := is_nwb i3' (by show T < h.2.2.2.2 + 1 + 1 + 1; omega)
  have i4' : qm_is b (iT4 h T) T 5 := i4
  have i5 : qm_is b (qm_nw (iT4 h T) 10 3) T 5 := is_nwb i4' (by show T < h.2.2.2.2 + 1 + 1 + 1 + 1; omega)
  exact qm_wp_ok hA [] 80 _ _ _ _ _ _ ⟨by decide, by decide, (by omega : h.2.2.2.2 < 1000000), by decide, by decide, i1, hw _ _, i1, trivial, i1, trivial, i1, trivial, by decide, by decide, (by omega : h.2.2.2.2 + 1 < 1000000), by decide, by decide, i2, hw _ _, by decide, by decide, (by omega : h.2.2.2.2 + 1 + 1 < 1000000), by decide, by decide, i3, hw _ _, by decide, by decide, (by omega : h.2.2.2.2 + 1 + 1 + 1 < 1000000), by decide, by decide, i4, hw _ _, by decide, by decide, (by omega : h.2.2.2.2 + 1 + 1 + 1 + 1 < 1000000), by decide, by decide, i5, hw _ _, rfl, rfl, rfl⟩
def tF8 (j : Nat) : Nat := if j = 0 then 0 else 3 + j
def tK5 (j : Nat) : Nat × Nat := if j = 0 then (9, 600) else if j = 1 then (14, 2) else if j = 4 then (10, 3) else (12, 2)
/-- a Told in the making: k of its arrays are there -/
def NT (h0 h : qm_H) (T k : Nat) : Prop := h.2.2.2.2 = T + 1 + k ∧ h.2.2.2.1 T = (5, 0) ∧ (∀ q, q < T → h.1 q = h0.1 q ∧ h.2.1 q = h0.2.1 q ∧ h.2.2.1 q = h0.2.2.1 q ∧ h.2.2.2.1 q = h0.2.2.2.1 q) ∧ ∀ j, j < k → h.2.2.1 T (tF8 j) = some (T + 1 + j) ∧ h.2.2.2.1 (T + 1 + j) = tK5 j
theorem NT.si {h0 h : qm_H} {T k j : Nat} {v : Int32} (t : NT h0 h T k) : NT h0 (qm_si h T j v) T k := ⟨t.1, t.2.1, fun q hq => ⟨(si_ne _ _ _ (by omega)).trans (t.2.2.1 q hq).1, (t.2.2.1 q hq).2⟩, t.2.2.2⟩
theorem NT.nx {h0 h : qm_H} {T k : Nat} (t : NT h0 h T k) : NT h0 (qm_sr (qm_nw h (tK5 k).1 (tK5 k).2) T (tF8 k) (some h.2.2.2.2)) T (k + 1) := by
  obtain ⟨t1, t2, t3, t4⟩ := t
  have n0 : T ≠ h.2.2.2.2 := by omega
  have k5 : ∀ q, q ≠ h.2.2.2.2 → (qm_sr (qm_nw h (tK5 k).1 (tK5 k).2) T (tF8 k) (some h.2.2.2.2)).2.2.2.1 q = h.2.2.2.1 q := fun q hq => up_n _ _ hq
  have k6 : ∀ q, q ≠ T → q ≠ h.2.2.2.2 → (qm_sr (qm_nw h (tK5 k).1 (tK5 k).2) T (tF8 k) (some h.2.2.2.2)).2.2.1 q = h.2.2.1 q := fun q hp hq => (up_n _ _ hp).trans (up_n _ _ hq)
  have k7 : (qm_sr (qm_nw h (tK5 k).1 (tK5 k).2) T (tF8 k) (some h.2.2.2.2)).2.2.1 T = va_up (h.2.2.1 T) (tF8 k) (some h.2.2.2.2) := by
    refine (up_s _ _ _).trans ?_
    show va_up (va_up h.2.2.1 h.2.2.2.2 _ T) _ _ = _
    rw [up_n _ _ n0]
  refine ⟨by show h.2.2.2.2 + 1 = _; omega, by rw [k5 _ n0]; exact t2, fun q hq => ⟨(up_n _ _ (by omega)).trans (t3 q hq).1, (up_n _ _ (by omega)).trans (t3 q hq).2.1, by rw [k6 q (by omega) (by omega)]; exact (t3 q hq).2.2.1, by rw [k5 q (by omega)]; exact (t3 q hq).2.2.2⟩, fun j hj => ?_⟩
  rw [k7]
  by_cases c : j = k
  · subst c
    refine ⟨by rw [up_s, t1], ?_⟩
    rw [← t1]
    exact up_s _ _ _
  · have hne : tF8 j ≠ tF8 k := by
      unfold tF8
      split <;> split <;> omega
    rw [up_n _ _ hne, k5 _ (by omega)]
    exact t4 j (by omega)
theorem NT.told (h : qm_H) : NT h (iTold (qm_nw h 5 0) h.2.2.2.2) h.2.2.2.2 5 := by
  have t0 : NT h (qm_nw h 5 0) h.2.2.2.2 0 := ⟨rfl, up_s _ _ _, fun q hq => ⟨up_n _ _ (by omega), up_n _ _ (by omega), up_n _ _ (by omega), up_n _ _ (by omega)⟩, fun j hj => absurd hj (Nat.not_lt_zero _)⟩
  have t1 : NT h (iT1 (qm_nw h 5 0) h.2.2.2.2) h.2.2.2.2 1 := t0.nx.si.si.si
  have t2 : NT h (iT2 (qm_nw h 5 0) h.2.2.2.2) h.2.2.2.2 2 := t1.nx
  have t3 : NT h (iT3 (qm_nw h 5 0) h.2.2.2.2) h.2.2.2.2 3 := t2.nx
  have t4 : NT h (iT4 (qm_nw h 5 0) h.2.2.2.2) h.2.2.2.2 4 := t3.nx
  exact t4.nx
theorem NT.tl {h0 h : qm_H} {T : Nat} (t : NT h0 h T 5) (h5 : 51 ≤ T) : TL h T := by
  obtain ⟨t1, t2, t3, t4⟩ := t
  have i : ∀ j, j < 5 → qm_is true h (T + 1 + j) (tK5 j).1 := fun j hj => (is_hi (by omega)).mpr ⟨by omega, by rw [(t4 j hj).2]⟩
  have k : ∀ j, j < 5 → (qm_kn true h (T + 1 + j)).2 = (tK5 j).2 := fun j hj => by rw [kn_hi (by omega), (t4 j hj).2]
  have r : ∀ j, j < 5 → qm_rd true h T (tF8 j) = some (T + 1 + j) := fun j hj => by rw [rd_hi h5]; exact (t4 j hj).1
  exact ⟨by omega, (is_hi h5).mpr ⟨by omega, by rw [t2]⟩, ⟨r 0 (by decide), r 1 (by decide), r 2 (by decide), r 3 (by decide), r 4 (by decide)⟩, ⟨i 0 (by decide), i 1 (by decide), i 2 (by decide), i 3 (by decide), i 4 (by decide)⟩, k 0 (by decide), k 1 (by decide), k 2 (by decide), k 3 (by decide), k 4 (by decide)⟩
theorem TL.dj {h : qm_H} {A T : Nat} (a : TL h A) (t : TL h T) (e : A ≠ T) : A + 6 ≤ T ∨ T + 6 ≤ A := by
  obtain ⟨-, a2, -, ⟨i1, i2, i3, i4, i5⟩, -⟩ := a
  obtain ⟨-, t2, -, ⟨j1, j2, j3, j4, j5⟩, -⟩ := t
  have x1 := is_one i1 t2 (by decide)
  have x2 := is_one i2 t2 (by decide)
  have x3 := is_one i3 t2 (by decide)
  have x4 := is_one i4 t2 (by decide)
  have x5 := is_one i5 t2 (by decide)
  have y1 := is_one j1 a2 (by decide)
  have y2 := is_one j2 a2 (by decide)
  have y3 := is_one j3 a2 (by decide)
  have y4 := is_one j4 a2 (by decide)
  have y5 := is_one j5 a2 (by decide)
  omega
/-- what a Told refers to -/
theorem LYR.vq {h : qm_H} {T i : Nat} (y : LYR h T i) (f : ∀ k, 2 ≤ k → k ≤ 4 → FR (T + k)) : ∀ t, t < 2 → ∀ k, 2 ≤ k → k ≤ 4 → ∀ Q, h.2.2.1 (T + k) t = some Q → Q < h.2.2.2.2 ∧ qm_is true h Q (if k = 2 then 6 else 2) := by
  obtain ⟨y1, y2, m, L, y3, y4, y5, y6, y7, y8⟩ := y
  intro t ht k k2 k4 Q e
  rw [← rd_fr (f k k2 k4)] at e
  rcases (by omega : k = 2 ∨ k = 3 ∨ k = 4) with z | z | z <;> subst z
  · obtain ⟨a1, a2⟩ := y6 t ht
    rcases Nat.lt_or_ge t (m 0) with c | c
    · obtain ⟨Q', q1, q2, -⟩ := a1 c
      rw [q1] at e
      cases e
      exact ⟨by have := q2.1; omega, q2.2.1⟩
    · rw [a2 c] at e; cases e
  · obtain ⟨a1, a2⟩ := y7 t ht
    rcases Nat.lt_or_ge t (m 1) with c | c
    · obtain ⟨Q', q1, q2, -⟩ := a1 c
      rw [q1] at e
      cases e
      exact ⟨by have := q2.1; omega, q2.2.1⟩
    · rw [a2 c] at e; cases e
  · obtain ⟨a1, a2⟩ := y8 t ht
    rcases Nat.lt_or_ge t (m 2) with c | c
    · obtain ⟨Q', q1, q2, -⟩ := a1 c
      rw [q1] at e
      cases e
      exact ⟨by have := q2.1; omega, q2.2.1⟩
    · rw [a2 c] at e; cases e
theorem fr_1 (k : Nat) (a : 2 ≤ k) (b : k ≤ 4) : FR (1 + k) := by unfold FR; omega
theorem fr_T {T : Nat} (h : 51 ≤ T) (k : Nat) : FR (T + k) := by unfold FR; omega
/-- a Told stays as it is -/
def STY (h h' : qm_H) (T : Nat) : Prop := TL h' T ∧ TDE h h' T T ∧ RFE h h' T T
theorem STY.ge {S R : List Nat} {n T : Nat} {h h' : qm_H} (a : ge S R n h h') (l : TL h T) (hS : ∀ k, k ≤ 5 → T + k ∉ S) (hR : ∀ k, k ≤ 5 → T + k ∉ R) : STY h h' T := by
  have hz := l.1
  have e := fun k (hk : k ≤ 5) => (a.2 (T + k) (by omega)).1 (hS k hk)
  have e0 : h'.1 T = h.1 T := e 0 (by decide)
  exact ⟨l.ge a (hR 0 (by decide)), ⟨fun j _ => by rw [e 1 (by decide)], by rw [e0], by rw [e0], by rw [e0], fun s _ => by rw [e 5 (by decide)]⟩, fun k x z t ht => rd_ge a (by omega) (hR k (by omega)) t⟩
theorem STY.tr {T : Nat} {h h1 h2 : qm_H} (a : STY h h1 T) (b : STY h1 h2 T) : STY h h2 T := by
  obtain ⟨a1, ⟨a2, a3, a4, a5, a6⟩, a7⟩ := a
  obtain ⟨b1, ⟨b2, b3, b4, b5, b6⟩, b7⟩ := b
  exact ⟨b1, ⟨fun j hj => (b2 j hj).trans (a2 j hj), b3.trans a3, b4.trans a4, b5.trans a5, fun s hs => (b6 s hs).trans (a6 s hs)⟩, fun k x z t ht => (b7 k x z t ht).trans (a7 k x z t ht)⟩
theorem BE.tde {A O : Nat} {h h' : qm_H} (b : BE A O h h') : TDE h h' O A := ⟨b.2.1, b.2.2.1.1, b.2.2.1.2.1, b.2.2.1.2.2, b.2.2.2.1⟩
theorem BE.rfe {A O : Nat} {h h' : qm_H} (b : BE A O h h') (fA : ∀ k, 2 ≤ k → k ≤ 4 → FR (A + k)) (fO : ∀ k, 2 ≤ k → k ≤ 4 → FR (O + k)) : RFE h h' O A := fun k x y t ht => by
  rw [rd_fr (fA k x y), rd_fr (fO k x y)]; exact b.2.2.2.2 k x y t ht
/-- the image s is made: it lies at T -/
def IMR (h h' : qm_H) (s T : Nat) : Prop := 51 ≤ T ∧ (h.2.2.1 7 s = some T ∨ h.2.2.1 7 s = none ∧ T = h.2.2.2.2) ∧ h'.2.2.1 7 s = some T ∧ (∀ j, j ≠ s → h'.2.2.1 7 j = h.2.2.1 7 j) ∧ TL h' T ∧ TDE h h' 1 T ∧ RFE h h' 1 T ∧ OB h h' ∧ (∀ U, TL h U → U ≠ T → STY h h' U) ∧ (∀ q, q < 51 → h'.1 q = h.1 q ∧ h'.2.1 q = h.2.1 q) ∧ h.2.2.2.2 ≤ h'.2.2.2.2 ∧ h'.2.2.2.2 ≤ h.2.2.2.2 + 8
theorem BE.sty {A O U : Nat} {h h' : qm_H} (b : BE A O h h') (a : TL h A) (u : TL h U) (e : U ≠ A) : STY h h' U := by
  have d := TL.dj a u (Ne.symm e)
  exact STY.ge b.1 u (fun k hk z => by simp [TLi] at z; omega) (fun k hk z => by simp [TLr] at z; omega)
theorem b_image {G : qm_G} (hG : G.2.2.2.2 = true) (d : Nat) (h : qm_H) (v : INV h) (hz : h.2.2.2.2 + 8 < 1000000) (k : Int32) : qm_Ev G (d + 2) 6 617 qyX9_image [.ref 0, .int k] h (fun r h' => (inb k 3 = false ∧ r = some (.int 0) ∧ h = h') ∨ (∃ s T, s < 3 ∧ k = nI s ∧ r = some (.int 1) ∧ IMR h h' s T)) := by
  have v5 := v.1
  obtain ⟨B, hB⟩ := BY.tp v.2.1
  have hB2 : TP (h.1 2) B := fun k hk => by
    have := v.2.2.1.2.1.1 k hk
    rw [Nat.mul_zero, Nat.zero_add] at this
    have : h.1 2 k = h.1 27 k := this
    rw [this]; exact hB k hk
  have ik := inb_lt (a := k) (n := 3) (by decide)
  refine qm_Ev.by (M := mX9_image) okX9_image (Nat.le_of_ble_eq_true rfl) hG fun z hA => ?_
  by_cases c : inb k 3 = true
  · obtain ⟨s, s3, rfl⟩ := inb_e (by decide) c
    have es : (nI s).toNatClampNeg = s := nI_clamp (by omega)
    have in3 : vp_in (nI s) 3 := vp_in_nI s3 (by decide)
    cases e : h.2.2.1 7 s with
    | some T =>
      obtain ⟨T', t1, t2, t3⟩ : ∃ T', 51 ≤ T' ∧ h.2.2.1 7 s = some T' ∧ LYR h T' (s + 1) := by
        rcases v.2.2.2.1 s s3 with ⟨-, q⟩ | ⟨-, q⟩
        · exact q
        · rw [e] at q; cases q
      rw [e] at t2
      cases t2
      have be := c_become hG d h t3.1 (TL.one v5) (Or.inr (by omega)) (fun k _ _ => fr_T t1 k) fr_1 hB2 (v.2.2.1.vq fr_1)
      refine qm_wp_ok hA [] 40 _ _ _ _ _ _ ⟨fun q => absurd q (nI_pos (by omega)), fun _ => ⟨fun _ => ⟨rfl, _, rfl, rfl, in3, some T, (by rw [rd_fr (by unfold FR; omega), es]; exact e), ?_⟩, fun (q : ¬ nI s < nI 3) => absurd (nI_lt s3 (by decide)) q⟩⟩
      refine ⟨rfl, _, rfl, t3.1.2.1, 0, 0, _, be, ⟨by decide, by decide⟩, ?_⟩
      rintro _ h1 ⟨rfl, b⟩
      have lo : ∀ q, q < 51 → q ∉ TLi T ∧ q ∉ TLr T := fun q hq => ⟨fun z => by simp [TLi] at z; omega, fun z => by simp [TLr] at z; omega⟩
      exact ⟨rfl, Or.inr ⟨s, T, s3, rfl, rfl, t1, Or.inl e, by rw [(b.1.2 7 (by omega)).2.2.1 (lo 7 (by omega)).2]; exact e, fun j _ => by rw [(b.1.2 7 (by omega)).2.2.1 (lo 7 (by omega)).2], t3.1.ge b.1 (fun z => by simp [TLr] at z), b.tde, b.rfe (fun k _ _ => fr_T t1 k) fr_1, OB.tl b.1 t3.1, fun U hU hne => b.sty t3.1 hU hne, fun q hq => ⟨(b.1.2 q (by omega)).1 (lo q hq).1, (b.1.2 q (by omega)).2.1 (lo q hq).1⟩, by rw [b.1.1]; omega, by rw [b.1.1]; omega⟩⟩
    | none =>
      have nt := NT.told h
      have nl := nt.tl v5
      have i0 : qm_is true (qm_nw h 5 0) h.2.2.2.2 5 := (is_hi v5).mpr ⟨Nat.lt_succ_self _, congrArg Prod.fst (up_s h.2.2.2.1 h.2.2.2.2 (5, 0))⟩
      have n0 := n_told hG d (qm_nw h 5 0) i0 (Nat.lt_succ_self _) (fun k v => wr_hi v5) (by show h.2.2.2.2 + 1 + 5 < 1000000; omega)
      obtain ⟨hI, hhI⟩ : ∃ hI, hI = iTold (qm_nw h 5 0) h.2.2.2.2 := ⟨_, rfl⟩
      rw [← hhI] at n0 nt nl
      obtain ⟨h0, hh0⟩ : ∃ h0, h0 = qm_sr hI 7 (nI s).toNatClampNeg (some h.2.2.2.2) := ⟨_, rfl⟩
      have gI : ge [] [7] 6 h hI := ⟨by rw [nt.1], fun q hq => ⟨fun _ => (nt.2.2.1 q hq).1, fun _ => (nt.2.2.1 q hq).2.1, fun _ => (nt.2.2.1 q hq).2.2.1, (nt.2.2.1 q hq).2.2.2⟩⟩
      have gs : ge [] [7] 0 hI h0 := by rw [hh0]; exact ge.rf.sr (List.mem_singleton.mpr rfl)
      have g0 : ge [] [7] 6 h h0 := gI.tr (n := 0) gs
      have l0 : TL h0 h.2.2.2.2 := nl.ge gs (by simp; omega)
      have o0 : OB h h0 := OB.ge g0 (fun q hq => by simp at hq) (fun q hq => by simp at hq; omega)
      have y0 : LYR h0 1 0 := v.2.2.1.ge g0 o0 (fun k _ => by simp) (fun k hk => by simp; omega) (ROW.same (fun q a b => (g0.2 q (by omega)).1 (by simp)) 0)
      have z0 : h0.2.2.2.2 = h.2.2.2.2 + 6 := g0.1
      have be := c_become hG d h0 l0 (TL.one (by omega)) (Or.inr (by omega)) (fun k _ _ => fr_T v5 k) fr_1 (B := B) (by rw [show h0.1 (1 + 1) = h.1 2 from (g0.2 2 (by omega)).1 (by simp)]; exact hB2) (y0.vq fr_1)
      have isT : qm_is true hI h.2.2.2.2 5 := nl.2.1
      have g23 : qm_PW G mX9_image z 23 6 617 [vr 0, vu, vr h.2.2.2.2] [] h0 := by
        refine qm_wp_ok hA [] 20 _ _ _ _ _ _ ⟨rfl, _, rfl, l0.2.1, 0, 0, _, be, ⟨by decide, by decide⟩, ?_⟩
        rintro _ h1 ⟨rfl, b⟩
        have lo : ∀ q, q < 51 → q ∉ TLi h.2.2.2.2 ∧ q ∉ TLr h.2.2.2.2 := fun q hq => ⟨fun z => by simp [TLi] at z; omega, fun z => by simp [TLr] at z; omega⟩
        have e7 : h1.2.2.1 7 = h0.2.2.1 7 := (b.1.2 7 (by omega)).2.2.1 (lo 7 (by omega)).2
        have s1 := STY.ge g0 (TL.one v5) (fun k _ => by simp) (fun k hk => by simp; omega)
        refine ⟨rfl, Or.inr ⟨s, h.2.2.2.2, s3, rfl, rfl, v5, Or.inr ⟨e, rfl⟩, ?_, fun j hj => ?_, l0.ge b.1 (fun z => by simp [TLr] at z), ?_, ?_, o0.tr (OB.tl b.1 l0), fun U hU hne => ?_, fun q hq => ?_, by rw [b.1.1, z0]; omega, by rw [b.1.1, z0]; omega⟩⟩
        · rw [e7, hh0, es, sr_s]
        · rw [e7, hh0, es, sr_o _ _ (Or.inr hj), (nt.2.2.1 7 (by omega)).2.2.1]
        · obtain ⟨-, ⟨a2, a3, a4, a5, a6⟩, -⟩ := s1
          obtain ⟨b2, b3, b4, b5, b6⟩ := b.tde
          exact ⟨fun j hj => (b2 j hj).trans (a2 j hj), b3.trans a3, b4.trans a4, b5.trans a5, fun s hs => (b6 s hs).trans (a6 s hs)⟩
        · exact fun k x y t ht => (b.rfe (fun k _ _ => fr_T v5 k) fr_1 k x y t ht).trans (s1.2.2 k x y t ht)
        · have u2 := is_one hU.2.1 (show qm_is true h 2 9 from rfl) (by decide)
          have u3 := is_one hU.2.1 (show qm_is true h 3 14 from rfl) (by decide)
          have u4 := is_one hU.2.1 (show qm_is true h 4 12 from rfl) (by decide)
          have u5 := is_one hU.2.1 (show qm_is true h 5 12 from rfl) (by decide)
          have u6 := is_one hU.2.1 (show qm_is true h 6 10 from rfl) (by decide)
          have u7 := is_one hU.2.1 (show qm_is true h 7 13 from rfl) (by decide)
          have s2 := STY.ge g0 hU (fun k _ => by simp) (fun k hk => by simp; omega)
          exact s2.tr (b.sty l0 s2.1 hne)
        · rw [(b.1.2 q (by omega)).1 (lo q hq).1, (b.1.2 q (by omega)).2.1 (lo q hq).1]
          exact ⟨(g0.2 q (by omega)).1 (by simp), (g0.2 q (by omega)).2.1 (by simp)⟩
      rw [hh0] at g23
      refine qm_wp_ok hA [23] 60 _ _ _ _ _ _ ⟨fun q => absurd q (nI_pos (by omega)), fun _ => ⟨fun _ => ⟨rfl, _, rfl, rfl, in3, none, (by rw [rd_fr (by unfold FR; omega), es]; exact e), (by omega : h.2.2.2.2 < 1000000), by decide, by decide, 5, 609, _, n0, ⟨by decide, by decide⟩, ?_⟩, fun (q : ¬ nI s < nI 3) => absurd (nI_lt s3 (by decide)) q⟩⟩
      rintro _ _ ⟨rfl, rfl⟩
      exact ⟨rfl, _, rfl, rfl, isT, in3, wr_fr (by unfold FR; omega) _ _, qm_PW.mask [true, false, true] g23⟩
  · have c' : inb k 3 = false := by simpa using c
    rw [ik, Bool.and_eq_true, decide_eq_true_eq, decide_eq_true_eq] at c
    exact qm_wp_ok hA [] 10 _ _ _ _ _ _ ⟨fun _ => ⟨rfl, Or.inl ⟨c', rfl, rfl⟩⟩, fun (q : ¬ k < 0) => ⟨fun (q2 : k < nI 3) => absurd ⟨Int32.not_lt.mp q, q2⟩ c, fun _ => ⟨rfl, Or.inl ⟨c', rfl, rfl⟩⟩⟩⟩
theorem b_again {G : qm_G} (hG : G.2.2.2.2 = true) (d : Nat) (h : qm_H) (v : INV h) (k : Int32) : qm_Ev G (d + 2) 0 0 qyX9_again [.ref 0, .int k] h (fun r h' => ((inb k 3 = false ∨ ∃ s, s < 3 ∧ k = nI s ∧ h.2.2.1 7 s = none) ∧ r = some (.int 0) ∧ h = h') ∨ (∃ s T, s < 3 ∧ k = nI s ∧ r = some (.int 1) ∧ h.2.2.1 7 s = some T ∧ BE 1 T h h')) := by
  have v5 := v.1
  have ik := inb_lt (a := k) (n := 3) (by decide)
  refine qm_Ev.by (M := mX9_again) okX9_again (Nat.le_of_ble_eq_true rfl) hG fun z hA => ?_
  by_cases c : inb k 3 = true
  · obtain ⟨s, s3, rfl⟩ := inb_e (by decide) c
    have es : (nI s).toNatClampNeg = s := nI_clamp (by omega)
    have in3 : vp_in (nI s) 3 := vp_in_nI s3 (by decide)
    cases e : h.2.2.1 7 s with
    | some T =>
      obtain ⟨T', t1, t2, t3⟩ : ∃ T', 51 ≤ T' ∧ h.2.2.1 7 s = some T' ∧ LYR h T' (s + 1) := by
        rcases v.2.2.2.1 s s3 with ⟨-, q⟩ | ⟨-, q⟩
        · exact q
        · rw [e] at q; cases q
      rw [e] at t2
      cases t2
      have bT : ∃ B, TP (h.1 (T + 1)) B := by
        obtain ⟨B, hB⟩ := BY.tp v.2.1
        refine ⟨fun k => if hk : 600 * (s + 1) + k < 2400 then (v.2.1 _ hk).choose else 0, fun k hk => ?_⟩
        have h2 : 600 * (s + 1) + k < 2400 := by omega
        show h.1 (T + 1) k = byI (if hk : 600 * (s + 1) + k < 2400 then (v.2.1 _ hk).choose else 0) ∧ (if hk : 600 * (s + 1) + k < 2400 then (v.2.1 _ hk).choose else 0) < 256
        rw [dif_pos h2, t3.2.1.1 k hk]
        exact ⟨(v.2.1 _ h2).choose_spec.2, (v.2.1 _ h2).choose_spec.1⟩
      obtain ⟨B, hB⟩ := bT
      have be := c_become hG d h (TL.one v5) t3.1 (Or.inl (by omega)) fr_1 (fun k _ _ => fr_T t1 k) hB (t3.vq (fun k _ _ => fr_T t1 k))
      refine qm_wp_ok hA [] 40 _ _ _ _ _ _ ⟨fun q => absurd q (nI_pos (by omega)), fun _ => ⟨fun _ => ⟨rfl, _, rfl, rfl, in3, some T, (by rw [rd_fr (by unfold FR; omega), es]; exact e), ?_⟩, fun (q : ¬ nI s < nI 3) => absurd (nI_lt s3 (by decide)) q⟩⟩
      refine ⟨rfl, _, rfl, rfl, 0, 0, _, be, ⟨by decide, by decide⟩, ?_⟩
      rintro _ h1 ⟨rfl, b⟩
      exact ⟨rfl, Or.inr ⟨s, T, s3, rfl, rfl, e, b⟩⟩
    | none =>
      exact qm_wp_ok hA [] 40 _ _ _ _ _ _ ⟨fun q => absurd q (nI_pos (by omega)), fun _ => ⟨fun _ => ⟨rfl, _, rfl, rfl, in3, none, (by rw [rd_fr (by unfold FR; omega), es]; exact e), rfl, Or.inl ⟨Or.inr ⟨s, s3, rfl, e⟩, rfl, rfl⟩⟩, fun (q : ¬ nI s < nI 3) => absurd (nI_lt s3 (by decide)) q⟩⟩
  · have c' : inb k 3 = false := by simpa using c
    rw [ik, Bool.and_eq_true, decide_eq_true_eq, decide_eq_true_eq] at c
    exact qm_wp_ok hA [] 10 _ _ _ _ _ _ ⟨fun _ => ⟨rfl, Or.inl ⟨Or.inl c', rfl, rfl⟩⟩, fun (q : ¬ k < 0) => ⟨fun (q2 : k < nI 3) => absurd ⟨Int32.not_lt.mp q, q2⟩ c, fun _ => ⟨rfl, Or.inl ⟨Or.inl c', rfl, rfl⟩⟩⟩⟩
