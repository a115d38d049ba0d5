/-! frames: n new places, else nothing but the rows S and the references at R -/
def ge (S R : List Nat) (n : Nat) (h h' : qm_H) : Prop := h'.2.2.2.2 = h.2.2.2.2 + n ∧ ∀ q, q < h.2.2.2.2 → (q ∉ S → h'.1 q = h.1 q) ∧ (q ∉ S → h'.2.1 q = h.2.1 q) ∧ (q ∉ R → h'.2.2.1 q = h.2.2.1 q) ∧ h'.2.2.2.1 q = h.2.2.2.1 q
theorem ge.gr {S : List Nat} {n : Nat} {h h' : qm_H} (a : gr S n h h') : ge S [] n h h' := ⟨a.1, fun q hq => ⟨(a.2 q hq).1, fun _ => (a.2 q hq).2.1, fun _ => (a.2 q hq).2.2.1, (a.2 q hq).2.2.2⟩⟩
theorem ge.sb {S : List Nat} {h h' : qm_H} (a : sb S h h') : ge S [] 0 h h' := ge.gr (gr.of a)
theorem ge.rf {S R : List Nat} {h : qm_H} : ge S R 0 h h := ⟨rfl, fun _ _ => ⟨fun _ => rfl, fun _ => rfl, fun _ => rfl, rfl⟩⟩
theorem ge.tr {S R : List Nat} {m n : Nat} {h h1 h2 : qm_H} (a : ge S R m h h1) (b : ge S R n h1 h2) : ge S R (m + n) h h2 := ⟨by rw [b.1, a.1, Nat.add_assoc], fun q hq => by
  obtain ⟨a1, a2, a3, a4⟩ := a.2 q hq
  obtain ⟨b1, b2, b3, b4⟩ := b.2 q (by rw [a.1]; omega)
  exact ⟨fun z => (b1 z).trans (a1 z), fun z => (b2 z).trans (a2 z), fun z => (b3 z).trans (a3 z), b4.trans a4⟩⟩
theorem ge.mono {S S' R R' : List Nat} {n : Nat} {h h' : qm_H} (a : ge S R n h h') (hs : ∀ q, q ∈ S → q ∈ S') (hr : ∀ q, q ∈ R → q ∈ R') : ge S' R' n h h' := ⟨a.1, fun q hq => ⟨fun z => (a.2 q hq).1 (fun y => z (hs q y)), fun z => (a.2 q hq).2.1 (fun y => z (hs q y)), fun z => (a.2 q hq).2.2.1 (fun y => z (hr q y)), (a.2 q hq).2.2.2⟩⟩
theorem ge.si {S R : List Nat} {n : Nat} {h h1 : qm_H} (a : ge S R n h h1) {p k : Nat} {v : Int32} (hp : p ∈ S) : ge S R n h (qm_si h1 p k v) := a.tr (n := 0) ⟨rfl, fun q _ => ⟨fun z => si_ne _ _ _ (fun e => z (by rw [e]; exact hp)), fun _ => rfl, fun _ => rfl, rfl⟩⟩
theorem ge.sr {S R : List Nat} {n : Nat} {h h1 : qm_H} (a : ge S R n h h1) {p k : Nat} {v : Option Nat} (hp : p ∈ R) : ge S R n h (qm_sr h1 p k v) := a.tr (n := 0) ⟨rfl, fun q _ => ⟨fun _ => rfl, fun _ => rfl, fun z => up_n _ _ (fun e => z (by rw [e]; exact hp)), rfl⟩⟩
theorem is_ge {S R : List Nat} {n : Nat} {h h' : qm_H} (a : ge S R n h h') {p kd : Nat} (hp : p < h.2.2.2.2) (k : qm_is true h p kd) : qm_is true h' p kd := by
  unfold qm_is at k ⊢
  rw [a.1, (a.2 p hp).2.2.2]
  cases e : (bif true then qm_SKK[p]? else none) with
  | some x => rw [e] at k; exact k
  | none => rw [e] at k; exact ⟨by omega, k.2⟩
theorem kn_ge {S R : List Nat} {n : Nat} {h h' : qm_H} (a : ge S R n h h') {p : Nat} (hp : p < h.2.2.2.2) : qm_kn true h' p = qm_kn true h p := by
  unfold qm_kn
  rw [(a.2 p hp).2.2.2]
theorem rd_ge {S R : List Nat} {n : Nat} {h h' : qm_H} (a : ge S R n h h') {p : Nat} (hp : p < h.2.2.2.2) (hR : p ∉ R) (k : Nat) : qm_rd true h' p k = qm_rd true h p k := by
  unfold qm_rd
  rw [(a.2 p hp).2.2.1 hR]
theorem TO.ge {S R : List Nat} {m : Nat} {h h' : qm_H} {P n : Nat} {w : Nat → Int32} (t : TO h P w n) (a : ge S R m h h') (hS : ∀ k, k ≤ 7 → P + k ∉ S) (hR : P ∉ R) : TO h' P w n := by
  obtain ⟨⟨t1, t2⟩, t3, t4, t5, t6, t7, t8⟩ := t
  have e : ∀ k, k ≤ 7 → h'.1 (P + k) = h.1 (P + k) := fun k hk => (a.2 (P + k) (by omega)).1 (hS k hk)
  have eL := (a.2 P (by omega)).2.1 (hS 0 (by decide))
  refine ⟨⟨t1, by rw [a.1]; omega⟩, is_ge a (by omega) t3, by rw [show P = P + 0 from rfl, e 0 (by omega)]; exact t4, fun k h1 h2 => ?_, fun j hj => ?_, fun s hs => by rw [e 7 (by omega)]; exact t7 s hs, fun s hs => by rw [eL]; exact t8 s hs⟩
  · obtain ⟨x, y, z⟩ := t5 k h1 h2
    exact ⟨by rw [rd_ge a (by omega) hR]; exact x, is_ge a (by omega) y, by rw [kn_ge a (by omega)]; exact z⟩
  · rw [e 1 (by omega), e 2 (by omega), e 3 (by omega), e 4 (by omega), e 5 (by omega), e 6 (by omega)]; exact t6 j hj
theorem RO.ge {S R : List Nat} {n : Nat} {h h' : qm_H} {Q c m : Nat} {w : Nat → Int32} (t : RO h Q c w m) (a : ge S R n h h') (hS : Q ∉ S ∧ Q + 1 ∉ S) (hR : Q ∉ R) : RO h' Q c w m := by
  obtain ⟨⟨t1, t2⟩, t3, t4, t5, t6, t7, t8⟩ := t
  refine ⟨⟨t1, by rw [a.1]; omega⟩, is_ge a (by omega) t3, by rw [(a.2 Q (by omega)).1 hS.1]; exact t4, by rw [rd_ge a (by omega) hR]; exact t5, is_ge a (by omega) t6, by rw [kn_ge a (by omega)]; exact t7, fun k hk j hj => ?_⟩
  rw [(a.2 (Q + 1) (by omega)).1 hS.2]; exact t8 k hk j hj
/-- a Told at the place T -/
def TL (h : qm_H) (T : Nat) : Prop := T + 6 ≤ h.2.2.2.2 ∧ qm_is true h T 5 ∧ (qm_rd true h T 0 = some (T + 1) ∧ qm_rd true h T 4 = some (T + 2) ∧ qm_rd true h T 5 = some (T + 3) ∧ qm_rd true h T 6 = some (T + 4) ∧ qm_rd true h T 7 = some (T + 5)) ∧ (qm_is true h (T + 1) 9 ∧ qm_is true h (T + 2) 14 ∧ qm_is true h (T + 3) 12 ∧ qm_is true h (T + 4) 12 ∧ qm_is true h (T + 5) 10) ∧ (qm_kn true h (T + 1)).2 = 600 ∧ (qm_kn true h (T + 2)).2 = 2 ∧ (qm_kn true h (T + 3)).2 = 2 ∧ (qm_kn true h (T + 4)).2 = 2 ∧ (qm_kn true h (T + 5)).2 = 3
theorem TL.one {h : qm_H} (h5 : 51 ≤ h.2.2.2.2) : TL h 1 := ⟨by omega, rfl, ⟨rfl, rfl, rfl, rfl, rfl⟩, ⟨rfl, rfl, rfl, rfl, rfl⟩, rfl, rfl, rfl, rfl, rfl⟩
theorem TL.ge {S R : List Nat} {n T : Nat} {h h' : qm_H} (t : TL h T) (a : ge S R n h h') (hR : T ∉ R) : TL h' T := by
  obtain ⟨t1, t2, ⟨r1, r2, r3, r4, r5⟩, ⟨i1, i2, i3, i4, i5⟩, k1, k2, k3, k4, k5⟩ := t
  have e := fun k => rd_ge a (p := T) (by omega) hR k
  refine ⟨by rw [a.1]; omega, is_ge a (by omega) t2, ⟨by rw [e]; exact r1, by rw [e]; exact r2, by rw [e]; exact r3, by rw [e]; exact r4, by rw [e]; exact r5⟩, ⟨is_ge a (by omega) i1, is_ge a (by omega) i2, is_ge a (by omega) i3, is_ge a (by omega) i4, is_ge a (by omega) i5⟩, ?_⟩
  rw [kn_ge a (by omega), kn_ge a (by omega), kn_ge a (by omega), kn_ge a (by omega), kn_ge a (by omega)]
  exact ⟨k1, k2, k3, k4, k5⟩
/-- one place, one kind -/
theorem is_one {h : qm_H} {p q a b : Nat} (x : qm_is true h p a) (y : qm_is true h q b) (e : a ≠ b) : p ≠ q := by
  intro z
  subst z
  unfold qm_is at x y
  cases c : (bif true then qm_SKK[p]? else none) with
  | some k => rw [c] at x y; exact e (x.symm.trans y)
  | none => rw [c] at x y; exact e (x.2.symm.trans y.2)
/-- the rows and references that a Told may change -/
def TLi (T : Nat) : List Nat := [T, T + 1, T + 5]
def TLr (T : Nat) : List Nat := [T + 2, T + 3, T + 4]
theorem TO.tl {h : qm_H} {P n T : Nat} {w : Nat → Int32} (t : TO h P w n) (l : TL h T) : (∀ k, k ≤ 7 → P + k ∉ TLi T) ∧ P ∉ TLr T := by
  obtain ⟨t1, t3, t4, t5, -⟩ := t
  obtain ⟨-, l2, -, ⟨i1, i2, i3, i4, i5⟩, -⟩ := l
  have ar := fun k (h1 : 1 ≤ k) (h2 : k ≤ 7) => (t5 k h1 h2).2.1
  have a0 := is_one t3 l2 (by decide)
  have a1 := is_one t3 i1 (by decide)
  have a2 := is_one t3 i2 (by decide)
  have a3 := is_one t3 i3 (by decide)
  have a4 := is_one t3 i4 (by decide)
  have a5 := is_one t3 i5 (by decide)
  have b0 := fun k h1 h2 => is_one (ar k h1 h2) l2 (by decide)
  have b1 := fun k h1 h2 => is_one (ar k h1 h2) i1 (by decide)
  have c1 := b0 1 (by decide) (by decide)
  have c2 := b0 2 (by decide) (by decide)
  have c3 := b0 3 (by decide) (by decide)
  have c4 := b0 4 (by decide) (by decide)
  have c5 := b0 5 (by decide) (by decide)
  have c6 := b0 6 (by decide) (by decide)
  have c7 := b0 7 (by decide) (by decide)
  refine ⟨fun k hk z => ?_, fun z => ?_⟩
  · simp only [TLi, List.mem_cons, List.not_mem_nil, or_false] at z
    rcases Nat.eq_zero_or_pos k with e | e
    · subst e; omega
    · have d0 := b0 k e hk
      have d1 := b1 k e hk
      rcases z with z | z | z
      · exact d0 z
      · exact d1 z
      · omega
  · simp only [TLr, List.mem_cons, List.not_mem_nil, or_false] at z
    omega
theorem RO.tl {h : qm_H} {Q c m T : Nat} {w : Nat → Int32} (t : RO h Q c w m) (l : TL h T) : (Q ∉ TLi T ∧ Q + 1 ∉ TLi T) ∧ Q ∉ TLr T := by
  obtain ⟨t1, t3, t4, t5, t6, -⟩ := t
  obtain ⟨-, l2, -, ⟨i1, i2, i3, i4, i5⟩, -⟩ := l
  have a0 := is_one t3 l2 (by decide)
  have a1 := is_one t3 i1 (by decide)
  have a2 := is_one t3 i2 (by decide)
  have a3 := is_one t3 i3 (by decide)
  have a4 := is_one t3 i4 (by decide)
  have a5 := is_one t3 i5 (by decide)
  have b0 := is_one t6 l2 (by decide)
  have b1 := is_one t6 i1 (by decide)
  refine ⟨⟨fun z => ?_, fun z => ?_⟩, fun z => ?_⟩
  · simp only [TLi, List.mem_cons, List.not_mem_nil, or_false] at z; omega
  · simp only [TLi, List.mem_cons, List.not_mem_nil, or_false] at z; omega
  · simp only [TLr, List.mem_cons, List.not_mem_nil, or_false] at z; omega
