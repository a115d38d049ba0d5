/-! both make an image, both take one back -/
theorem CA.row {a b : Nat} {h h' : qm_H} (c : CA a b h h') : ROW h h' a b := by
  obtain ⟨c1, c2, c3, c4, c5, c6, c7, c8, -⟩ := c
  have d2 := c2.1 0 (by decide)
  have d3 := c3.1 0 (by decide)
  have d4 := c4.1 0 (by decide)
  rw [Nat.one_mul, Nat.one_mul, Nat.add_zero, Nat.add_zero] at d2 d3 d4
  exact ⟨c1.1, d2, d3, d4, c5.1, c6.1, c7.1, c8.1⟩
theorem CA.oth {a b : Nat} {h h' : qm_H} (c : CA a b h h') {i : Nat} (e : i ≠ b) : ROW h h' i i := by
  obtain ⟨c1, c2, c3, c4, c5, c6, c7, c8, -⟩ := c
  exact ⟨fun j hj => c1.2 _ (by omega), c2.2 _ (by omega), c3.2 _ (by omega), c4.2 _ (by omega), fun j hj => c5.2 _ (by omega), fun j hj => c6.2 _ (by omega), fun j hj => c7.2 _ (by omega), fun j hj => c8.2 _ (by omega)⟩
theorem CA.by {a b : Nat} {h h' : qm_H} (c : CA a b h h') (y : BY (h.1 27)) (ha : a < 4) (hb : b < 4) : BY (h'.1 27) := fun k hk => by
  obtain ⟨c1, -⟩ := c
  by_cases e : k < 600 * b ∨ 600 * b + 600 ≤ k
  · rw [c1.2 k e]; exact y k hk
  · obtain ⟨j, rfl⟩ : ∃ j, k = 600 * b + j := ⟨k - 600 * b, by omega⟩
    rw [c1.1 j (by omega)]; exact y _ (by omega)
theorem TDE.tr {h h1 h2 : qm_H} {A B C : Nat} (a : TDE h h1 A B) (b : TDE h1 h2 B C) : TDE h h2 A C := by
  obtain ⟨a2, a3, a4, a5, a6⟩ := a
  obtain ⟨b2, b3, b4, b5, b6⟩ := b
  exact ⟨fun j hj => (b2 j hj).trans (a2 j hj), b3.trans a3, b4.trans a4, b5.trans a5, fun s hs => (b6 s hs).trans (a6 s hs)⟩
theorem RFE.tr {h h1 h2 : qm_H} {A B C : Nat} (a : RFE h h1 A B) (b : RFE h1 h2 B C) : RFE h h2 A C := fun k x z t ht => (b k x z t ht).trans (a k x z t ht)
theorem inv_image {h h1 h2 : qm_H} {s T : Nat} (v : INV h) (s3 : s < 3) (m : IMR h h1 s T) (c : CA 0 (s + 1) (qm_si h1 26 0 0) h2) : INV (qm_si h2 50 s 1) ∧ (qm_si h2 50 s 1).2.2.2.2 ≤ h.2.2.2.2 + 8 := by
  obtain ⟨m1, m2, m3, m4, m5, m6, m7, m8, m9, m10, m11, m12⟩ := m
  obtain ⟨v1, v2, v3, v4, v5⟩ := v
  obtain ⟨hC, hhC⟩ : ∃ hC, hC = qm_si h2 50 s 1 := ⟨_, rfl⟩
  rw [← hhC]
  have sA : sb [26, 27, 28, 29, 30, 31, 32, 33, 34, 50] h1 hC := by
    rw [hhC]
    exact ((sb.rf.si (by decide)).tr (c.2.2.2.2.2.2.2.2.mono (fun q hq => by simp at hq; simp; omega))).si (by decide)
  have g : ge [26, 27, 28, 29, 30, 31, 32, 33, 34, 50] [] 0 h1 hC := ge.sb sA
  have r0 : ROW h (qm_si h1 26 0 0) 0 0 := ROW.same (fun q a b => by rw [si_ne _ _ _ (by omega)]; exact (m10 q (by omega)).1) 0
  have ri : ∀ i, ROW h (qm_si h1 26 0 0) i i := fun i => ROW.same (fun q a b => by rw [si_ne _ _ _ (by omega)]; exact (m10 q (by omega)).1) i
  have rC : ∀ i, ROW h2 hC i i := fun i => ROW.same (fun q a b => by rw [hhC, si_ne _ _ _ (by omega)]) i
  have z1 : hC.2.2.2.2 = h1.2.2.2.2 := by rw [sA.1]
  have oC : OB h hC := m8.tr (OB.ge g (fun q hq => by simp at hq; omega) (fun q hq => by simp at hq))
  have st1 : STY h hC 1 := (m9 1 (TL.one v1) (by omega)).tr (STY.ge g (TL.one (by omega)) (fun k hk => by simp; omega) (fun k hk => by simp))
  have stU : ∀ U, 51 ≤ U → TL h U → U ≠ T → STY h hC U := fun U hU l e => by
    have a := m9 U l e
    exact a.tr (STY.ge g a.1 (fun k hk => by simp; omega) (fun k hk => by simp))
  have stT : STY h1 hC T := STY.ge g m5 (fun k hk => by simp; omega) (fun k hk => by simp)
  have e50 : ∀ j, j ≠ s → hC.1 50 j = h.1 50 j := fun j hj => by
    rw [hhC, si_o _ _ _ hj, c.2.2.2.2.2.2.2.2.2 50 (by decide), si_ne _ _ _ (by decide), (m10 50 (by decide)).1]
  have e7 : hC.2.2.1 7 = h1.2.2.1 7 := by rw [sA.1]
  have ne : ∀ j U, j < 3 → j ≠ s → h.2.2.1 7 j = some U → U ≠ T := fun j U j3 hj hU e => by
    rcases m2 with q | ⟨-, q⟩
    · exact v5 s j T s3 j3 (Ne.symm hj) q (by rw [hU, e])
    · rcases v4 j j3 with ⟨-, T', x2, x3, x4⟩ | ⟨-, x2⟩
      · rw [hU] at x3
        cases x3
        have := x4.1.1
        omega
      · rw [hU] at x2; cases x2
  refine ⟨⟨by omega, ?_, v3.to st1.1 st1.2.1 st1.2.2 oC ((r0.tr (c.oth (by omega))).tr (rC 0)), fun j j3 => ?_, fun a b U a3 b3 hab hU => ?_⟩, by omega⟩
  · have e : hC.1 27 = h2.1 27 := by rw [hhC, si_ne _ _ _ (by decide)]
    rw [e]
    exact c.by (by rw [si_ne _ _ _ (by decide), (m10 27 (by decide)).1]; exact v2) (by decide) (by omega)
  · by_cases e : j = s
    · subst e
      refine Or.inl ⟨by rw [hhC, si_s], T, m1, by rw [e7]; exact m3, v3.to stT.1 (m6.tr stT.2.1) (m7.tr stT.2.2) oC ((r0.tr c.row).tr (rC _))⟩
    · rcases v4 j j3 with ⟨x1, U, x2, x3, x4⟩ | ⟨x1, x2⟩
      · have q := stU U x2 x4.1 (ne j U j3 e x3)
        exact Or.inl ⟨by rw [e50 j e]; exact x1, U, x2, by rw [e7, m4 j e]; exact x3, x4.to q.1 q.2.1 q.2.2 oC (((ri _).tr (c.oth (by omega))).tr (rC _))⟩
      · exact Or.inr ⟨by rw [e50 j e]; exact x1, by rw [e7, m4 j e]; exact x2⟩
  · rw [e7] at hU ⊢
    by_cases ea : a = s
    · subst ea
      rw [m3] at hU
      cases hU
      rw [m4 b (Ne.symm hab)]
      intro q
      exact ne b _ b3 (Ne.symm hab) q rfl
    · rw [m4 a ea] at hU
      by_cases eb : b = s
      · subst eb
        rw [m3]
        intro q
        cases q
        exact ne a _ a3 ea hU rfl
      · rw [m4 b eb]
        exact v5 a b U a3 b3 hab hU
theorem g_image {G : qm_G} (hG : G.2.2.2.2 = true) (h : qm_H) (v : INV h) (hz : h.2.2.2.2 + 8 < 1000000) (k : Int32) : BOTH false G 20 6 617 qyX9_image qyX10_image [.int k] h := by
  refine (b_image hG 18 h v hz k).mono fun r h1 => ?_
  rintro (⟨c0, rfl, rfl⟩ | ⟨s, T, s3, rfl, rfl, m⟩)
  · refine ⟨_, rfl, ⟨_, rfl⟩, (a_image hG 18 h v.2.1 k).mono fun r h2 => ?_⟩
    rintro (⟨-, rfl, rfl⟩ | ⟨s, s3, rfl, -⟩)
    · exact ⟨rfl, v.keep (ge.sb (sb.rf.si (S := [26]) (by decide))) (fun q hq => by simp at hq; omega), Nat.le_add_right _ _⟩
    · rw [inb_n (by decide) s3] at c0; exact absurd c0 (by decide)
  · have m10 := m.2.2.2.2.2.2.2.2.2.1
    refine ⟨_, rfl, ⟨_, rfl⟩, (a_image hG 18 h1 (by rw [(m10 27 (by decide)).1]; exact v.2.1) (nI s)).mono fun r h2 => ?_⟩
    rintro (⟨c0, -, -⟩ | ⟨s', s3', es, rfl, h2', c, rfl⟩)
    · rw [inb_n (by decide) s3] at c0; exact absurd c0 (by decide)
    · have e := (nI_eq (by omega) (by omega)).mp es
      subst e
      exact ⟨rfl, inv_image v s3 m c⟩
theorem inv_again {h h1 h2 : qm_H} {s T : Nat} (v : INV h) (s3 : s < 3) (t7 : h.2.2.1 7 s = some T) (m : BE 1 T h h1) (c : CA (s + 1) 0 (qm_si h1 26 0 0) h2) : INV h2 ∧ h2.2.2.2.2 ≤ h.2.2.2.2 + 8 := by
  obtain ⟨v1, v2, v3, v4, v5⟩ := v
  obtain ⟨t1, t3⟩ : 51 ≤ T ∧ LYR h T (s + 1) := by
    rcases v4 s s3 with ⟨-, T', x2, x3, x4⟩ | ⟨-, x2⟩
    · rw [t7] at x3
      cases x3
      exact ⟨x2, x4⟩
    · rw [t7] at x2; cases x2
  have l1 := TL.one v1
  have sA : sb [26, 27, 28, 29, 30, 31, 32, 33, 34] h1 h2 := (sb.rf.si (by decide)).tr (c.2.2.2.2.2.2.2.2.mono (fun q hq => by simp at hq; simp; omega))
  have g : ge [26, 27, 28, 29, 30, 31, 32, 33, 34] [] 0 h1 h2 := ge.sb sA
  have lo : ∀ q, 7 ≤ q → q < 51 → h1.1 q = h.1 q := fun q a b => (m.1.2 q (by omega)).1 (fun z => by simp [TLi] at z; omega)
  have ri : ∀ i, ROW h (qm_si h1 26 0 0) i i := fun i => ROW.same (fun q a b => by rw [si_ne _ _ _ (by omega)]; exact lo q (by omega) (by omega)) i
  have z1 : h1.2.2.2.2 = h.2.2.2.2 := m.1.1
  have z2 : h2.2.2.2.2 = h1.2.2.2.2 := by rw [sA.1]
  have oC : OB h h2 := (OB.tl m.1 l1).tr (OB.ge g (fun q hq => by simp at hq; omega) (fun q hq => by simp at hq))
  have st1 : STY h1 h2 1 := STY.ge g (TL.one (by omega)) (fun k hk => by simp; omega) (fun k hk => by simp)
  have stU : ∀ U, 51 ≤ U → TL h U → STY h h2 U := fun U hU l => by
    have a := m.sty l1 l (by omega)
    exact a.tr (STY.ge g a.1 (fun k hk => by simp; omega) (fun k hk => by simp))
  have e7 : h2.2.2.1 7 = h.2.2.1 7 := by rw [sA.1]; exact (m.1.2 7 (by omega)).2.2.1 (fun z => by simp [TLr] at z)
  have e50 : h2.1 50 = h.1 50 := by rw [sA.2 50 (by decide)]; exact lo 50 (by decide) (by decide)
  refine ⟨⟨by omega, ?_, t3.to st1.1 (m.tde.tr st1.2.1) ((m.rfe fr_1 (fun k _ _ => fr_T t1 k)).tr st1.2.2) oC ((ri _).tr c.row), fun j j3 => ?_, fun a b U a3 b3 hab hU => by rw [e7] at hU ⊢; exact v5 a b U a3 b3 hab hU⟩, by omega⟩
  · exact c.by (by rw [si_ne _ _ _ (by decide), lo 27 (by decide) (by decide)]; exact v2) (by omega) (by decide)
  · rcases v4 j j3 with ⟨x1, U, x2, x3, x4⟩ | ⟨x1, x2⟩
    · have q := stU U x2 x4.1
      exact Or.inl ⟨by rw [e50]; exact x1, U, x2, by rw [e7]; exact x3, x4.to q.1 q.2.1 q.2.2 oC ((ri _).tr (c.oth (by omega)))⟩
    · exact Or.inr ⟨by rw [e50]; exact x1, by rw [e7]; exact x2⟩
theorem g_again {G : qm_G} (hG : G.2.2.2.2 = true) (h : qm_H) (v : INV h) (k : Int32) : BOTH false G 20 0 0 qyX9_again qyX10_again [.int k] h := by
  have sv : ∀ s, s < 3 → h.1 50 s = b2 (h.2.2.1 7 s).isSome := fun s hs => by
    rcases v.2.2.2.1 s hs with ⟨x1, U, x2, x3, x4⟩ | ⟨x1, x2⟩
    · rw [x1, x3]; rfl
    · rw [x1, x2]; rfl
  refine (b_again hG 18 h v k).mono fun r h1 => ?_
  rintro (⟨c0, rfl, rfl⟩ | ⟨s, T, s3, rfl, rfl, t7, m⟩)
  · refine ⟨_, rfl, ⟨_, rfl⟩, (a_again hG 18 h v.2.1 (fun s => (h.2.2.1 7 s).isSome) sv k).mono fun r h2 => ?_⟩
    rintro (⟨-, rfl, rfl⟩ | ⟨s, s3, rfl, hs, -⟩)
    · exact ⟨rfl, v.keep (ge.sb (sb.rf.si (S := [26]) (by decide))) (fun q hq => by simp at hq; omega), Nat.le_add_right _ _⟩
    · exfalso
      rcases c0 with c0 | ⟨s', s3', es, q⟩
      · rw [inb_n (by decide) s3] at c0; exact absurd c0 (by decide)
      · have e := (nI_eq (by omega) (by omega)).mp es
        subst e
        have hs : (h.2.2.1 7 s).isSome = true := hs
        rw [q] at hs
        exact absurd hs (by decide)
  · have lo : ∀ q, 7 ≤ q → q < 51 → h1.1 q = h.1 q := fun q a b => (m.1.2 q (by have := v.1; omega)).1 (fun z => by simp [TLi] at z; omega)
    refine ⟨_, rfl, ⟨_, rfl⟩, (a_again hG 18 h1 (by rw [lo 27 (by decide) (by decide)]; exact v.2.1) (fun s => (h.2.2.1 7 s).isSome) (fun s hs => by rw [lo 50 (by decide) (by decide)]; exact sv s hs) (nI s)).mono fun r h2 => ?_⟩
    rintro (⟨c0, -, -⟩ | ⟨s', s3', es, -, rfl, c⟩)
    · exfalso
      rcases c0 with c0 | ⟨s', s3', es, q⟩
      · rw [inb_n (by decide) s3] at c0; exact absurd c0 (by decide)
      · have e := (nI_eq (by omega) (by omega)).mp es
        subst e
        have q : (h.2.2.1 7 s).isSome = false := q
        rw [t7] at q
        exact absurd q (by simp)
    · have e := (nI_eq (by omega) (by omega)).mp es
      subst e
      exact ⟨rfl, inv_again v s3 t7 m c⟩
