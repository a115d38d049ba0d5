/-! both are told a text -/
theorem BY.tp {t : Nat → Int32} (b : BY t) : ∃ B, TP t B := by
  refine ⟨fun k => if hk : k < 2400 then (b k hk).choose else 0, fun k hk => ?_⟩
  have h2 : k < 2400 := by omega
  show t k = byI (if hk : k < 2400 then (b k hk).choose else 0) ∧ (if hk : k < 2400 then (b k hk).choose else 0) < 256
  rw [dif_pos h2]
  exact ⟨(b k h2).choose_spec.2, (b k h2).choose_spec.1⟩
theorem txt0 {h h1 h2 : qm_H} {F P : Int32} (v : INV h) (y : YT0 h h1 F P) (x : XT0 h1 h2 F P) : INV h2 ∧ h2.2.2.2.2 ≤ h.2.2.2.2 + 8 := by
  obtain ⟨y1, y2, y3, y4⟩ := y
  obtain ⟨x28, x29, x30, xs, xl, xne⟩ := x
  have gx : ge [26, 28, 29, 30, 35, 36] [] 0 h1 h2 := ⟨by rw [xs]; rfl, fun q _ => ⟨fun z => xne q z, fun z => xl q (fun e => z (by rw [e]; decide)), fun _ => by rw [xs], by rw [xs]⟩⟩
  have g : ge [1, 8, 9, 26, 28, 29, 30, 35, 36] [] 0 h h2 := ((ge.sb y4).mono (S' := [1, 8, 9, 26, 28, 29, 30, 35, 36]) (R' := []) (fun q hq => by simp at hq; simp; omega) (fun q hq => hq)).tr (n := 0) (gx.mono (S' := [1, 8, 9, 26, 28, 29, 30, 35, 36]) (R' := []) (fun q hq => by simp at hq; simp; omega) (fun q hq => hq))
  have sm : ∀ q, q ∉ [1, 8, 9, 26, 28, 29, 30, 35, 36] → q < 51 → h2.1 q = h.1 q := fun q z w => (g.2 q (by have := v.1; omega)).1 z
  have e28 : h1.1 28 = h.1 28 := y4.2 28 (by decide)
  have e29 : h1.1 29 = h.1 29 := y4.2 29 (by decide)
  have e30 : h1.1 30 = h.1 30 := y4.2 30 (by decide)
  have e1 : h2.1 1 = h1.1 1 := xne 1 (by decide)
  obtain ⟨n1, n2, n3, n4, n5⟩ := v.2.2.1.2.1
  refine ⟨v.l0 g (fun q hq => by simp at hq; omega) (fun q hq => by simp at hq) (fun i i1 i3 => ⟨fun j _ => by rw [sm 27 (by decide) (by decide)], by rw [x28, e28, up_n _ _ (by omega)], by rw [x29, e29, up_n _ _ (by omega)], by rw [x30, e30, up_n _ _ (by omega)], fun j _ => by rw [sm 31 (by decide) (by decide)], fun j _ => by rw [sm 32 (by decide) (by decide)], fun j _ => by rw [sm 33 (by decide) (by decide)], fun j _ => by rw [sm 34 (by decide) (by decide)]⟩) (by rw [sm 27 (by decide) (by decide)]; exact v.2.1) (lyr_new (L' := 0) v.2.2.1 v.1 g (fun q hq => by simp at hq; omega) ⟨fun j hj => ?_, by rw [e1, y1, x28, up_s], by rw [e1, y2, x29, up_s], by rw [e1, y3, x30, up_s], fun s hs => ?_⟩ (by decide) (by rw [x28, up_s]; rfl) (fun q a b => sm q (by simp; omega) (by omega))), by rw [g.1]; omega⟩
  · rw [sm 27 (by decide) (by decide)]
    show h2.1 2 j = _
    rw [sm 2 (by decide) (by decide)]; exact n1 j hj
  · rw [sm 31 (by decide) (by decide)]
    show h2.1 6 s = _
    rw [sm 6 (by decide) (by decide)]; exact n5 s hs
theorem txt1 {h h1 h2 : qm_H} {s k a L : Nat} {B m : Nat → Nat} (v : INV h) (s3 : s < 3) (k2 : k < 2) (hm : ∀ i, i < 3 → m i ≤ 2 ∧ h.1 31 i = nI (m i) ∧ h.1 6 i = nI (m i)) (z5 : TWN h 3 (m 0) (tw h)) (z6 : YRS h 4 (m 1) (yw h)) (z7 : LGS h 5 (m 2) (gw h)) (ha : k < m s ∧ a = m s ∨ k = m s ∧ a = m s + 1) (hF : (rdF B L s).1 = 0) (y : YT1 h h1 s k (nI a) (rdT B L s)) (x : XT1 h1 h2 s k (nI a) (rdT B L s)) : INV h2 ∧ h2.2.2.2.2 ≤ h.2.2.2.2 + 8 := by
  obtain ⟨y1, y2, y3, n, n8, yg, y6, yr, kq⟩ := y
  obtain ⟨x28, x29, x30, x31, xT, xO, xs, xl, xne⟩ := x
  have h5 := v.1
  obtain ⟨T, hT⟩ : ∃ T, T = rdT B L s := ⟨_, rfl⟩
  rw [← hT] at kq xT
  obtain ⟨SS, hSS⟩ : ∃ SS : List Nat, SS = [1, 6, 8, 9, 26, 28, 29, 30, 31, 32 + s, 35, 36] := ⟨_, rfl⟩
  have gx : ge [26, 28, 29, 30, 31, 32 + s, 35, 36] [] 0 h1 h2 := ⟨by rw [xs]; rfl, fun q _ => ⟨fun z => xne q z, fun z => xl q (fun e => z (by rw [e]; simp)), fun _ => by rw [xs], by rw [xs]⟩⟩
  have g : ge SS [3 + s] n h h2 := by
    have := (yg.mono (S' := SS) (R' := [3 + s]) (fun q hq => by rw [hSS]; simp at hq; simp; omega) (fun q hq => hq)).tr (n := 0) (gx.mono (S' := SS) (R' := [3 + s]) (fun q hq => by rw [hSS]; simp at hq; simp; omega) (fun q hq => by simp at hq))
    exact this
  have hS : ∀ q, q ∈ SS → q < 50 ∧ q ≠ 27 := fun q hq => by rw [hSS] at hq; simp at hq; omega
  have hR : ∀ q, q ∈ [3 + s] → q < 51 ∧ q ≠ 7 := fun q hq => by simp at hq; omega
  have o : OB h h2 := OB.ge g (fun q hq => by have := hS q hq; omega) (fun q hq => (hR q hq).1)
  have ry : ∀ q, 27 ≤ q → q ≤ 34 → h1.1 q = h.1 q := fun q a b => (yg.2 q (by omega)).1 (by simp; omega)
  have kq2 : KQ h2 s h.2.2.2.2 T := kq.ge gx h5 (fun q hq => by simp at hq; omega) (fun q hq => by simp at hq)
  have rdS : ∀ t, qm_rd true h2 (3 + s) t = va_up (h.2.2.1 (3 + s)) k (some h.2.2.2.2) t := fun t => by
    rw [rd_fr (by unfold FR; omega), xs, yr]
  have rdk : qm_rd true h2 (3 + s) k = some h.2.2.2.2 := by rw [rdS, up_s]
  have rdn : ∀ t, t ≠ k → qm_rd true h2 (3 + s) t = qm_rd true h (3 + s) t := fun t ht => by
    rw [rdS, up_n _ _ ht, rd_fr (by unfold FR; omega)]
  have rdO : ∀ i, i < 3 → i ≠ s → ∀ t, qm_rd true h2 (3 + i) t = qm_rd true h (3 + i) t := fun i hi e t => rd_ge g (by omega) (by simp; omega) t
  have rwO : ∀ i, i < 3 → i ≠ s → h2.1 (32 + i) = h.1 (32 + i) := fun i hi e => by
    rw [xne (32 + i) (by simp; omega), ry _ (by omega) (by omega)]
  have rwE : ∀ j, (j < wd s * k ∨ wd s * k + wd s ≤ j) → h2.1 (32 + s) j = h.1 (32 + s) j := fun j hj => by
    rw [xO j hj, ry _ (by omega) (by omega)]
  have wds : wd s * k + wd s ≤ 2 * wd s := by
    rcases (by omega : k = 0 ∨ k = 1) with e | e <;> subst e <;> omega
  have e27 : h2.1 27 = h.1 27 := by rw [xne 27 (by simp; omega), ry 27 (by decide) (by decide)]
  have e1 : h2.1 1 = h1.1 1 := xne 1 (by simp; omega)
  have e2 : h2.1 2 = h.1 2 := by rw [xne 2 (by simp; omega), (yg.2 2 (by omega)).1 (by decide)]
  have e6 : h2.1 6 = va_up (h.1 6) s (nI a) := by rw [xne 6 (by simp; omega), y6]
  have e31 : h2.1 31 = va_up (h.1 31) s (nI a) := by rw [x31, ry 31 (by decide) (by decide)]
  have r32 : ∀ w i j0 j, i < 3 → (i = s → wd s = w) → 1 ≤ j0 → j < 2 * w → h2.1 (32 + i) (2 * w * j0 + j) = h.1 (32 + i) (2 * w * j0 + j) := fun w i j0 j hi hw h1' hj => by
    by_cases e : i = s
    · subst e
      rw [rwE _ (Or.inr ?_)]
      have := hw rfl
      have : 2 * w ≤ 2 * w * j0 := Nat.le_mul_of_pos_right _ h1'
      omega
    · rw [rwO i hi e]
  obtain ⟨n1, n2, n3, n4, n5⟩ := v.2.2.1.2.1
  have a2 : a ≤ 2 := by have := (hm s s3).1; omega
  have nw : LYR h2 1 0 := by
    refine ⟨TL.ge v.2.2.1.1 g (by simp; omega), ⟨fun j hj => ?_, by rw [e1, y1, x28, up_s], by rw [e1, y2, x29, up_s], by rw [e1, y3, x30, up_s], fun i hi => ?_⟩, fun i => if i = s then a else m i, 0, by decide, by rw [x28, up_s]; rfl, fun i hi => ?_, ?_, ?_, ?_⟩
    · rw [e27]
      show h2.1 2 j = _
      rw [e2]; exact n1 j hj
    · rw [Nat.mul_zero, Nat.zero_add, e31]
      show h2.1 6 i = _
      rw [e6]
      by_cases e : i = s
      · rw [e, up_s, up_s]
      · have := n5 i hi
        rw [Nat.mul_zero, Nat.zero_add] at this
        rw [up_n _ _ e, up_n _ _ e]; exact this
    · rw [Nat.mul_zero, Nat.zero_add, e31]
      show (if i = s then a else m i) ≤ 2 ∧ va_up (h.1 31) s (nI a) i = nI (if i = s then a else m i)
      by_cases e : i = s
      · rw [if_pos e, e, up_s]; exact ⟨a2, rfl⟩
      · rw [if_neg e, up_n _ _ e]; exact ⟨(hm i hi).1, (hm i hi).2.1⟩
    · rw [LT_0]
      show TWN h2 3 (if 0 = s then a else m 0) (tw h2)
      by_cases e : 0 = s
      · subst e
        rw [if_pos rfl]
        exact TWN.put z5 o ha rdk rdn (kq2.1 rfl) (by rw [hT]; exact VT_rd hF) (fun j hj => xT j hj) (fun t ht c j hj => rwE (31 * t + j) (by show 31 * t + j < 31 * k ∨ 31 * k + 31 ≤ 31 * t + j; omega))
      · rw [if_neg e]
        exact z5.to o (fun t _ => rdO 0 (by decide) e t) (fun t _ _ j _ => congrFun (rwO 0 (by decide) e) _)
    · rw [LYy_0]
      show YRS h2 4 (if 1 = s then a else m 1) (yw h2)
      by_cases e : 1 = s
      · subst e
        rw [if_pos rfl]
        exact YRS.put z6 o ha rdk rdn (kq2.2.1 rfl) (by rw [hT]; exact VY_rd hF) (by rw [hT]; exact VYc_rd hF) (fun j hj => xT j hj) (fun t ht c j hj => rwE (161 * t + j) (by show 161 * t + j < 161 * k ∨ 161 * k + 161 ≤ 161 * t + j; omega))
      · rw [if_neg e]
        exact z6.to o (fun t _ => rdO 1 (by decide) e t) (fun t _ _ j _ => congrFun (rwO 1 (by decide) e) _)
    · rw [LGg_0]
      show LGS h2 5 (if 2 = s then a else m 2) (gw h2)
      by_cases e : 2 = s
      · subst e
        rw [if_pos rfl]
        exact LGS.put z7 o ha rdk rdn (kq2.2.2 rfl) (by rw [hT]; exact VL_rd hF) (fun j hj => xT j hj) (fun t ht c j hj => rwE (17 * t + j) (by show 17 * t + j < 17 * k ∨ 17 * k + 17 ≤ 17 * t + j; omega))
      · rw [if_neg e]
        exact z7.to o (fun t _ => rdO 2 (by decide) e t) (fun t _ _ j _ => congrFun (rwO 2 (by decide) e) _)
  refine ⟨v.l0 g (fun q hq => (hS q hq).1) hR (fun i i1 i3 => ⟨fun j _ => by rw [e27], by rw [x28, ry 28 (by decide) (by decide), up_n _ _ (by omega)], by rw [x29, ry 29 (by decide) (by decide), up_n _ _ (by omega)], by rw [x30, ry 30 (by decide) (by decide), up_n _ _ (by omega)], fun j _ => by rw [e31, up_n _ _ (by omega)], fun j hj => r32 31 0 i j (by decide) (fun e => by rw [← e]; rfl) i1 hj, fun j hj => r32 161 1 i j (by decide) (fun e => by rw [← e]; rfl) i1 hj, fun j hj => r32 17 2 i j (by decide) (fun e => by rw [← e]; rfl) i1 hj⟩) (by rw [e27]; exact v.2.1) nw, by rw [g.1]; omega⟩
theorem g_text {G : qm_G} (hG : G.2.2.2.2 = true) (h : qm_H) (v : INV h) (hz : h.2.2.2.2 + 8 < 1000000) (srt at' : Int32) : BOTH false G 20 8 602 qyX9_text qyX10_text [.int srt, .int at'] h := by
  obtain ⟨m, L, z1, z2, z3, z4, z5, z6, z7, z8⟩ := v.st
  obtain ⟨B, hB⟩ := BY.tp v.2.1
  have hB2 : TP (h.1 2) B := fun k hk => by
    have := v.2.2.1.2.1.1 k hk
    rw [Nat.mul_zero, Nat.zero_add] at this
    have : h.1 2 k = h.1 27 k := this
    rw [this]; exact hB k hk
  have rm : ∀ h1 : qm_H, RWS h h1 → qm_Ev G 20 0 0 qyX10_text [.ref 26, .int srt, .int at'] h1 _ := fun h1 e => a_text hG 12 h1 (B := B) (L := L) (m := m) (by rw [e 27 (by decide) (by decide)]; exact hB) (by rw [e 28 (by decide) (by decide)]; exact z2) z1 (fun i hi => by rw [e 31 (by decide) (by decide)]; exact ⟨(z4 i hi).2.1, (z4 i hi).1⟩) srt at'
  have un : ∀ {s s' : Nat}, s < 3 → s' < 3 → srt = nI s → srt = nI s' → s = s' := fun a b c d => (nI_eq (by omega) (by omega)).mp (c.symm.trans d)
  have ex : (inb srt 3 = false ∨ ∃ s, s < 3 ∧ srt = nI s ∧ (at' = -1 ∧ m s = 2 ∨ at' ≠ -1 ∧ inb at' (m s) = false)) → ∀ s k, s < 3 → srt = nI s → (at' = -1 ∧ m s < 2 ∧ k = m s ∨ at' ≠ -1 ∧ at' = nI k ∧ k < m s) → False := by
    rintro (c | ⟨s', a1, a2, a3⟩) s k b1 b2 b3
    · rw [b2, inb_n (by decide) b1] at c; exact absurd c (by decide)
    · obtain rfl := un b1 a1 b2 a2
      have := (z4 s b1).1
      rcases a3 with ⟨c1, c2⟩ | ⟨c1, c2⟩ <;> rcases b3 with ⟨d1, d2, -⟩ | ⟨d1, d2, d3⟩
      · omega
      · exact d1 c1
      · exact c1 d1
      · rw [d2, inb_n (by omega) d3] at c2; exact absurd c2 (by decide)
  refine (b_text hG 12 h hB2 z3 z1 (fun i hi => ⟨(z4 i hi).2.2, (z4 i hi).1⟩) v.1 hz srt at').mono fun r h1 => ?_
  rintro (⟨c0, rfl, Y⟩ | ⟨s, k, s3, es, k2, hat, ⟨hf, rfl, Y⟩ | ⟨hf, rfl, Y⟩⟩)
  · have e : RWS h h1 := fun q a b => Y.2.2.2.2 q (by simp; omega)
    refine ⟨_, rfl, ⟨_, rfl⟩, (rm h1 e).mono fun r h2 => ?_⟩
    rintro (⟨c1, rfl, X⟩ | ⟨s, k, s3, es, k2, hat, -⟩)
    · exact ⟨rfl, txt0 v Y X⟩
    · exact (ex c0 s k s3 es hat).elim
  · have e : RWS h h1 := fun q a b => Y.2.2.2.2 q (by simp; omega)
    refine ⟨_, rfl, ⟨_, rfl⟩, (rm h1 e).mono fun r h2 => ?_⟩
    rintro (⟨c1, -, -⟩ | ⟨s', k', s3', es', k2', hat', ⟨hf', rfl, X⟩ | ⟨hf', -, -⟩⟩)
    · exact (ex c1 s k s3 es hat).elim
    · obtain rfl := un s3 s3' es es'
      exact ⟨rfl, txt0 v Y X⟩
    · obtain rfl := un s3 s3' es es'
      exact absurd hf' hf
  · have e : RWS h h1 := fun q a b => (Y.2.2.2.choose_spec.2.1.2 q (by have := v.1; omega)).1 (by simp; omega)
    refine ⟨_, rfl, ⟨_, rfl⟩, (rm h1 e).mono fun r h2 => ?_⟩
    rintro (⟨c1, -, -⟩ | ⟨s', k', s3', es', k2', hat', ⟨hf', -, -⟩ | ⟨hf', rfl, X⟩⟩)
    · exact (ex c1 s k s3 es hat).elim
    · obtain rfl := un s3 s3' es es'
      exact absurd hf hf'
    · obtain rfl := un s3 s3' es es'
      have ek : k' = k := by
        rcases hat with ⟨d1, d2, d3⟩ | ⟨d1, d2, d3⟩ <;> rcases hat' with ⟨f1, f2, f3⟩ | ⟨f1, f2, f3⟩
        · omega
        · exact absurd d1 f1
        · exact absurd f1 d1
        · exact (nI_eq (by omega) (by omega)).mp (f2.symm.trans d2)
      subst ek
      refine ⟨rfl, txt1 v s3 k2 z4 z5 z6 z7 ?_ hf Y X⟩
      rcases hat with ⟨d1, d2, d3⟩ | ⟨d1, d2, d3⟩
      · exact Or.inr ⟨d3, if_pos d1⟩
      · exact Or.inl ⟨d3, if_neg d1⟩
