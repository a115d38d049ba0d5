/-! both are fed -/
theorem g_feed {G : qm_G} (hG : G.2.2.2.2 = true) (h : qm_H) (v : INV h) (a b c x y : Int32) : BOTH false G 20 0 0 qyX9_feed qyX10_feed [.int a, .int b, .int c, .int x, .int y] h := by
  obtain ⟨m, L, z1, z2, z3, z4, z5, z6, z7, z8⟩ := v.st
  refine (b_feed hG 19 h z3 z1 a b c x y).mono fun r h1 => ?_
  rintro (⟨q0, rfl, rfl⟩ | ⟨q0, rfl, A1, A2, A3, A4⟩)
  · refine ⟨_, rfl, ⟨_, rfl⟩, (a_feed hG 19 h z2 z1 a b c x y).mono fun r h2 => ?_⟩
    rintro (⟨p0, rfl, p⟩ | ⟨p0, -, -⟩)
    · exact ⟨rfl, v.keep (ge.sb p) (fun q hq => by simp at hq; omega), by rw [p.1]; omega⟩
    · omega
  · refine ⟨_, rfl, ⟨_, rfl⟩, (a_feed hG 19 h1 (L := L) (by rw [A4.2 28 (by decide)]; exact z2) z1 a b c x y).mono fun r h2 => ?_⟩
    rintro (⟨p0, -, -⟩ | ⟨p0, rfl, F1, F2, F3, F4⟩)
    · omega
    · have g : ge [1, 2, 26, 27, 28] [] 0 h h2 := ((ge.sb A4).mono (S' := [1, 2, 26, 27, 28]) (R' := []) (fun q hq => by simp at hq; simp; omega) (fun q hq => hq)).tr (n := 0) ((ge.sb F4).mono (S' := [1, 2, 26, 27, 28]) (R' := []) (fun q hq => by simp at hq; simp; omega) (fun q hq => hq))
      have d27 : ∀ j, j < L ∨ L + 20 ≤ j → h2.1 27 j = h.1 27 j := fun j hj => by rw [F3 j hj, A4.2 27 (by decide)]
      have d28 : h2.1 28 = va_up (h.1 28) 0 (nI (L + 20)) := by rw [F1, A4.2 28 (by decide)]
      have same : ∀ q, 29 ≤ q → q ≤ 34 → h2.1 q = h.1 q := fun q x y => by rw [F4.2 q (by simp; omega), A4.2 q (by simp; omega)]
      have e1 : h2.1 1 = va_up (h.1 1) 1 (nI (L + 20)) := by rw [F4.2 1 (by decide), A1]
      have e2 : h2.1 2 = h1.1 2 := F4.2 2 (by decide)
      have e6 : h2.1 6 = h.1 6 := by rw [F4.2 6 (by decide), A4.2 6 (by decide)]
      obtain ⟨n1, n2, n3, n4, n5⟩ := v.2.2.1.2.1
      refine ⟨rfl, v.l0 g (fun q hq => by simp at hq; omega) (fun q hq => by simp at hq) (fun i i1 i3 => ⟨fun j hj => d27 _ (by omega), by rw [d28, up_n _ _ (by omega)], by rw [same 29 (by decide) (by decide)], by rw [same 30 (by decide) (by decide)], fun j _ => by rw [same 31 (by decide) (by decide)], fun j _ => by rw [same 32 (by decide) (by decide)], fun j _ => by rw [same 33 (by decide) (by decide)], fun j _ => by rw [same 34 (by decide) (by decide)]⟩) (fun k hk => ?_) (lyr_new (L' := L + 20) v.2.2.1 v.1 g (fun q hq => by simp at hq; omega) ⟨fun j hj => ?_, by rw [e1, d28, up_s, up_s], ?_, ?_, fun s hs => ?_⟩ p0 (by rw [d28, up_s]) (fun q x y => same q (by omega) y)), by rw [g.1]; omega⟩
      · by_cases q : k < L ∨ L + 20 ≤ k
        · rw [d27 k q]; exact v.2.1 k hk
        · obtain ⟨i, rfl⟩ : ∃ i, k = L + i := ⟨k - L, by omega⟩
          exact ⟨_, b4N_lt _ _, F2 i (by omega)⟩
      · rw [Nat.mul_zero, Nat.zero_add]
        show h2.1 2 j = _
        by_cases q : j < L ∨ L + 20 ≤ j
        · have := n1 j hj
          rw [Nat.mul_zero, Nat.zero_add] at this
          rw [d27 j q, e2, A3 j q]; exact this
        · obtain ⟨i, rfl⟩ : ∃ i, j = L + i := ⟨j - L, by omega⟩
          rw [e2, A2 i (by omega), F2 i (by omega)]
      · rw [e1, up_n _ _ (by decide), same 29 (by decide) (by decide)]; exact n3
      · rw [e1, up_n _ _ (by decide), same 30 (by decide) (by decide)]; exact n4
      · show h2.1 6 s = _
        rw [e6, same 31 (by decide) (by decide)]; exact n5 s hs
