/-! both are ended -/
theorem g_end {G : qm_G} (hG : G.2.2.2.2 = true) (h : qm_H) (v : INV h) (a : Int32) : BOTH false G 20 0 0 qyX9_end qyX10_end [.int a] h := by
  obtain ⟨m, L, z1, z2, z3, z4, z5, z6, z7, z8⟩ := v.st
  refine (b_end hG 20 h z3 z1 a).mono fun r h1 => ?_
  rintro (⟨q0, rfl, rfl⟩ | ⟨l, q0, rfl, rfl, A1, A4⟩)
  · refine ⟨_, rfl, ⟨_, rfl⟩, (a_end hG 19 h z2 z1 a).mono fun r h2 => ?_⟩
    rintro (⟨p0, rfl, p⟩ | ⟨l, p0, rfl, -⟩)
    · exact ⟨rfl, v.keep (ge.sb p) (fun q hq => by simp at hq; omega), by rw [p.1]; omega⟩
    · rw [inb_n (by omega) (by omega)] at q0; exact absurd q0 (by decide)
  · refine ⟨_, rfl, ⟨_, rfl⟩, (a_end hG 19 h1 (L := L) (by rw [A4.2 28 (by decide)]; exact z2) z1 (nI l)).mono fun r h2 => ?_⟩
    rintro (⟨p0, -, -⟩ | ⟨l', p0, -, rfl, F1, F4⟩)
    · rw [inb_n (by omega) (by omega)] at p0; exact absurd p0 (by decide)
    · have g : ge [1, 26, 28] [] 0 h h2 := ((ge.sb A4).mono (S' := [1, 26, 28]) (R' := []) (fun q hq => by simp at hq; simp; omega) (fun q hq => hq)).tr (n := 0) ((ge.sb F4).mono (S' := [1, 26, 28]) (R' := []) (fun q hq => by simp at hq; simp; omega) (fun q hq => hq))
      have d28 : h2.1 28 = va_up (h.1 28) 0 (nI l) := by rw [F1, A4.2 28 (by decide)]
      have same : ∀ q, 1 < q → q ≠ 26 → q ≠ 28 → h2.1 q = h.1 q := fun q x y z => by rw [F4.2 q (by simp; omega), A4.2 q (by simp; omega)]
      have e1 : h2.1 1 = va_up (h.1 1) 1 (nI l) := by rw [F4.2 1 (by decide), A1]
      obtain ⟨n1, n2, n3, n4, n5⟩ := v.2.2.1.2.1
      refine ⟨rfl, v.l0 g (fun q hq => by simp at hq; omega) (fun q hq => by simp at hq) (fun i i1 i3 => ⟨fun j hj => by rw [same 27 (by decide) (by decide) (by decide)], by rw [d28, up_n _ _ (by omega)], by rw [same 29 (by decide) (by decide) (by decide)], by rw [same 30 (by decide) (by decide) (by decide)], fun j _ => by rw [same 31 (by decide) (by decide) (by decide)], fun j _ => by rw [same 32 (by decide) (by decide) (by decide)], fun j _ => by rw [same 33 (by decide) (by decide) (by decide)], fun j _ => by rw [same 34 (by decide) (by decide) (by decide)]⟩) (by rw [same 27 (by decide) (by decide) (by decide)]; exact v.2.1) (lyr_new (L' := l) v.2.2.1 v.1 g (fun q hq => by simp at hq; omega) ⟨fun j hj => ?_, by rw [e1, d28, up_s, up_s], ?_, ?_, fun s hs => ?_⟩ (by omega) (by rw [d28, up_s]) (fun q x y => same q (by omega) (by omega) (by omega))), by rw [g.1]; omega⟩
      · rw [same 27 (by decide) (by decide) (by decide)]
        show h2.1 2 j = _
        rw [same 2 (by decide) (by decide) (by decide)]; exact n1 j hj
      · rw [e1, up_n _ _ (by decide), same 29 (by decide) (by decide) (by decide)]; exact n3
      · rw [e1, up_n _ _ (by decide), same 30 (by decide) (by decide) (by decide)]; exact n4
      · show h2.1 6 s = _
        rw [same 6 (by decide) (by decide) (by decide), same 31 (by decide) (by decide) (by decide)]; exact n5 s hs
