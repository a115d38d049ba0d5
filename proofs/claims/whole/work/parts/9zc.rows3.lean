/-! the class: rows of a text that has no fault -/
theorem RO_rd {B : Nat → Nat} {L s c b0 : Nat} {h h' : qm_H} {acc : List (Nat × (Nat → Int32))} {flt : Nat × Nat} {a : Nat} (hs : (s = 1 ∧ c = 4 ∧ b0 = 5) ∨ (s = 2 ∧ c = 2 ∧ b0 = 10)) (hp : prs0 B L s = .ok (acc, flt, a)) (h0 : (rdF B L s).1 = 0) (h5 : 51 ≤ h.2.2.2.2) (hN : NR h h' h.2.2.2.2 acc.length) (hR : RW4 h' h.2.2.2.2 b0 acc acc.length) : RO h' h.2.2.2.2 c (rdT B L s) (nn (rdT B L s)) := by
  obtain ⟨acc', flt', a', e1, e2, e3, e4, -⟩ := rd_acc h0
  rw [hp] at e1
  injection e1 with e1
  injection e1 with e1 e1'
  subst e1
  have hs0 : s ≠ 0 := by rcases hs with ⟨e, -⟩ | ⟨e, -⟩ <;> omega
  rw [cnt_len hs0] at e4
  have eT : rdT B L s = tdf s acc (tdI s) := by rw [rdT, hp]; exact if_neg hs0
  have hF : tdf s acc (tdI s) 0 = nI acc.length ∧ ∀ k, k < acc.length → ∀ i, i < c → tdf s acc (tdI s) (1 + c * k + i) = if i = 0 then nI ((lat acc k).1 - b0) else (lat acc k).2 i := by
    rcases hs with ⟨x, y, z⟩ | ⟨x, y, z⟩ <;> subst x <;> subst y <;> subst z
    · exact rows_F (srt := 1) (wide := 4) (lm := 40) (b0 := 5) (fun w vs T => by rw [td, if_neg (by decide), if_pos rfl]) (by decide) (by decide) rfl acc.length acc rfl e4
    · exact rows_F (srt := 2) (wide := 2) (lm := 8) (b0 := 10) (fun w vs T => by rw [td, if_neg (by decide), if_neg (by decide)]) (by decide) (by decide) rfl acc.length acc rfl e4
  have hl : acc.length ≤ 40 := by
    rcases hs with ⟨x, -⟩ | ⟨x, -⟩ <;> subst x
    · exact e4
    · have : acc.length ≤ 8 := e4
      omega
  have hc : c ≤ 4 := by rcases hs with ⟨-, x, -⟩ | ⟨-, x, -⟩ <;> omega
  have hb : ∀ k, k < acc.length → b0 ≤ (lat acc k).1 := fun k hk => by
    have l1 := (e3 _ (lat_in hk)).1
    rcases hs with ⟨x, -, z⟩ | ⟨x, -, z⟩ <;> subst x <;> subst z
    · exact (by decide : ∀ w, w ∈ ws 1 → 5 ≤ w) _ l1
    · exact (by decide : ∀ w, w ∈ ws 2 → 10 ≤ w) _ l1
  have en : nn (rdT B L s) = acc.length := by rw [nn, eT, hF.1, nI_clamp (by omega)]
  obtain ⟨n1, n2, n3, n4, n5, n6⟩ := hN
  rw [en, eT]
  refine ⟨⟨h5, by rw [n1.1]; exact Nat.le_refl _⟩, n2, n3, n4, n5, by rw [n6], fun k hk j hj => ?_⟩
  obtain ⟨r1, r2⟩ := hR k hk
  rw [hF.2 k hk j hj]
  by_cases e : j = 0
  · subst e
    rw [if_pos rfl]
    exact r1.trans (pk_sub (hb k hk))
  · rw [if_neg e]; exact r2 j (by omega) (by omega)
