/-! a first layer anew -/
theorem lyr_new {S : List Nat} {n L' : Nat} {h h' : qm_H} (y : LYR h 1 0) (h5 : 51 ≤ h.2.2.2.2) (a : ge S [] n h h') (hS : ∀ q, q ∈ S → q < 51) (nu : NUM h' 1 0) (hL : L' ≤ 600) (eL : h'.1 28 0 = nI L') (e : ∀ q, 31 ≤ q → q ≤ 34 → h'.1 q = h.1 q) : LYR h' 1 0 := by
  obtain ⟨y1, y2, m, L, y3, y4, y5, y6, y7, y8⟩ := y
  have o : OB h h' := OB.ge a hS (fun q hq => by simp at hq)
  refine ⟨TL.ge y1 a (by simp), nu, m, L', hL, eL, fun s hs => by rw [e 31 (by decide) (by decide)]; exact y5 s hs, ?_, ?_, ?_⟩
  · exact y6.to o (fun t _ => rd_ge a (by omega) (by simp) t) (fun t _ _ j _ => by rw [LT, LT, e 32 (by decide) (by decide)])
  · exact y7.to o (fun t _ => rd_ge a (by omega) (by simp) t) (fun t _ _ j _ => by rw [LYy, LYy, e 33 (by decide) (by decide)])
  · exact y8.to o (fun t _ => rd_ge a (by omega) (by simp) t) (fun t _ _ j _ => by rw [LGg, LGg, e 34 (by decide) (by decide)])
