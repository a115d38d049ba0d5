/-! the reference: calls that play a year -/
/-- what is kept from call to call stays -/
def pers (h h' : qm_H) : Prop := sb [26, 35, 36, 37, 38, 39, 40, 41, 42, 43, 44, 45, 46, 47, 48, 49] h h'
theorem pers.rf {h : qm_H} : pers h h := sb.rf
theorem pers.tr {h h1 h2 : qm_H} (a : pers h h1) (b : pers h1 h2) : pers h h2 := sb.tr a b
theorem pers.s26 {h h1 : qm_H} {k : Nat} {v : Int32} (a : pers h h1) : pers h (qm_si h1 26 k v) := sb.si a (by decide)
theorem fr.ps {h h' : qm_H} (a : fr h h') : pers h h' := ⟨a.1, fun q hq => a.2.1 q (fun e => hq (by revert e; simp only [List.mem_cons, List.not_mem_nil, or_false]; omega))⟩
theorem HD.ps {h h' : qm_H} {t : Nat} (a : HD h h' t) : pers h h' := ⟨a.2.2.2.1, fun q hq => a.2.2.2.2.1 q (fun e => hq (by revert e; simp only [List.mem_cons, List.not_mem_nil, or_false]; omega))⟩
theorem pers.row {h h' : qm_H} (a : pers h h') (t : Nat) : tw h' t = tw h t := by
  funext j
  show h'.1 32 _ = h.1 32 _
  rw [a.2 32 (by decide)]
theorem pers.yr {h h' : qm_H} (a : pers h h') (y : Nat) : yw h' y = yw h y := by
  funext j
  show h'.1 33 _ = h.1 33 _
  rw [a.2 33 (by decide)]
/-- a number of so many -/
def inR (k : Int32) (m : Nat) : Prop := 0 ≤ k ∧ k ≤ nI m - 1
section Ref6
theorem e_layAll {G : qm_G} (hG : G.2.2.2.2 = true) (d : Nat) (h : qm_H) {mt my : Nat} (hm : h.1 31 0 = nI mt) (hm2 : mt ≤ 2) (hy : h.1 31 1 = nI my) (hy2 : my ≤ 2) (a b : Int32) : qm_Ev G (d + 3) 0 0 qyX10_layAll [.ref 26, .int a, .int b] h (fun r h' => (∃ t y, t < mt ∧ y < my ∧ a = nI t ∧ b = nI y ∧ r = some (.int 1) ∧ HD (qm_si h 26 34 (nI y)) h' t) ∨ (¬ (inR b my ∧ inR a mt) ∧ r = some (.int 0) ∧ pers h h')) := by
  refine qm_Ev.run (M := mX10_layAll) okX10_layAll rfl hG fun z => ?_
  refine ⟨rfl, ?_⟩
  refine ⟨0, 0, _, e_hasYear hG d h b, ⟨Nat.le_refl _, Nat.le_refl _⟩, ?_⟩
  rintro _ _ ⟨rfl, rfl⟩
  rw [hy]
  refine b2_eq (fun hb => ?_) (fun hb => ?_)
  · have hb1 := of_decide_eq_true hb
    obtain ⟨y, hyy, rfl⟩ := in_of hb1.1 hb1.2 (by omega)
    refine ⟨rfl, ?_⟩
    refine ⟨0, 0, _, e_hand hG d (qm_si h 26 34 (nI y)) (mt := mt) hm hm2 a, ⟨Nat.le_refl _, Nat.le_refl _⟩, ?_⟩
    rintro _ h2 (⟨t, ht, rfl, rfl, e1⟩ | ⟨e0, rfl, rfl⟩)
    · exact ⟨fun q => absurd q (by decide), fun _ => ⟨rfl, Or.inl ⟨t, y, ht, hyy, rfl, rfl, rfl, e1⟩⟩⟩
    · exact ⟨fun _ => ⟨rfl, Or.inr ⟨fun q => e0 q.2, rfl, pers.rf.s26⟩⟩, fun q => absurd rfl q⟩
  · exact ⟨rfl, Or.inr ⟨fun q => of_decide_eq_false hb q.1, rfl, pers.rf.s26⟩⟩
end Ref6
