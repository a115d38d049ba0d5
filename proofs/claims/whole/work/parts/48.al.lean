/-! what lies behind an array's end is free: heaps may be made canonical -/
def al (h h' : qm_H) : Prop := h'.2 = h.2 ∧ ∀ p, h'.1 p = h.1 p ∨ ∃ N, qm_SKK[p]? = some (10, N) ∧ ∀ j, j < N → h'.1 p j = h.1 p j
theorem arrV_to {cI : ClassId} {N : Nat} {f g : Nat → Value} (h : ∀ j, j < N → f j = g j) : arrV cI N f = arrV cI N g := by
  unfold arrV
  congr 2
  funext j
  exact h j.val j.isLt
theorem qm_Rep.al {G : qm_G} (hG : G.2.2.2.2 = true) {h h' : qm_H} {H : Heap} (a : al h h') (k : qm_Rep G h H) : qm_Rep G h' H := by
  obtain ⟨k1, k2, k3, k4⟩ := k
  obtain ⟨a1, a2⟩ := a
  refine ⟨by rw [a1]; exact k1, by rw [a1]; exact k2, by rw [a1]; exact k3, fun p hp => ?_⟩
  rw [a1] at hp
  have k5 := k4 p hp
  have hkn : qm_kn G.2.2.2.2 h' p = qm_kn G.2.2.2.2 h p := by unfold qm_kn; rw [a1]
  have hrd : ∀ j, qm_rd G.2.2.2.2 h' p j = qm_rd G.2.2.2.2 h p j := fun j => by unfold qm_rd; rw [a1]
  have hvl : h'.1 p = h.1 p → ∀ j t, qm_vl G h' p j t = qm_vl G h p j t := by
    intro e j t
    unfold qm_vl
    rw [e, a1, hrd]
  unfold qm_at at k5 ⊢
  rw [hkn]
  rcases a2 p with e | ⟨N, e, hN⟩
  · split
    · rename_i hc
      rw [if_pos hc] at k5
      obtain ⟨r, g1, g2⟩ := k5
      exact ⟨r, g1, g2.to (fun j _ => (hvl e j _).symm)⟩
    · rename_i hc
      rw [if_neg hc] at k5
      rw [k5]
      congr 2
      funext j
      exact (hvl e j _).symm
  · have e2 : qm_kn G.2.2.2.2 h p = (10, N) := by
      unfold qm_kn
      rw [hG]
      show (match qm_SKK[p]? with
        | some x => x
        | none => h.2.2.2.1 p) = (10, N)
      rw [e]
    rw [e2] at k5 ⊢
    rw [if_neg (show ¬ 10 < 9 by decide)] at k5 ⊢
    rw [k5]
    congr 1
    exact arrV_to (fun j hj => congrArg Value.int (hN j hj).symm)
theorem qm_Ev.al {G : qm_G} (hG : G.2.2.2.2 = true) {d C S : Nat} {y : qm_CI} {as : List Value} {h : qm_H} {uQ uQ' : Option Value → qm_H → Prop} (k : qm_Ev G d C S y as h uQ) (hq : ∀ v h1, uQ v h1 → ∃ h2, al h1 h2 ∧ uQ' v h2) : qm_Ev G d C S y as h uQ' := by
  intro l p e ha hc hk s m args below hf h1 h2 h3
  obtain ⟨k, o, g1, g2, g3, ⟨⟨v, h', e1, e2, e3⟩, g4⟩⟩ := k l p e ha hc hk s m args below hf h1 h2 h3
  obtain ⟨h2, q1, q2⟩ := hq v h' e2
  exact ⟨k, o, g1, g2, g3, ⟨v, h2, e1, q2, e3.1.al hG q1, e3.2⟩, g4⟩
/-- a town in hand, nothing played -/
def hnd (h : qm_H) (t : Nat) : qm_H := (fun q => if q = 26 then (fun k => if k = 22 then nI t else if k = 23 then tw h t 0 else if k = 24 ∨ k = 25 ∨ k = 26 ∨ k = 27 then 0 else h.1 26 k) else if q = 37 then (s_init (tw h t)).1 else if q = 38 then (s_init (tw h t)).2.1 else if q = 39 then (s_init (tw h t)).2.2.1 else if q = 40 then (s_init (tw h t)).2.2.2.1 else if q = 41 then (s_init (tw h t)).2.2.2.2.1 else if q = 42 then (s_init (tw h t)).2.2.2.2.2.1 else h.1 q, h.2)
theorem hnd.ps (h : qm_H) (t : Nat) : pers h (hnd h t) := by
  refine ⟨rfl, fun q hq => ?_⟩
  simp only [List.mem_cons, List.not_mem_nil, or_false, not_or] at hq
  obtain ⟨n26, -, -, n37, n38, n39, n40, n41, n42, -⟩ := hq
  show (if q = 26 then _ else _) = _
  rw [if_neg n26, if_neg n37, if_neg n38, if_neg n39, if_neg n40, if_neg n41, if_neg n42]
theorem HD.hnd {h h' : qm_H} {t : Nat} (a : HD h h' t) : al h' (hnd h t) := by
  obtain ⟨a1, a2, a3, a4, a5, a6⟩ := a
  obtain ⟨b1, b2, b3, b4, b5, b6, b7⟩ := (s_hand_init (tw h t) (rps h)).sm
  rw [← a1] at b1 b2 b3 b4 b5 b6 b7
  refine ⟨a4.symm, fun p => ?_⟩
  by_cases n26 : p = 26
  · subst n26
    left
    funext k
    show (if k = 22 then nI t else if k = 23 then tw h t 0 else if k = 24 ∨ k = 25 ∨ k = 26 ∨ k = 27 then 0 else h.1 26 k) = h'.1 26 k
    split
    · rename_i e; rw [e, a2]
    · split
      · rename_i e; rw [e, a3]
      · have c24 : h'.1 26 24 = 0 := (congrArg (fun x => x.1) b7).symm
        have c25 : h'.1 26 25 = 0 := (congrArg (fun x => x.2.1) b7).symm
        have c26 : h'.1 26 26 = 0 := (congrArg (fun x => x.2.2.1) b7).symm
        have c27 : h'.1 26 27 = 0 := (congrArg (fun x => x.2.2.2) b7).symm
        split
        · rename_i e
          rcases e with e | e | e | e <;> rw [e]
          · exact c24.symm
          · exact c25.symm
          · exact c26.symm
          · exact c27.symm
        · rename_i e1 e2 e3
          refine (a6 k (fun q => ?_)).symm
          simp only [List.mem_cons, List.not_mem_nil, or_false] at q
          omega
  · by_cases n37 : p = 37
    · subst n37; exact Or.inr ⟨6, rfl, b1⟩
    · by_cases n38 : p = 38
      · subst n38; exact Or.inr ⟨6, rfl, b2⟩
      · by_cases n39 : p = 39
        · subst n39; exact Or.inr ⟨6, rfl, b3⟩
        · by_cases n40 : p = 40
          · subst n40; exact Or.inr ⟨6, rfl, b4⟩
          · by_cases n41 : p = 41
            · subst n41; exact Or.inr ⟨6, rfl, b5⟩
            · by_cases n42 : p = 42
              · subst n42; exact Or.inr ⟨6, rfl, b6⟩
              · left
                show (if p = 26 then _ else _) = _
                rw [if_neg n26, if_neg n37, if_neg n38, if_neg n39, if_neg n40, if_neg n41, if_neg n42]
                refine (a5 p (fun q => ?_)).symm
                simp only [List.mem_cons, List.not_mem_nil, or_false] at q
                omega
theorem e_handC {G : qm_G} (hG : G.2.2.2.2 = true) (d : Nat) (h : qm_H) {mt : Nat} (hm : h.1 31 0 = nI mt) (hm2 : mt ≤ 2) (k : Int32) : qm_Ev G (d + 2) 0 0 qyX10_hand [.ref 26, .int k] h (fun r h' => (∃ t, t < mt ∧ k = nI t ∧ r = some (.int 1) ∧ h' = hnd h t) ∨ (inb k mt = false ∧ r = some (.int 0) ∧ h = h')) := by
  refine (e_hand hG d h hm hm2 k).al hG ?_
  rintro v h1 (⟨t, e1, e2, e3, e4⟩ | ⟨e1, e2, e3⟩)
  · exact ⟨_, e4.hnd, Or.inl ⟨t, e1, e2, e3, rfl⟩⟩
  · exact ⟨h1, ⟨rfl, fun _ => Or.inl rfl⟩, Or.inr ⟨inb_f e1, e2, e3⟩⟩
theorem inR_b {k : Int32} {m : Nat} (h : inb k m = true) : inR k m := by
  have h1 := of_decide_eq_true h
  exact h1
theorem e_layAllC {G : qm_G} (hG : G.2.2.2.2 = true) (d : Nat) (h : qm_H) {mt my : Nat} (hm : h.1 31 0 = nI mt) (hm2 : mt ≤ 2) (hy : h.1 31 1 = nI my) (hy2 : my ≤ 2) (a b : Int32) : qm_Ev G (d + 3) 0 0 qyX10_layAll [.ref 26, .int a, .int b] h (fun r h' => (∃ t y, t < mt ∧ y < my ∧ a = nI t ∧ b = nI y ∧ r = some (.int 1) ∧ h' = hnd (qm_si h 26 34 (nI y)) t) ∨ ((inb a mt && inb b my) = false ∧ r = some (.int 0) ∧ pers h h')) := by
  refine (e_layAll hG d h hm hm2 hy hy2 a b).al hG ?_
  rintro v h1 (⟨t, y, e1, e2, e3, e4, e5, e6⟩ | ⟨e1, e2, e3⟩)
  · exact ⟨_, e6.hnd, Or.inl ⟨t, y, e1, e2, e3, e4, e5, rfl⟩⟩
  · refine ⟨h1, ⟨rfl, fun _ => Or.inl rfl⟩, Or.inr ⟨?_, e2, e3⟩⟩
    cases ha : inb a mt
    · rfl
    · cases hb : inb b my
      · rfl
      · exact absurd ⟨inR_b hb, inR_b ha⟩ e1
