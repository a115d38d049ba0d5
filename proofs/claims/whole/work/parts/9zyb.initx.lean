/-! both are made -/
def hE : qm_H := (fun _ _ => 0, fun _ _ => 0, fun _ _ => none, fun _ => (0, 0), 0)
def x0 : qm_H := qm_nw hE 7 0
def x1 : qm_H := iTold (qm_nw x0 5 0) 1
def x2 : qm_H := qm_sr (qm_nw (qm_sr x1 0 0 (some 1)) 13 3) 0 1 (some 7)
def x3 : qm_H := qm_sr (iReader (qm_nw x2 1 0) 8) 0 2 (some 8)
def x4 : qm_H := qm_sr (iPlay (qm_nw x3 0 0) 10) 0 3 (some 10)
def x5 : qm_H := qm_sr (iSearch (qm_nw x4 3 0) 17) 0 4 (some 17)
def hX : qm_H := qm_sr (iSpread (qm_nw x5 4 0) 24) 0 5 (some 24)
def hM : qm_H := iModel (qm_nw hX 8 0) 26
theorem n_x {G : qm_G} (hG : G.2.2.2.2 = false) (d : Nat) : qm_Ev G (d + 2) 25 1456 qyX9_init [.ref 0] x0 (fun r h' => r = none ∧ h' = hX) := by
  refine qm_Ev.by (M := mX9_init) okX9_init (Nat.le_of_ble_eq_true rfl) hG fun z hA => ?_
  have w : ∀ p k v, qm_wr false p k v := fun _ _ _ => trivial
  have c1 := n_told hG d (qm_nw x0 5 0) (T := 1) ⟨by decide, rfl⟩ (by decide) (w 1) (by decide)
  have c2 := n_reader hG d (qm_nw x2 1 0) (P := 8) ⟨by decide, rfl⟩ (by decide) (w 8) (by decide)
  have c3 := n_play hG d (qm_nw x3 0 0) (P := 10) ⟨by decide, rfl⟩ (by decide) (w 10) (by decide)
  have c4 := n_search hG d (qm_nw x4 3 0) (P := 17) ⟨by decide, rfl⟩ (by decide) (w 17) (by decide)
  have c5 := n_spread hG d (qm_nw x5 4 0) (P := 24) ⟨by decide, rfl⟩ (by decide) (w 24) (by decide)
  have i1 : qm_is false x1 0 7 := ⟨by decide, rfl⟩
  have i2 : qm_is false (qm_nw (qm_sr x1 0 0 (some 1)) 13 3) 0 7 := ⟨by decide, rfl⟩
  have i3 : qm_is false (iReader (qm_nw x2 1 0) 8) 0 7 := ⟨by decide, rfl⟩
  have i4 : qm_is false (iPlay (qm_nw x3 0 0) 10) 0 7 := ⟨by decide, rfl⟩
  have i5 : qm_is false (iSearch (qm_nw x4 3 0) 17) 0 7 := ⟨by decide, rfl⟩
  have i6 : qm_is false (iSpread (qm_nw x5 4 0) 24) 0 7 := ⟨by decide, rfl⟩
  have z0 : x0.2.2.2.2 < 1000000 := by decide
  have z1 : (qm_sr x1 0 0 (some 1)).2.2.2.2 < 1000000 := by decide
  have z2 : x2.2.2.2.2 < 1000000 := by decide
  have z3 : x3.2.2.2.2 < 1000000 := by decide
  have z4 : x4.2.2.2.2 < 1000000 := by decide
  have z5 : x5.2.2.2.2 < 1000000 := by decide
  refine qm_wp_ok hA [] 200 _ _ _ _ _ _ ⟨z0, by decide, by decide, 5, 609, _, c1, ⟨by decide, by decide⟩, ?_⟩
  rintro _ _ ⟨rfl, rfl⟩
  refine ⟨i1, trivial, by decide, by decide, z1, by decide, by decide, i2, trivial, z2, by decide, by decide, 1, 600, _, c2, ⟨by decide, by decide⟩, ?_⟩
  rintro _ _ ⟨rfl, rfl⟩
  refine ⟨i3, trivial, z3, by decide, by decide, 6, 36, _, c3, ⟨by decide, by decide⟩, ?_⟩
  rintro _ _ ⟨rfl, rfl⟩
  refine ⟨i4, trivial, z4, by decide, by decide, 6, 103, _, c4, ⟨by decide, by decide⟩, ?_⟩
  rintro _ _ ⟨rfl, rfl⟩
  refine ⟨i5, trivial, z5, by decide, by decide, 1, 64, _, c5, ⟨by decide, by decide⟩, ?_⟩
  rintro _ _ ⟨rfl, rfl⟩
  exact ⟨i6, trivial, rfl, rfl, rfl⟩
/-- constants in force -/
def FLP (h : qm_H) : Prop := qm_SKK.length ≤ h.2.2.2.2 ∧ (∀ p, p < 51 → some (h.2.2.2.1 p) = qm_SKK[p]?) ∧ ∀ p k q, ((qm_SK[p]?).bind (fun r => r[k]?)).join = some q → h.2.2.1 p k = some q
def onG (G : qm_G) : qm_G := (G.1, G.2.1, G.2.2.1, G.2.2.2.1, true)
theorem FLP.kn {h : qm_H} (f : FLP h) (p : Nat) : qm_kn true h p = qm_kn false h p := by
  unfold qm_kn
  show (match qm_SKK[p]? with | some x => x | none => h.2.2.2.1 p) = h.2.2.2.1 p
  cases e : qm_SKK[p]? with
  | none => rfl
  | some x =>
    have hp : p < 51 := (List.getElem?_eq_some_iff.mp e).1
    have := f.2.1 p hp
    rw [e] at this
    exact (Option.some.inj this).symm
theorem FLP.rd {h : qm_H} (f : FLP h) (p k : Nat) : qm_rd true h p k = qm_rd false h p k := by
  unfold qm_rd
  show (match ((qm_SK[p]?).bind (fun r => r[k]?)).join with | some q => some q | none => h.2.2.1 p k) = h.2.2.1 p k
  cases e : ((qm_SK[p]?).bind (fun r => r[k]?)).join with
  | none => rfl
  | some q => exact (f.2.2 p k q e).symm
theorem FLP.rep {G : qm_G} (hG : G.2.2.2.2 = false) {h : qm_H} {H : Heap} (f : FLP h) (r : qm_Rep G h H) : qm_Rep (onG G) h H := by
  obtain ⟨r1, r2, r3, r4⟩ := r
  refine ⟨r1, r2, fun _ => f.1, fun p hp => ?_⟩
  have q := r4 p hp
  have ev : ∀ k t, qm_vl (onG G) h p k t = qm_vl G h p k t := fun k t => by
    unfold qm_vl
    rw [hG, show (onG G).2.2.2.2 = true from rfl, f.rd p k]
    rfl
  have ek : qm_kn (onG G).2.2.2.2 h p = qm_kn G.2.2.2.2 h p := by rw [hG]; exact f.kn p
  unfold qm_at at q ⊢
  rw [ek]
  simp only [ev]
  exact q
theorem onG.mv (G : qm_G) : qm_mv (onG G) = qm_mv G := by
  funext v
  cases v <;> rfl
theorem onG.al (G : qm_G) : ∀ (L : qm_L) (i : Nat), qm_al (onG G) i L = qm_al G i L
  | [], i => rfl
  | none :: L, i => onG.al G L (i + 1)
  | some v :: L, i => by rw [qm_al, qm_al, onG.al G L (i + 1), onG.mv]
theorem onG.pw {G : qm_G} (hG : G.2.2.2.2 = false) {M : qm_M} {z : qm_Z} {i c s : Nat} {L : qm_L} {st : List Value} {h : qm_H} (f : FLP h) (k : qm_PW (onG G) M z i c s L st h) : qm_PW G M z i c s L st h := fun H locs ls h1 h2 hR hS hl => by
  have q := k H locs ls h1 h2 (f.rep hG hR) hS (by unfold qm_lv at hl ⊢; rw [onG.al]; exact hl)
  rw [onG.mv] at q
  exact q
set_option maxRecDepth 100000 in
theorem hM_k : (List.range 51).all (fun p => decide (some (hM.2.2.2.1 p) = qm_SKK[p]?)) = true := by decide +kernel
set_option maxRecDepth 100000 in
theorem hM_r : (List.range 51).all (fun p => (List.range 64).all fun k => match ((qm_SK[p]?).bind (fun r => r[k]?)).join with
    | some q => decide (hM.2.2.1 p k = some q)
    | none => true) = true := by decide +kernel
theorem SK_len : (List.range 51).all (fun p => decide (((qm_SK[p]?).getD []).length ≤ 64)) = true := by decide +kernel
theorem hM_f : FLP hM := by
  refine ⟨(by decide : 51 ≤ 51), fun p hp => ?_, fun p k q e => ?_⟩
  · exact of_decide_eq_true (List.all_eq_true.mp hM_k p (List.mem_range.mpr hp))
  · by_cases hp : p < 51
    · by_cases hk : k < 64
      · have := List.all_eq_true.mp (List.all_eq_true.mp hM_r p (List.mem_range.mpr hp)) k (List.mem_range.mpr hk)
        rw [e] at this
        exact of_decide_eq_true this
      · exfalso
        have l := of_decide_eq_true (List.all_eq_true.mp SK_len p (List.mem_range.mpr hp))
        cases c : qm_SK[p]? with
        | none => rw [c] at e; cases e
        | some r =>
          rw [c] at e l
          have : r[k]? = none := List.getElem?_eq_none (Nat.le_trans l (Nat.not_lt.mp hk))
          have e : (r[k]?).join = some q := e
          rw [this] at e
          cases e
    · rw [List.getElem?_eq_none (show qm_SK.length ≤ p from Nat.not_lt.mp hp)] at e
      cases e
set_option maxRecDepth 100000 in
theorem hM_i : INV hM := by
  have z : ∀ q, q = 2 ∨ q = 6 ∨ q = 27 ∨ q = 28 ∨ q = 29 ∨ q = 31 ∨ q = 50 → ∀ j, hM.1 q j = 0 := by
    rintro q (rfl | rfl | rfl | rfl | rfl | rfl | rfl) j <;> rfl
  have n : ∀ q, q = 3 ∨ q = 4 ∨ q = 5 ∨ q = 7 → ∀ j, hM.2.2.1 q j = none := by
    rintro q (rfl | rfl | rfl | rfl) j <;> rfl
  have a1 : hM.1 1 1 = 0 := rfl
  have a2 : hM.1 1 2 = 0 := rfl
  have a3 : hM.1 1 3 = -1 := rfl
  have a30 : hM.1 30 0 = -1 := rfl
  have sz : hM.2.2.2.2 = 51 := rfl
  refine ⟨by rw [sz]; decide, fun k _ => ⟨0, by decide, by rw [z 27 (by simp)]; rfl⟩, ⟨TL.one (by rw [sz]; decide), ⟨fun j _ => ?_, ?_, ?_, ?_, fun s _ => ?_⟩, fun _ => 0, 0, by decide, by rw [z 28 (by simp)]; rfl, fun s _ => ⟨Nat.zero_le 2, by rw [z 31 (by simp)]; rfl⟩, fun t _ => ⟨fun q => absurd q (Nat.not_lt_zero _), fun _ => ?_⟩, fun t _ => ⟨fun q => absurd q (Nat.not_lt_zero _), fun _ => ?_⟩, fun t _ => ⟨fun q => absurd q (Nat.not_lt_zero _), fun _ => ?_⟩⟩, fun s _ => Or.inr ⟨z 50 (by simp) s, n 7 (by simp) s⟩, fun s s' T _ _ _ q => ?_⟩
  · show hM.1 2 j = _
    rw [z 2 (by simp), z 27 (by simp)]
  · rw [a1, z 28 (by simp)]
  · rw [a2, z 29 (by simp)]
  · rw [a3, a30]
  · show hM.1 6 s = _
    rw [z 6 (by simp), z 31 (by simp)]
  · rw [rd_fr (by unfold FR; omega)]; exact n 3 (by simp) t
  · rw [rd_fr (by unfold FR; omega)]; exact n 4 (by simp) t
  · rw [rd_fr (by unfold FR; omega)]; exact n 5 (by simp) t
  · rw [n 7 (by simp)] at q; cases q
