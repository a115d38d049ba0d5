/-! the constructors -/
def iReader0 (h : qm_H) (P : Nat) : qm_H := qm_si (qm_si (h) P 0 (0)) P 1 (-1)
def iReader (h : qm_H) (P : Nat) : qm_H := qm_si (qm_si (qm_si (qm_si (qm_si (qm_si (qm_sr (qm_nw (iReader0 h P) 10 600) P 2 (some (iReader0 h P).2.2.2.2)) P 3 (0)) P 4 (0)) P 5 (0)) P 6 (0)) P 7 (0)) P 8 (0)
theorem n_reader {G : qm_G} {b : Bool} (hG : G.2.2.2.2 = b) (d : Nat) (h : qm_H) {P : Nat} (i0 : qm_is b h P 1) (hl : P < h.2.2.2.2) (hw : ∀ k v, qm_wr b P k v) (hz : h.2.2.2.2 + 1 < 1000000) : qm_Ev G (d + 1) 1 600 qyX2_init [.ref P] h (fun r h' => r = none ∧ h' = iReader h P) := by
  refine qm_Ev.by (M := mX2_init) okX2_init (Nat.le_of_ble_eq_true rfl) hG fun z hA => ?_
  have i1 : qm_is b (qm_nw (iReader0 h P) 10 600) P 1 := is_nwb (h := iReader0 h P) i0 (by show P < h.2.2.2.2; omega)
  have sz0 : (iReader0 h P).2.2.2.2 < 1000000 := (by omega : h.2.2.2.2 < 1000000)
  exact qm_wp_ok hA [] 200 _ _ _ _ _ _ ⟨i0, trivial, i0, trivial, by decide, by decide, sz0, by decide, by decide, i1, hw _ _, i1, trivial, i1, trivial, i1, trivial, i1, trivial, i1, trivial, i1, trivial, rfl, rfl, rfl⟩
def iPlay0 (h : qm_H) (P : Nat) : qm_H := qm_si (qm_si (qm_si (h) P 0 (0)) P 1 (-1)) P 2 (0)
def iPlay1 (h : qm_H) (P : Nat) : qm_H := qm_sr (qm_nw (iPlay0 h P) 10 6) P 3 (some (iPlay0 h P).2.2.2.2)
def iPlay2 (h : qm_H) (P : Nat) : qm_H := qm_sr (qm_nw (iPlay1 h P) 10 6) P 4 (some (iPlay1 h P).2.2.2.2)
def iPlay3 (h : qm_H) (P : Nat) : qm_H := qm_si (qm_si (qm_si (qm_si (qm_si (qm_sr (qm_nw (iPlay2 h P) 10 6) P 5 (some (iPlay2 h P).2.2.2.2)) P 6 (0)) P 7 (0)) P 8 (0)) P 9 (0)) P 10 (0)
def iPlay4 (h : qm_H) (P : Nat) : qm_H := qm_sr (qm_nw (iPlay3 h P) 10 6) P 11 (some (iPlay3 h P).2.2.2.2)
def iPlay5 (h : qm_H) (P : Nat) : qm_H := qm_sr (qm_nw (iPlay4 h P) 10 6) P 12 (some (iPlay4 h P).2.2.2.2)
def iPlay (h : qm_H) (P : Nat) : qm_H := qm_sr (qm_nw (iPlay5 h P) 10 6) P 13 (some (iPlay5 h P).2.2.2.2)
theorem n_play {G : qm_G} {b : Bool} (hG : G.2.2.2.2 = b) (d : Nat) (h : qm_H) {P : Nat} (i0 : qm_is b h P 0) (hl : P < h.2.2.2.2) (hw : ∀ k v, qm_wr b P k v) (hz : h.2.2.2.2 + 6 < 1000000) : qm_Ev G (d + 1) 6 36 qyX1_init [.ref P] h (fun r h' => r = none ∧ h' = iPlay h P) := by
  refine qm_Ev.by (M := mX1_init) okX1_init (Nat.le_of_ble_eq_true rfl) hG fun z hA => ?_
  have i1 : qm_is b (qm_nw (iPlay0 h P) 10 6) P 0 := is_nwb (h := iPlay0 h P) i0 (by show P < h.2.2.2.2; omega)
  have sz0 : (iPlay0 h P).2.2.2.2 < 1000000 := (by omega : h.2.2.2.2 < 1000000)
  have i2 : qm_is b (qm_nw (iPlay1 h P) 10 6) P 0 := is_nwb (h := iPlay1 h P) i1 (by show P < h.2.2.2.2 + 1; omega)
  have sz1 : (iPlay1 h P).2.2.2.2 < 1000000 := (by omega : h.2.2.2.2 + 1 < 1000000)
  have i3 : qm_is b (qm_nw (iPlay2 h P) 10 6) P 0 := is_nwb (h := iPlay2 h P) i2 (by show P < h.2.2.2.2 + 1 + 1; omega)
  have sz2 : (iPlay2 h P).2.2.2.2 < 1000000 := (by omega : h.2.2.2.2 + 1 + 1 < 1000000)
  have i4 : qm_is b (qm_nw (iPlay3 h P) 10 6) P 0 := is_nwb (h := iPlay3 h P) i3 (by show P < h.2.2.2.2 + 1 + 1 + 1; omega)
  have sz3 : (iPlay3 h P).2.2.2.2 < 1000000 := (by omega : h.2.2.2.2 + 1 + 1 + 1 < 1000000)
  have i5 : qm_is b (qm_nw (iPlay4 h P) 10 6) P 0 := is_nwb (h := iPlay4 h P) i4 (by show P < h.2.2.2.2 + 1 + 1 + 1 + 1; omega)
  have sz4 : (iPlay4 h P).2.2.2.2 < 1000000 := (by omega : h.2.2.2.2 + 1 + 1 + 1 + 1 < 1000000)
  have i6 : qm_is b (qm_nw (iPlay5 h P) 10 6) P 0 := is_nwb (h := iPlay5 h P) i5 (by show P < h.2.2.2.2 + 1 + 1 + 1 + 1 + 1; omega)
  have sz5 : (iPlay5 h P).2.2.2.2 < 1000000 := (by omega : h.2.2.2.2 + 1 + 1 + 1 + 1 + 1 < 1000000)
  exact qm_wp_ok hA [] 200 _ _ _ _ _ _ ⟨i0, trivial, i0, trivial, i0, trivial, by decide, by decide, sz0, by decide, by decide, i1, hw _ _, by decide, by decide, sz1, by decide, by decide, i2, hw _ _, by decide, by decide, sz2, by decide, by decide, i3, hw _ _, i3, trivial, i3, trivial, i3, trivial, i3, trivial, i3, trivial, by decide, by decide, sz3, by decide, by decide, i4, hw _ _, by decide, by decide, sz4, by decide, by decide, i5, hw _ _, by decide, by decide, sz5, by decide, by decide, i6, hw _ _, rfl, rfl, rfl⟩
def iSearch0 (h : qm_H) (P : Nat) : qm_H := qm_si (qm_si (h) P 0 (-1)) P 1 (-1)
def iSearch1 (h : qm_H) (P : Nat) : qm_H := qm_sr (qm_nw (iSearch0 h P) 10 6) P 2 (some (iSearch0 h P).2.2.2.2)
def iSearch2 (h : qm_H) (P : Nat) : qm_H := qm_sr (qm_nw (iSearch1 h P) 10 6) P 3 (some (iSearch1 h P).2.2.2.2)
def iSearch3 (h : qm_H) (P : Nat) : qm_H := qm_sr (qm_nw (iSearch2 h P) 10 42) P 4 (some (iSearch2 h P).2.2.2.2)
def iSearch4 (h : qm_H) (P : Nat) : qm_H := qm_sr (qm_nw (iSearch3 h P) 10 7) P 5 (some (iSearch3 h P).2.2.2.2)
def iSearch5 (h : qm_H) (P : Nat) : qm_H := qm_sr (qm_nw (iSearch4 h P) 10 36) P 6 (some (iSearch4 h P).2.2.2.2)
def iSearch (h : qm_H) (P : Nat) : qm_H := qm_si (qm_sr (qm_nw (iSearch5 h P) 10 6) P 7 (some (iSearch5 h P).2.2.2.2)) P 8 (0)
theorem n_search {G : qm_G} {b : Bool} (hG : G.2.2.2.2 = b) (d : Nat) (h : qm_H) {P : Nat} (i0 : qm_is b h P 3) (hl : P < h.2.2.2.2) (hw : ∀ k v, qm_wr b P k v) (hz : h.2.2.2.2 + 6 < 1000000) : qm_Ev G (d + 1) 6 103 qyX4_init [.ref P] h (fun r h' => r = none ∧ h' = iSearch h P) := by
  refine qm_Ev.by (M := mX4_init) okX4_init (Nat.le_of_ble_eq_true rfl) hG fun z hA => ?_
  have i1 : qm_is b (qm_nw (iSearch0 h P) 10 6) P 3 := is_nwb (h := iSearch0 h P) i0 (by show P < h.2.2.2.2; omega)
  have sz0 : (iSearch0 h P).2.2.2.2 < 1000000 := (by omega : h.2.2.2.2 < 1000000)
  have i2 : qm_is b (qm_nw (iSearch1 h P) 10 6) P 3 := is_nwb (h := iSearch1 h P) i1 (by show P < h.2.2.2.2 + 1; omega)
  have sz1 : (iSearch1 h P).2.2.2.2 < 1000000 := (by omega : h.2.2.2.2 + 1 < 1000000)
  have i3 : qm_is b (qm_nw (iSearch2 h P) 10 42) P 3 := is_nwb (h := iSearch2 h P) i2 (by show P < h.2.2.2.2 + 1 + 1; omega)
  have sz2 : (iSearch2 h P).2.2.2.2 < 1000000 := (by omega : h.2.2.2.2 + 1 + 1 < 1000000)
  have i4 : qm_is b (qm_nw (iSearch3 h P) 10 7) P 3 := is_nwb (h := iSearch3 h P) i3 (by show P < h.2.2.2.2 + 1 + 1 + 1; omega)
  have sz3 : (iSearch3 h P).2.2.2.2 < 1000000 := (by omega : h.2.2.2.2 + 1 + 1 + 1 < 1000000)
  have i5 : qm_is b (qm_nw (iSearch4 h P) 10 36) P 3 := is_nwb (h := iSearch4 h P) i4 (by show P < h.2.2.2.2 + 1 + 1 + 1 + 1; omega)
  have sz4 : (iSearch4 h P).2.2.2.2 < 1000000 := (by omega : h.2.2.2.2 + 1 + 1 + 1 + 1 < 1000000)
  have i6 : qm_is b (qm_nw (iSearch5 h P) 10 6) P 3 := is_nwb (h := iSearch5 h P) i5 (by show P < h.2.2.2.2 + 1 + 1 + 1 + 1 + 1; omega)
  have sz5 : (iSearch5 h P).2.2.2.2 < 1000000 := (by omega : h.2.2.2.2 + 1 + 1 + 1 + 1 + 1 < 1000000)
  exact qm_wp_ok hA [] 200 _ _ _ _ _ _ ⟨i0, trivial, i0, trivial, by decide, by decide, sz0, by decide, by decide, i1, hw _ _, by decide, by decide, sz1, by decide, by decide, i2, hw _ _, by decide, by decide, sz2, by decide, by decide, i3, hw _ _, by decide, by decide, sz3, by decide, by decide, i4, hw _ _, by decide, by decide, sz4, by decide, by decide, i5, hw _ _, by decide, by decide, sz5, by decide, by decide, i6, hw _ _, i6, Or.inl rfl, rfl, rfl, rfl⟩
def iSpread0 (h : qm_H) (P : Nat) : qm_H := h
def iSpread (h : qm_H) (P : Nat) : qm_H := qm_sr (qm_nw (iSpread0 h P) 10 64) P 0 (some (iSpread0 h P).2.2.2.2)
theorem n_spread {G : qm_G} {b : Bool} (hG : G.2.2.2.2 = b) (d : Nat) (h : qm_H) {P : Nat} (i0 : qm_is b h P 4) (hl : P < h.2.2.2.2) (hw : ∀ k v, qm_wr b P k v) (hz : h.2.2.2.2 + 1 < 1000000) : qm_Ev G (d + 1) 1 64 qyX6_init [.ref P] h (fun r h' => r = none ∧ h' = iSpread h P) := by
  refine qm_Ev.by (M := mX6_init) okX6_init (Nat.le_of_ble_eq_true rfl) hG fun z hA => ?_
  have i1 : qm_is b (qm_nw (iSpread0 h P) 10 64) P 4 := is_nwb (h := iSpread0 h P) i0 (by show P < h.2.2.2.2; omega)
  have sz0 : (iSpread0 h P).2.2.2.2 < 1000000 := (by omega : h.2.2.2.2 < 1000000)
  exact qm_wp_ok hA [] 200 _ _ _ _ _ _ ⟨by decide, by decide, sz0, by decide, by decide, i1, hw _ _, rfl, rfl, rfl⟩
def iModel0 (h : qm_H) (P : Nat) : qm_H := h
def iModel1 (h : qm_H) (P : Nat) : qm_H := qm_sr (qm_nw (iModel0 h P) 9 2400) P 1 (some (iModel0 h P).2.2.2.2)
def iModel2 (h : qm_H) (P : Nat) : qm_H := qm_sr (qm_nw (iModel1 h P) 10 4) P 2 (some (iModel1 h P).2.2.2.2)
def iModel3 (h : qm_H) (P : Nat) : qm_H := qm_sr (qm_nw (iModel2 h P) 10 4) P 3 (some (iModel2 h P).2.2.2.2)
def iModel4 (h : qm_H) (P : Nat) : qm_H := qm_sr (qm_nw (iModel3 h P) 10 4) P 4 (some (iModel3 h P).2.2.2.2)
def iModel5 (h : qm_H) (P : Nat) : qm_H := qm_sr (qm_nw (iModel4 h P) 10 12) P 5 (some (iModel4 h P).2.2.2.2)
def iModel6 (h : qm_H) (P : Nat) : qm_H := qm_sr (qm_nw (iModel5 h P) 10 248) P 6 (some (iModel5 h P).2.2.2.2)
def iModel7 (h : qm_H) (P : Nat) : qm_H := qm_sr (qm_nw (iModel6 h P) 10 1288) P 7 (some (iModel6 h P).2.2.2.2)
def iModel8 (h : qm_H) (P : Nat) : qm_H := qm_sr (qm_nw (iModel7 h P) 10 136) P 8 (some (iModel7 h P).2.2.2.2)
def iModel9 (h : qm_H) (P : Nat) : qm_H := qm_sr (qm_nw (iModel8 h P) 10 161) P 18 (some (iModel8 h P).2.2.2.2)
def iModel10 (h : qm_H) (P : Nat) : qm_H := qm_sr (qm_nw (iModel9 h P) 10 4) P 19 (some (iModel9 h P).2.2.2.2)
def iModel11 (h : qm_H) (P : Nat) : qm_H := qm_sr (qm_nw (iModel10 h P) 10 6) P 28 (some (iModel10 h P).2.2.2.2)
def iModel12 (h : qm_H) (P : Nat) : qm_H := qm_sr (qm_nw (iModel11 h P) 10 6) P 29 (some (iModel11 h P).2.2.2.2)
def iModel13 (h : qm_H) (P : Nat) : qm_H := qm_sr (qm_nw (iModel12 h P) 10 6) P 30 (some (iModel12 h P).2.2.2.2)
def iModel14 (h : qm_H) (P : Nat) : qm_H := qm_sr (qm_nw (iModel13 h P) 10 6) P 31 (some (iModel13 h P).2.2.2.2)
def iModel15 (h : qm_H) (P : Nat) : qm_H := qm_sr (qm_nw (iModel14 h P) 10 6) P 32 (some (iModel14 h P).2.2.2.2)
def iModel16 (h : qm_H) (P : Nat) : qm_H := qm_sr (qm_nw (iModel15 h P) 10 6) P 33 (some (iModel15 h P).2.2.2.2)
def iModel17 (h : qm_H) (P : Nat) : qm_H := qm_sr (qm_nw (iModel16 h P) 10 64) P 35 (some (iModel16 h P).2.2.2.2)
def iModel18 (h : qm_H) (P : Nat) : qm_H := qm_sr (qm_nw (iModel17 h P) 10 6) P 36 (some (iModel17 h P).2.2.2.2)
def iModel19 (h : qm_H) (P : Nat) : qm_H := qm_sr (qm_nw (iModel18 h P) 10 448) P 37 (some (iModel18 h P).2.2.2.2)
def iModel20 (h : qm_H) (P : Nat) : qm_H := qm_sr (qm_nw (iModel19 h P) 10 6) P 38 (some (iModel19 h P).2.2.2.2)
def iModel21 (h : qm_H) (P : Nat) : qm_H := qm_sr (qm_nw (iModel20 h P) 10 50653) P 39 (some (iModel20 h P).2.2.2.2)
def iModel22 (h : qm_H) (P : Nat) : qm_H := qm_sr (qm_nw (iModel21 h P) 10 64) P 42 (some (iModel21 h P).2.2.2.2)
def iModel23 (h : qm_H) (P : Nat) : qm_H := qm_sr (qm_nw (iModel22 h P) 10 448) P 45 (some (iModel22 h P).2.2.2.2)
def iModelE (h : qm_H) (P : Nat) : qm_H := qm_sr (qm_nw (iModel23 h P) 11 3) P 46 (some (iModel23 h P).2.2.2.2)
def iModel (h : qm_H) (P : Nat) : qm_H := qm_si (iModelE h P) (P + 4) 0 (-1)
set_option maxRecDepth 100000 in
theorem n_model {G : qm_G} (hG : G.2.2.2.2 = false) (d : Nat) (h : qm_H) (hsz : h.2.2.2.2 = 27) (i0 : qm_is false h 26 8) : qm_Ev G (d + 1) 24 55989 qyX10_init [.ref 26] h (fun r h' => r = none ∧ h' = iModel h 26) := by
  obtain ⟨a1, a2, a3, a4, a5⟩ := h
  have hsz : a5 = 27 := hsz
  subst hsz
  refine qm_Ev.by (M := mX10_init) okX10_init (Nat.le_of_ble_eq_true rfl) hG fun z hA => ?_
  have i1 : qm_is false (qm_nw (iModel0 (a1, a2, a3, a4, 27) 26) 9 2400) 26 8 := is_nwb (h := iModel0 (a1, a2, a3, a4, 27) 26) i0 (by decide : (26 : Nat) < 27)
  have sz0 : (iModel0 (a1, a2, a3, a4, 27) 26).2.2.2.2 < 1000000 := (by decide : (27 : Nat) < 1000000)
  have i2 : qm_is false (qm_nw (iModel1 (a1, a2, a3, a4, 27) 26) 10 4) 26 8 := is_nwb (h := iModel1 (a1, a2, a3, a4, 27) 26) i1 (by decide : (26 : Nat) < 27 + 1)
  have sz1 : (iModel1 (a1, a2, a3, a4, 27) 26).2.2.2.2 < 1000000 := (by decide : (27 + 1 : Nat) < 1000000)
  have i3 : qm_is false (qm_nw (iModel2 (a1, a2, a3, a4, 27) 26) 10 4) 26 8 := is_nwb (h := iModel2 (a1, a2, a3, a4, 27) 26) i2 (by decide : (26 : Nat) < 27 + 1 + 1)
  have sz2 : (iModel2 (a1, a2, a3, a4, 27) 26).2.2.2.2 < 1000000 := (by decide : (27 + 1 + 1 : Nat) < 1000000)
  have i4 : qm_is false (qm_nw (iModel3 (a1, a2, a3, a4, 27) 26) 10 4) 26 8 := is_nwb (h := iModel3 (a1, a2, a3, a4, 27) 26) i3 (by decide : (26 : Nat) < 27 + 1 + 1 + 1)
  have sz3 : (iModel3 (a1, a2, a3, a4, 27) 26).2.2.2.2 < 1000000 := (by decide : (27 + 1 + 1 + 1 : Nat) < 1000000)
  have i5 : qm_is false (qm_nw (iModel4 (a1, a2, a3, a4, 27) 26) 10 12) 26 8 := is_nwb (h := iModel4 (a1, a2, a3, a4, 27) 26) i4 (by decide : (26 : Nat) < 27 + 1 + 1 + 1 + 1)
  have sz4 : (iModel4 (a1, a2, a3, a4, 27) 26).2.2.2.2 < 1000000 := (by decide : (27 + 1 + 1 + 1 + 1 : Nat) < 1000000)
  have i6 : qm_is false (qm_nw (iModel5 (a1, a2, a3, a4, 27) 26) 10 248) 26 8 := is_nwb (h := iModel5 (a1, a2, a3, a4, 27) 26) i5 (by decide : (26 : Nat) < 27 + 1 + 1 + 1 + 1 + 1)
  have sz5 : (iModel5 (a1, a2, a3, a4, 27) 26).2.2.2.2 < 1000000 := (by decide : (27 + 1 + 1 + 1 + 1 + 1 : Nat) < 1000000)
  have i7 : qm_is false (qm_nw (iModel6 (a1, a2, a3, a4, 27) 26) 10 1288) 26 8 := is_nwb (h := iModel6 (a1, a2, a3, a4, 27) 26) i6 (by decide : (26 : Nat) < 27 + 1 + 1 + 1 + 1 + 1 + 1)
  have sz6 : (iModel6 (a1, a2, a3, a4, 27) 26).2.2.2.2 < 1000000 := (by decide : (27 + 1 + 1 + 1 + 1 + 1 + 1 : Nat) < 1000000)
  have i8 : qm_is false (qm_nw (iModel7 (a1, a2, a3, a4, 27) 26) 10 136) 26 8 := is_nwb (h := iModel7 (a1, a2, a3, a4, 27) 26) i7 (by decide : (26 : Nat) < 27 + 1 + 1 + 1 + 1 + 1 + 1 + 1)
  have sz7 : (iModel7 (a1, a2, a3, a4, 27) 26).2.2.2.2 < 1000000 := (by decide : (27 + 1 + 1 + 1 + 1 + 1 + 1 + 1 : Nat) < 1000000)
  have i9 : qm_is false (qm_nw (iModel8 (a1, a2, a3, a4, 27) 26) 10 161) 26 8 := is_nwb (h := iModel8 (a1, a2, a3, a4, 27) 26) i8 (by decide : (26 : Nat) < 27 + 1 + 1 + 1 + 1 + 1 + 1 + 1 + 1)
  have sz8 : (iModel8 (a1, a2, a3, a4, 27) 26).2.2.2.2 < 1000000 := (by decide : (27 + 1 + 1 + 1 + 1 + 1 + 1 + 1 + 1 : Nat) < 1000000)
  have i10 : qm_is false (qm_nw (iModel9 (a1, a2, a3, a4, 27) 26) 10 4) 26 8 := is_nwb (h := iModel9 (a1, a2, a3, a4, 27) 26) i9 (by decide : (26 : Nat) < 27 + 1 + 1 + 1 + 1 + 1 + 1 + 1 + 1 + 1)
  have sz9 : (iModel9 (a1, a2, a3, a4, 27) 26).2.2.2.2 < 1000000 := (by decide : (27 + 1 + 1 + 1 + 1 + 1 + 1 + 1 + 1 + 1 : Nat) < 1000000)
  have i11 : qm_is false (qm_nw (iModel10 (a1, a2, a3, a4, 27) 26) 10 6) 26 8 := is_nwb (h := iModel10 (a1, a2, a3, a4, 27) 26) i10 (by decide : (26 : Nat) < 27 + 1 + 1 + 1 + 1 + 1 + 1 + 1 + 1 + 1 + 1)
  have sz10 : (iModel10 (a1, a2, a3, a4, 27) 26).2.2.2.2 < 1000000 := (by decide : (27 + 1 + 1 + 1 + 1 + 1 + 1 + 1 + 1 + 1 + 1 : Nat) < 1000000)
  have i12 : qm_is false (qm_nw (iModel11 (a1, a2, a3, a4, 27) 26) 10 6) 26 8 := is_nwb (h := iModel11 (a1, a2, a3, a4, 27) 26) i11 (by decide : (26 : Nat) < 27 + 1 + 1 + 1 + 1 + 1 + 1 + 1 + 1 + 1 + 1 + 1)
  have sz11 : (iModel11 (a1, a2, a3, a4, 27) 26).2.2.2.2 < 1000000 := (by decide : (27 + 1 + 1 + 1 + 1 + 1 + 1 + 1 + 1 + 1 + 1 + 1 : Nat) < 1000000)
  have i13 : qm_is false (qm_nw (iModel12 (a1, a2, a3, a4, 27) 26) 10 6) 26 8 := is_nwb (h := iModel12 (a1, a2, a3, a4, 27) 26) i12 (by decide : (26 : Nat) < 27 + 1 + 1 + 1 + 1 + 1 + 1 + 1 + 1 + 1 + 1 + 1 + 1)
  have sz12 : (iModel12 (a1, a2, a3, a4, 27) 26).2.2.2.2 < 1000000 := (by decide : (27 + 1 + 1 + 1 + 1 + 1 + 1 + 1 + 1 + 1 + 1 + 1 + 1 : Nat) < 1000000)
  have i14 : qm_is false (qm_nw (iModel13 (a1, a2, a3, a4, 27) 26) 10 6) 26 8 := is_nwb (h := iModel13 (a1, a2, a3, a4, 27) 26) i13 (by decide : (26 : Nat) < 27 + 1 + 1 + 1 + 1 + 1 + 1 + 1 + 1 + 1 + 1 + 1 + 1 + 1)
  have sz13 : (iModel13 (a1, a2, a3, a4, 27) 26).2.2.2.2 < 1000000 := (by decide : (27 + 1 + 1 + 1 + 1 + 1 + 1 + 1 + 1 + 1 + 1 + 1 + 1 + 1 : Nat) < 1000000)
  have i15 : qm_is false (qm_nw (iModel14 (a1, a2, a3, a4, 27) 26) 10 6) 26 8 := is_nwb (h := iModel14 (a1, a2, a3, a4, 27) 26) i14 (by decide : (26 : Nat) < 27 + 1 + 1 + 1 + 1 + 1 + 1 + 1 + 1 + 1 + 1 + 1 + 1 + 1 + 1)
  have sz14 : (iModel14 (a1, a2, a3, a4, 27) 26).2.2.2.2 < 1000000 := (by decide : (27 + 1 + 1 + 1 + 1 + 1 + 1 + 1 + 1 + 1 + 1 + 1 + 1 + 1 + 1 : Nat) < 1000000)
  have i16 : qm_is false (qm_nw (iModel15 (a1, a2, a3, a4, 27) 26) 10 6) 26 8 := is_nwb (h := iModel15 (a1, a2, a3, a4, 27) 26) i15 (by decide : (26 : Nat) < 27 + 1 + 1 + 1 + 1 + 1 + 1 + 1 + 1 + 1 + 1 + 1 + 1 + 1 + 1 + 1)
  have sz15 : (iModel15 (a1, a2, a3, a4, 27) 26).2.2.2.2 < 1000000 := (by decide : (27 + 1 + 1 + 1 + 1 + 1 + 1 + 1 + 1 + 1 + 1 + 1 + 1 + 1 + 1 + 1 : Nat) < 1000000)
  have i17 : qm_is false (qm_nw (iModel16 (a1, a2, a3, a4, 27) 26) 10 64) 26 8 := is_nwb (h := iModel16 (a1, a2, a3, a4, 27) 26) i16 (by decide : (26 : Nat) < 27 + 1 + 1 + 1 + 1 + 1 + 1 + 1 + 1 + 1 + 1 + 1 + 1 + 1 + 1 + 1 + 1)
  have sz16 : (iModel16 (a1, a2, a3, a4, 27) 26).2.2.2.2 < 1000000 := (by decide : (27 + 1 + 1 + 1 + 1 + 1 + 1 + 1 + 1 + 1 + 1 + 1 + 1 + 1 + 1 + 1 + 1 : Nat) < 1000000)
  have i18 : qm_is false (qm_nw (iModel17 (a1, a2, a3, a4, 27) 26) 10 6) 26 8 := is_nwb (h := iModel17 (a1, a2, a3, a4, 27) 26) i17 (by decide : (26 : Nat) < 27 + 1 + 1 + 1 + 1 + 1 + 1 + 1 + 1 + 1 + 1 + 1 + 1 + 1 + 1 + 1 + 1 + 1)
  have sz17 : (iModel17 (a1, a2, a3, a4, 27) 26).2.2.2.2 < 1000000 := (by decide : (27 + 1 + 1 + 1 + 1 + 1 + 1 + 1 + 1 + 1 + 1 + 1 + 1 + 1 + 1 + 1 + 1 + 1 : Nat) < 1000000)
  have i19 : qm_is false (qm_nw (iModel18 (a1, a2, a3, a4, 27) 26) 10 448) 26 8 := is_nwb (h := iModel18 (a1, a2, a3, a4, 27) 26) i18 (by decide : (26 : Nat) < 27 + 1 + 1 + 1 + 1 + 1 + 1 + 1 + 1 + 1 + 1 + 1 + 1 + 1 + 1 + 1 + 1 + 1 + 1)
  have sz18 : (iModel18 (a1, a2, a3, a4, 27) 26).2.2.2.2 < 1000000 := (by decide : (27 + 1 + 1 + 1 + 1 + 1 + 1 + 1 + 1 + 1 + 1 + 1 + 1 + 1 + 1 + 1 + 1 + 1 + 1 : Nat) < 1000000)
  have i20 : qm_is false (qm_nw (iModel19 (a1, a2, a3, a4, 27) 26) 10 6) 26 8 := is_nwb (h := iModel19 (a1, a2, a3, a4, 27) 26) i19 (by decide : (26 : Nat) < 27 + 1 + 1 + 1 + 1 + 1 + 1 + 1 + 1 + 1 + 1 + 1 + 1 + 1 + 1 + 1 + 1 + 1 + 1 + 1)
  have sz19 : (iModel19 (a1, a2, a3, a4, 27) 26).2.2.2.2 < 1000000 := (by decide : (27 + 1 + 1 + 1 + 1 + 1 + 1 + 1 + 1 + 1 + 1 + 1 + 1 + 1 + 1 + 1 + 1 + 1 + 1 + 1 : Nat) < 1000000)
  have i21 : qm_is false (qm_nw (iModel20 (a1, a2, a3, a4, 27) 26) 10 50653) 26 8 := is_nwb (h := iModel20 (a1, a2, a3, a4, 27) 26) i20 (by decide : (26 : Nat) < 27 + 1 + 1 + 1 + 1 + 1 + 1 + 1 + 1 + 1 + 1 + 1 + 1 + 1 + 1 + 1 + 1 + 1 + 1 + 1 + 1)
  have sz20 : (iModel20 (a1, a2, a3, a4, 27) 26).2.2.2.2 < 1000000 := (by decide : (27 + 1 + 1 + 1 + 1 + 1 + 1 + 1 + 1 + 1 + 1 + 1 + 1 + 1 + 1 + 1 + 1 + 1 + 1 + 1 + 1 : Nat) < 1000000)
  have i22 : qm_is false (qm_nw (iModel21 (a1, a2, a3, a4, 27) 26) 10 64) 26 8 := is_nwb (h := iModel21 (a1, a2, a3, a4, 27) 26) i21 (by decide : (26 : Nat) < 27 + 1 + 1 + 1 + 1 + 1 + 1 + 1 + 1 + 1 + 1 + 1 + 1 + 1 + 1 + 1 + 1 + 1 + 1 + 1 + 1 + 1)
  have sz21 : (iModel21 (a1, a2, a3, a4, 27) 26).2.2.2.2 < 1000000 := (by decide : (27 + 1 + 1 + 1 + 1 + 1 + 1 + 1 + 1 + 1 + 1 + 1 + 1 + 1 + 1 + 1 + 1 + 1 + 1 + 1 + 1 + 1 : Nat) < 1000000)
  have i23 : qm_is false (qm_nw (iModel22 (a1, a2, a3, a4, 27) 26) 10 448) 26 8 := is_nwb (h := iModel22 (a1, a2, a3, a4, 27) 26) i22 (by decide : (26 : Nat) < 27 + 1 + 1 + 1 + 1 + 1 + 1 + 1 + 1 + 1 + 1 + 1 + 1 + 1 + 1 + 1 + 1 + 1 + 1 + 1 + 1 + 1 + 1)
  have sz22 : (iModel22 (a1, a2, a3, a4, 27) 26).2.2.2.2 < 1000000 := (by decide : (27 + 1 + 1 + 1 + 1 + 1 + 1 + 1 + 1 + 1 + 1 + 1 + 1 + 1 + 1 + 1 + 1 + 1 + 1 + 1 + 1 + 1 + 1 : Nat) < 1000000)
  have i24 : qm_is false (qm_nw (iModel23 (a1, a2, a3, a4, 27) 26) 11 3) 26 8 := is_nwb (h := iModel23 (a1, a2, a3, a4, 27) 26) i23 (by decide : (26 : Nat) < 27 + 1 + 1 + 1 + 1 + 1 + 1 + 1 + 1 + 1 + 1 + 1 + 1 + 1 + 1 + 1 + 1 + 1 + 1 + 1 + 1 + 1 + 1 + 1)
  have sz23 : (iModel23 (a1, a2, a3, a4, 27) 26).2.2.2.2 < 1000000 := (by decide : (27 + 1 + 1 + 1 + 1 + 1 + 1 + 1 + 1 + 1 + 1 + 1 + 1 + 1 + 1 + 1 + 1 + 1 + 1 + 1 + 1 + 1 + 1 + 1 : Nat) < 1000000)
  have r4 : qm_rd false (iModelE (a1, a2, a3, a4, 27) 26) 26 4 = some 30 := rfl
  have f30 : qm_is false (iModelE (a1, a2, a3, a4, 27) 26) 30 10 := ⟨(by decide : (30 : Nat) < 27 + 1 + 1 + 1 + 1 + 1 + 1 + 1 + 1 + 1 + 1 + 1 + 1 + 1 + 1 + 1 + 1 + 1 + 1 + 1 + 1 + 1 + 1 + 1 + 1), rfl⟩
  have v30 : vp_in (nI 0) (qm_kn false (iModelE (a1, a2, a3, a4, 27) 26) 30).2 := (vp_in_nI (by decide) (by decide) : vp_in (nI 0) 4)
  have p24 : qm_PW G mX10_init z 98 24 55989 [vr 26] [] (iModelE (a1, a2, a3, a4, 27) 26) := qm_wp_ok hA [] 20 _ _ _ _ _ _ ⟨i24, _, r4, f30, v30, rfl, rfl, rfl⟩
  have p23 : qm_PW G mX10_init z 94 23 55986 [vr 26] [] (iModel23 (a1, a2, a3, a4, 27) 26) := qm_wp_ok hA [98] 20 _ _ _ _ _ _ ⟨by decide, by decide, sz23, by decide, by decide, i24, trivial, p24⟩
  have p22 : qm_PW G mX10_init z 90 22 55538 [vr 26] [] (iModel22 (a1, a2, a3, a4, 27) 26) := qm_wp_ok hA [94] 20 _ _ _ _ _ _ ⟨by decide, by decide, sz22, by decide, by decide, i23, trivial, p23⟩
  have p21 : qm_PW G mX10_init z 86 21 55474 [vr 26] [] (iModel21 (a1, a2, a3, a4, 27) 26) := qm_wp_ok hA [90] 20 _ _ _ _ _ _ ⟨by decide, by decide, sz21, by decide, by decide, i22, trivial, p22⟩
  have p20 : qm_PW G mX10_init z 82 20 4821 [vr 26] [] (iModel20 (a1, a2, a3, a4, 27) 26) := qm_wp_ok hA [86] 20 _ _ _ _ _ _ ⟨by decide, by decide, sz20, by decide, by decide, i21, trivial, p21⟩
  have p19 : qm_PW G mX10_init z 78 19 4815 [vr 26] [] (iModel19 (a1, a2, a3, a4, 27) 26) := qm_wp_ok hA [82] 20 _ _ _ _ _ _ ⟨by decide, by decide, sz19, by decide, by decide, i20, trivial, p20⟩
  have p18 : qm_PW G mX10_init z 74 18 4367 [vr 26] [] (iModel18 (a1, a2, a3, a4, 27) 26) := qm_wp_ok hA [78] 20 _ _ _ _ _ _ ⟨by decide, by decide, sz18, by decide, by decide, i19, trivial, p19⟩
  have p17 : qm_PW G mX10_init z 70 17 4361 [vr 26] [] (iModel17 (a1, a2, a3, a4, 27) 26) := qm_wp_ok hA [74] 20 _ _ _ _ _ _ ⟨by decide, by decide, sz17, by decide, by decide, i18, trivial, p18⟩
  have p16 : qm_PW G mX10_init z 66 16 4297 [vr 26] [] (iModel16 (a1, a2, a3, a4, 27) 26) := qm_wp_ok hA [70] 20 _ _ _ _ _ _ ⟨by decide, by decide, sz16, by decide, by decide, i17, trivial, p17⟩
  have p15 : qm_PW G mX10_init z 62 15 4291 [vr 26] [] (iModel15 (a1, a2, a3, a4, 27) 26) := qm_wp_ok hA [66] 20 _ _ _ _ _ _ ⟨by decide, by decide, sz15, by decide, by decide, i16, trivial, p16⟩
  have p14 : qm_PW G mX10_init z 58 14 4285 [vr 26] [] (iModel14 (a1, a2, a3, a4, 27) 26) := qm_wp_ok hA [62] 20 _ _ _ _ _ _ ⟨by decide, by decide, sz14, by decide, by decide, i15, trivial, p15⟩
  have p13 : qm_PW G mX10_init z 54 13 4279 [vr 26] [] (iModel13 (a1, a2, a3, a4, 27) 26) := qm_wp_ok hA [58] 20 _ _ _ _ _ _ ⟨by decide, by decide, sz13, by decide, by decide, i14, trivial, p14⟩
  have p12 : qm_PW G mX10_init z 50 12 4273 [vr 26] [] (iModel12 (a1, a2, a3, a4, 27) 26) := qm_wp_ok hA [54] 20 _ _ _ _ _ _ ⟨by decide, by decide, sz12, by decide, by decide, i13, trivial, p13⟩
  have p11 : qm_PW G mX10_init z 46 11 4267 [vr 26] [] (iModel11 (a1, a2, a3, a4, 27) 26) := qm_wp_ok hA [50] 20 _ _ _ _ _ _ ⟨by decide, by decide, sz11, by decide, by decide, i12, trivial, p12⟩
  have p10 : qm_PW G mX10_init z 42 10 4261 [vr 26] [] (iModel10 (a1, a2, a3, a4, 27) 26) := qm_wp_ok hA [46] 20 _ _ _ _ _ _ ⟨by decide, by decide, sz10, by decide, by decide, i11, trivial, p11⟩
  have p9 : qm_PW G mX10_init z 38 9 4257 [vr 26] [] (iModel9 (a1, a2, a3, a4, 27) 26) := qm_wp_ok hA [42] 20 _ _ _ _ _ _ ⟨by decide, by decide, sz9, by decide, by decide, i10, trivial, p10⟩
  have p8 : qm_PW G mX10_init z 34 8 4096 [vr 26] [] (iModel8 (a1, a2, a3, a4, 27) 26) := qm_wp_ok hA [38] 20 _ _ _ _ _ _ ⟨by decide, by decide, sz8, by decide, by decide, i9, trivial, p9⟩
  have p7 : qm_PW G mX10_init z 30 7 3960 [vr 26] [] (iModel7 (a1, a2, a3, a4, 27) 26) := qm_wp_ok hA [34] 20 _ _ _ _ _ _ ⟨by decide, by decide, sz7, by decide, by decide, i8, trivial, p8⟩
  have p6 : qm_PW G mX10_init z 26 6 2672 [vr 26] [] (iModel6 (a1, a2, a3, a4, 27) 26) := qm_wp_ok hA [30] 20 _ _ _ _ _ _ ⟨by decide, by decide, sz6, by decide, by decide, i7, trivial, p7⟩
  have p5 : qm_PW G mX10_init z 22 5 2424 [vr 26] [] (iModel5 (a1, a2, a3, a4, 27) 26) := qm_wp_ok hA [26] 20 _ _ _ _ _ _ ⟨by decide, by decide, sz5, by decide, by decide, i6, trivial, p6⟩
  have p4 : qm_PW G mX10_init z 18 4 2412 [vr 26] [] (iModel4 (a1, a2, a3, a4, 27) 26) := qm_wp_ok hA [22] 20 _ _ _ _ _ _ ⟨by decide, by decide, sz4, by decide, by decide, i5, trivial, p5⟩
  have p3 : qm_PW G mX10_init z 14 3 2408 [vr 26] [] (iModel3 (a1, a2, a3, a4, 27) 26) := qm_wp_ok hA [18] 20 _ _ _ _ _ _ ⟨by decide, by decide, sz3, by decide, by decide, i4, trivial, p4⟩
  have p2 : qm_PW G mX10_init z 10 2 2404 [vr 26] [] (iModel2 (a1, a2, a3, a4, 27) 26) := qm_wp_ok hA [14] 20 _ _ _ _ _ _ ⟨by decide, by decide, sz2, by decide, by decide, i3, trivial, p3⟩
  have p1 : qm_PW G mX10_init z 6 1 2400 [vr 26] [] (iModel1 (a1, a2, a3, a4, 27) 26) := qm_wp_ok hA [10] 20 _ _ _ _ _ _ ⟨by decide, by decide, sz1, by decide, by decide, i2, trivial, p2⟩
  have p0 : qm_PW G mX10_init z 2 0 0 [vr 26] [] (iModel0 (a1, a2, a3, a4, 27) 26) := qm_wp_ok hA [6] 20 _ _ _ _ _ _ ⟨by decide, by decide, sz0, by decide, by decide, i1, trivial, p1⟩
  exact qm_wp_ok hA [2] 20 _ _ _ _ _ _ p0
