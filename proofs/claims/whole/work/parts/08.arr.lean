/-! arrays, new cells, calls, returns -/
section Arr
variable {G : qm_G} {M : qm_M} {z : qm_Z} {H : Heap} {locs : List Loc} {c s : Nat} {h : qm_H} {ls : Array Slot} {rest : List Value} {pc : Nat}
theorem qm_tyK (hC : qm_C G M z) {k : Nat} {q : ClassId × FieldType} (hq : (qm_tys G)[k]? = some q) : ArrOfT (qm_S z) q.1 q.2 ∧ va_RA (qm_S z) q.1 q.2 := hC.2.2.2.2.2.2.2.2.1.2 k q hq
theorem qm_in_lt {i : Int32} {n : Nat} (h : vp_in i n) : i.toNatClampNeg < n := Nat.not_le.mp fun q => h (Or.inr q)
theorem qm_ialdW (hC : qm_C G M z) (hR : qm_Rep G h H) {p : Nat} {i : Int32} (hi : qm_is G.2.2.2.2 h p 10) (hin : vp_in i (qm_kn G.2.2.2.2 h p).2) (hd : decode M.2.1.2.1 pc = .ok (.iaload, 1))
    (kk : qm_W z H locs c s (F0 z.2.2.2.2.2.1 (pc + 1) ls (.int (h.1 p i.toNatClampNeg) :: rest))) : qm_W z H locs c s (F0 z.2.2.2.2.2.1 pc ls (.int i :: .ref (qm_ad G p) :: rest)) := by
  obtain ⟨e1, e2⟩ := hR.arr hi (by decide)
  rw [e1]
  exact W.iald (v := .int (h.1 p i.toNatClampNeg)) hC.1 hC.2.1 e2 ((qm_tyK hC (k := 1) rfl).1 _ _) (fun q => by cases q) (by rw [arrV_size]; exact hin) (by rw [arrV_read _ _ (qm_in_lt hin)]; rfl) rfl rfl hd kk
theorem qm_baldW (hC : qm_C G M z) (hR : qm_Rep G h H) {p : Nat} {i : Int32} (hi : qm_is G.2.2.2.2 h p 9) (hin : vp_in i (qm_kn G.2.2.2.2 h p).2) (hd : decode M.2.1.2.1 pc = .ok (.baload, 1))
    (kk : qm_W z H locs c s (F0 z.2.2.2.2.2.1 (pc + 1) ls (.int (h.1 p i.toNatClampNeg) :: rest))) : qm_W z H locs c s (F0 z.2.2.2.2.2.1 pc ls (.int i :: .ref (qm_ad G p) :: rest)) := by
  obtain ⟨e1, e2⟩ := hR.arr hi (by decide)
  rw [e1]
  exact W.bald (v := .int (h.1 p i.toNatClampNeg)) hC.1 hC.2.1 e2 ((qm_tyK hC (k := 0) rfl).1 _ _) (fun q => by cases q) (by rw [arrV_size]; exact hin) (by rw [arrV_read _ _ (qm_in_lt hin)]; rfl) rfl rfl hd kk
theorem qm_zaldW (hC : qm_C G M z) (hR : qm_Rep G h H) {p : Nat} {i : Int32} (hi : qm_is G.2.2.2.2 h p 11) (hin : vp_in i (qm_kn G.2.2.2.2 h p).2) (hd : decode M.2.1.2.1 pc = .ok (.baload, 1))
    (kk : qm_W z H locs c s (F0 z.2.2.2.2.2.1 (pc + 1) ls (.int (h.1 p i.toNatClampNeg) :: rest))) : qm_W z H locs c s (F0 z.2.2.2.2.2.1 pc ls (.int i :: .ref (qm_ad G p) :: rest)) := by
  obtain ⟨e1, e2⟩ := hR.arr hi (by decide)
  rw [e1]
  exact W.zald (v := .int (h.1 p i.toNatClampNeg)) hC.1 hC.2.1 e2 ((qm_tyK hC (k := 2) rfl).1 _ _) (fun q => by cases q) (by rw [arrV_size]; exact hin) (by rw [arrV_read _ _ (qm_in_lt hin)]; rfl) rfl rfl hd kk
/-- the class of the objects of an array's kind -/
def qm_ec (kd : Nat) : Nat := if kd = 12 then 2 else if kd = 13 then 5 else 6
theorem qm_aaldW (hC : qm_C G M z) (hR : qm_Rep G h H) {p kd : Nat} {i : Int32} (hkd : kd = 12 ∨ kd = 13 ∨ kd = 14) (hi : qm_is G.2.2.2.2 h p kd) (hin : vp_in i (qm_kn G.2.2.2.2 h p).2) (hd : decode M.2.1.2.1 pc = .ok (.aaload, 1))
    (kk : qm_W z H locs c s (F0 z.2.2.2.2.2.1 (pc + 1) ls (va_rf ((qm_rd G.2.2.2.2 h p i.toNatClampNeg).map (qm_ad G)) :: rest))) : qm_W z H locs c s (F0 z.2.2.2.2.2.1 pc ls (.int i :: .ref (qm_ad G p) :: rest)) := by
  rcases hkd with rfl | rfl | rfl
  · obtain ⟨e1, e2⟩ := hR.arr hi (by decide)
    rw [e1]
    exact va_aldq (ws := [(G.2.2.1 + p, .inl (G.2.1 12, (qm_kn G.2.2.2.2 h p).2, .inr (.inr (.inr (.inr (fun j => (qm_rd G.2.2.2.2 h p j).map (qm_ad G)))))))]) hC.1 hC.2.1 hC.2.2.2.2.2.2.2.2.1 (fun k q hq => by cases k with | zero => cases hq; exact e2 | succ k => cases hq) 0 3 rfl rfl hin hd kk
  · obtain ⟨e1, e2⟩ := hR.arr hi (by decide)
    rw [e1]
    exact va_aldq (ws := [(G.2.2.1 + p, .inl (G.2.1 13, (qm_kn G.2.2.2.2 h p).2, .inr (.inr (.inr (.inr (fun j => (qm_rd G.2.2.2.2 h p j).map (qm_ad G)))))))]) hC.1 hC.2.1 hC.2.2.2.2.2.2.2.2.1 (fun k q hq => by cases k with | zero => cases hq; exact e2 | succ k => cases hq) 0 4 rfl rfl hin hd kk
  · obtain ⟨e1, e2⟩ := hR.arr hi (by decide)
    rw [e1]
    exact va_aldq (ws := [(G.2.2.1 + p, .inl (G.2.1 14, (qm_kn G.2.2.2.2 h p).2, .inr (.inr (.inr (.inr (fun j => (qm_rd G.2.2.2.2 h p j).map (qm_ad G)))))))]) hC.1 hC.2.1 hC.2.2.2.2.2.2.2.2.1 (fun k q hq => by cases k with | zero => cases hq; exact e2 | succ k => cases hq) 0 5 rfl rfl hin hd kk
theorem qm_alenW (hC : qm_C G M z) (hR : qm_Rep G h H) {p kd : Nat} (hkd : kd = 9 ∨ kd = 10 ∨ kd = 11 ∨ kd = 12 ∨ kd = 13 ∨ kd = 14) (hi : qm_is G.2.2.2.2 h p kd) (hd : decode M.2.1.2.1 pc = .ok (.arraylength, 1))
    (kk : qm_W z H locs c s (F0 z.2.2.2.2.2.1 (pc + 1) ls (.int (Int32.ofNat (qm_kn G.2.2.2.2 h p).2) :: rest))) : qm_W z H locs c s (F0 z.2.2.2.2.2.1 pc ls (.ref (qm_ad G p) :: rest)) := by
  have h9 : ¬ kd < 9 := by omega
  obtain ⟨e1, e2⟩ := hR.arr hi h9
  rw [e1]
  rcases hkd with rfl | rfl | rfl | rfl | rfl | rfl
  · exact W.alen hC.1 hC.2.1 e2 ((qm_tyK hC (k := 0) rfl).1 _ _) (by rw [arrV_size]) rfl rfl hd kk
  · exact W.alen hC.1 hC.2.1 e2 ((qm_tyK hC (k := 1) rfl).1 _ _) (by rw [arrV_size]) rfl rfl hd kk
  · exact W.alen hC.1 hC.2.1 e2 ((qm_tyK hC (k := 2) rfl).1 _ _) (by rw [arrV_size]) rfl rfl hd kk
  · exact W.alen hC.1 hC.2.1 e2 ((qm_tyK hC (k := 3) rfl).1 _ _) (by rw [arrV_size]) rfl rfl hd kk
  · exact W.alen hC.1 hC.2.1 e2 ((qm_tyK hC (k := 4) rfl).1 _ _) (by rw [arrV_size]) rfl rfl hd kk
  · exact W.alen hC.1 hC.2.1 e2 ((qm_tyK hC (k := 5) rfl).1 _ _) (by rw [arrV_size]) rfl rfl hd kk
/-- the heap behind a store into an array -/
theorem qm_ast_fin (hR : qm_Rep G h H) (hS0 : va_S (qm_A G) (qm_S z).heap H locs) {p kd : Nat} (hk9 : ¬ kd < 9) (hi : qm_is G.2.2.2.2 h p kd) {j : Nat} {v : Value} {h' : qm_H} (hz : h'.2.2.2.2 = h.2.2.2.2) (hkn : h'.2.2.2.1 = h.2.2.2.1) (ho : ∀ q k t, qm_vl G h' q k t = if q = p ∧ k = j ∧ t = qm_et kd then v else qm_vl G h q k t) {H1 : Heap}
    (e : H1[G.2.2.1 + p]? = some ((arrV (G.2.1 kd) (qm_kn G.2.2.2.2 h p).2 (fun j => qm_vl G h p j (qm_et kd))).setSlot j v)) (hz1 : H1.size = H.size) (oq : ∀ q, q ≠ G.2.2.1 + p → H1[q]? = H[q]?) : qm_Rep G h' H1 ∧ va_S (qm_A G) (qm_S z).heap H1 (locs ++ [⟨G.2.2.1 + p, j⟩]) := by
  refine ⟨hR.set (p := p) hz hkn (fun q hq k t => by rw [ho, if_neg (fun e => hq e.1)]) hz1 oq ?_, hS0.put hz1 oq (Nat.le_add_right _ _)⟩
  have hkn2 : qm_kn G.2.2.2.2 h' p = qm_kn G.2.2.2.2 h p := by unfold qm_kn; rw [hkn]
  unfold qm_at
  rw [hkn2, hi.kd, if_neg hk9, e, arrV_store]
  congr 2
  funext k
  rw [ho]
  unfold updV
  by_cases ek : k = j
  · subst ek; simp
  · simp [ek]
theorem qm_iastW (hC : qm_C G M z) (hR : qm_Rep G h H) (hS0 : va_S (qm_A G) (qm_S z).heap H locs) {p : Nat} {i x : Int32} (hi : qm_is G.2.2.2.2 h p 10) (hin : vp_in i (qm_kn G.2.2.2.2 h p).2) (hd : decode M.2.1.2.1 pc = .ok (.iastore, 1))
    (kk : ∀ (H1 : Heap) (locs1 : List Loc), qm_Rep G (qm_si h p i.toNatClampNeg x) H1 → va_S (qm_A G) (qm_S z).heap H1 locs1 → qm_W z H1 locs1 c s (F0 z.2.2.2.2.2.1 (pc + 1) ls rest)) : qm_W z H locs c s (F0 z.2.2.2.2.2.1 pc ls (.int x :: .int i :: .ref (qm_ad G p) :: rest)) := by
  obtain ⟨e1, e2⟩ := hR.arr hi (by decide)
  rw [e1]
  refine W.iast hC.1 hC.2.1 e2 ((qm_tyK hC (k := 1) rfl).1 _ _) (fun q => by cases q) (by rw [arrV_size]; exact hin) rfl rfl hd fun H1 e z1 oq => ?_
  obtain ⟨g1, g2⟩ := qm_ast_fin hR hS0 (by decide) hi (h' := qm_si h p i.toNatClampNeg x) (v := .int x) rfl rfl (fun q k t => by rw [qm_vl_si]; rfl) e z1 oq
  exact kk H1 _ g1 g2
theorem qm_bastW (hC : qm_C G M z) (hR : qm_Rep G h H) (hS0 : va_S (qm_A G) (qm_S z).heap H locs) {p : Nat} {i x : Int32} (hi : qm_is G.2.2.2.2 h p 9) (hin : vp_in i (qm_kn G.2.2.2.2 h p).2) (hd : decode M.2.1.2.1 pc = .ok (.bastore, 1))
    (kk : ∀ (H1 : Heap) (locs1 : List Loc), qm_Rep G (qm_si h p i.toNatClampNeg x.toInt8.toInt32) H1 → va_S (qm_A G) (qm_S z).heap H1 locs1 → qm_W z H1 locs1 c s (F0 z.2.2.2.2.2.1 (pc + 1) ls rest)) : qm_W z H locs c s (F0 z.2.2.2.2.2.1 pc ls (.int x :: .int i :: .ref (qm_ad G p) :: rest)) := by
  obtain ⟨e1, e2⟩ := hR.arr hi (by decide)
  rw [e1]
  refine W.bast hC.1 hC.2.1 e2 ((qm_tyK hC (k := 0) rfl).1 _ _) (fun q => by cases q) (by rw [arrV_size]; exact hin) rfl rfl hd fun H1 e z1 oq => ?_
  obtain ⟨g1, g2⟩ := qm_ast_fin hR hS0 (by decide) hi (h' := qm_si h p i.toNatClampNeg x.toInt8.toInt32) (v := .int x.toInt8.toInt32) rfl rfl (fun q k t => by rw [qm_vl_si]; rfl) e z1 oq
  exact kk H1 _ g1 g2
theorem qm_zastW (hC : qm_C G M z) (hR : qm_Rep G h H) (hS0 : va_S (qm_A G) (qm_S z).heap H locs) {p : Nat} {i x : Int32} (hi : qm_is G.2.2.2.2 h p 11) (hin : vp_in i (qm_kn G.2.2.2.2 h p).2) (hd : decode M.2.1.2.1 pc = .ok (.bastore, 1))
    (kk : ∀ (H1 : Heap) (locs1 : List Loc), qm_Rep G (qm_si h p i.toNatClampNeg (x &&& 1)) H1 → va_S (qm_A G) (qm_S z).heap H1 locs1 → qm_W z H1 locs1 c s (F0 z.2.2.2.2.2.1 (pc + 1) ls rest)) : qm_W z H locs c s (F0 z.2.2.2.2.2.1 pc ls (.int x :: .int i :: .ref (qm_ad G p) :: rest)) := by
  obtain ⟨e1, e2⟩ := hR.arr hi (by decide)
  rw [e1]
  refine W.zast hC.1 hC.2.1 e2 ((qm_tyK hC (k := 2) rfl).1 _ _) (fun q => by cases q) (by rw [arrV_size]; exact hin) rfl rfl hd fun H1 e z1 oq => ?_
  obtain ⟨g1, g2⟩ := qm_ast_fin hR hS0 (by decide) hi (h' := qm_si h p i.toNatClampNeg (x &&& 1)) (v := .int (x &&& 1)) rfl rfl (fun q k t => by rw [qm_vl_si]; rfl) e z1 oq
  exact kk H1 _ g1 g2
theorem qm_aastW (hC : qm_C G M z) (hR : qm_Rep G h H) (hS0 : va_S (qm_A G) (qm_S z).heap H locs) {p kd v : Nat} {i : Int32} (hkd : kd = 12 ∨ kd = 13 ∨ kd = 14) (hi : qm_is G.2.2.2.2 h p kd) (hv : qm_is G.2.2.2.2 h v (qm_ec kd)) (hin : vp_in i (qm_kn G.2.2.2.2 h p).2) (hw : qm_wr G.2.2.2.2 p i.toNatClampNeg (some v)) (hd : decode M.2.1.2.1 pc = .ok (.aastore, 1))
    (kk : ∀ (H1 : Heap) (locs1 : List Loc), qm_Rep G (qm_sr h p i.toNatClampNeg (some v)) H1 → va_S (qm_A G) (qm_S z).heap H1 locs1 → qm_W z H1 locs1 c s (F0 z.2.2.2.2.2.1 (pc + 1) ls rest)) : qm_W z H locs c s (F0 z.2.2.2.2.2.1 pc ls (.ref (qm_ad G v) :: .int i :: .ref (qm_ad G p) :: rest)) := by
  have h9 : ¬ kd < 9 := by omega
  obtain ⟨e1, e2⟩ := hR.arr hi h9
  obtain ⟨e1v, r, hr, cellV, g1, g2, g3, -⟩ := hR.obj hv (by unfold qm_ec; rcases hkd with rfl | rfl | rfl <;> decide)
  rw [e1, e1v]
  have hlt := qm_in_lt hin
  have h0 : ¬ i < 0 := fun q => hin (Or.inl q)
  obtain ⟨-, hcls⟩ := qm_cls hC hr
  have hA : ∃ kA, (qm_S z).vm.classes[G.2.1 kd]? = some kA ∧ kA.kind = .array (G.1.1 (qm_ec kd)) (.object r.1) := by
    have fin : ∀ {C : String}, va_RA (qm_S z) (G.2.1 kd) (.object C) → r.1 = C → ∃ kA, (qm_S z).vm.classes[G.2.1 kd]? = some kA ∧ kA.kind = .array (G.1.1 (qm_ec kd)) (.object r.1) := by
      rintro C ⟨kA, comp, k1, k2, k3, -⟩ rfl
      have : comp = G.1.1 (qm_ec kd) := Option.some.inj (k3.symm.trans hcls.1)
      subst this
      exact ⟨kA, k1, k2⟩
    rcases hkd with rfl | rfl | rfl
    · exact fin (qm_tyK hC (k := 3) rfl).2 (by cases hr; rfl)
    · exact fin (qm_tyK hC (k := 4) rfl).2 (by cases hr; rfl)
    · exact fin (qm_tyK hC (k := 5) rfl).2 (by cases hr; rfl)
  obtain ⟨kA, k1, k2⟩ := hA
  obtain ⟨kC, hkC, -⟩ := hcls.2
  refine W.aast hC.1 hC.2.1 e2 (fun q h => by cases h) (fun h => by cases h) k1 k2 rfl hkC ⟨h0, by rw [arrV_size]; exact hlt⟩ g1 (fun q h => by rw [g3] at h; cases h) (by rw [g2]; exact hkC) (by rw [g2]; exact va_assign hcls) rfl rfl hd fun H1 e z1 oq => ?_
  have het : qm_et kd = 2 := by unfold qm_et; rw [if_neg (by omega)]
  obtain ⟨f1, f2⟩ := qm_ast_fin hR hS0 h9 hi (h' := qm_sr h p i.toNatClampNeg (some v)) (v := .ref (G.2.2.1 + v)) rfl rfl (fun q k t => by
    rw [qm_vl_sr hw, het]
    have e3 : va_rf ((some v).map (qm_ad G)) = .ref (G.2.2.1 + v) := by rw [Option.map_some, e1v]; rfl
    rw [e3]) e z1 oq
  exact kk H1 _ f1 f2
end Arr
