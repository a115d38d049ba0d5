section Mem
variable {G : qm_G} {M : qm_M} {z : qm_Z} {H : Heap} {locs : List Loc} {c s : Nat} {h : qm_H} {ls : Array Slot} {rest : List Value} {pc : Nat}
theorem qm_cls (hC : qm_C G M z) {ci : Nat} {r : vw_C} (hr : vwCl[ci]? = some r) : u_Kn (qm_S z) r.1 r.2.1 r.2.2 (G.1.1 ci) (G.1.2 ci) := hC.2.2.2.2.2.2.2.2.1.1 ci r hr
theorem qm_getW (hC : qm_C G M z) (hR : qm_Rep G h H) {p ci k idx : Nat} (hi : qm_is G.2.2.2.2 h p ci) (hc9 : ci < 9) {r : vw_C} (hr : vwCl[ci]? = some r) (hk : k < r.2.2) (hlink : Cond.fieldLink M.1 idx r.1 (r.2.1 k).2.1 (r.2.1 k).2.2.1 ∈ qm_tb) (hd : decode M.2.1.2.1 pc = .ok (.getfield idx, 3))
    (kk : qm_W z H locs c s (F0 z.2.2.2.2.2.1 (pc + 3) ls (qm_vl G h p k (qm_ft ci k) :: rest))) : qm_W z H locs c s (F0 z.2.2.2.2.2.1 pc ls (.ref (qm_ad G p) :: rest)) := by
  obtain ⟨e1, r', e2, cell, q1, q2, q3, q4⟩ := hR.obj hi hc9
  have e3 : r' = r := Option.some.inj (e2.symm.trans hr)
  subst e3
  obtain ⟨hS, hfc, kC, hkC, hkind⟩ := qm_cls hC hr
  obtain ⟨cf, kf, fi, f, hif, hsl⟩ := hS k hk
  have hk1 := qm_clok hr
  rw [e1]
  refine W.getf hC.1 hC.2.1 hC.2.2.2.1 (hC.2.2.2.2.1 _ hlink) (by rw [← hk1.2.2.1 k hk]; exact hif) (u_facts hfc hkC (u_lays hC.2.2.2.2.1 hk1.1 hk) hif).1 q1 (by rw [q3]; exact fun h => by cases h) ?_ rfl rfl hd kk
  rw [hsl, q4 k hk]
theorem qm_vl_si (G : qm_G) (h : qm_H) (p k : Nat) (x : Int32) (q j t : Nat) : qm_vl G (qm_si h p k x) q j t = if q = p ∧ j = k ∧ t = 0 then .int x else qm_vl G h q j t := by
  unfold qm_vl
  match t with
  | 0 =>
    simp only [qm_si, va_up]
    by_cases e : q = p
    · subst e
      by_cases e2 : j = k
      · subst e2; simp [va_up]
      · simp [va_up, e2]
    · simp [e]
  | 1 => simp [qm_si]
  | 2 =>
    have e : qm_rd G.2.2.2.2 (qm_si h p k x) q j = qm_rd G.2.2.2.2 h q j := rfl
    simp [e]
  | t + 3 => simp
theorem qm_vl_sl (G : qm_G) (h : qm_H) (p k : Nat) (x : Int64) (q j t : Nat) : qm_vl G (qm_sl h p k x) q j t = if q = p ∧ j = k ∧ t = 1 then .long x else qm_vl G h q j t := by
  unfold qm_vl
  match t with
  | 0 => simp [qm_sl]
  | 1 =>
    simp only [qm_sl, va_up]
    by_cases e : q = p
    · subst e
      by_cases e2 : j = k
      · subst e2; simp [va_up]
      · simp [va_up, e2]
    · simp [e]
  | 2 =>
    have e : qm_rd G.2.2.2.2 (qm_sl h p k x) q j = qm_rd G.2.2.2.2 h q j := rfl
    simp [e]
  | t + 3 => simp
theorem qm_rd_sr {b : Bool} {h : qm_H} {p k : Nat} {o : Option Nat} (hw : qm_wr b p k o) (q j : Nat) : qm_rd b (qm_sr h p k o) q j = if q = p ∧ j = k then o else qm_rd b h q j := by
  unfold qm_rd
  unfold qm_wr at hw
  by_cases e : q = p ∧ j = k
  · obtain ⟨rfl, rfl⟩ := e
    rw [if_pos ⟨rfl, rfl⟩]
    cases e3 : (bif b then ((qm_SK[q]?).bind (fun r => r[j]?)).join else none) with
    | some x => rw [e3] at hw; exact hw.symm
    | none => simp [qm_sr, va_up]
  · rw [if_neg e]
    cases e3 : (bif b then ((qm_SK[q]?).bind (fun r => r[j]?)).join else none) with
    | some x => rfl
    | none =>
      simp only [qm_sr, va_up]
      by_cases e1 : q = p
      · subst e1
        have e2 : j ≠ k := fun q => e ⟨rfl, q⟩
        simp [va_up, e2]
      · simp [e1]
theorem qm_vl_sr {G : qm_G} {h : qm_H} {p k : Nat} {o : Option Nat} (hw : qm_wr G.2.2.2.2 p k o) (q j t : Nat) : qm_vl G (qm_sr h p k o) q j t = if q = p ∧ j = k ∧ t = 2 then va_rf (o.map (qm_ad G)) else qm_vl G h q j t := by
  unfold qm_vl
  match t with
  | 0 => simp [qm_sr]
  | 1 => simp [qm_sr]
  | 2 =>
    simp only [qm_rd_sr hw]
    by_cases e : q = p ∧ j = k
    · rw [if_pos e, if_pos ⟨e.1, e.2, trivial⟩]
    · rw [if_neg e, if_neg (fun q => e ⟨q.1, q.2.1⟩)]
  | t + 3 => simp
/-- a field's store: any value, any change of the pure heap that is just this one -/
theorem qm_putW (hC : qm_C G M z) (hR : qm_Rep G h H) (hS0 : va_S (qm_A G) (qm_S z).heap H locs) {p ci k idx : Nat} (hi : qm_is G.2.2.2.2 h p ci) (hc9 : ci < 9) {r : vw_C} (hr : vwCl[ci]? = some r) (hk : k < r.2.2) (hlink : Cond.fieldLink M.1 idx r.1 (r.2.1 k).2.1 (r.2.1 k).2.2.1 ∈ qm_tb) (hfin : (r.2.1 k).2.2.2 = false ∨ (M.2.1.1.name = "<init>" ∧ r.1 = M.1)) {v : Value} (hn : narrow (qm_pt r k) v = v) (hfit : fits (qm_pt r k) v = true) {h' : qm_H} (hz : h'.2.2.2.2 = h.2.2.2.2) (hkn : h'.2.2.2.1 = h.2.2.2.1) (ho : ∀ q j t, qm_vl G h' q j t = if q = p ∧ j = k ∧ t = qm_ft ci k then v else qm_vl G h q j t)
    (hd : decode M.2.1.2.1 pc = .ok (.putfield idx, 3)) (kk : ∀ (H1 : Heap) (locs1 : List Loc), qm_Rep G h' H1 → va_S (qm_A G) (qm_S z).heap H1 locs1 → qm_W z H1 locs1 c s (F0 z.2.2.2.2.2.1 (pc + 3) ls rest)) : qm_W z H locs c s (F0 z.2.2.2.2.2.1 pc ls (v :: .ref (qm_ad G p) :: rest)) := by
  obtain ⟨e1, r', e2, cell, q1, q2, q3, q4⟩ := hR.obj hi hc9
  have e3 : r' = r := Option.some.inj (e2.symm.trans hr)
  subst e3
  obtain ⟨hS, hfc, kC, hkC, hkind⟩ := qm_cls hC hr
  obtain ⟨cf, kf, fi, f, hif, hsl⟩ := hS k hk
  have hk1 := qm_clok hr
  have hts := hC.2.2.2.2.1
  have hap := va_apart (own := M.1) hts hk1.1 (qm_pt r') hk1.2.1 hk1.2.2.2 hC.2.2.2.2.2.2.2.2.1 hr
  have hst := (u_facts hfc hkC (u_lays hts hk1.1 hk) hif).1
  have hAp : qm_A G (G.2.2.1 + p) := Nat.le_add_right _ _
  have fin : ∀ H' : Heap, H'[G.2.2.1 + p]? = some (cell.setSlot f.slot v) → H'.size = H.size → (∀ q, q ≠ G.2.2.1 + p → H'[q]? = H[q]?) → qm_W z H' (locs ++ [⟨G.2.2.1 + p, f.slot⟩]) c s (F0 z.2.2.2.2.2.1 (pc + 3) ls rest) := by
    intro H' e1' e2' e3'
    refine kk H' _ (hR.set (p := p) hz hkn (fun q hq j t => by rw [ho, if_neg (fun e => hq e.1)]) e2' e3' ?_) (hS0.put e2' e3' hAp)
    have hkn2 : qm_kn G.2.2.2.2 h' p = qm_kn G.2.2.2.2 h p := by unfold qm_kn; rw [hkn]
    unfold qm_at
    rw [hkn2, hi.kd, if_pos hc9]
    rw [hsl] at e1'
    refine ⟨_, hr, t_OB.to (V := updV (fun k => qm_vl G h p k (qm_ft ci k)) k v) ⟨_, e1', q2, q3, t_set q4 hap hk v⟩ (fun j _ => ?_)⟩
    rw [ho]
    unfold updV
    by_cases ej : j = k
    · subst ej; simp
    · simp [ej]
  have hlk : (Cond.fieldLink M.1 idx (r'.2.1 k).1 (r'.2.1 k).2.1 (r'.2.1 k).2.2.1).before z.2.2.2.2.2.2.1 (qm_S z) = true := by rw [hk1.2.2.1 k hk]; exact hts _ hlink
  rw [e1]
  by_cases hf : (r'.2.1 k).2.2.2 = false
  · have hlay := hts _ (hk1.1 _ (u_in_lay hk))
    unfold u_lay at hlay
    rw [if_neg (by rw [hf]; decide)] at hlay
    have h6 := u_store hfc hkC hkind hlay hif (hk1.2.1 k hk) hn hfit
    exact W.putK hC.1 hC.2.1 (f := f) ⟨hC.2.2.2.1, hlk, ⟨_, _, _, hif⟩, hst⟩ (by rw [q2]; exact h6) q1 q3 (by rw [hsl]; exact k2_hasslot (q4 k hk)) rfl rfl hd fin
  · obtain ⟨hn1, hn2⟩ := hfin.resolve_left hf
    have hlay := hts _ (hk1.1 _ (u_in_lay hk))
    unfold u_lay at hlay
    rw [if_pos (by revert hf; cases (r'.2.1 k).2.2.2 <;> simp)] at hlay
    have hcf : z.2.2.2.2.2.1.cls = cf := by
      obtain ⟨_, _, c', _, _, _, -, -, hf', -, -, -, hown2, -⟩ := Cond.laysFinal_spec hlay
      have e1 : c' = cf := by have := hif.symm.trans hf'; simp at this; exact this.1.symm
      rw [hk1.2.2.1 k hk, hn2] at hown2
      rw [← e1]; exact Option.some.inj (hC.2.2.2.1.symm.trans hown2)
    have h6 := u_fits hfc hkC hkind (Or.inr hlay) hif (hk1.2.1 k hk) hn hfit
    exact W.putFinK hC.1 hC.2.1 hC.2.2.2.1 hlk hif hst hcf (by rw [hC.2.2.2.2.2.2.2.1]; exact hn1) (by rw [q2]; exact h6) q1 q3 (by rw [hsl]; exact k2_hasslot (q4 k hk)) rfl rfl hd fin
end Mem
