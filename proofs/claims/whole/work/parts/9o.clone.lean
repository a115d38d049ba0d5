/-! a clone of a row of ints; years of a text -/
def qm_cl (h : qm_H) (p n : Nat) : qm_H := (va_up (qm_nw h 10 n).1 h.2.2.2.2 (h.1 p), (qm_nw h 10 n).2)
theorem sp_clone {G : qm_G} {b : Bool} {M : qm_M} {z : qm_Z} {d C S i c s : Nat} {uQ : Option Value → qm_H → Prop} {L : qm_L} {st : List Value} {h : qm_H} (hA : qm_At G b M z (d + 1) C S uQ) {e : qm_I} {idx : Nat} (hi : M.2.2[i]? = some e) (he : e.2.1 = .invokevirtual idx) (hlen : qm_len e = 3) {k1 : Nat} (g1 : qm_hs (Cond.methodLink M.1 idx ⟨"[I", "clone", "()Ljava/lang/Object;"⟩) k1 = true) (hcat : (st.map fun v => v.category).sum ≤ 8) {p n : Nat} (hp : qm_is b h p 10) (hn0 : (qm_kn b h p).2 = n) (hz : h.2.2.2.2 < 1000000) (hc : c + 1 ≤ C) (hs : s + n ≤ S)
    (k : qm_PW G M z (i + 1) (c + 1) (s + n) L (.ref h.2.2.2.2 :: st) (qm_cl h p n)) : qm_PW G M z i c s L (.ref p :: st) h := by
  obtain ⟨hd, hn⟩ := sp_at hA hi he hlen rfl
  obtain ⟨hC, hb, ⟨hdF, hdL, hCR, hSR⟩, hZ, hok⟩ := hA
  subst hb
  subst hn0
  intro H locs ls l1 l2 hR hS hl
  have hr := sp_cat (G := G) hcat
  obtain ⟨p1, p2⟩ := hR.arr hp (by decide)
  have p2 : H[G.2.2.1 + p]? = some (vp_cell (G.2.1 10) ((qm_kn G.2.2.2.2 h p).2, .inl (h.1 p))) := p2
  have em : ((.ref p :: st : List Value).map (qm_mv G)) = .ref (G.2.2.1 + p) :: st.map (qm_mv G) := by
    rw [← p1]; rfl
  rw [em]
  have hts := hC.2.2.2.2.1
  have hcl := hC.2.2.2.2.2.2.2.2.2.1.2.2.2.2.2.2.2
  have hty : (qm_tys G)[1]? = some (G.2.1 10, .int) := rfl
  have hnm : (qm_S z).vm.findClass "[I" = some (G.2.1 10) := (qm_tyK hC hty).2
  obtain ⟨c0, t0', f1, f2, f3⟩ := Cond.castable_spec (va_Nw.use (A := z.2.2.2.2.2.2.1) rfl hcl)
  cases hnm.symm.trans f1
  intro T hT X
  obtain ⟨-, kA, hkA, comp, hkind⟩ := State.isArrayOf_alike X.warmed.alike ((qm_tyK hC hty).1 0 (fun _ => .null))
  obtain ⟨-, kS, hkS, compS, hkindS⟩ := (qm_tyK hC hty).1 0 (fun _ => .null)
  have hsz : (vp_cell (G.2.1 10) ((qm_kn G.2.2.2.2 h p).2, .inl (h.1 p))).slots.size = (qm_kn G.2.2.2.2 h p).2 := arrV_size _ _ _
  have hf1 : 1 ≤ z.2.2.2.1.frames := by
    show 1 ≤ (qm_R z).frames
    omega
  have hlw : ((st.map (qm_mv G)).map fun v => v.category).sum + 14 ≤ z.2.2.2.1.locals := by
    show _ ≤ (qm_R z).locals
    omega
  obtain ⟨vm', X', step⟩ := X.cloneArray hC.1 hC.2.2.2.1 (hts _ (qm_hs_in g1)) (hts _ (qm_hs_in (w := 821) (by decide +kernel))) (hts _ (qm_hs_in (w := 822) (by decide +kernel))) (hts _ (qm_hs_in (w := 823) (by decide +kernel))) (hts _ (qm_hs_in (w := 824) (by decide +kernel))) (a := G.2.2.1 + p) (cell := vp_cell (G.2.1 10) ((qm_kn G.2.2.2.2 h p).2, .inl (h.1 p))) (by rw [hT]; exact p2) (fun k h => by cases h) (fun h => by cases h) hnm f2 f3
    (fun i v hv => by
      have hk' : T.vm.classes[G.2.1 10]? = some kA := hkA
      have hfit : fits .int v = true := by
        rcases Nat.lt_or_ge i (qm_kn G.2.2.2.2 h p).2 with q | q
        · have : (vp_cell (G.2.1 10) ((qm_kn G.2.2.2.2 h p).2, .inl (h.1 p))).slots[i]? = some (.int (h.1 p i)) := arrV_read _ _ q
          rw [this] at hv
          cases hv; rfl
        · rw [Array.getElem?_eq_none (by rw [hsz]; exact q)] at hv
          cases hv
      show State.fitsSlot T (G.2.1 10) VmData.none i v = true
      simpa [State.fitsSlot, State.slotType?, hk', hkind] using hfit)
    (g := F0 z.2.2.2.2.2.1 (qm_pc M i) ls (.ref (G.2.2.1 + p) :: st.map (qm_mv G))) rfl (by rw [hC.2.2.1, hl.1]) (rest := st.map (qm_mv G)) rfl (by rw [hC.2.1]; exact hd) hf1 (by show 2 * 0 + _ + 14 ≤ _; omega) (Nat.le_trans hc hCR) (by rw [hsz]; exact Nat.le_trans hs hSR) (hloader := Vm.clonesLoader_of_array hkS hkindS)
  rw [hsz] at X'
  have X' := X'
  generalize hH0 : H.push (arrV (G.2.1 10) (qm_kn G.2.2.2.2 h p).2 (fun _ => .int 0)) = H0
  generalize hH1 : H.push (vp_cell (G.2.1 10) ((qm_kn G.2.2.2.2 h p).2, .inl (h.1 p))) = H1
  have s0 : H0.size = H.size + 1 := by rw [← hH0, Array.size_push]
  have s1 : H1.size = H.size + 1 := by rw [← hH1, Array.size_push]
  have e0 : H0[H.size]? = some (arrV (G.2.1 10) (qm_kn G.2.2.2.2 h p).2 (fun _ => .int 0)) := by rw [← hH0, Array.getElem?_push_size]
  have e1 : H1[H.size]? = some (vp_cell (G.2.1 10) ((qm_kn G.2.2.2.2 h p).2, .inl (h.1 p))) := by rw [← hH1, Array.getElem?_push_size]
  have o0 : ∀ q : Nat, q < H.size → H0[q]? = H[q]? := fun q hq => by rw [← hH0, Array.getElem?_push, if_neg (Nat.ne_of_lt hq)]
  have o1 : ∀ q : Nat, q < H.size → H1[q]? = H[q]? := fun q hq => by rw [← hH1, Array.getElem?_push, if_neg (Nat.ne_of_lt hq)]
  have hR0 : qm_Rep G (qm_nw h 10 (qm_kn G.2.2.2.2 h p).2) H0 := hR.nw hz s0 o0 (by
    unfold qm_at
    rw [qm_kn_nw hR.2.2.1, if_neg (show ¬ (10 : Nat) < 9 by decide), ← hR.1, e0]
    congr 2
    funext j
    simp [qm_vl, qm_nw, va_up, qm_et])
  have hR1 : qm_Rep G (qm_cl h p (qm_kn G.2.2.2.2 h p).2) H1 := by
    refine hR0.set (p := h.2.2.2.2) rfl rfl (fun q hq k t => ?_) (by rw [s0, s1]) (fun q hq => ?_) ?_
    · unfold qm_vl
      split
      · exact congrArg (fun f : Nat → Int32 => Value.int (f k)) (up_n _ _ hq)
      · rfl
      · rfl
      · rfl
    · rcases Nat.lt_or_ge q H.size with g | g
      · rw [o0 q g, o1 q g]
      · have := hR.1
        rw [Array.getElem?_eq_none (by omega), Array.getElem?_eq_none (by omega)]
    · have ekn : qm_kn G.2.2.2.2 (qm_cl h p (qm_kn G.2.2.2.2 h p).2) h.2.2.2.2 = (10, (qm_kn G.2.2.2.2 h p).2) := qm_kn_nw (h := h) hR.2.2.1
      unfold qm_at
      rw [ekn, if_neg (show ¬ (10 : Nat) < 9 by decide), ← hR.1, e1]
      have ef : (fun j => qm_vl G (qm_cl h p (qm_kn G.2.2.2.2 h p).2) h.2.2.2.2 j 0) = fun j => Value.int (h.1 p j) := funext fun j => congrArg (fun f : Nat → Int32 => Value.int (f j)) (up_s (qm_nw h 10 (qm_kn G.2.2.2.2 h p).2).1 h.2.2.2.2 (h.1 p))
      show some (arrV (G.2.1 10) (qm_kn G.2.2.2.2 h p).2 (fun j => Value.int (h.1 p j))) = some (arrV (G.2.1 10) (qm_kn G.2.2.2.2 h p).2 (fun j => qm_vl G (qm_cl h p (qm_kn G.2.2.2.2 h p).2) h.2.2.2.2 j 0))
      rw [ef]
  have ea : qm_ad G h.2.2.2.2 = H.size := by rw [qm_ad_lt hz, hR.1]
  have kk := qm_nx hn k (Nat.le_trans hc hCR) (Nat.le_trans hs hSR) hR1 (qm_S_nw hS s1 o1) hl
  have em2 : ((.ref h.2.2.2.2 :: st : List Value).map (qm_mv G)) = .ref H.size :: st.map (qm_mv G) := by
    rw [← ea]; rfl
  rw [em2] at kk
  obtain ⟨t, b1, b2⟩ := kk _ (by rw [← hH1, ← hT]; rfl) X'
  refine ⟨t, step t ?_, b2⟩
  rw [hT]
  exact b1
theorem sp_cast {G : qm_G} {b : Bool} {M : qm_M} {z : qm_Z} {d C S i c s : Nat} {uQ : Option Value → qm_H → Prop} {L : qm_L} {st : List Value} {h : qm_H} (hA : qm_At G b M z d C S uQ) {e : qm_I} {idx : Nat} (hi : M.2.2[i]? = some e) (he : e.2.1 = .checkcast idx) (hlen : qm_len e = 3) {k1 : Nat} (g1 : qm_hs (Cond.classLink M.1 idx "[I") k1 = true) {p : Nat} (hp : qm_is b h p 10) (k : qm_PW G M z (i + 1) c s L (.ref p :: st) h) : qm_PW G M z i c s L (.ref p :: st) h := by
  obtain ⟨hd, hn⟩ := sp_at hA hi he hlen rfl
  obtain ⟨hC, hb, ⟨hdF, hdL, hCR, hSR⟩, hZ, hok⟩ := hA
  subst hb
  intro H locs ls l1 l2 hR hS hl
  obtain ⟨p1, p2⟩ := hR.arr hp (by decide)
  have p2 : H[G.2.2.1 + p]? = some (vp_cell (G.2.1 10) ((qm_kn G.2.2.2.2 h p).2, .inl (h.1 p))) := p2
  have kk := qm_nx hn k l1 l2 hR hS hl
  have em : ((.ref p :: st : List Value).map (qm_mv G)) = .ref (G.2.2.1 + p) :: st.map (qm_mv G) := by
    rw [← p1]; rfl
  rw [em] at kk ⊢
  have hty : (qm_tys G)[1]? = some (G.2.1 10, .int) := rfl
  exact va_castA (D := G.1) (cl := vwCl) (ws := [(G.2.2.1 + p, .inl (G.2.1 10, ((qm_kn G.2.2.2.2 h p).2, .inl (h.1 p))))]) hC.1 hC.2.1 hC.2.2.2.1 (hC.2.2.2.2.1 _ (qm_hs_in g1)) (fun k y hy => by
    have hz : k < 1 := (List.getElem?_eq_some_iff.mp hy).1
    obtain rfl : k = 0 := by omega
    cases hy
    exact p2) 0 rfl (qm_tyK hC hty).2 hd kk
theorem VYc_rd {B : Nat → Nat} {L : Nat} (h : (rdF B L 1).1 = 0) : VYc (rdT B L 1) (nn (rdT B L 1)) := by
  obtain ⟨acc, flt, a, e1, e2, e3, e4, -⟩ := rd_acc h
  rw [cnt_len (by decide)] at e4
  have eT : rdT B L 1 = tdf 1 acc (tdI 1) := by rw [rdT, e1]; rfl
  obtain ⟨r1, r2⟩ := rows_F (srt := 1) (wide := 4) (lm := 40) (b0 := 5) (fun w vs T => by rw [td, if_neg (by decide), if_pos rfl]) (by decide) (by decide) rfl acc.length acc rfl e4
  have e4 : acc.length ≤ 40 := e4
  have en : nn (rdT B L 1) = acc.length := by rw [nn, eT, r1, nI_clamp (by omega)]
  rw [en, eT]
  intro k hk hk3
  obtain ⟨l1, l2, l3, l4⟩ := e3 _ (lat_in hk)
  have hw : (lat acc k).1 = 5 ∨ (lat acc k).1 = 6 ∨ (lat acc k).1 = 7 ∨ (lat acc k).1 = 8 ∨ (lat acc k).1 = 9 := by
    have : (lat acc k).1 ∈ [5, 6, 7, 8, 9] := l1
    simpa using this
  have r0 := r2 k hk 0 (by decide)
  rw [if_pos rfl] at r0
  rw [show 1 + 4 * k = 1 + 4 * k + 0 from rfl, r0] at hk3
  have h8 : (lat acc k).1 - 5 = 3 := (nI_eq (by omega) (by omega)).mp hk3
  have h8 : (lat acc k).1 = 8 := by omega
  have hr := r2 k hk 3 (by decide)
  rw [if_neg (by decide)] at hr
  obtain ⟨v, v1, v2⟩ := l2 3 (by decide) (by rw [h8]; decide)
  rw [h8] at v1
  exact ⟨v, v1, by rw [hr, v2]⟩
