/-! special instructions: the JDK's max, min; static rows; arraycopy -/
section Spec
variable {G : qm_G} {b : Bool} {M : qm_M} {z : qm_Z} {d C S i c s : Nat} {uQ : Option Value → qm_H → Prop} {L : qm_L} {st : List Value} {h : qm_H}
theorem sp_cat (hcat : (st.map fun v => v.category).sum ≤ 8) : ((st.map (qm_mv G)).map fun v => v.category).sum ≤ 8 := by
  rw [List.map_map]
  refine Nat.le_trans (Nat.le_of_eq ?_) hcat
  congr 1
  exact List.map_congr_left fun v _ => qm_mv_cat G v
theorem sp_at (hA : qm_At G b M z d C S uQ) {e : qm_I} (hi : M.2.2[i]? = some e) {ins : ClassFile.Instr} (he : e.2.1 = ins) {n : Nat} (hlen : qm_len e = n) (ht : qm_tm ins = false) : decode M.2.1.2.1 (qm_pc M i) = .ok (ins, n) ∧ qm_pc M (i + 1) = qm_pc M i + n := by
  obtain ⟨-, -, -, -, hok⟩ := hA
  obtain ⟨hd, hn, -, -⟩ := qm_okM_at hok hi
  rw [he, hlen] at hd
  rw [he, hlen, ht] at hn
  exact ⟨hd, hn.resolve_left Bool.false_ne_true⟩
theorem sp_mmax (hA : qm_At G b M z (d + 1) C S uQ) {e : qm_I} {idx : Nat} (hi : M.2.2[i]? = some e) (he : e.2.1 = .invokestatic idx) (hlen : qm_len e = 3) {k1 : Nat} (g1 : qm_hs (Cond.methodLink M.1 idx Lib.Math.max.name) k1 = true) (hcat : (st.map fun v => v.category).sum ≤ 8) {x y : Int32} (k : qm_PW G M z (i + 1) c s L (.int (if x < y then y else x) :: st) h) : qm_PW G M z i c s L (.int y :: .int x :: st) h := by
  obtain ⟨hd, hn⟩ := sp_at hA hi he hlen rfl
  obtain ⟨hC, hb, ⟨hdF, hdL, hCR, hSR⟩, hZ, hok⟩ := hA
  intro H locs ls h1 h2 hR hS hl
  have hr := sp_cat (G := G) hcat
  exact va_mmax hC.1 hC.2.1 (hC.2.2.1.trans hl.1.symm) hC.2.2.2.1 (hC.2.2.2.2.1 _ (qm_hs_in g1)) (hC.2.2.2.2.1 _ (qm_hs_in (w := 581) (by decide +kernel))) (hC.2.2.2.2.1 _ (qm_hs_in (w := 123) (by decide +kernel))) (hC.2.2.2.2.1 _ (qm_hs_in (w := 582) (by decide +kernel))) (by omega) (by omega) h1 h2 hd (qm_nx hn k h1 h2 hR hS hl)
theorem sp_mmin (hA : qm_At G b M z (d + 1) C S uQ) {e : qm_I} {idx : Nat} (hi : M.2.2[i]? = some e) (he : e.2.1 = .invokestatic idx) (hlen : qm_len e = 3) {k1 : Nat} (g1 : qm_hs (Cond.methodLink M.1 idx Lib.Math.min.name) k1 = true) (hcat : (st.map fun v => v.category).sum ≤ 8) {x y : Int32} (k : qm_PW G M z (i + 1) c s L (.int (if y < x then y else x) :: st) h) : qm_PW G M z i c s L (.int y :: .int x :: st) h := by
  obtain ⟨hd, hn⟩ := sp_at hA hi he hlen rfl
  obtain ⟨hC, hb, ⟨hdF, hdL, hCR, hSR⟩, hZ, hok⟩ := hA
  intro H locs ls h1 h2 hR hS hl
  have hr := sp_cat (G := G) hcat
  exact va_mmin hC.1 hC.2.1 (hC.2.2.1.trans hl.1.symm) hC.2.2.2.1 (hC.2.2.2.2.1 _ (qm_hs_in g1)) (hC.2.2.2.2.1 _ (qm_hs_in (w := 367) (by decide +kernel))) (hC.2.2.2.2.1 _ (qm_hs_in (w := 123) (by decide +kernel))) (hC.2.2.2.2.1 _ (qm_hs_in (w := 368) (by decide +kernel))) (by omega) (by omega) h1 h2 hd (qm_nx hn k h1 h2 hR hS hl)
theorem sp_lmax (hA : qm_At G b M z (d + 1) C S uQ) {e : qm_I} {idx : Nat} (hi : M.2.2[i]? = some e) (he : e.2.1 = .invokestatic idx) (hlen : qm_len e = 3) {k1 : Nat} (g1 : qm_hs (Cond.methodLink M.1 idx Lib.MathLoose.max_long.x) k1 = true) (hcat : (st.map fun v => v.category).sum ≤ 8) {x y : Int64} (k : qm_PW G M z (i + 1) c s L (.long (if y < x then x else y) :: st) h) : qm_PW G M z i c s L (.long y :: .long x :: st) h := by
  obtain ⟨hd, hn⟩ := sp_at hA hi he hlen rfl
  obtain ⟨hC, hb, ⟨hdF, hdL, hCR, hSR⟩, hZ, hok⟩ := hA
  intro H locs ls h1 h2 hR hS hl
  have hr := sp_cat (G := G) hcat
  exact va_mmax_long hC.1 hC.2.1 (hC.2.2.1.trans hl.1.symm) hC.2.2.2.1 (hC.2.2.2.2.1 _ (qm_hs_in g1)) (hC.2.2.2.2.1 _ (qm_hs_in (w := 839) (by decide +kernel))) (hC.2.2.2.2.1 _ (qm_hs_in (w := 123) (by decide +kernel))) (hC.2.2.2.2.1 _ (qm_hs_in (w := 840) (by decide +kernel))) (by omega) (by omega) h1 h2 hd (qm_nx hn k h1 h2 hR hS hl)
theorem qm_ad_c (k : Nat) : qm_ad G (1000000 + k) = G.2.2.2.1 k := by
  unfold qm_ad
  rw [if_neg (by omega), Nat.add_sub_cancel_left]
theorem sp_gets (hA : qm_At G b M z d C S uQ) {e : qm_I} {idx : Nat} (hi : M.2.2[i]? = some e) (he : e.2.1 = .getstatic idx) (hlen : qm_len e = 3) (j : Nat) {q : String × String × String × FieldType × Nat × (Nat → Value)} (hq : qm_ST[j]? = some q) {k1 : Nat} (g1 : qm_hs (Cond.fieldLink M.1 idx q.1 q.2.1 q.2.2.1) k1 = true) (k : qm_PW G M z (i + 1) c s L (.ref (1000000 + j) :: st) h) : qm_PW G M z i c s L st h := by
  obtain ⟨hd, hn⟩ := sp_at hA hi he hlen rfl
  obtain ⟨hC, hb, ⟨hdF, hdL, hCR, hSR⟩, hZ, hok⟩ := hA
  intro H locs ls h1 h2 hR hS hl
  have hz := (hC.2.2.2.2.2.2.2.2.2.1.2.2.1 j q hq).1
  have kk := qm_nx hn k h1 h2 hR hS hl
  rw [List.map_cons] at kk
  have e1 : qm_mv G (.ref (1000000 + j)) = .ref (G.2.2.2.1 j) := congrArg Value.ref (qm_ad_c j)
  rw [e1] at kk
  exact va_gets hC.1 hC.2.1 hz hS hC.2.2.2.1 (hC.2.2.2.2.1 _ (qm_hs_in g1)) (fun _ q => q) hd kk
theorem sp_getsN (hA : qm_At G b M z d C S uQ) {e : qm_I} {idx : Nat} (hi : M.2.2[i]? = some e) (he : e.2.1 = .getstatic idx) (hlen : qm_len e = 3) (j : Nat) {q : String × String × String × FieldType × Nat × (Nat → Value)} (hq : qm_ST[j]? = some q) {k1 : Nat} {host : String} (g1 : qm_hn (Cond.fieldLinkNest M.1 idx q.1 q.2.1 q.2.2.1 host) k1 = true) (k : qm_PW G M z (i + 1) c s L (.ref (1000000 + j) :: st) h) : qm_PW G M z i c s L st h := by
  obtain ⟨hd, hn⟩ := sp_at hA hi he hlen rfl
  obtain ⟨hC, hb, ⟨hdF, hdL, hCR, hSR⟩, hZ, hok⟩ := hA
  intro H locs ls h1 h2 hR hS hl
  have hz := (hC.2.2.2.2.2.2.2.2.2.1.2.2.1 j q hq).1
  have hw := hC.2.2.2.2.2.2.2.2.2.1.1 _ (qm_hn_in g1) rfl
  have kk := qm_nx hn k h1 h2 hR hS hl
  rw [List.map_cons] at kk
  have e1 : qm_mv G (.ref (1000000 + j)) = .ref (G.2.2.2.1 j) := congrArg Value.ref (qm_ad_c j)
  rw [e1] at kk
  exact va_getsN hC.1 hC.2.1 hz hS hC.2.2.2.1 (va_Nw.use rfl hw) (fun _ q => q) hd kk
theorem sp_ti (hA : qm_At G b M z d C S uQ) {e : qm_I} (hi : M.2.2[i]? = some e) (he : e.2.1 = .iaload) (hlen : qm_len e = 1) (j : Nat) {a1 a2 a3 : String} {N : Nat} {f : Nat → Value} (hq : qm_ST[j]? = some (a1, a2, a3, .int, N, f)) {x y : Int32} (hin : vp_in x N) (hf : f x.toNatClampNeg = .int y) (k : qm_PW G M z (i + 1) c s L (.int y :: st) h) : qm_PW G M z i c s L (.int x :: .ref (1000000 + j) :: st) h := by
  obtain ⟨hd, hn⟩ := sp_at hA hi he hlen rfl
  obtain ⟨hC, hb, ⟨hdF, hdL, hCR, hSR⟩, hZ, hok⟩ := hA
  intro H locs ls h1 h2 hR hS hl
  have hz := (hC.2.2.2.2.2.2.2.2.2.1.2.2.1 j _ hq).2
  have e1 : qm_mv G (.ref (1000000 + j)) = .ref (G.2.2.2.1 j) := congrArg Value.ref (qm_ad_c j)
  rw [List.map_cons, List.map_cons, e1]
  exact va_ti hC.1 hC.2.1 hz hS hin hf hd (qm_nx hn k h1 h2 hR hS hl)
theorem sp_tl (hA : qm_At G b M z d C S uQ) {e : qm_I} (hi : M.2.2[i]? = some e) (he : e.2.1 = .laload) (hlen : qm_len e = 1) (j : Nat) {a1 a2 a3 : String} {N : Nat} {f : Nat → Value} (hq : qm_ST[j]? = some (a1, a2, a3, .long, N, f)) {x : Int32} {y : Int64} (hin : vp_in x N) (hf : f x.toNatClampNeg = .long y) (k : qm_PW G M z (i + 1) c s L (.long y :: st) h) : qm_PW G M z i c s L (.int x :: .ref (1000000 + j) :: st) h := by
  obtain ⟨hd, hn⟩ := sp_at hA hi he hlen rfl
  obtain ⟨hC, hb, ⟨hdF, hdL, hCR, hSR⟩, hZ, hok⟩ := hA
  intro H locs ls h1 h2 hR hS hl
  have hz := (hC.2.2.2.2.2.2.2.2.2.1.2.2.1 j _ hq).2
  have e1 : qm_mv G (.ref (1000000 + j)) = .ref (G.2.2.2.1 j) := congrArg Value.ref (qm_ad_c j)
  rw [List.map_cons, List.map_cons, e1]
  exact va_tl hC.1 hC.2.1 hz hS hin hf hd (qm_nx hn k h1 h2 hR hS hl)
/-- a stretch of ints (or bytes) of the place p into the place q -/
def qm_cp (h : qm_H) (p q sp dp n : Nat) : qm_H := (va_up h.1 q (va_cpy (h.1 p) (h.1 q) sp dp n), h.2)
theorem qm_vl_cp {p q sp dp n : Nat} : ∀ r, r ≠ q → ∀ k t, qm_vl G (qm_cp h p q sp dp n) r k t = qm_vl G h r k t := by
  intro r hr k t
  unfold qm_vl
  split
  · show Value.int (va_up h.1 q _ r k) = _
    rw [up_n _ _ hr]
  · rfl
  · rfl
  · rfl
theorem sp_copy (hA : qm_At G b M z (d + 1) C S uQ) {e : qm_I} {idx : Nat} (hi : M.2.2[i]? = some e) (he : e.2.1 = .invokestatic idx) (hlen : qm_len e = 3) {k1 : Nat} (g1 : qm_hs (Cond.methodLink M.1 idx arraycopyName) k1 = true) (hcat : (st.map fun v => v.category).sum ≤ 8) {p q kd t0 : Nat} {ty : FieldType} (hkd : kd = 10 ∧ t0 = 1 ∧ ty = .int ∨ kd = 9 ∧ t0 = 0 ∧ ty = .byte) (hp : qm_is b h p kd) (hq : qm_is b h q kd)
    {sp dp n : Int32} (h1 : ¬ sp < 0) (h2 : ¬ dp < 0) (h3 : ¬ n < 0) (h4 : sp.toNatClampNeg + n.toNatClampNeg ≤ (qm_kn b h p).2) (h5 : dp.toNatClampNeg + n.toNatClampNeg ≤ (qm_kn b h q).2) (hfit : ∀ i, i < n.toNatClampNeg → fits ty (.int (h.1 p (sp.toNatClampNeg + i))) = true)
    (k : qm_PW G M z (i + 1) c s L st (qm_cp h p q sp.toNatClampNeg dp.toNatClampNeg n.toNatClampNeg)) : qm_PW G M z i c s L (.int n :: .int dp :: .ref q :: .int sp :: .ref p :: st) h := by
  obtain ⟨hd, hn⟩ := sp_at hA hi he hlen rfl
  obtain ⟨hC, hb, ⟨hdF, hdL, hCR, hSR⟩, hZ, hok⟩ := hA
  subst hb
  intro H locs ls l1 l2 hR hS hl
  have hr := sp_cat (G := G) hcat
  have hk9 : ¬ kd < 9 := by rcases hkd with ⟨e, -⟩ | ⟨e, -⟩ <;> omega
  have het : qm_et kd = 0 := by rcases hkd with ⟨e, -⟩ | ⟨e, -⟩ <;> rw [e] <;> rfl
  have hty : (qm_tys G)[t0]? = some (G.2.1 kd, ty) := by
    rcases hkd with ⟨e, f, g⟩ | ⟨e, f, g⟩ <;> rw [e, f, g] <;> rfl
  have hpr : refKind ty = false := by rcases hkd with ⟨-, -, g⟩ | ⟨-, -, g⟩ <;> rw [g] <;> rfl
  obtain ⟨p1, p2⟩ := hR.arr hp hk9
  obtain ⟨q1, q2⟩ := hR.arr hq hk9
  rw [het] at p2 q2
  have p2 : H[G.2.2.1 + p]? = some (vp_cell (G.2.1 kd) ((qm_kn G.2.2.2.2 h p).2, .inl (h.1 p))) := p2
  have q2 : H[G.2.2.1 + q]? = some (vp_cell (G.2.1 kd) ((qm_kn G.2.2.2.2 h q).2, .inl (h.1 q))) := q2
  have nn : ∀ x : Int32, ¬ x < 0 → x.toInt = (x.toNatClampNeg : Int) := by
    intro x hx
    have hx0 : (0 : Int) ≤ x.toInt := by
      have := Int32.not_lt.mp hx
      simpa using Int32.le_iff_toInt_le.mp this
    show x.toInt = ((x.toInt.toNat : Nat) : Int)
    omega
  have em : ((.int n :: .int dp :: .ref q :: .int sp :: .ref p :: st : List Value).map (qm_mv G)) = .int n :: .int dp :: .ref (G.2.2.1 + q) :: .int sp :: .ref (G.2.2.1 + p) :: st.map (qm_mv G) := by
    rw [← p1, ← q1]; rfl
  rw [em]
  have hlw : ((st.map (qm_mv G)).map fun v => v.category).sum + (nativeFrameWords "java/lang/System" "arraycopy" 5 + 11) ≤ (qm_R z).locals := by
    have : nativeFrameWords "java/lang/System" "arraycopy" 5 + 11 ≤ 33 := by decide +kernel
    omega
  have hf1 : 1 ≤ z.2.2.2.1.frames := by
    show 1 ≤ (qm_R z).frames
    omega
  replace hlw : ((st.map (qm_mv G)).map fun v => v.category).sum + (nativeFrameWords "java/lang/System" "arraycopy" 5 + 11) ≤ z.2.2.2.1.locals := hlw
  intro T hT X
  obtain ⟨-, k0, hk0, cm0, hkk0⟩ := (hC.2.2.2.2.2.2.2.2.1.2 t0 _ hty).1 (qm_kn G.2.2.2.2 h p).2 (fun j => .int (h.1 p j))
  obtain ⟨-, k1', hk1, cm1, hkk1⟩ := (hC.2.2.2.2.2.2.2.2.1.2 t0 _ hty).1 (qm_kn G.2.2.2.2 h q).2 (fun j => .int (h.1 q j))
  obtain ⟨vm', X', step⟩ := X.arraycopy hC.1 hC.2.2.2.1 (hC.2.2.2.2.1 _ (qm_hs_in g1)) (hC.2.2.2.2.1 _ (qm_hs_in (w := 601) (by decide +kernel))) (hC.2.2.2.2.1 _ (qm_hs_in (w := 600) (by decide +kernel))) (hC.2.2.2.2.1 _ (qm_hs_in (w := 131) (by decide +kernel))) (src := G.2.2.1 + p) (dst := G.2.2.1 + q) (cs := vp_cell (G.2.1 kd) ((qm_kn G.2.2.2.2 h p).2, .inl (h.1 p))) (cd := vp_cell (G.2.1 kd) ((qm_kn G.2.2.2.2 h q).2, .inl (h.1 q))) (srcPos := sp) (destPos := dp) (n := n) (by rw [hT]; exact p2) (by rw [hT]; exact q2)
    (fun _ h => by cases h) (fun _ h => by cases h) (fun h => by cases h) (fun h => by cases h) hk0 hk1 hkk0 hkk1 (by simp [hpr]) h1 h2 h3
    (by rw [nn sp h1, nn n h3]; show ¬ _ > ((arrV (G.2.1 kd) (qm_kn G.2.2.2.2 h p).2 (fun j => .int (h.1 p j))).slots.size : Int); rw [arrV_size]; omega)
    (by rw [nn dp h2, nn n h3]; show ¬ _ > ((arrV (G.2.1 kd) (qm_kn G.2.2.2.2 h q).2 (fun j => .int (h.1 q j))).slots.size : Int); rw [arrV_size]; omega)
    (fun vm₁ _ i hi => by
      have e : (vp_cell (G.2.1 kd) ((qm_kn G.2.2.2.2 h p).2, .inl (h.1 p))).slots.getD (sp.toNatClampNeg + i) .null = .int (h.1 p (sp.toNatClampNeg + i)) := by
        show (arrV (G.2.1 kd) (qm_kn G.2.2.2.2 h p).2 (fun j => .int (h.1 p j))).slots.getD _ _ = _
        rw [Array.getD_eq_getD_getElem?, arrV_read _ _ (by omega)]
        rfl
      refine ⟨?_, ?_⟩
      · rw [e]
        exact hfit i hi
      · rw [e]
        exact trivial)
    (g := F0 z.2.2.2.2.2.1 (qm_pc M i) ls (.int n :: .int dp :: .ref (G.2.2.1 + q) :: .int sp :: .ref (G.2.2.1 + p) :: st.map (qm_mv G))) rfl (by rw [hC.2.2.1, hl.1]) (rest := st.map (qm_mv G)) rfl (by rw [hC.2.1]; exact hd) hf1 (by show 2 * 0 + _ + _ ≤ _; omega)
  have e1 : copied (vp_cell (G.2.1 kd) ((qm_kn G.2.2.2.2 h p).2, .inl (h.1 p))) (vp_cell (G.2.1 kd) ((qm_kn G.2.2.2.2 h q).2, .inl (h.1 q))) sp dp n = vp_cell (G.2.1 kd) ((qm_kn G.2.2.2.2 h q).2, .inl (va_cpy (h.1 p) (h.1 q) sp.toNatClampNeg dp.toNatClampNeg n.toNatClampNeg)) := va_copied (fun z => .int z) (G.2.1 kd) (G.2.1 kd) (h.1 p) (h.1 q) h4
  rw [e1] at X' step
  have hql : G.2.2.1 + q < H.size := (Array.getElem?_eq_some_iff.mp q2).1
  have hheap : ((T.setVm vm').setCell (G.2.2.1 + q) (vp_cell (G.2.1 kd) ((qm_kn G.2.2.2.2 h q).2, .inl (va_cpy (h.1 p) (h.1 q) sp.toNatClampNeg dp.toNatClampNeg n.toNatClampNeg)))).heap = H.setIfInBounds (G.2.2.1 + q) (vp_cell (G.2.1 kd) ((qm_kn G.2.2.2.2 h q).2, .inl (va_cpy (h.1 p) (h.1 q) sp.toNatClampNeg dp.toNatClampNeg n.toNatClampNeg))) := by rw [← hT]; rfl
  have oq : ∀ r : Nat, r ≠ G.2.2.1 + q → (H.setIfInBounds (G.2.2.1 + q) (vp_cell (G.2.1 kd) ((qm_kn G.2.2.2.2 h q).2, .inl (va_cpy (h.1 p) (h.1 q) sp.toNatClampNeg dp.toNatClampNeg n.toNatClampNeg))))[r]? = H[r]? := fun r hr => by simp [Array.getElem?_setIfInBounds, Ne.symm hr]
  have hAq : qm_A G (G.2.2.1 + q) := Nat.le_add_right _ _
  have hR1 : qm_Rep G (qm_cp h p q sp.toNatClampNeg dp.toNatClampNeg n.toNatClampNeg) (H.setIfInBounds (G.2.2.1 + q) (vp_cell (G.2.1 kd) ((qm_kn G.2.2.2.2 h q).2, .inl (va_cpy (h.1 p) (h.1 q) sp.toNatClampNeg dp.toNatClampNeg n.toNatClampNeg)))) := by
    refine hR.set (p := q) rfl rfl qm_vl_cp (by simp) oq ?_
    have ekn : qm_kn G.2.2.2.2 (qm_cp h p q sp.toNatClampNeg dp.toNatClampNeg n.toNatClampNeg) q = qm_kn G.2.2.2.2 h q := rfl
    unfold qm_at
    rw [ekn, hq.kd, if_neg hk9, het]
    have : (fun j => qm_vl G (qm_cp h p q sp.toNatClampNeg dp.toNatClampNeg n.toNatClampNeg) q j 0) = fun j => Value.int (va_cpy (h.1 p) (h.1 q) sp.toNatClampNeg dp.toNatClampNeg n.toNatClampNeg j) := by
      funext j
      show Value.int (va_up h.1 q _ q j) = _
      rw [up_s]
    rw [this]
    simp [Array.getElem?_setIfInBounds, hql]
    rfl
  obtain ⟨t, a1, b1⟩ := qm_nx hn k l1 l2 hR1 (show va_S (qm_A G) (qm_S z).heap _ _ from ⟨by simp; exact hS.1, fun r g1 g2 => by
      rw [oq r (fun e => g2 (by rw [e]; exact hAq))]
      exact hS.2.1 r g1 g2, fun r hr => by
      rcases List.mem_append.mp hr with h | h
      · exact hS.2.2 r h
      · obtain ⟨z, -, hz⟩ := List.mem_map.mp h
        rw [← hz]
        exact hAq⟩) hl _ hheap X'
  exact ⟨t, step t a1, b1⟩
end Spec
