/-! new cells -/
def qm_tagT : FieldType → Nat
  | .int => 0
  | .boolean => 0
  | .long => 1
  | .object _ => 2
  | .array _ => 2
  | _ => 3
set_option maxRecDepth 100000 in
theorem qm_tagok : ((List.range 9).all fun ci => match vwCl[ci]? with | some r => (List.range r.2.2).all fun k => decide (qm_tagT (qm_pt r k) = qm_ft ci k ∧ qm_ft ci k < 3) | none => false) = true := by decide +kernel
theorem qm_tag {ci k : Nat} {r : vw_C} (hr : vwCl[ci]? = some r) (hk : k < r.2.2) : qm_tagT (qm_pt r k) = qm_ft ci k ∧ qm_ft ci k < 3 := by
  have hc : ci < 9 := (List.getElem?_eq_some_iff.mp hr).1
  have h1 := List.all_eq_true.mp qm_tagok ci (List.mem_range.mpr hc)
  rw [hr] at h1
  exact of_decide_eq_true (List.all_eq_true.mp h1 k (List.mem_range.mpr hk))
theorem qm_SKle : qm_SK.length ≤ qm_SKK.length := by decide +kernel
section New
variable {G : qm_G} {M : qm_M} {z : qm_Z} {H : Heap} {locs : List Loc} {c s : Nat} {h : qm_H} {ls : Array Slot} {rest : List Value} {pc : Nat}
theorem qm_kn_nw {b : Bool} {h : qm_H} {kd n : Nat} (hb : b = true → qm_SKK.length ≤ h.2.2.2.2) : qm_kn b (qm_nw h kd n) h.2.2.2.2 = (kd, n) := by
  unfold qm_kn
  have e : (bif b then qm_SKK[h.2.2.2.2]? else none) = none := by
    cases b with
    | false => rfl
    | true => exact List.getElem?_eq_none (hb rfl)
  rw [e]
  simp [qm_nw, va_up]
theorem qm_rd_nw {b : Bool} {h : qm_H} {kd n j : Nat} (hb : b = true → qm_SKK.length ≤ h.2.2.2.2) : qm_rd b (qm_nw h kd n) h.2.2.2.2 j = none := by
  unfold qm_rd
  have e : (bif b then ((qm_SK[h.2.2.2.2]?).bind (fun r => r[j]?)).join else none) = none := by
    cases b with
    | false => rfl
    | true =>
      rw [List.getElem?_eq_none (Nat.le_trans qm_SKle (hb rfl))]
      rfl
  rw [e]
  simp [qm_nw, va_up]
theorem qm_old_nw {G : qm_G} {h : qm_H} {kd n q : Nat} (hq : q < h.2.2.2.2) : qm_kn G.2.2.2.2 (qm_nw h kd n) q = qm_kn G.2.2.2.2 h q ∧ ∀ j t, qm_vl G (qm_nw h kd n) q j t = qm_vl G h q j t := by
  have e : q ≠ h.2.2.2.2 := Nat.ne_of_lt hq
  refine ⟨?_, fun j t => ?_⟩
  · unfold qm_kn
    simp [qm_nw, va_up, e]
  · have e1 : qm_rd G.2.2.2.2 (qm_nw h kd n) q j = qm_rd G.2.2.2.2 h q j := by
      unfold qm_rd
      simp [qm_nw, va_up, e]
    unfold qm_vl
    rw [e1]
    simp [qm_nw, va_up, e]
theorem qm_Rep.nw {H1 : Heap} {kd n : Nat} (hR : qm_Rep G h H) (hz : h.2.2.2.2 < 1000000) (hs : H1.size = H.size + 1) (ho : ∀ q, q < H.size → H1[q]? = H[q]?) (hp : qm_at G (qm_nw h kd n) H1 h.2.2.2.2) : qm_Rep G (qm_nw h kd n) H1 := by
  refine ⟨by rw [hs, hR.1]; rfl, by show h.2.2.2.2 + 1 ≤ _; omega, fun hb => Nat.le_succ_of_le (hR.2.2.1 hb), fun q hq => ?_⟩
  have hq1 : q < h.2.2.2.2 + 1 := hq
  by_cases e : q = h.2.2.2.2
  · rw [e]; exact hp
  · have hq2 : q < h.2.2.2.2 := by omega
    obtain ⟨e1, e2⟩ := qm_old_nw (G := G) (h := h) (kd := kd) (n := n) hq2
    have h2 := hR.2.2.2 q hq2
    have h3 : H1[G.2.2.1 + q]? = H[G.2.2.1 + q]? := ho _ (by rw [hR.1]; omega)
    unfold qm_at at h2 ⊢
    rw [e1]
    split
    · rename_i hc
      rw [if_pos hc] at h2
      obtain ⟨r, g1, g2⟩ := h2
      exact ⟨r, g1, (g2.kept h3).to (fun k _ => (e2 k _).symm)⟩
    · rename_i hc
      rw [if_neg hc] at h2
      rw [h3, h2]
      congr 2
      funext j
      exact (e2 j _).symm
theorem qm_S_nw {H1 : Heap} (hS0 : va_S (qm_A G) (qm_S z).heap H locs) (hs : H1.size = H.size + 1) (ho : ∀ q, q < H.size → H1[q]? = H[q]?) : va_S (qm_A G) (qm_S z).heap H1 locs := ⟨Nat.le_trans hS0.1 (by omega), fun x h1 h2 => (ho x (Nat.lt_of_lt_of_le h1 hS0.1)).trans (hS0.2.1 x h1 h2), hS0.2.2⟩
theorem qm_newW (hC : qm_C G M z) (hR : qm_Rep G h H) (hS0 : va_S (qm_A G) (qm_S z).heap H locs) {ci idx : Nat} (hc9 : ci < 9) {r : vw_C} (hr : vwCl[ci]? = some r) (hz : h.2.2.2.2 < 1000000) (h1 : Cond.classLink M.1 idx r.1 ∈ qm_tb) (h2 : Cond.instantiable r.1 r.2.2 ∈ qm_tb) (h3 : Cond.initialized r.1 ∈ qm_tb) (hcells : c + 1 ≤ (qm_R z).cells) (hslots : s + r.2.2 ≤ (qm_R z).slots) (hd : decode M.2.1.2.1 pc = .ok (.new idx, 3))
    (kk : ∀ H1 : Heap, qm_Rep G (qm_nw h ci 0) H1 → va_S (qm_A G) (qm_S z).heap H1 locs → qm_W z H1 locs (c + 1) (s + r.2.2) (F0 z.2.2.2.2.2.1 (pc + 3) ls (.ref (qm_ad G h.2.2.2.2) :: rest))) : qm_W z H locs c s (F0 z.2.2.2.2.2.1 pc ls rest) := by
  have hts := hC.2.2.2.2.1
  have hKn := qm_cls hC hr
  have hk1 := qm_clok hr
  refine W.newcK hC.1 hC.2.1 hC.2.2.2.1 (hts _ h1) (hts _ h2) (hts _ h3) rfl hd hcells hslots hKn.2.1 (hR.1) fun H1 kC hkC e1 z1 o1 => ?_
  have ho : ∀ q, q < H.size → H1[q]? = H[q]? := fun q hq => o1 q (by rw [← hR.1]; exact hq)
  have hs : H1.size = H.size + 1 := by rw [z1, hR.1]
  rw [← qm_ad_lt hz]
  refine kk H1 (hR.nw hz hs ho ?_) (qm_S_nw hS0 hs ho)
  unfold qm_at
  rw [qm_kn_nw hR.2.2.1, if_pos hc9]
  refine ⟨r, hr, (u_born (qm_pt r) hts hk1.1 hKn hkC e1 hk1.2.1).to (fun k hk => ?_)⟩
  obtain ⟨ht, ht3⟩ := qm_tag hr hk
  dsimp only
  rw [← ht] at ht3 ⊢
  unfold qm_vl
  cases hq : qm_pt r k <;> simp only [qm_tagT, defaultValue, qm_rd_nw hR.2.2.1] <;> first | rfl | (simp [qm_nw, va_up]; done) | (rw [hq] at ht3; exact absurd ht3 (by decide))
theorem qm_newaW (hC : qm_C G M z) (hR : qm_Rep G h H) (hS0 : va_S (qm_A G) (qm_S z).heap H locs) {at_ : ArrayType} {kd k : Nat} (hk : (qm_tys G)[k]? = some (G.2.1 kd, newarray.typeOf at_)) (h9 : ¬ kd < 9) (ht : qm_et kd = 0) (hdv : defaultValue (newarray.typeOf at_) = .int 0) (hob : ∀ C, newarray.typeOf at_ ≠ .object C) (hz : h.2.2.2.2 < 1000000) (h1 : Cond.arrayClass (newarray.typeOf at_) ∈ qm_tb) {n : Int32} (hn : ¬ n < 0) (hbytes : n.toNatClampNeg * componentBytes (newarray.typeOf at_) ≤ 536870912) (hcells : c + 1 ≤ (qm_R z).cells) (hslots : s + n.toNatClampNeg ≤ (qm_R z).slots) (hd : decode M.2.1.2.1 pc = .ok (.newarray at_, 2))
    (kk : ∀ H1 : Heap, qm_Rep G (qm_nw h kd n.toNatClampNeg) H1 → va_S (qm_A G) (qm_S z).heap H1 locs → qm_W z H1 locs (c + 1) (s + n.toNatClampNeg) (F0 z.2.2.2.2.2.1 (pc + 2) ls (.ref (qm_ad G h.2.2.2.2) :: rest))) : qm_W z H locs c s (F0 z.2.2.2.2.2.1 pc ls (.int n :: rest)) := by
  have hts := hC.2.2.2.2.1
  refine va_newaK hC.1 hC.2.1 (hts _ h1) rfl hd rfl hn rfl hbytes hcells hslots hR.1 fun H1 cA e1 z1 o1 hAr hNm => ?_
  have ho : ∀ q, q < H.size → H1[q]? = H[q]? := fun q hq => o1 q (by rw [← hR.1]; exact hq)
  have hs : H1.size = H.size + 1 := by rw [z1, hR.1]
  have hcA : G.2.1 kd = cA := by
    have h2 := (qm_tyK hC hk).2
    have h3 : (qm_S z).vm.findClass ("[" ++ (newarray.typeOf at_).toString) = some (G.2.1 kd) := by
      revert h2 hob
      cases newarray.typeOf at_ <;> intro hob h2 <;> first | exact h2 | exact absurd rfl (hob _)
    exact Option.some.inj (h3.symm.trans hNm)
  rw [← qm_ad_lt hz]
  refine kk H1 (hR.nw hz hs ho ?_) (qm_S_nw hS0 hs ho)
  unfold qm_at
  rw [qm_kn_nw hR.2.2.1, if_neg h9, e1, ← hcA, ht, hdv]
  congr 2
  funext j
  simp [qm_vl, qm_nw, va_up]
theorem qm_anewW (hC : qm_C G M z) (hR : qm_Rep G h H) (hS0 : va_S (qm_A G) (qm_S z).heap H locs) {kd k idx : Nat} {C : String} (hk : (qm_tys G)[k]? = some (G.2.1 kd, .object C)) (hCC : C ∈ [RX3, RX7, RX8]) (h9 : ¬ kd < 9) (ht : qm_et kd = 2) (hz : h.2.2.2.2 < 1000000) (h1 : Cond.classLink M.1 idx C ∈ qm_tb) {n : Int32} (hn : ¬ n < 0) (hbytes : n.toNatClampNeg * 4 ≤ 536870912) (hcells : c + 1 ≤ (qm_R z).cells) (hslots : s + n.toNatClampNeg ≤ (qm_R z).slots) (hd : decode M.2.1.2.1 pc = .ok (.anewarray idx, 3))
    (kk : ∀ H1 : Heap, qm_Rep G (qm_nw h kd n.toNatClampNeg) H1 → va_S (qm_A G) (qm_S z).heap H1 locs → qm_W z H1 locs (c + 1) (s + n.toNatClampNeg) (F0 z.2.2.2.2.2.1 (pc + 3) ls (.ref (qm_ad G h.2.2.2.2) :: rest))) : qm_W z H locs c s (F0 z.2.2.2.2.2.1 pc ls (.int n :: rest)) := by
  have hts := hC.2.2.2.2.1
  refine W.anew hC.1 hC.2.1 hC.2.2.2.1 (hts _ h1) (va_AO.use (hC.2.2.2.2.2.2.2.2.2.1.2.1 C hCC)) rfl hd rfl hn hbytes hcells hslots fun cA kA comp f1 f2 f3 f4 => ?_
  generalize hH1 : H.push ({ cls := cA, slots := Array.replicate n.toNatClampNeg .null, vm := .none } : Cell) = H1
  have hs : H1.size = H.size + 1 := by rw [← hH1, Array.size_push]
  have e1 : H1[H.size]? = some (arrV cA n.toNatClampNeg (fun _ => .null)) := by rw [← hH1, Array.getElem?_push_size, ← arrV_new]
  have ho : ∀ q : Nat, q < H.size → H1[q]? = H[q]? := fun q hq => by rw [← hH1, Array.getElem?_push, if_neg (Nat.ne_of_lt hq)]
  have hcA : G.2.1 kd = cA := by
    obtain ⟨_, _, _, _, _, h3⟩ := (qm_tyK hC hk).2
    exact Option.some.inj (h3.symm.trans f1)
  have ea : qm_ad G h.2.2.2.2 = H.size := by rw [qm_ad_lt hz, hR.1]
  rw [← ea]
  refine kk H1 (hR.nw hz hs ho ?_) (qm_S_nw hS0 hs ho)
  unfold qm_at
  rw [qm_kn_nw hR.2.2.1, if_neg h9, ← hR.1, e1, ← hcA, ht]
  congr 2
  funext j
  simp [qm_vl, qm_rd_nw hR.2.2.1, va_rf]
end New
/-! calls -/
section Call
variable {G : qm_G} {M : qm_M} {z : qm_Z} {H : Heap} {locs : List Loc} {c s : Nat} {h : qm_H} {ls : Array Slot} {rest : List Value} {pc : Nat}
theorem qm_after {uQ : Option Value → qm_H → Prop} {a : Array Value} {mc ms : Nat} {st0 : List Value} (hr : va_Run z.1 z.2.1 z.2.2.1 z.2.2.2.1 z.2.2.2.2.1 z.2.2.2.2.2.1 z.2.2.2.2.2.2.1 z.2.2.2.2.2.2.2.1 z.2.2.2.2.2.2.2.2.1 z.2.2.2.2.2.2.2.2.2.1 H locs c s mc ms (F0 z.2.2.2.2.2.1 pc ls st0) rest (qm_Qc G uQ a) (qm_A G)) (hS0 : va_S (qm_A G) (qm_S z).heap H locs)
    (kk : ∀ (v : Option Value) (h' : qm_H) (H1 : Heap) (locs1 : List Loc), uQ v h' → qm_Rep G h' H1 → va_S (qm_A G) (qm_S z).heap H1 locs1 → qm_W z H1 locs1 (c + mc) (s + ms) (F0 z.2.2.2.2.2.1 (pc + 3) ls ((v.map (qm_mv G)).toList ++ rest))) : qm_W z H locs c s (F0 z.2.2.2.2.2.1 pc ls st0) := by
  intro T hT X
  obtain ⟨v, st₀, t, T', L, h0, X', hL, e1, e2, ⟨w, h', hv, hp, hR, hz, hk⟩, st⟩ := hr T hT X
  cases hv
  rw [h0] at hz hk
  obtain ⟨t2, a1, b1⟩ := kk w h' T'.heap (locs ++ L) hp (by rw [e1]; exact hR)
    ⟨Nat.le_trans hS0.1 (by rw [e1]; exact hz), fun q h1 h2 => by rw [e1, hk q (Nat.lt_of_lt_of_le h1 hS0.1) h2]; exact hS0.2.1 q h1 h2, fun q hq => by
      rcases List.mem_append.mp hq with h | h
      · exact hS0.2.2 q h
      · exact hL q h⟩ T' rfl X'
  exact ⟨t2, st t2 a1, b1⟩
/-- what the tables say of a call -/
def qm_cok (own : String) (idx n : Nat) (y : qm_CI) : Prop := Cond.code y.1 y.2.1 y.2.2.1 y.2.2.2 ∈ qm_tb ∧ Cond.initialized y.1.cls ∈ qm_tb ∧ (y.1.cls ≠ "java/lang/invoke/MethodHandle" ∧ y.1.cls ≠ "java/lang/invoke/VarHandle") ∧ (parseMethodDescriptor y.1.desc).map (fun d => d.parameters.length) = some n ∧ Cond.methodLink own idx y.1 ∈ qm_tb ∧ y.2.2.1 ≤ 22
theorem qm_good {w : Cond} (h : w ∈ qm_tb) : (w.onTables && w.keeps) = true ∨ ∃ ty, w = .arrayClass ty := good_of_word (List.mem_filter.mp h).2
theorem qm_callB (hC : qm_C G M z) {idx n d C1 S1 : Nat} {y : qm_CI} (hk : qm_cok M.1 idx n y) (hd1 : d + 1 ≤ (qm_R z).frames) (hd2 : 41 * (d + 1) ≤ (qm_R z).locals) : CallB (qm_R z) (qm_S z) z.2.2.2.2.2.2.1 M.1 idx y.1 y.2.1 y.2.2.1 y.2.2.2 (qm_ws y) { frames := d, cells := C1, slots := S1, locals := 41 * d } C1 S1 n := by
  obtain ⟨k1, k2, k3, k4, k5, k6⟩ := hk
  have hts := hC.2.2.2.2.1
  refine ⟨rfl, rfl, hd1, ?_, pay_in (big := qm_tb) hts (fun w hw => ?_), List.mem_cons_self, hts _ k1, hts _ k2, k3, fun sig e => ?_, hts _ k5⟩
  · show 8 + (y.2.2.1 + 11) + 41 * d ≤ _
    omega
  · rcases List.mem_cons.mp hw with rfl | hw
    · exact ⟨k1, qm_good k1⟩
    · exact ⟨hw, qm_good hw⟩
  · rw [e] at k4
    exact (Option.some.inj k4).symm
theorem qm_blind (as : List Value) (h : qm_H) : FrameBlind (qm_Pc G as h) := fun a U g mk q => ⟨q.1, q.2.1, qm_K.same (s := U) (U := U.calling g mk a) rfl q.2.2⟩
theorem qm_pre (hC : qm_C G M z) (hR : qm_Rep G h H) (hS0 : va_S (qm_A G) (qm_S z).heap H locs) (as : List Value) : ∀ U : State, U.heap = H → (qm_S z).WarmedH U.vm → qm_Pc G as h (as.map (qm_mv G)).toArray U := fun U hU hW => ⟨rfl, by rw [hU]; exact hR, by rw [hU]; exact qm_K.moved hW hS0.1 (fun a ha hn => hS0.2.1 a ha hn) hC.2.2.2.2.2.2.2.2⟩
theorem qm_staW (hC : qm_C G M z) (hR : qm_Rep G h H) (hS0 : va_S (qm_A G) (qm_S z).heap H locs) {idx n d C1 S1 : Nat} {y : qm_CI} {as rs : List Value} {uQ : Option Value → qm_H → Prop} (hk : qm_cok M.1 idx n y) (hst : Cond.static y.1 ∈ qm_tb) (hd1 : d + 1 ≤ (qm_R z).frames) (hd2 : 41 * (d + 1) ≤ (qm_R z).locals) (hE : qm_Ev G d C1 S1 y as h uQ) (hn : as.length = n) (hsz : ls.size = M.2.1.2.2.1) (hcat : (rs.map fun v => v.category).sum ≤ 8) (hc1 : c + C1 ≤ (qm_R z).cells) (hs1 : s + S1 ≤ (qm_R z).slots) (hd : decode M.2.1.2.1 pc = .ok (.invokestatic idx, 3))
    (kk : ∀ (v : Option Value) (h' : qm_H) (H1 : Heap) (locs1 : List Loc), uQ v h' → qm_Rep G h' H1 → va_S (qm_A G) (qm_S z).heap H1 locs1 → qm_W z H1 locs1 (c + C1) (s + S1) (F0 z.2.2.2.2.2.1 (pc + 3) ls ((v.map (qm_mv G)).toList ++ rs.map (qm_mv G)))) : qm_W z H locs c s (F0 z.2.2.2.2.2.1 pc ls ((as.reverse ++ rs).map (qm_mv G))) := by
  have hts := hC.2.2.2.2.1
  refine qm_after (rest := rs.map (qm_mv G)) (va_runS (As := as.map (qm_mv G)) ⟨hC.1, hC.2.1, hC.2.2.1, hC.2.2.2.1, hts⟩ (hE z.2.1) ⟨qm_callB hC hk hd1 hd2, hts _ hst⟩ ⟨qm_blind as h, qm_pre hC hR hS0 as⟩ rfl (by rw [List.length_map]; exact hn) hsz (by rw [List.map_append, List.map_reverse]) ?_ hd ⟨hc1, hs1⟩) hS0 kk
  refine lv_room ?_
  rw [List.map_map]
  refine Nat.le_trans (Nat.le_of_eq ?_) hcat
  congr 1
  refine List.map_congr_left fun v _ => ?_
  exact qm_mv_cat G v
theorem qm_recv (hC : qm_C G M z) (hR : qm_Rep G h H) {p ci : Nat} {r : vw_C} (hr : vwCl[ci]? = some r) (hc9 : ci < 9) (hi : qm_is G.2.2.2.2 h p ci) : ∃ cellB : Cell, H[qm_ad G p]? = some cellB ∧ cellB.vm.isStatics = false ∧ (qm_S z).vm.findClass r.1 = some cellB.cls := by
  obtain ⟨e1, r', e2, cell, q1, q2, q3, -⟩ := hR.obj hi hc9
  have e3 : r' = r := Option.some.inj (e2.symm.trans hr)
  subst e3
  exact ⟨cell, by rw [e1]; exact q1, by rw [q3]; rfl, by rw [q2]; exact (qm_cls hC hr).2.1⟩
theorem qm_virW (hC : qm_C G M z) (hR : qm_Rep G h H) (hS0 : va_S (qm_A G) (qm_S z).heap H locs) {idx n d C1 S1 ci p : Nat} {y : qm_CI} {as rs : List Value} {uQ : Option Value → qm_H → Prop} {r : vw_C} (hr : vwCl[ci]? = some r) (hc9 : ci < 9) (hi : qm_is G.2.2.2.2 h p ci) (hk : qm_cok M.1 idx n y) (hin : Cond.instanceMethod y.1 ∈ qm_tb) (hse : Cond.selects r.1 y.1 y.1 ∈ qm_tb) (hd1 : d + 1 ≤ (qm_R z).frames) (hd2 : 41 * (d + 1) ≤ (qm_R z).locals) (hE : qm_Ev G d C1 S1 y (.ref p :: as) h uQ) (hn : as.length = n) (hsz : ls.size = M.2.1.2.2.1) (hcat : (rs.map fun v => v.category).sum ≤ 8) (hc1 : c + C1 ≤ (qm_R z).cells) (hs1 : s + S1 ≤ (qm_R z).slots) (hd : decode M.2.1.2.1 pc = .ok (.invokevirtual idx, 3))
    (kk : ∀ (v : Option Value) (h' : qm_H) (H1 : Heap) (locs1 : List Loc), uQ v h' → qm_Rep G h' H1 → va_S (qm_A G) (qm_S z).heap H1 locs1 → qm_W z H1 locs1 (c + C1) (s + S1) (F0 z.2.2.2.2.2.1 (pc + 3) ls ((v.map (qm_mv G)).toList ++ rs.map (qm_mv G)))) : qm_W z H locs c s (F0 z.2.2.2.2.2.1 pc ls ((as.reverse ++ .ref p :: rs).map (qm_mv G))) := by
  have hts := hC.2.2.2.2.1
  refine qm_after (rest := rs.map (qm_mv G)) (va_runV (As := as.map (qm_mv G)) (b := qm_ad G p) (C := r.1) ⟨hC.1, hC.2.1, hC.2.2.1, hC.2.2.2.1, hts⟩ (hE z.2.1) ⟨qm_callB hC hk hd1 hd2, hts _ hin, hts _ hse⟩ ⟨qm_blind _ h, qm_recv hC hR hr hc9 hi, qm_pre hC hR hS0 (.ref p :: as)⟩ rfl (by rw [List.length_map]; exact hn) hsz (by rw [List.map_append, List.map_reverse]; rfl) ?_ hd ⟨hc1, hs1⟩) hS0 kk
  refine lv_room ?_
  rw [List.map_map]
  refine Nat.le_trans (Nat.le_of_eq ?_) hcat
  congr 1
  refine List.map_congr_left fun v _ => ?_
  exact qm_mv_cat G v
theorem qm_speW (hC : qm_C G M z) (hR : qm_Rep G h H) (hS0 : va_S (qm_A G) (qm_S z).heap H locs) {idx n d C1 S1 p : Nat} {y : qm_CI} {as rs : List Value} {uQ : Option Value → qm_H → Prop} (hk : qm_cok M.1 idx n y) (hret : y.2.2.2 = none) (hin : Cond.instanceMethod y.1 ∈ qm_tb) (hy1 : y.1.name = "<init>") (hd1 : d + 1 ≤ (qm_R z).frames) (hd2 : 41 * (d + 1) ≤ (qm_R z).locals) (hE : qm_Ev G d C1 S1 y (.ref p :: as) h uQ) (hn : as.length = n) (hsz : ls.size = M.2.1.2.2.1) (hcat : (rs.map fun v => v.category).sum ≤ 8) (hc1 : c + C1 ≤ (qm_R z).cells) (hs1 : s + S1 ≤ (qm_R z).slots) (hd : decode M.2.1.2.1 pc = .ok (.invokespecial idx, 3))
    (kk : ∀ (v : Option Value) (h' : qm_H) (H1 : Heap) (locs1 : List Loc), uQ v h' → qm_Rep G h' H1 → va_S (qm_A G) (qm_S z).heap H1 locs1 → qm_W z H1 locs1 (c + C1) (s + S1) (F0 z.2.2.2.2.2.1 (pc + 3) ls ((v.map (qm_mv G)).toList ++ rs.map (qm_mv G)))) : qm_W z H locs c s (F0 z.2.2.2.2.2.1 pc ls ((as.reverse ++ .ref p :: rs).map (qm_mv G))) := by
  have hts := hC.2.2.2.2.1
  obtain ⟨y1, y2, y3, y4⟩ := y
  dsimp only at hret
  subst hret
  refine qm_after (rest := rs.map (qm_mv G)) (va_runI (As := as.map (qm_mv G)) (b := qm_ad G p) ⟨hC.1, hC.2.1, hC.2.2.1, hC.2.2.2.1, hts⟩ (hE z.2.1) ⟨qm_callB hC hk hd1 hd2, hy1, hts _ hin⟩ ⟨qm_blind _ h, qm_pre hC hR hS0 (.ref p :: as)⟩ rfl (by rw [List.length_map]; exact hn) hsz (by rw [List.map_append, List.map_reverse]; rfl) ?_ hd ⟨hc1, hs1⟩) hS0 kk
  refine lv_room ?_
  rw [List.map_map]
  refine Nat.le_trans (Nat.le_of_eq ?_) hcat
  congr 1
  refine List.map_congr_left fun v _ => ?_
  exact qm_mv_cat G v
end Call
