/-! calls of nest mates; the start and the end of a method -/
section Nest
variable {G : qm_G} {M : qm_M} {z : qm_Z} {H : Heap} {locs : List Loc} {c s : Nat} {h : qm_H} {ls : Array Slot} {rest : List Value} {pc : Nat}
def qm_cokN (own : String) (idx n : Nat) (y : qm_CI) (host : String) : Prop := Cond.code y.1 y.2.1 y.2.2.1 y.2.2.2 ∈ qm_tb ∧ Cond.initialized y.1.cls ∈ qm_tb ∧ (y.1.cls ≠ "java/lang/invoke/MethodHandle" ∧ y.1.cls ≠ "java/lang/invoke/VarHandle") ∧ (parseMethodDescriptor y.1.desc).map (fun d => d.parameters.length) = some n ∧ Cond.methodLinkNest own idx y.1 host ∈ lw_tbl ∧ y.2.2.1 ≤ 22
theorem qm_callN (hC : qm_C G M z) {idx n d C1 S1 : Nat} {y : qm_CI} {host : String} (hk : qm_cokN M.1 idx n y host) (hd1 : d + 1 ≤ (qm_R z).frames) (hd2 : 41 * (d + 1) ≤ (qm_R z).locals) : va_CN (qm_R z) (qm_S z) z.2.2.2.2.2.2.1 M.1 idx y.1 host y.2.1 y.2.2.1 y.2.2.2 (qm_ws y) { frames := d, cells := C1, slots := S1, locals := 41 * d } C1 S1 n := by
  obtain ⟨k1, k2, k3, k4, k5, k6⟩ := hk
  have hts := hC.2.2.2.2.1
  refine ⟨⟨rfl, rfl, hd1, ?_, pay_in (big := qm_tb) hts (fun w hw => ?_), List.mem_cons_self⟩, hts _ k1, hts _ k2, k3, fun sig e => ?_, va_Nw.use rfl (hC.2.2.2.2.2.2.2.2.2.1.1 _ k5 rfl)⟩
  · show 8 + (y.2.2.1 + 11) + 41 * d ≤ _
    omega
  · rcases List.mem_cons.mp hw with rfl | hw
    · exact ⟨k1, qm_good k1⟩
    · exact ⟨hw, qm_good hw⟩
  · rw [e] at k4
    exact (Option.some.inj k4).symm
theorem qm_staNW (hC : qm_C G M z) (hR : qm_Rep G h H) (hS0 : va_S (qm_A G) (qm_S z).heap H locs) {idx n d C1 S1 : Nat} {y : qm_CI} {host : String} {as rs : List Value} {uQ : Option Value → qm_H → Prop} (hk : qm_cokN M.1 idx n y host) (hst : Cond.static y.1 ∈ qm_tb) (hd1 : d + 1 ≤ (qm_R z).frames) (hd2 : 41 * (d + 1) ≤ (qm_R z).locals) (hE : qm_Ev G d C1 S1 y as h uQ) (hn : as.length = n) (hsz : ls.size = M.2.1.2.2.1) (hcat : (rs.map fun v => v.category).sum ≤ 8) (hc1 : c + C1 ≤ (qm_R z).cells) (hs1 : s + S1 ≤ (qm_R z).slots) (hd : decode M.2.1.2.1 pc = .ok (.invokestatic idx, 3))
    (kk : ∀ (v : Option Value) (h' : qm_H) (H1 : Heap) (locs1 : List Loc), uQ v h' → qm_Rep G h' H1 → va_S (qm_A G) (qm_S z).heap H1 locs1 → qm_W z H1 locs1 (c + C1) (s + S1) (F0 z.2.2.2.2.2.1 (pc + 3) ls ((v.map (qm_mv G)).toList ++ rs.map (qm_mv G)))) : qm_W z H locs c s (F0 z.2.2.2.2.2.1 pc ls ((as.reverse ++ rs).map (qm_mv G))) := by
  have hts := hC.2.2.2.2.1
  refine qm_after (rest := rs.map (qm_mv G)) (va_runSN (As := as.map (qm_mv G)) ⟨hC.1, hC.2.1, hC.2.2.1, hC.2.2.2.1, hts⟩ (hE z.2.1) ⟨qm_callN hC hk hd1 hd2, hts _ hst, trivial⟩ ⟨qm_blind as h, qm_pre hC hR hS0 as⟩ rfl (by rw [List.length_map]; exact hn) hsz (by rw [List.map_append, List.map_reverse]) ?_ hd ⟨hc1, hs1⟩) hS0 kk
  refine lv_room ?_
  rw [List.map_map]
  refine Nat.le_trans (Nat.le_of_eq ?_) hcat
  congr 1
  refine List.map_congr_left fun v _ => ?_
  exact qm_mv_cat G v
theorem qm_speNW (hC : qm_C G M z) (hR : qm_Rep G h H) (hS0 : va_S (qm_A G) (qm_S z).heap H locs) {idx n d C1 S1 p : Nat} {y : qm_CI} {host : String} {as rs : List Value} {uQ : Option Value → qm_H → Prop} (hk : qm_cokN M.1 idx n y host) (hret : y.2.2.2 = none) (hin : Cond.instanceMethod y.1 ∈ qm_tb) (hy1 : y.1.name = "<init>") (hd1 : d + 1 ≤ (qm_R z).frames) (hd2 : 41 * (d + 1) ≤ (qm_R z).locals) (hE : qm_Ev G d C1 S1 y (.ref p :: as) h uQ) (hn : as.length = n) (hsz : ls.size = M.2.1.2.2.1) (hcat : (rs.map fun v => v.category).sum ≤ 8) (hc1 : c + C1 ≤ (qm_R z).cells) (hs1 : s + S1 ≤ (qm_R z).slots) (hd : decode M.2.1.2.1 pc = .ok (.invokespecial idx, 3))
    (kk : ∀ (v : Option Value) (h' : qm_H) (H1 : Heap) (locs1 : List Loc), uQ v h' → qm_Rep G h' H1 → va_S (qm_A G) (qm_S z).heap H1 locs1 → qm_W z H1 locs1 (c + C1) (s + S1) (F0 z.2.2.2.2.2.1 (pc + 3) ls ((v.map (qm_mv G)).toList ++ rs.map (qm_mv G)))) : qm_W z H locs c s (F0 z.2.2.2.2.2.1 pc ls ((as.reverse ++ .ref p :: rs).map (qm_mv G))) := by
  have hts := hC.2.2.2.2.1
  obtain ⟨y1, y2, y3, y4⟩ := y
  dsimp only at hret
  subst hret
  refine qm_after (rest := rs.map (qm_mv G)) (va_runIN (As := as.map (qm_mv G)) (b := qm_ad G p) ⟨hC.1, hC.2.1, hC.2.2.1, hC.2.2.2.1, hts⟩ (hE z.2.1) ⟨qm_callN hC hk hd1 hd2, hy1, hts _ hin⟩ ⟨qm_blind _ h, qm_pre hC hR hS0 (.ref p :: as)⟩ rfl (by rw [List.length_map]; exact hn) hsz (by rw [List.map_append, List.map_reverse]; rfl) ?_ hd ⟨hc1, hs1⟩) hS0 kk
  refine lv_room ?_
  rw [List.map_map]
  refine Nat.le_trans (Nat.le_of_eq ?_) hcat
  congr 1
  refine List.map_congr_left fun v _ => ?_
  exact qm_mv_cat G v
end Nest
/-- the end that a walk of a method wants -/
def qm_MQ (G : qm_G) (z : qm_Z) (uQ : Option Value → qm_H → Prop) : Prop := z.2.2.2.2.2.2.2.2.2.2 = MQ z.2.2.2.2.2.2.2.1 (qm_Qc G uQ) z.2.2.2.2.2.2.1 (qm_S z) (qm_R z).cells (qm_R z).slots (qm_A G)
/-- the locals at the start -/
def qm_in : List Value → qm_L
  | [] => []
  | v :: vs => bif qm_two (some (some v)) then some v :: none :: qm_in vs else some v :: qm_in vs
def qm_L0 (n : Nat) (as : List Value) : qm_L := qm_in as ++ List.replicate (n - (qm_in as).length) none
theorem qm_in_len (G : qm_G) : ∀ as : List Value, (lg_sl (as.map (qm_mv G))).length = (qm_in as).length
  | [] => rfl
  | v :: vs => by
    have ih := qm_in_len G vs
    unfold lg_sl at ih ⊢
    rw [List.map_cons, List.flatMap_cons, List.length_append, ih, qm_mv_cat]
    have e0 : qm_in (v :: vs) = bif qm_two (some (some v)) then some v :: none :: qm_in vs else some v :: qm_in vs := rfl
    rw [e0, qm_two_cat]
    rcases lv_cat v with e | e <;> simp [e] <;> omega
theorem qm_in_args (G : qm_G) : ∀ (as : List Value) (i j : Nat) (v : Value), (qm_in as)[j]? = some (some v) → (i + j, qm_mv G v) ∈ lv_args i (as.map (qm_mv G))
  | [], i, j, v, h => by simp [qm_in] at h
  | w :: vs, i, j, v, h => by
    unfold qm_in at h
    rw [qm_two_cat] at h
    rw [List.map_cons, lv_args, qm_mv_cat]
    rcases lv_cat w with e | e
    · simp only [e, Nat.reduceBEq, cond_false, Nat.reduceEqDiff, if_false] at h ⊢
      cases j with
      | zero => simp at h; subst h; simp
      | succ j =>
        have := qm_in_args G vs (i + 1) j v (by simpa using h)
        refine List.mem_cons_of_mem _ ?_
        rw [show i + (j + 1) = i + 1 + j by omega]
        exact this
    · simp only [e, Nat.reduceBEq, cond_true, if_true] at h ⊢
      match j with
      | 0 => simp at h; subst h; simp
      | 1 => simp at h
      | j + 2 =>
        have := qm_in_args G vs (i + 2) j v (by simpa using h)
        refine List.mem_cons_of_mem _ ?_
        rw [show i + (j + 2) = i + 2 + j by omega]
        exact this
theorem qm_L0_lv (G : qm_G) (n : Nat) (as : List Value) (h : (qm_in as).length ≤ n) : qm_lv G ((lg_sl (as.map (qm_mv G)) ++ List.replicate (n - (lg_sl (as.map (qm_mv G))).length) Slot.unset).toArray) n (qm_L0 n as) := by
  have h1 := lv_entry (as.map (qm_mv G)) (n := n) (by rw [qm_in_len]; exact h)
  refine ⟨h1.1, h1.2.1, fun q hq => ?_⟩
  obtain ⟨j, w, hw, rfl⟩ := (qm_al_mem G _ 0 q).mp hq
  refine h1.2.2 _ (qm_in_args G as 0 j w ?_)
  unfold qm_L0 at hw
  rw [List.getElem?_append] at hw
  split at hw
  · exact hw
  · rw [List.getElem?_replicate] at hw
    split at hw <;> cases hw
/-- A CONTRACT OUT OF A WALK -/
theorem qm_Ev.intro {G : qm_G} {d C S : Nat} (M : qm_M) {as : List Value} {h : qm_H} {uQ : Option Value → qm_H → Prop} (hy : plainName M.2.1.1.cls = true) (hown : M.1 = M.2.1.1.cls) (hn : (qm_in as).length ≤ M.2.1.2.2.1) (h0 : qm_pc M 0 = 0)
    (body : ∀ z : qm_Z, qm_C G M z → qm_R z = { frames := d, cells := C, slots := S, locals := 41 * d } → qm_MQ G z uQ → qm_PW G M z 0 0 0 (qm_L0 M.2.1.2.2.1 as) [] h) : qm_Ev G d C S M.2.1 as h uQ := by
  intro l
  refine Met.ofW (cc := M.2.1.2.1) (maxL := M.2.1.2.2.1) (ret := M.2.1.2.2.2) hy rfl ?_
  intro p e s m args below meth c s₁ B hml hv
  obtain ⟨rfl, hR, hK⟩ := hv
  have hts : ∀ w ∈ qm_tb, w.before (as.map (qm_mv G)).toArray s = true := fun w hw => atoms_spec (ws := qm_ws M.2.1) B.pre w (List.mem_cons_of_mem _ hw)
  have hown2 : s.vm.findClass M.1 = some m.cls := by rw [hown]; exact findClass_of_methodNamed B.named
  have hPW := body (p, l, e, { frames := d, cells := C, slots := S, locals := 41 * d }, s, m, (as.map (qm_mv G)).toArray, below, meth, c, MQ below (qm_Qc G uQ) (as.map (qm_mv G)).toArray s C S (qm_A G)) ⟨B.exec, B.bytes, hml, hown2, hts, B.notSynchronized, B.returns, (name_of_methodNamed B.named B.method).1, hK⟩ rfl rfl
  have := hPW s.heap [] _ (Nat.zero_le _) (Nat.zero_le _) hR va_S.rf (qm_L0_lv G _ as hn)
  rw [h0] at this
  rw [lg_entry_eq]
  exact this
section Ret
variable {G : qm_G} {M : qm_M} {z : qm_Z} {H : Heap} {locs : List Loc} {c s : Nat} {h : qm_H} {ls : Array Slot} {pc : Nat} {uQ : Option Value → qm_H → Prop}
theorem qm_qc (hR : qm_Rep G h H) (hS0 : va_S (qm_A G) (qm_S z).heap H locs) (v : Option Value) (hq : uQ v h) : ∀ t : State, t.heap = H → (qm_S z).WarmedH t.vm → qm_Qc G uQ z.2.2.2.2.2.2.1 (qm_S z) (.returned (v.map (qm_mv G))) t := fun t ht _ => ⟨v, h, rfl, hq, by rw [ht]; exact hR, hS0.F ht⟩
theorem qm_iretW (hC : qm_C G M z) (hZ : qm_MQ G z uQ) (hR : qm_Rep G h H) (hS0 : va_S (qm_A G) (qm_S z).heap H locs) (hc : c ≤ (qm_R z).cells) (hs : s ≤ (qm_R z).slots) {x : Int32} {ty : FieldType} (hty : M.2.1.2.2.2 = some ty) (hn : narrow ty (.int x) = .int x) (hq : uQ (some (.int x)) h) (hd : decode M.2.1.2.1 pc = .ok (.ireturn, 1)) : qm_W z H locs c s (F0 z.2.2.2.2.2.1 pc ls [.int x]) := by
  unfold qm_W
  rw [hZ]
  exact W.widen hc hs (W.zret hC.1 hC.2.1 (hC.2.2.2.2.2.2.1.trans hty) hn (qm_qc hR hS0 (some (.int x)) hq) hS0.2.2 hd hC.2.2.2.2.2.1)
theorem qm_lretW (hC : qm_C G M z) (hZ : qm_MQ G z uQ) (hR : qm_Rep G h H) (hS0 : va_S (qm_A G) (qm_S z).heap H locs) (hc : c ≤ (qm_R z).cells) (hs : s ≤ (qm_R z).slots) {x : Int64} (hty : M.2.1.2.2.2 = some .long) (hq : uQ (some (.long x)) h) (hd : decode M.2.1.2.1 pc = .ok (.lreturn, 1)) : qm_W z H locs c s (F0 z.2.2.2.2.2.1 pc ls [.long x]) := by
  unfold qm_W
  rw [hZ]
  exact W.widen hc hs (W.lret hC.1 hC.2.1 (hC.2.2.2.2.2.2.1.trans hty) (qm_qc hR hS0 (some (.long x)) hq) hS0.2.2 hd hC.2.2.2.2.2.1)
theorem qm_vretW (hC : qm_C G M z) (hZ : qm_MQ G z uQ) (hR : qm_Rep G h H) (hS0 : va_S (qm_A G) (qm_S z).heap H locs) (hc : c ≤ (qm_R z).cells) (hs : s ≤ (qm_R z).slots) (hty : M.2.1.2.2.2 = none) (hq : uQ none h) (hd : decode M.2.1.2.1 pc = .ok (.return_, 1)) : qm_W z H locs c s (F0 z.2.2.2.2.2.1 pc ls []) := by
  unfold qm_W
  rw [hZ]
  exact W.widen hc hs (W.vret hC.1 hC.2.1 (hC.2.2.2.2.2.2.1.trans hty) (qm_qc hR hS0 none hq) hS0.2.2 hd hC.2.2.2.2.2.1)
theorem qm_aretW (hC : qm_C G M z) (hZ : qm_MQ G z uQ) (hR : qm_Rep G h H) (hS0 : va_S (qm_A G) (qm_S z).heap H locs) (hc : c ≤ (qm_R z).cells) (hs : s ≤ (qm_R z).slots) {v : Value} {rt : FieldType} (hty : M.2.1.2.2.2 = some rt) (hrt : (∃ n, rt = .object n) ∨ ∃ t, rt = .array t) (hv : v = .null ∨ ∃ a, v = .ref a) (hq : uQ (some v) h) (hd : decode M.2.1.2.1 pc = .ok (.areturn, 1)) : qm_W z H locs c s (F0 z.2.2.2.2.2.1 pc ls [qm_mv G v]) := by
  unfold qm_W
  rw [hZ]
  exact W.widen hc hs (W.aret hC.1 hC.2.1 (hC.2.2.2.2.2.2.1.trans hty) hrt (by rcases hv with rfl | ⟨a, rfl⟩; exact Or.inl rfl; exact Or.inr ⟨_, rfl⟩) (qm_qc hR hS0 (some v) hq) hS0.2.2 hd hC.2.2.2.2.2.1)
end Ret
