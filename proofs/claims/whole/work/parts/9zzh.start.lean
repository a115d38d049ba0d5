/-! what the start gives: classes, arrays, statics, words -/
theorem wd_in {w : Cond} (i : Nat) (h : decide (lw_tbl[i]? = some w) = true) : w ∈ lw_tbl := List.mem_of_getElem? (of_decide_eq_true h)
theorem s_cls {args : Array Value} {s : State} (hts : ∀ w ∈ lw_tbl, w.before args s = true) : ∃ D : va_G, ∀ (c : Nat) (q : vw_C), vwCl[c]? = some q → u_Kn s q.1 q.2.1 q.2.2 (D.1 c) (D.2 c) := by
  have ex : ∀ c : Nat, ∃ r : ClassId × (Nat → Nat), ∀ q : vw_C, vwCl[c]? = some q → u_Kn s q.1 q.2.1 q.2.2 r.1 r.2 := by
    intro c
    have go : ∀ {C : String} {T : u_T} {N n : Nat}, (∀ w ∈ u_ws C T N, w ∈ lw_tbl) → (Cond.instantiable C n) ∈ lw_tbl → ∃ r : ClassId × (Nat → Nat), u_Kn s C T N r.1 r.2 := fun h1 h2 => by
      obtain ⟨cC, iS, h⟩ := u_known hts h1 (hts _ h2)
      exact ⟨(cC, iS), h⟩
    have out : ∀ {C : String} {T : u_T} {N : Nat}, vwCl[c]? = some (C, T, N) → (∃ r : ClassId × (Nat → Nat), u_Kn s C T N r.1 r.2) → ∃ r : ClassId × (Nat → Nat), ∀ q : vw_C, vwCl[c]? = some q → u_Kn s q.1 q.2.1 q.2.2 r.1 r.2 := fun e ⟨r, h⟩ => ⟨r, fun q hq => by
      rw [e] at hq
      cases hq
      exact h⟩
    match c with
    | 0 => exact out rfl (go (n := 14) (by decide +kernel) (wd_in 223 (by decide +kernel)))
    | 1 => exact out rfl (go (n := 9) (by decide +kernel) (wd_in 187 (by decide +kernel)))
    | 2 => exact out rfl (go (n := 2) (by decide +kernel) (wd_in 579 (by decide +kernel)))
    | 3 => exact out rfl (go (n := 9) (by decide +kernel) (wd_in 278 (by decide +kernel)))
    | 4 => exact out rfl (go (n := 1) (by decide +kernel) (wd_in 314 (by decide +kernel)))
    | 5 => exact out rfl (go (n := 8) (by decide +kernel) (wd_in 145 (by decide +kernel)))
    | 6 => exact out rfl (go (n := 9) (by decide +kernel) (wd_in 500 (by decide +kernel)))
    | 7 => exact out rfl (go (n := 6) (by decide +kernel) (wd_in 137 (by decide +kernel)))
    | 8 => exact out rfl (go (n := 47) (by decide +kernel) (wd_in 1081 (by decide +kernel)))
    | n + 9 => exact ⟨(0, fun _ => 0), fun q hq => by cases hq⟩
  exact ⟨(fun c => (ex c).choose.1, fun c => (ex c).choose.2), fun c q hq => (ex c).choose_spec q hq⟩
theorem s_arr {args : Array Value} {s : State} (hts : ∀ w ∈ lw_tbl, w.before args s = true) : ∃ K : Nat → ClassId, ∀ (k : Nat) (q : ClassId × FieldType), ([(K 9, .byte), (K 10, .int), (K 11, .boolean), (K 12, .object RX3), (K 13, .object RX7), (K 14, .object RX8)] : List (ClassId × FieldType))[k]? = some q → ArrOfT s q.1 q.2 ∧ va_RA s q.1 q.2 := by
  obtain ⟨c9, k9, p9, a9, b9, d9⟩ := Cond.arrayClass_spec (hts (.arrayClass .byte) (wd_in 183 (by decide +kernel)))
  obtain ⟨c10, k10, p10, a10, b10, d10⟩ := Cond.arrayClass_spec (hts (.arrayClass .int) (wd_in 184 (by decide +kernel)))
  obtain ⟨c11, k11, p11, a11, b11, d11⟩ := Cond.arrayClass_spec (hts (.arrayClass .boolean) (wd_in 1229 (by decide +kernel)))
  obtain ⟨p12, c12, k12, e12, -, b12, d12, a12⟩ := Cond.arrayOver_spec (hts (.arrayOver (.object RX3)) (wd_in 153 (by decide +kernel)))
  obtain ⟨p13, c13, k13, e13, -, b13, d13, a13⟩ := Cond.arrayOver_spec (hts (.arrayOver (.object RX7)) (wd_in 185 (by decide +kernel)))
  obtain ⟨p14, c14, k14, e14, -, b14, d14, a14⟩ := Cond.arrayOver_spec (hts (.arrayOver (.object RX8)) (wd_in 151 (by decide +kernel)))
  have ar : ∀ {cA : ClassId} {kA : Class} {comp : ClassId} {ty : FieldType}, s.vm.classes[cA]? = some kA → kA.kind = .array comp ty → ArrOfT s cA ty := fun {cA kA comp ty} h2 h3 n z => ⟨fun k h => (by cases h), kA, h2, comp, h3⟩
  refine ⟨fun k => if k = 9 then c9 else if k = 10 then c10 else if k = 11 then c11 else if k = 12 then c12 else if k = 13 then c13 else c14, fun k q hq => ?_⟩
  match k with
  | 0 => cases hq; exact ⟨ar b9 d9, a9⟩
  | 1 => cases hq; exact ⟨ar b10 d10, a10⟩
  | 2 => cases hq; exact ⟨ar b11 d11, a11⟩
  | 3 => cases hq; exact ⟨ar b12 d12, k12, p12, b12, d12, e12, a12⟩
  | 4 => cases hq; exact ⟨ar b13 d13, k13, p13, b13, d13, e13, a13⟩
  | 5 => cases hq; exact ⟨ar b14 d14, k14, p14, b14, d14, e14, a14⟩
  | n + 6 => cases hq
def flG : List Cond := flatC (Jvm.Cond.and given_1 narrow_1)
def stM (C n d : String) (N : Nat) (f : Nat → Term) : Bool := decide (Cond.eq (.length (.static C n d)) (.int (Int32.ofNat N)) ∈ flG) && (List.range N).all fun j => decide (Cond.eq (.elem (.static C n d) (.int (Int32.ofNat j))) (f j) ∈ flG)
theorem s_tab {args : Array Value} {s : State} (fl : ∀ w ∈ flG, w.before args s = true) (hts : ∀ w ∈ lw_tbl, w.before args s = true) {C n d : String} {N : Nat} {g : Nat → Int32} (i1 i2 : Nat) (w1 : decide (lw_tbl[i1]? = some (Cond.laysStatic C n d)) = true) (w2 : decide (lw_tbl[i2]? = some (Cond.initialized C)) = true) (hN : N < 2 ^ 31) (ha : decide (Cond.arrayOf (.static C n d) .int ∈ flG) = true) (hm : stM C n d N (fun j => .int (g j)) = true) : ∃ t : Nat, va_Z C n d (.ref t) (fun q => s.heap.size ≤ q) s s.heap ∧ va_T .int t N (fun j => .int (g j)) (fun q => s.heap.size ≤ q) s s.heap := by
  unfold stM at hm
  rw [Bool.and_eq_true] at hm
  have hA : ∀ a : Nat, a < s.heap.size → ¬ s.heap.size ≤ a := fun a h => Nat.not_le.mpr h
  obtain ⟨t, ht, hT⟩ := va_Tof (f := fun j => .int (g j)) hN (fl _ (of_decide_eq_true ha)) (va_eqt (fl _ (of_decide_eq_true hm.1))) (fun j hj => va_eqt (fl _ (of_decide_eq_true (List.all_eq_true.mp hm.2 j (List.mem_range.mpr hj))))) hA
  exact ⟨t, va_Zref (hts _ (wd_in i1 w1)) (hts _ (wd_in i2 w2)) ht hA, hT⟩
theorem s_tabl {args : Array Value} {s : State} (fl : ∀ w ∈ flG, w.before args s = true) (hts : ∀ w ∈ lw_tbl, w.before args s = true) {C n d : String} {N : Nat} {g : Nat → Int64} (i1 i2 : Nat) (w1 : decide (lw_tbl[i1]? = some (Cond.laysStatic C n d)) = true) (w2 : decide (lw_tbl[i2]? = some (Cond.initialized C)) = true) (hN : N < 2 ^ 31) (ha : decide (Cond.arrayOf (.static C n d) .long ∈ flG) = true) (hm : stM C n d N (fun j => .long (g j)) = true) : ∃ t : Nat, va_Z C n d (.ref t) (fun q => s.heap.size ≤ q) s s.heap ∧ va_T .long t N (fun j => .long (g j)) (fun q => s.heap.size ≤ q) s s.heap := by
  unfold stM at hm
  rw [Bool.and_eq_true] at hm
  have hA : ∀ a : Nat, a < s.heap.size → ¬ s.heap.size ≤ a := fun a h => Nat.not_le.mpr h
  obtain ⟨t, ht, hT⟩ := va_Tof (f := fun j => .long (g j)) hN (fl _ (of_decide_eq_true ha)) (va_eqt (fl _ (of_decide_eq_true hm.1))) (fun j hj => va_eqtl (fl _ (of_decide_eq_true (List.all_eq_true.mp hm.2 j (List.mem_range.mpr hj))))) hA
  exact ⟨t, va_Zref (hts _ (wd_in i1 w1)) (hts _ (wd_in i2 w2)) ht hA, hT⟩
def sT (i : Nat) : Term := .string RX2 ((qm_SW[i]?).getD (0, "")).1
def sM0 : Bool := (List.range 12).all fun i => decide (Cond.exactly (sT i) "java/lang/String" ∈ flG) && (decide (Cond.eq (.field (sT i) "java/lang/String" "coder" "B") (.int 0) ∈ flG) && (decide (Cond.arrayOf (.field (sT i) "java/lang/String" "value" "[B") .byte ∈ flG) && decide (Cond.eq (.length (.field (sT i) "java/lang/String" "value" "[B")) (.int (Int32.ofNat (qm_SLn.getD i 0))) ∈ flG)))
def sM1 : Bool := (List.range 12).all fun i => (List.range (qm_SLn.getD i 0)).all fun j => decide (Cond.eq (.elem (.field (sT i) "java/lang/String" "value" "[B") (.int (Int32.ofNat j))) (.int ((qm_SB.getD i []).getD j 0)) ∈ flG)
def sN (i : Nat) : Bool := (List.range 12).all fun j => decide (j ≤ i) || decide (Cond.not (Cond.eq (sT i) (sT j)) ∈ flG)
set_option maxRecDepth 100000 in
theorem sM0_ok : sM0 = true := by decide +kernel
set_option maxRecDepth 100000 in
theorem sM1_ok : sM1 = true := by decide +kernel
set_option maxRecDepth 100000 in
theorem sN_0 : sN 0 = true := by decide +kernel
set_option maxRecDepth 100000 in
theorem sN_1 : sN 1 = true := by decide +kernel
set_option maxRecDepth 100000 in
theorem sN_2 : sN 2 = true := by decide +kernel
set_option maxRecDepth 100000 in
theorem sN_3 : sN 3 = true := by decide +kernel
set_option maxRecDepth 100000 in
theorem sN_4 : sN 4 = true := by decide +kernel
set_option maxRecDepth 100000 in
theorem sN_5 : sN 5 = true := by decide +kernel
set_option maxRecDepth 100000 in
theorem sN_6 : sN 6 = true := by decide +kernel
set_option maxRecDepth 100000 in
theorem sN_7 : sN 7 = true := by decide +kernel
set_option maxRecDepth 100000 in
theorem sN_8 : sN 8 = true := by decide +kernel
set_option maxRecDepth 100000 in
theorem sN_9 : sN 9 = true := by decide +kernel
set_option maxRecDepth 100000 in
theorem sN_10 : sN 10 = true := by decide +kernel
set_option maxRecDepth 100000 in
theorem sN_11 : sN 11 = true := by decide +kernel
theorem sN_ok : ∀ i, i < 12 → sN i = true
  | 0, _ => sN_0
  | 1, _ => sN_1
  | 2, _ => sN_2
  | 3, _ => sN_3
  | 4, _ => sN_4
  | 5, _ => sN_5
  | 6, _ => sN_6
  | 7, _ => sN_7
  | 8, _ => sN_8
  | 9, _ => sN_9
  | 10, _ => sN_10
  | 11, _ => sN_11
  | n + 12, h => absurd h (by omega)
theorem s_str {args : Array Value} {s : State} (fl : ∀ w ∈ flG, w.before args s = true) : ∃ adK adV : Nat → Nat, vk_S 12 qm_SLn qm_SB adK adV (fun q => s.heap.size ≤ q) s s.heap ∧ ∀ i : Nat, i < 12 → (sT i).eval args s none [] s = some (.ref (adK i)) := by
  have m0 : ∀ i, i < 12 → Cond.exactly (sT i) "java/lang/String" ∈ flG ∧ Cond.eq (.field (sT i) "java/lang/String" "coder" "B") (.int 0) ∈ flG ∧ Cond.arrayOf (.field (sT i) "java/lang/String" "value" "[B") .byte ∈ flG ∧ Cond.eq (.length (.field (sT i) "java/lang/String" "value" "[B")) (.int (Int32.ofNat (qm_SLn.getD i 0))) ∈ flG := fun i hi => by
    have := List.all_eq_true.mp sM0_ok i (List.mem_range.mpr hi)
    rw [Bool.and_eq_true, Bool.and_eq_true, Bool.and_eq_true, decide_eq_true_eq, decide_eq_true_eq, decide_eq_true_eq, decide_eq_true_eq] at this
    exact this
  refine vk_Sof (tm := sT) (by decide) (fun i hi => fl _ (m0 i hi).1) (fun i hi => fl _ (m0 i hi).2.1) (fun i hi => fl _ (m0 i hi).2.2.1) (fun i hi => fl _ (m0 i hi).2.2.2) (fun i hi j hj => fl _ (of_decide_eq_true (List.all_eq_true.mp (List.all_eq_true.mp sM1_ok i (List.mem_range.mpr hi)) j (List.mem_range.mpr hj)))) (fun i j hi hj hne => ?_) (fun a h => Nat.not_le.mpr h)
  have go : ∀ i j, i < 12 → j < 12 → i < j → Cond.not (Cond.eq (sT i) (sT j)) ∈ flG := fun i j hi hj h => by
    have := List.all_eq_true.mp (sN_ok i hi) j (List.mem_range.mpr hj)
    rw [Bool.or_eq_true, decide_eq_true_eq, decide_eq_true_eq] at this
    rcases this with q | q
    · omega
    · exact q
  rcases Nat.lt_or_gt_of_ne hne with q | q
  · exact Or.inl (fl _ (go i j hi hj q))
  · exact Or.inr (fl _ (go j i hj hi q))
def sR12 : Bool := (List.range 12).all fun i => decide (lw_tbl[396 + i]? = some (Cond.stringRef RX2 ((qm_SW[i]?).getD (0, "")).1 ((qm_SW[i]?).getD (0, "")).2))
set_option maxRecDepth 100000 in
theorem sR12_ok : sR12 = true := by decide +kernel
/-- all that a walk stands on, out of the start -/
theorem s_all {args : Array Value} {s : State} (fl : ∀ w ∈ flG, w.before args s = true) (hts : ∀ w ∈ lw_tbl, w.before args s = true) (b : Nat) : ∃ G : qm_G, G.2.2.2.2 = false ∧ G.2.2.1 = s.heap.size ∧ G.2.2.2.1 31 = b ∧ qm_K G s s.heap := by
  obtain ⟨D, hD⟩ := s_cls hts
  obtain ⟨K, hK⟩ := s_arr hts
  obtain ⟨t0, z0, h0⟩ := s_tabl (g := qm_stl) fl hts (C := "OneStatement") (n := "HAVING") (d := "[J") (N := 6) 573 116 (by decide +kernel) (by decide +kernel) (by decide) (by decide +kernel) (by decide +kernel)
  obtain ⟨t1, z1, h1⟩ := s_tab (g := qm_sti 1) fl hts (C := "OneStatement$Reader") (n := "FIRST_WORD") (d := "[I") (N := 4) 392 118 (by decide +kernel) (by decide +kernel) (by decide) (by decide +kernel) (by decide +kernel)
  obtain ⟨t2, z2, h2⟩ := s_tab (g := qm_sti 2) fl hts (C := "OneStatement$Reader") (n := "LIMIT") (d := "[I") (N := 3) 469 118 (by decide +kernel) (by decide +kernel) (by decide) (by decide +kernel) (by decide +kernel)
  obtain ⟨t3, z3, h3⟩ := s_tab (g := qm_sti 3) fl hts (C := "OneStatement$Reader") (n := "NUMBERS") (d := "[I") (N := 12) 475 118 (by decide +kernel) (by decide +kernel) (by decide) (by decide +kernel) (by decide +kernel)
  obtain ⟨t4, z4, h4⟩ := s_tab (g := qm_sti 4) fl hts (C := "OneStatement$Reader") (n := "FIRST_MOST") (d := "[I") (N := 12) 480 118 (by decide +kernel) (by decide +kernel) (by decide) (by decide +kernel) (by decide +kernel)
  obtain ⟨t5, z5, h5⟩ := s_tab (g := qm_sti 5) fl hts (C := "OneStatement$Reader") (n := "SECOND_MOST") (d := "[I") (N := 12) 482 118 (by decide +kernel) (by decide +kernel) (by decide) (by decide +kernel) (by decide +kernel)
  obtain ⟨adK, adV, hS, hE⟩ := s_str fl
  have hA : ∀ a : Nat, a < s.heap.size → ¬ s.heap.size ≤ a := fun a h => Nat.not_le.mpr h
  have zc : va_Z "java/lang/String" "COMPACT_STRINGS" "Z" (.int 1) (fun q => s.heap.size ≤ q) s s.heap := va_Zof (hts _ (wd_in 421 (by decide +kernel))) (hts _ (wd_in 124 (by decide +kernel))) (va_eqi (fl _ (by decide +kernel))) hA
  have zf : va_Zq "jdk/internal/util/Preconditions" "SIOOBE_FORMATTER" "Ljava/util/function/BiFunction;" (fun q => s.heap.size ≤ q) s s.heap := va_Zqof (hts _ (wd_in 437 (by decide +kernel))) (hts _ (wd_in 126 (by decide +kernel))) (fl _ (by decide +kernel)) hA
  obtain ⟨fm, zf⟩ : ∃ fm : Nat, va_Z "jdk/internal/util/Preconditions" "SIOOBE_FORMATTER" "Ljava/util/function/BiFunction;" .null (fun q => s.heap.size ≤ q) s s.heap ∨ va_Z "jdk/internal/util/Preconditions" "SIOOBE_FORMATTER" "Ljava/util/function/BiFunction;" (.ref fm) (fun q => s.heap.size ≤ q) s s.heap := by
    rcases zf with q | ⟨t, q⟩
    · exact ⟨0, Or.inl q⟩
    · exact ⟨t, Or.inr q⟩
  obtain ⟨cst, hcst⟩ : ∃ cst : Nat → Nat, cst = fun i => if i = 0 then t0 else if i = 1 then t1 else if i = 2 then t2 else if i = 3 then t3 else if i = 4 then t4 else if i = 5 then t5 else if i < 18 then adK (i - 6) else if i < 30 then adV (i - 18) else if i = 30 then fm else b := ⟨_, rfl⟩
  have cK : ∀ i, i < 12 → cst (6 + i) = adK i := fun i hi => by
    rw [hcst]
    show (if 6 + i = 0 then t0 else if 6 + i = 1 then t1 else if 6 + i = 2 then t2 else if 6 + i = 3 then t3 else if 6 + i = 4 then t4 else if 6 + i = 5 then t5 else if 6 + i < 18 then adK (6 + i - 6) else if 6 + i < 30 then adV (6 + i - 18) else if 6 + i = 30 then fm else b) = adK i
    rw [if_neg (by omega), if_neg (by omega), if_neg (by omega), if_neg (by omega), if_neg (by omega), if_neg (by omega), if_pos (by omega), Nat.add_sub_cancel_left]
  have cV : ∀ i, i < 12 → cst (18 + i) = adV i := fun i hi => by
    rw [hcst]
    show (if 18 + i = 0 then t0 else if 18 + i = 1 then t1 else if 18 + i = 2 then t2 else if 18 + i = 3 then t3 else if 18 + i = 4 then t4 else if 18 + i = 5 then t5 else if 18 + i < 18 then adK (18 + i - 6) else if 18 + i < 30 then adV (18 + i - 18) else if 18 + i = 30 then fm else b) = adV i
    rw [if_neg (by omega), if_neg (by omega), if_neg (by omega), if_neg (by omega), if_neg (by omega), if_neg (by omega), if_neg (by omega), if_pos (by omega), Nat.add_sub_cancel_left]
  refine ⟨(D, K, s.heap.size, cst, false), rfl, rfl, by rw [hcst]; rfl, ⟨hD, hK⟩, ⟨fun w hw hn => ?_, fun C hC => ?_, fun i q hq => ?_, ⟨fun i q hq => ?_, ?_, zc, ?_, va_Nw.of rfl (hts _ (wd_in 825 (by decide +kernel)))⟩⟩, Nat.le_refl _⟩
  · have h6 := hts w hw
    cases w with
    | methodLinkNest a i x h => exact va_Nw.of rfl h6
    | fieldLinkNest a i b n d h => exact va_Nw.of rfl h6
    | _ => cases hn
  · have : C = RX3 ∨ C = RX7 ∨ C = RX8 := by simpa using hC
    rcases this with rfl | rfl | rfl
    · exact va_AO.of (hts _ (wd_in 153 (by decide +kernel)))
    · exact va_AO.of (hts _ (wd_in 185 (by decide +kernel)))
    · exact va_AO.of (hts _ (wd_in 151 (by decide +kernel)))
  · rw [hcst]
    match i with
    | 0 => cases hq; exact ⟨z0, h0⟩
    | 1 => cases hq; exact ⟨z1, h1⟩
    | 2 => cases hq; exact ⟨z2, h2⟩
    | 3 => cases hq; exact ⟨z3, h3⟩
    | 4 => cases hq; exact ⟨z4, h4⟩
    | 5 => cases hq; exact ⟨z5, h5⟩
    | n + 6 => cases hq
  · have hi : i < 12 := (List.getElem?_eq_some_iff.mp hq).1
    have e1 : ((qm_SW[i]?).getD (0, "")) = q := by rw [hq]; rfl
    have r := of_decide_eq_true (List.all_eq_true.mp sR12_ok i (List.mem_range.mpr hi))
    rw [e1] at r
    have ev := hE i hi
    unfold sT at ev
    rw [e1] at ev
    show vk_R RX2 q.1 q.2 (cst (6 + i)) s
    rw [cK i hi]
    exact vk_R.of (hts _ (List.mem_of_getElem? r)) ev
  · show vk_S 12 qm_SLn qm_SB (fun i => cst (6 + i)) (fun i => cst (18 + i)) (fun q => s.heap.size ≤ q) s s.heap
    obtain ⟨v1, v2⟩ := hS
    refine ⟨fun i hi => ?_, fun i j hi hj e => ?_⟩
    · dsimp only
      rw [cK i hi, cV i hi]; exact v1 i hi
    · have e : cst (6 + i) = cst (6 + j) := e
      rw [cK i hi, cK j hj] at e
      exact v2 i j hi hj e
  · rw [hcst]; exact zf
