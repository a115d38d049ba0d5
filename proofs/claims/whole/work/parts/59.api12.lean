/-! the reference: a code -/
def ins (x : Nat) : List Nat → List Nat
  | [] => [x]
  | y :: l => if x ≤ y then x :: y :: l else y :: ins x l
def srt : List Nat → List Nat
  | [] => []
  | x :: l => ins x (srt l)
def huff : Nat → List Nat → Nat
  | k + 1, a :: b :: l => (a + b) + huff k (ins (a + b) l)
  | _, _ => 0
def srd (l : List Nat) : Prop := l.Pairwise (fun a b => a ≤ b)
theorem ins_perm (x : Nat) : ∀ l, List.Perm (ins x l) (x :: l)
  | [] => List.Perm.refl _
  | y :: l => by
    rw [ins]
    split
    · exact List.Perm.refl _
    · exact ((ins_perm x l).cons y).trans (List.Perm.swap x y l)
theorem ins_srd (x : Nat) : ∀ l, srd l → srd (ins x l)
  | [], _ => List.pairwise_singleton _ _
  | y :: l, h => by
    have hc := List.pairwise_cons.mp h
    rw [ins]
    split
    · rename_i q
      refine List.pairwise_cons.mpr ⟨fun z hz => ?_, h⟩
      rcases List.mem_cons.mp hz with e | e
      · omega
      · have := hc.1 z e
        omega
    · rename_i q
      refine List.pairwise_cons.mpr ⟨fun z hz => ?_, ins_srd x l hc.2⟩
      rcases List.mem_cons.mp ((ins_perm x l).mem_iff.mp hz) with e | e
      · omega
      · exact hc.1 z e
theorem srt_perm : ∀ l, List.Perm (srt l) l
  | [] => List.Perm.refl _
  | x :: l => (ins_perm x (srt l)).trans ((srt_perm l).cons x)
theorem srt_srd : ∀ l, srd (srt l)
  | [] => List.Pairwise.nil
  | x :: l => ins_srd x _ (srt_srd l)
def lsum : List Nat → Nat
  | [] => 0
  | x :: l => x + lsum l
theorem lsum_perm {l l' : List Nat} (h : List.Perm l l') : lsum l = lsum l' := by
  induction h with
  | nil => rfl
  | cons x _ ih => rw [lsum, lsum, ih]
  | swap x y l => rw [lsum, lsum, lsum, lsum]; omega
  | trans _ _ i1 i2 => exact i1.trans i2
theorem lsum_mem {l : List Nat} : ∀ {x}, x ∈ l → x ≤ lsum l := by
  induction l with
  | nil => intro x h; cases h
  | cons y l ih =>
    intro x h
    rw [lsum]
    rcases List.mem_cons.mp h with e | e
    · omega
    · have := ih e
      omega
theorem srd_min {l B : List Nat} {x u : Nat} (hs : srd (x :: l)) (hp : List.Perm B (x :: l)) (hu : u ∈ B) (hm : ∀ z, z ∈ B → u ≤ z) : u = x := by
  have h1 := hm x (hp.mem_iff.mpr (List.mem_cons_self))
  rcases List.mem_cons.mp (hp.mem_iff.mp hu) with e | e
  · exact e
  · have := (List.pairwise_cons.mp hs).1 u e
    omega
def bag (hp : Nat → Option Nat) (L : List Nat) : List Nat := L.filterMap hp
theorem bag_mem {hp : Nat → Option Nat} {L : List Nat} {z : Nat} : z ∈ bag hp L ↔ ∃ j, j ∈ L ∧ hp j = some z := List.mem_filterMap
theorem bag_co {hp hp' : Nat → Option Nat} : ∀ {L : List Nat}, (∀ j, j ∈ L → hp j = hp' j) → bag hp L = bag hp' L
  | [], _ => rfl
  | z :: L, h => by
    rw [bag, bag, List.filterMap_cons, List.filterMap_cons, h z List.mem_cons_self]
    have := bag_co (L := L) (fun j hj => h j (List.mem_cons_of_mem _ hj))
    rw [bag, bag] at this
    rw [this]
theorem bag_rm {hp : Nat → Option Nat} {a u : Nat} (hu : hp a = some u) : ∀ {L : List Nat}, L.Nodup → a ∈ L → List.Perm (bag hp L) (u :: bag (va_up hp a none) L)
  | [], _, h => by cases h
  | z :: L, hd, h => by
    have hn := List.nodup_cons.mp hd
    by_cases e : z = a
    · subst e
      have : bag (va_up hp z none) L = bag hp L := bag_co (fun j hj => up_n _ _ (fun e => hn.1 (by rw [← e]; exact hj)))
      rw [bag, bag, List.filterMap_cons, List.filterMap_cons, hu, up_s]
      rw [bag, bag] at this
      show List.Perm (u :: List.filterMap hp L) (u :: List.filterMap (va_up hp z none) L)
      rw [this]
    · have hL : a ∈ L := by
        rcases List.mem_cons.mp h with q | q
        · exact absurd q.symm e
        · exact q
      have ih := bag_rm hu hn.2 hL
      rw [bag, bag] at ih
      rw [bag, bag, List.filterMap_cons, List.filterMap_cons, up_n _ _ e]
      cases q : hp z with
      | none => exact ih
      | some v => exact (ih.cons v).trans (List.Perm.swap u v _)
def lh (hp : Nat → Option Nat) (but : Option Nat) : Nat → Option Nat
  | 0 => none
  | k + 1 => match hp k with
    | none => lh hp but k
    | some v => if some k = but then lh hp but k else match lh hp but k with
      | none => some k
      | some b => if v < (hp b).getD 0 then some k else some b
theorem lh_spec (hp : Nat → Option Nat) (but : Option Nat) : ∀ k, (lh hp but k = none → ∀ j, j < k → some j ≠ but → hp j = none) ∧ (∀ a, lh hp but k = some a → a < k ∧ some a ≠ but ∧ ∃ v, hp a = some v ∧ ∀ j, j < k → some j ≠ but → ∀ u, hp j = some u → v ≤ u)
  | 0 => ⟨fun _ j hj => by omega, fun a q => by rw [lh] at q; exact absurd q (by simp)⟩
  | k + 1 => by
    obtain ⟨i1, i2⟩ := lh_spec hp but k
    rw [lh]
    cases q : hp k with
    | none =>
      refine ⟨fun e j hj hb => ?_, fun a e => ?_⟩
      · by_cases c : j = k
        · rw [c]; exact q
        · exact i1 e j (by omega) hb
      · obtain ⟨a1, a2, v, a3, a4⟩ := i2 a e
        refine ⟨by omega, a2, v, a3, fun j hj hb u hu => ?_⟩
        by_cases c : j = k
        · rw [c, q] at hu; exact absurd hu (by simp)
        · exact a4 j (by omega) hb u hu
    | some v =>
      by_cases c : some k = but
      · simp only [if_pos c]
        refine ⟨fun e j hj hb => ?_, fun a e => ?_⟩
        · by_cases c2 : j = k
          · rw [c2] at hb; exact absurd c hb
          · exact i1 e j (by omega) hb
        · obtain ⟨a1, a2, v', a3, a4⟩ := i2 a e
          refine ⟨by omega, a2, v', a3, fun j hj hb u hu => ?_⟩
          by_cases c2 : j = k
          · rw [c2] at hb; exact absurd c hb
          · exact a4 j (by omega) hb u hu
      · simp only [if_neg c]
        cases q2 : lh hp but k with
        | none =>
          refine ⟨fun e => absurd e (by simp), fun a e => ?_⟩
          obtain rfl : k = a := Option.some.inj e
          refine ⟨by omega, c, v, q, fun j hj hb u hu => ?_⟩
          by_cases c2 : j = k
          · rw [c2, q] at hu; have := Option.some.inj hu; omega
          · rw [i1 q2 j (by omega) hb] at hu; exact absurd hu (by simp)
        | some b =>
          obtain ⟨b1, b2, vb, b3, b4⟩ := i2 b q2
          simp only [b3, Option.getD_some]
          by_cases c3 : v < vb
          · rw [if_pos c3]
            refine ⟨fun e => absurd e (by simp), fun a e => ?_⟩
            obtain rfl : k = a := Option.some.inj e
            refine ⟨by omega, c, v, q, fun j hj hb u hu => ?_⟩
            by_cases c2 : j = k
            · rw [c2, q] at hu; have := Option.some.inj hu; omega
            · have := b4 j (by omega) hb u hu; omega
          · rw [if_neg c3]
            refine ⟨fun e => absurd e (by simp), fun a e => ?_⟩
            obtain rfl : b = a := Option.some.inj e
            refine ⟨by omega, b2, vb, b3, fun j hj hb u hu => ?_⟩
            by_cases c2 : j = k
            · rw [c2, q] at hu; have := Option.some.inj hu; omega
            · exact b4 j (by omega) hb u hu
theorem r6_nd : (List.range 6).Nodup := by decide
theorem hf_step {hp : Nat → Option Nat} {x y : Nat} {l : List Nat} (hs : srd (x :: y :: l)) (hP : List.Perm (bag hp (List.range 6)) (x :: y :: l)) : ∃ a b, lh hp none 6 = some a ∧ lh hp (some a) 6 = some b ∧ a < 6 ∧ b < 6 ∧ a ≠ b ∧ hp a = some x ∧ hp b = some y ∧ List.Perm (bag (va_up (va_up hp a (some (x + y))) b none) (List.range 6)) ((x + y) :: l) := by
  obtain ⟨n1, n2⟩ := lh_spec hp none 6
  have hx : x ∈ bag hp (List.range 6) := hP.mem_iff.mpr List.mem_cons_self
  obtain ⟨j0, j1, j2⟩ := bag_mem.mp hx
  have j1 := List.mem_range.mp j1
  cases q : lh hp none 6 with
  | none =>
    have := n1 q j0 j1 (by simp)
    rw [j2] at this; exact absurd this (by simp)
  | some a =>
    obtain ⟨a1, -, v, a3, a4⟩ := n2 a q
    have ha : a ∈ List.range 6 := List.mem_range.mpr a1
    have ev : v = x := srd_min hs hP (bag_mem.mpr ⟨a, ha, a3⟩) (fun z hz => by
      obtain ⟨j, k1, k2⟩ := bag_mem.mp hz
      exact a4 j (List.mem_range.mp k1) (by simp) z k2)
    subst ev
    have p1 := bag_rm a3 r6_nd ha
    have p2 : List.Perm (bag (va_up hp a none) (List.range 6)) (y :: l) := List.Perm.cons_inv (p1.symm.trans hP)
    obtain ⟨m1, m2⟩ := lh_spec hp (some a) 6
    have hy : y ∈ bag (va_up hp a none) (List.range 6) := p2.mem_iff.mpr List.mem_cons_self
    obtain ⟨j3, j4, j5⟩ := bag_mem.mp hy
    have j4 := List.mem_range.mp j4
    have hj3 : j3 ≠ a := fun e => by rw [e, up_s] at j5; exact absurd j5 (by simp)
    rw [up_n _ _ hj3] at j5
    cases q2 : lh hp (some a) 6 with
    | none =>
      have := m1 q2 j3 j4 (fun e => hj3 (Option.some.inj e))
      rw [j5] at this; exact absurd this (by simp)
    | some b =>
      obtain ⟨b1, b2, vb, b3, b4⟩ := m2 b q2
      have hba : b ≠ a := fun e => b2 (by rw [e])
      have hb : b ∈ List.range 6 := List.mem_range.mpr b1
      have eb : vb = y := srd_min (List.pairwise_cons.mp hs).2 p2 (bag_mem.mpr ⟨b, hb, by rw [up_n _ _ hba]; exact b3⟩) (fun z hz => by
        obtain ⟨j, k1, k2⟩ := bag_mem.mp hz
        have hja : j ≠ a := fun e => by rw [e, up_s] at k2; exact absurd k2 (by simp)
        rw [up_n _ _ hja] at k2
        exact b4 j (List.mem_range.mp k1) (fun e => hja (Option.some.inj e)) z k2)
      subst eb
      have p3 := bag_rm (hp := va_up hp a none) (a := b) (by rw [up_n _ _ hba]; exact b3) r6_nd hb
      have p4 : List.Perm (bag (va_up (va_up hp a none) b none) (List.range 6)) l := List.Perm.cons_inv (p3.symm.trans p2)
      have p5 := bag_rm (hp := va_up (va_up hp a (some (v + vb))) b none) (a := a) (u := v + vb) (by rw [up_n _ _ hba.symm, up_s]) r6_nd ha
      have e6 : bag (va_up (va_up (va_up hp a (some (v + vb))) b none) a none) (List.range 6) = bag (va_up (va_up hp a none) b none) (List.range 6) := bag_co (fun j _ => by
        by_cases c : j = a
        · rw [c, up_s, up_n _ _ hba.symm, up_s]
        · rw [up_n _ _ c]
          by_cases c2 : j = b
          · rw [c2, up_s, up_s]
          · rw [up_n _ _ c2, up_n _ _ c2, up_n _ _ c, up_n _ _ c])
      rw [e6] at p5
      exact ⟨a, b, rfl, q2, a1, b1, hba.symm, a3, b3, p5.trans (p4.cons _)⟩
theorem s_oi_n (v : Nat) : s_oi (some v) = nI v := rfl
theorem s_oi_0 : s_oi none = -1 := rfl
theorem e_leastHeap {G : qm_G} (hG : G.2.2.2.2 = true) (d : Nat) (h : qm_H) {hp : Nat → Option Nat} (hH : ∀ j, j < 6 → h.1 46 j = s_oi (hp j)) (hB : ∀ j v, hp j = some v → v < 2 ^ 31) (but : Option Nat) (hb6 : ∀ b, but = some b → b < 6) : qm_Ev G d 0 0 qyX10_leastHeap [.ref 26, .int (s_oi but)] h (fun r h' => r = some (.int (s_oi (lh hp but 6))) ∧ h = h') := by
  refine qm_Ev.by (M := mX10_leastHeap) okX10_leastHeap (Nat.le_of_ble_eq_true rfl) hG fun z hA => ?_
  refine qm_wp_ok hA [4] 40 _ _ _ _ _ _ ?_
  refine qm_for (P := fun k => qm_PW G mX10_leastHeap z 4 0 0 [vr 26, vi (s_oi but), vi (s_oi (lh hp but k)), vi (nI k), vu] [] h) (N := 6) ?_ ?_
  · exact qm_wp_ok hA [] 20 _ _ _ _ _ _ ⟨fun _ => ⟨trivial, rfl, rfl⟩, fun q => absurd (by decide) q⟩
  · intro k hk key
    rw [← nI_1] at key
    have hin : vp_in (nI k) 6 := vp_in_nI (by omega) (by decide)
    refine qm_wp_ok hA [4] 60 _ _ _ _ _ _ ⟨fun q => absurd q (nI_ge hk (by decide)), fun _ => ⟨fun (c : nI k = s_oi but) => ?_, fun (c : ¬ nI k = s_oi but) => ⟨rfl, _, rfl, rfl, hin, ?_⟩⟩⟩
    · have hbk : some k = but := by
        cases hq : but with
        | none =>
          rw [hq] at c
          exact absurd (show (-1 : Int32) < 0 by decide) (by rw [← s_oi_0, ← c]; exact nI_pos (by omega))
        | some b =>
          rw [hq] at c
          have := hb6 b hq
          rw [(nI_eq (by omega) (by omega)).mp c]
      refine ⟨fun _ => ?_, fun q => absurd rfl q⟩
      cases hq : hp k with
      | none =>
        have el : lh hp but (k + 1) = lh hp but k := by rw [lh, hq]
        rw [el] at key; exact qm_PW.mask [true, true, true, true, false] key
      | some v =>
        have el : lh hp but (k + 1) = lh hp but k := by rw [lh, hq]; exact if_pos hbk
        rw [el] at key; exact qm_PW.mask [true, true, true, true, false] key
    · have hbk : ¬ some k = but := fun e => c (by rw [← e]; rfl)
      rw [nI_clamp (by omega), hH k hk]
      cases hq : hp k with
      | none =>
        have el : lh hp but (k + 1) = lh hp but k := by rw [lh, hq]
        rw [el] at key
        exact ⟨fun _ => ⟨fun _ => qm_PW.mask [true, true, true, true, false] key, fun q => absurd rfl q⟩, fun q => absurd (by decide) q⟩
      | some v =>
        have el : lh hp but (k + 1) = (match lh hp but k with
          | none => some k
          | some b => if v < (hp b).getD 0 then some k else some b) := by rw [lh, hq]; exact if_neg hbk
        have hv := hB k v hq
        refine ⟨fun (q : nI v < 0) => absurd q (nI_pos hv), fun _ => ⟨fun q => absurd q (by decide), fun _ => ?_⟩⟩
        cases hl : lh hp but k with
        | none =>
          rw [hl] at el
          rw [show lh hp but (k + 1) = some k from el] at key
          exact ⟨fun _ => qm_PW.mask [true, true, true, true, false] key, fun q => absurd rfl q⟩
        | some b =>
          rw [hl] at el
          obtain ⟨b1, -, vb, b3, -⟩ := (lh_spec hp but k).2 b hl
          have hvb := hB b vb b3
          refine ⟨fun (q : nI b = -1) => absurd (show (-1 : Int32) < 0 by decide) (by rw [← q]; exact nI_pos (by omega)), fun _ => ⟨rfl, _, rfl, rfl, hin, rfl, _, rfl, rfl, (vp_in_nI (by omega) (by decide) : vp_in (nI b) 6), ?_⟩⟩
          have hk0 : h.1 46 (nI k).toNatClampNeg = nI v := by rw [nI_clamp (by omega), hH k hk, hq]; rfl
          have hb0 : h.1 46 (nI b).toNatClampNeg = nI vb := by rw [nI_clamp (by omega), hH b (by omega), b3]; rfl
          have el2 : lh hp but (k + 1) = if v < vb then some k else some b := by
            rw [el]
            show (if v < (hp b).getD 0 then some k else some b) = _
            rw [b3]; rfl
          refine ⟨fun (q : h.1 46 (nI b).toNatClampNeg ≤ h.1 46 (nI k).toNatClampNeg) => ?_, fun (q : ¬ h.1 46 (nI b).toNatClampNeg ≤ h.1 46 (nI k).toNatClampNeg) => ?_⟩ <;> rw [hk0, hb0] at q
          · rw [el2, if_neg (by have := (nI_leI (by omega) (by omega)).mp q; omega)] at key
            exact qm_PW.mask [true, true, true, true, false] key
          · rw [el2, if_pos (by have : ¬ vb ≤ v := fun e => q ((nI_leI (by omega) (by omega)).mpr e); omega)] at key
            exact qm_PW.mask [true, true, true, true, false] key
def s_code (w : Nat → Int32) : Int32 := nI (huff 5 (srt (List.ofFn (n := 6) fun f => (w (1 + f.1)).toNatClampNeg)))
def p_code (h : qm_H) (mt : Nat) (a : Int32) : Int32 := if inb a mt then s_code (tw h a.toNatClampNeg) else -1
theorem a_code {G : qm_G} (hG : G.2.2.2.2 = true) (d : Nat) (h : qm_H) {mt my ml : Nat} (hS : ST h mt my ml) (a : Int32) : qm_Ev G (d + 4) 0 0 qyX10_code [.ref 26, .int a] h (fun r h' => r = some (.int (p_code h mt a)) ∧ pers h h') := by
  obtain ⟨s1, s2, -, -, -, -, hT, -⟩ := hS
  refine qm_Ev.by (M := mX10_code) okX10_code (Nat.le_of_ble_eq_true rfl) hG fun z hA => ?_
  refine qm_wp_ok hA [11] 40 _ _ _ _ _ _ ?_
  refine ⟨rfl, trivial, rfl, 0, 0, _, e_handC hG (d + 1) (qm_si h 26 0 0) (mt := mt) s1 s2 a, ⟨Nat.le_refl _, Nat.le_refl _⟩, ?_⟩
  rintro _ h1 (⟨t, ht, rfl, rfl, rfl⟩ | ⟨e0, rfl, e1⟩)
  · obtain ⟨i1, i2⟩ := p_in ht s2
    have eP : p_code h mt (nI t) = s_code (tw h t) := by rw [p_code, i1, i2]; rfl
    obtain ⟨-, -, hw, -⟩ := hT t ht
    obtain ⟨w, hw0⟩ : ∃ w, w = tw h t := ⟨_, rfl⟩
    rw [← hw0] at hw eP
    obtain ⟨h0, hh0⟩ : ∃ h0, h0 = hnd (qm_si h 26 0 0) t := ⟨_, rfl⟩
    have p0 : pers h h0 := by rw [hh0]; exact pers.rf.s26.tr (hnd.ps _ t)
    have e22 : h0.1 26 22 = nI t := by rw [hh0]; rfl
    have etw : tw h0 t = w := by rw [hh0, hw0]; rfl
    rw [← hh0]
    refine ⟨fun q => ?_, fun q => absurd q (by decide)⟩
    have hv : ∀ f, f < 6 → (w (1 + f)).toNatClampNeg ≤ 20 ∧ w (1 + f) = nI (w (1 + f)).toNatClampNeg := fun f hf => by
      obtain ⟨v, v1, v2⟩ := hw f hf
      rw [v2, nI_clamp (by omega)]
      exact ⟨v1, rfl⟩
    have main : ∀ r k : Nat, k + r = 6 → 1 ≤ k → ∀ (h' : qm_H) (S : Nat) (hp : Nat → Option Nat) (l : List Nat), sb [46] h0 h' → (∀ j, j < 6 → h'.1 46 j = s_oi (hp j)) → (∀ j, 6 ≤ j → hp j = none) → srd l → List.Perm (bag hp (List.range 6)) l → l.length = r + 1 → lsum l ≤ 120 → s_code w = nI (S + huff r l) → qm_PW G mX10_code z 29 0 0 [vr 26, vu, vi (nI S), vi (nI k), vu, vu] [] h' := by
      intro r
      induction r with
      | zero =>
        intro k hk _ h' S hp l c1 _ _ _ _ c4 _ c6
        refine qm_wp_ok hA [] 20 _ _ _ _ _ _ ⟨fun _ => ⟨trivial, ?_, p0.tr (c1.mono (by decide))⟩, fun (q : ¬ nI 6 ≤ nI k) => absurd (nI_le (by omega) (by omega)) q⟩
        rw [eP, c6]
        have : huff 0 l = 0 := match l with
          | [] => rfl
          | [_] => rfl
          | _ :: _ :: _ => rfl
        rw [this]; rfl
      | succ r ih =>
        intro k hk hk1 h' S hp l c1 c2 c2' c3 c3' c4 c5 c6
        match l, c3, c3', c4, c5, c6 with
        | x :: y :: l, c3, c3', c4, c5, c6 =>
          obtain ⟨a, b, l1, l2, a6, b6, hab, ha, hb, hP⟩ := hf_step c3 c3'
          have hBd : ∀ j v, hp j = some v → v < 2 ^ 31 := fun j v q => by
            have hj : j < 6 := by
              rcases Nat.lt_or_ge j 6 with e | e
              · exact e
              · rw [c2' j e] at q; exact absurd q (by simp)
            have := lsum_mem (c3'.mem_iff.mp (bag_mem.mpr ⟨j, List.mem_range.mpr hj, q⟩))
            omega
          have el := e_leastHeap hG (d + 3) h' c2 hBd none (fun b q => absurd q (by simp))
          rw [l1] at el
          have el2 := e_leastHeap hG (d + 3) h' c2 hBd (some a) (fun b q => by have := Option.some.inj q; omega)
          rw [l2] at el2
          have ina : vp_in (nI a) 6 := vp_in_nI (by omega) (by decide)
          have inb6 : vp_in (nI b) 6 := vp_in_nI (by omega) (by decide)
          refine qm_wp_ok hA [29] 60 _ _ _ _ _ _ ⟨fun q => absurd q (nI_ge (by omega : k < 6) (by decide)), fun _ => ⟨rfl, 0, 0, _, el, ⟨Nat.le_refl _, Nat.le_refl _⟩, ?_⟩⟩
          rintro _ _ ⟨rfl, rfl⟩
          refine ⟨rfl, 0, 0, _, el2, ⟨Nat.le_refl _, Nat.le_refl _⟩, ?_⟩
          rintro _ _ ⟨rfl, rfl⟩
          refine ⟨rfl, _, rfl, rfl, ina, rfl, _, rfl, rfl, inb6, rfl, ina, rfl, _, rfl, rfl, inb6, rfl, _, rfl, rfl, ina, ?_⟩
          rw [s_oi_n, s_oi_n, nI_clamp (by omega), nI_clamp (by omega), c2 a a6, c2 b b6, ha, hb]
          have nx := ih (k + 1) (by omega) (by omega) (qm_si (qm_si h' 46 a (nI x + nI y)) 46 b (-1)) (S + (x + y)) (va_up (va_up hp a (some (x + y))) b none) (ins (x + y) l) ((c1.si (by decide)).si (by decide)) (fun j hj => by
            rw [si_row, si_row]
            by_cases q : j = b
            · rw [q, up_s, up_s]; rfl
            · rw [up_n _ _ q, up_n _ _ q]
              by_cases q2 : j = a
              · rw [q2, up_s, up_s, nI_add]; rfl
              · rw [up_n _ _ q2, up_n _ _ q2]; exact c2 j hj) (fun j hj => by
            rw [up_n _ _ (by omega), up_n _ _ (by omega)]
            exact c2' j hj) (ins_srd _ _ (List.pairwise_cons.mp (List.pairwise_cons.mp c3).2).2) (hP.trans (ins_perm _ _).symm) (by
            rw [(ins_perm _ _).length_eq]
            simp only [List.length_cons] at c4 ⊢
            omega) (by
            rw [lsum_perm (ins_perm _ _)]
            simp only [lsum] at c5 ⊢
            omega) (by
            rw [c6, huff, Nat.add_assoc S])
          have ev : (qm_si (qm_si h' 46 a (nI x + nI y)) 46 b (-1)).1 46 a = nI x + nI y := by
            rw [si_row, si_row, up_n _ _ hab, up_s]
          rw [← nI_1, ← nI_add S, ← nI_add x] at nx
          exact qm_PW.mask [true, false, true, true, false, false] (show qm_PW G mX10_code z 29 0 0 [vr 26, vu, vi (nI S + (qm_si (qm_si h' 46 a (nI x + nI y)) 46 b (-1)).1 46 a), vi (nI k + 1), vu, vu] [] (qm_si (qm_si h' 46 a (nI x + nI y)) 46 b (-1)) from by rw [ev]; exact nx)
    refine qm_for (P := fun f => ∀ h', sb [46] h0 h' → (∀ j, j < f → h'.1 46 j = w (1 + j)) → qm_PW G mX10_code z 11 0 0 [vr 26, vi (nI t), vi (nI f), vu, vu, vu] [] h') (N := 6) ?_ ?_ h0 sb.rf (fun j q => by omega)
    · intro h' c1 c2
      refine qm_wp_ok hA [29] 30 _ _ _ _ _ _ ⟨fun _ => ?_, fun q => absurd (by decide) q⟩
      have hl : List.Perm (bag (fun j => if j < 6 then some (w (1 + j)).toNatClampNeg else none) (List.range 6)) (srt (List.ofFn (n := 6) fun f => (w (1 + f.1)).toNatClampNeg)) := (List.Perm.refl _).trans (srt_perm _).symm
      refine qm_PW.mask [true, false, true, true, false, false] (main 5 1 rfl (Nat.le_refl _) h' 0 (fun j => if j < 6 then some (w (1 + j)).toNatClampNeg else none) _ c1 (fun j hj => ?_) (fun j hj => if_neg (by omega)) (srt_srd _) hl ?_ ?_ ?_)
      · rw [c2 j hj, if_pos hj]; exact (hv j hj).2
      · rw [(srt_perm _).length_eq, List.length_ofFn]
      · rw [lsum_perm (srt_perm _)]
        have z0 := (hv 0 (by decide)).1
        have z1 := (hv 1 (by decide)).1
        have z2 := (hv 2 (by decide)).1
        have z3 := (hv 3 (by decide)).1
        have z4 := (hv 4 (by decide)).1
        have z5 := (hv 5 (by decide)).1
        show (w (1 + 0)).toNatClampNeg + ((w (1 + 1)).toNatClampNeg + ((w (1 + 2)).toNatClampNeg + ((w (1 + 3)).toNatClampNeg + ((w (1 + 4)).toNatClampNeg + ((w (1 + 5)).toNatClampNeg + 0))))) ≤ 120
        omega
      · rw [s_code, Nat.zero_add]
    · intro f hf ih h' c1 c2
      have e1f : (1 : Int32) + nI f = nI (1 + f) := nI_add 1 f
      have g1 : tw h' t = w := by
        rw [← etw]; unfold tw
        rw [c1.2 32 (by decide)]
      refine qm_wp_ok hA [11] 40 _ _ _ _ _ _ ⟨fun q => absurd q (nI_ge hf (by decide)), fun _ => ⟨rfl, _, rfl, rfl, 0, 0, _, (by rw [e1f]; exact e_of hG (d + 3) h' (t := t) (j := 1 + f) (by rw [c1.2 26 (by decide), e22]) (by omega) (by omega)), ⟨Nat.le_refl _, Nat.le_refl _⟩, ?_⟩⟩
      rintro _ _ ⟨rfl, rfl⟩
      rw [g1]
      refine ⟨rfl, (vp_in_nI (by omega) (by decide) : vp_in (nI f) 6), ?_⟩
      rw [nI_clamp (by omega)]
      have nx := ih (qm_si h' 46 f (w (1 + f))) (c1.si (by decide)) (fun j hj => by
        rw [si_row]
        by_cases q : j = f
        · rw [q, up_s]
        · rw [up_n _ _ q]; exact c2 j (by omega))
      rw [← nI_1] at nx
      exact nx
  · exact ⟨fun q => absurd rfl q, fun _ => ⟨trivial, by rw [p_code, e0]; rfl, e1 ▸ pers.rf.s26⟩⟩
