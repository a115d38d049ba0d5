/-! the class: new places; a code -/
/-- n new places, else nothing but the rows S -/
def gr (S : List Nat) (n : Nat) (h h' : qm_H) : Prop := h'.2.2.2.2 = h.2.2.2.2 + n ∧ ∀ q, q < h.2.2.2.2 → (q ∉ S → h'.1 q = h.1 q) ∧ h'.2.1 q = h.2.1 q ∧ h'.2.2.1 q = h.2.2.1 q ∧ h'.2.2.2.1 q = h.2.2.2.1 q
theorem gr.of {S : List Nat} {h h' : qm_H} (a : sb S h h') : gr S 0 h h' := ⟨by rw [a.1]; rfl, fun q _ => ⟨fun z => a.2 q z, by rw [a.1], by rw [a.1], by rw [a.1]⟩⟩
theorem gr.tr {S : List Nat} {m n : Nat} {h h1 h2 : qm_H} (a : gr S m h h1) (b : gr S n h1 h2) : gr S (m + n) h h2 := ⟨by rw [b.1, a.1, Nat.add_assoc], fun q hq => by
  obtain ⟨a1, a2, a3, a4⟩ := a.2 q hq
  obtain ⟨b1, b2, b3, b4⟩ := b.2 q (by rw [a.1]; omega)
  exact ⟨fun z => (b1 z).trans (a1 z), b2.trans a2, b3.trans a3, b4.trans a4⟩⟩
theorem gr.mono {S S' : List Nat} {n : Nat} {h h' : qm_H} (a : gr S n h h') (hs : ∀ q, q ∈ S → q ∈ S') : gr S' n h h' := ⟨a.1, fun q hq => ⟨fun z => (a.2 q hq).1 (fun y => z (hs q y)), (a.2 q hq).2⟩⟩
/-- what happens at a new place does not count -/
theorem gr.new {S : List Nat} {n q0 : Nat} {h h1 h2 : qm_H} (a : gr S n h h1) (b : sb [q0] h1 h2) (hq0 : h.2.2.2.2 ≤ q0) : gr S n h h2 := ⟨by rw [b.1]; exact a.1, fun q hq => by
  obtain ⟨a1, a2, a3, a4⟩ := a.2 q hq
  exact ⟨fun z => (b.2 q (fun y => by have := List.mem_singleton.mp y; omega)).trans (a1 z), by rw [b.1]; exact a2, by rw [b.1]; exact a3, by rw [b.1]; exact a4⟩⟩
theorem qm_is_gr {S : List Nat} {n : Nat} {h h' : qm_H} (a : gr S n h h') {p kd : Nat} (hp : p < h.2.2.2.2) (k : qm_is true h p kd) : qm_is true h' p kd := by
  unfold qm_is at k ⊢
  rw [a.1, (a.2 p hp).2.2.2]
  cases e : (bif true then qm_SKK[p]? else none) with
  | some x => rw [e] at k; exact k
  | none => rw [e] at k; exact ⟨by omega, k.2⟩
theorem qm_kn_gr {S : List Nat} {n : Nat} {h h' : qm_H} (a : gr S n h h') {p : Nat} (hp : p < h.2.2.2.2) : qm_kn true h' p = qm_kn true h p := by
  unfold qm_kn
  rw [(a.2 p hp).2.2.2]
theorem qm_rd_gr {S : List Nat} {n : Nat} {h h' : qm_H} (a : gr S n h h') {p : Nat} (hp : p < h.2.2.2.2) (k : Nat) : qm_rd true h' p k = qm_rd true h p k := by
  unfold qm_rd
  rw [(a.2 p hp).2.2.1]
theorem TO.gr {S : List Nat} {m : Nat} {h h' : qm_H} {P n : Nat} {w : Nat → Int32} (t : TO h P w n) (a : gr S m h h') (hS : ∀ q, q ∈ S → q < 51) : TO h' P w n := by
  obtain ⟨⟨t1, t2⟩, t3, t4, t5, t6, t7, t8⟩ := t
  have e : ∀ q, 51 ≤ q → q < h.2.2.2.2 → h'.1 q = h.1 q := fun q hq hq2 => (a.2 q hq2).1 (fun z => by have := hS q z; omega)
  have eL := (a.2 P (by omega)).2.1
  refine ⟨⟨t1, by rw [a.1]; omega⟩, qm_is_gr a (by omega) t3, by rw [e P t1 (by omega)]; exact t4, fun k h1 h2 => ?_, fun j hj => ?_, fun s hs => by rw [e _ (by omega) (by omega)]; exact t7 s hs, fun s hs => by rw [eL]; exact t8 s hs⟩
  · obtain ⟨x, y, z⟩ := t5 k h1 h2
    exact ⟨by rw [qm_rd_gr a (by omega)]; exact x, qm_is_gr a (by omega) y, by rw [qm_kn_gr a (by omega)]; exact z⟩
  · rw [e _ (by omega) (by omega), e _ (by omega) (by omega), e _ (by omega) (by omega), e _ (by omega) (by omega), e _ (by omega) (by omega), e _ (by omega) (by omega)]; exact t6 j hj
theorem cl_gr (S : List Nat) (h : qm_H) (p n : Nat) : gr S 1 h (qm_cl h p n) := ⟨rfl, fun q hq => by
  have e : q ≠ h.2.2.2.2 := Nat.ne_of_lt hq
  refine ⟨fun _ => ?_, ?_, ?_, ?_⟩
  · show va_up (va_up h.1 h.2.2.2.2 _) h.2.2.2.2 _ q = _
    rw [up_n _ _ e, up_n _ _ e]
  · exact up_n _ _ e
  · exact up_n _ _ e
  · exact up_n _ _ e⟩
theorem is_cl {h : qm_H} {p n : Nat} (h5 : 51 ≤ h.2.2.2.2) : qm_is true (qm_cl h p n) h.2.2.2.2 10 ∧ qm_kn true (qm_cl h p n) h.2.2.2.2 = (10, n) := by
  refine ⟨?_, qm_kn_nw (h := h) (fun _ => h5)⟩
  unfold qm_is
  have e : (bif true then qm_SKK[h.2.2.2.2]? else none) = none := List.getElem?_eq_none h5
  rw [e]
  exact ⟨Nat.lt_succ_self _, congrArg Prod.fst (up_s h.2.2.2.1 h.2.2.2.2 (10, n))⟩
def pmap (f : Nat → Nat) (n : Nat) : List Nat := (List.range n).map f
theorem pmap_1 (f : Nat → Nat) (n : Nat) : pmap f (n + 1) = pmap f n ++ [f n] := by
  rw [pmap, List.range_succ, List.map_append]; rfl
theorem pmap_co {f f' : Nat → Nat} {n : Nat} (e : ∀ j, j < n → f j = f' j) : pmap f n = pmap f' n := List.map_congr_left fun j hj => e j (List.mem_range.mp hj)
theorem pmap_mem {f : Nat → Nat} {n j : Nat} (h : j < n) : f j ∈ pmap f n := List.mem_map.mpr ⟨j, List.mem_range.mpr h, rfl⟩
theorem swap_perm {f f' : Nat → Nat} {i l n : Nat} (hi : i < n) (hl : l < n) (hne : i ≠ l) (e1 : f' i = f l) (e2 : f' l = f i) (e3 : ∀ j, j ≠ i → j ≠ l → f' j = f j) : List.Perm (pmap f' n) (pmap f n) := by
  have m2 : l ∈ (List.range n).erase i := (List.Nodup.mem_erase_iff List.nodup_range).mpr ⟨hne.symm, List.mem_range.mpr hl⟩
  have p0 : List.Perm (List.range n) (i :: l :: ((List.range n).erase i).erase l) := (List.perm_cons_erase (List.mem_range.mpr hi)).trans ((List.perm_cons_erase m2).cons i)
  have nd : ((List.range n).erase i).Nodup := List.Nodup.erase i List.nodup_range
  have eR : (((List.range n).erase i).erase l).map f' = (((List.range n).erase i).erase l).map f := List.map_congr_left fun j hj => by
    obtain ⟨z1, z2⟩ := (List.Nodup.mem_erase_iff nd).mp hj
    exact e3 j ((List.Nodup.mem_erase_iff List.nodup_range).mp z2).1 z1
  have q1 := p0.map f'
  have q2 := p0.map f
  rw [List.map_cons, List.map_cons, eR, e1, e2] at q1
  exact q1.trans ((List.Perm.swap _ _ _).trans q2.symm)
def swp (f : Nat → Nat) (i k : Nat) : Nat → Nat := fun j => if j = i then f k else if j = k then f i else f j
theorem swp_i (f : Nat → Nat) (i k : Nat) : swp f i k i = f k := if_pos rfl
theorem swp_k {f : Nat → Nat} {i k : Nat} (h : ¬ k = i) : swp f i k k = f i := (if_neg h).trans (if_pos rfl)
theorem swp_o {f : Nat → Nat} {i k j : Nat} (h : ¬ j = i) (h2 : ¬ j = k) : swp f i k j = f j := (if_neg h).trans (if_neg h2)
theorem c_mlt {G : qm_G} (hG : G.2.2.2.2 = true) (d : Nat) (h : qm_H) {q k : Nat} {f : Nat → Nat} (hq : qm_is true h q 10) (hl : (qm_kn true h q).2 = 6) (hk : k < 6) (hf : ∀ j, j < 6 → h.1 q j = nI (f j)) (hb : ∀ j, j ≤ k → f j ≤ 120) : qm_Ev G d 0 0 qyX8_moveLeastTo [.ref q, .int (nI k)] h (fun r h' => r = none ∧ sb [q] h h' ∧ ∃ f', (∀ j, j < 6 → h'.1 q j = nI (f' j)) ∧ List.Perm (pmap f' (k + 1)) (pmap f (k + 1)) ∧ (∀ j, j ≤ k → f' k ≤ f' j) ∧ (∀ j, k < j → f' j = f j)) := by
  refine qm_Ev.by (M := mX8_moveLeastTo) okX8_moveLeastTo (Nat.le_of_ble_eq_true rfl) hG fun z hA => ?_
  refine qm_wp_ok hA [2] 20 _ _ _ _ _ _ ?_
  have start := qm_for (P := fun i => ∀ h' f', sb [q] h h' → (∀ j, j < 6 → h'.1 q j = nI (f' j)) → List.Perm (pmap f' (k + 1)) (pmap f (k + 1)) → (∀ j, j < i → f' k ≤ f' j) → (∀ j, k < j → f' j = f j) → qm_PW G mX8_moveLeastTo z 2 0 0 [vr q, vi (nI k), vi (nI i), vu] [] (h')) (N := k) ?_ ?_
  · exact start h f sb.rf hf (List.Perm.refl _) (fun j hj => absurd hj (Nat.not_lt_zero _)) (fun _ _ => rfl)
  · intro h' f' a b c e g
    exact qm_wp_ok hA [] 20 _ _ _ _ _ _ ⟨fun _ => ⟨rfl, rfl, a, f', b, c, fun j hj => by
      rcases Nat.lt_or_ge j k with y | y
      · exact e j y
      · rw [show j = k by omega]; exact Nat.le_refl _, g⟩, fun z => absurd (Int32.le_refl _) z⟩
  · intro i hi key h' f' a b c e g
    have hs := qm_is_sb a hq
    have hL : (qm_kn true h' q).2 = 6 := by rw [qm_kn_sb a]; exact hl
    have hin : ∀ j, j < 6 → vp_in (nI j) (qm_kn true h' q).2 := fun j hj => by rw [hL]; exact vp_in_nI hj (by decide)
    have hB : ∀ j, j ≤ k → f' j ≤ 120 := fun j hj => by
      obtain ⟨y, y1, y2⟩ := List.mem_map.mp (c.mem_iff.mp (pmap_mem (show j < k + 1 by omega)))
      have := hb y (by have := List.mem_range.mp y1; omega)
      omega
    have ei : (nI i).toNatClampNeg = i := nI_clamp (by omega)
    have ek : (nI k).toNatClampNeg = k := nI_clamp (by omega)
    refine qm_wp_ok hA [2] 60 _ _ _ _ _ _ ⟨fun y => absurd y (nI_ge hi (by omega)), fun _ => ⟨hs, fun (y : Int32.ofNat (qm_kn true h' q).2 ≤ nI k) => absurd y (by rw [hL]; exact nI_ge (b := 6) hk (by decide)), fun _ => ⟨hs, hin i (by omega), hs, hin k hk, fun (y : h'.1 q (nI k).toNatClampNeg ≤ h'.1 q (nI i).toNatClampNeg) => ?_, fun (y : ¬ h'.1 q (nI k).toNatClampNeg ≤ h'.1 q (nI i).toNatClampNeg) => ⟨hs, hin i (by omega), hs, hin k hk, hs, hin i (by omega), hs, hin k hk, ?_⟩⟩⟩⟩
    · rw [ei, ek, b i (by omega), b k hk] at y
      have y := (nI_leI (by have := hB k (Nat.le_refl _); omega) (by have := hB i (by omega); omega)).mp y
      have k2 := key h' f' a b c (fun j hj => by
        rcases Nat.lt_or_ge j i with x | x
        · exact e j x
        · rw [show j = i by omega]; exact y) g
      rw [← nI_1] at k2
      exact k2
    · rw [ei, ek, b i (by omega), b k hk] at y
      have y : ¬ f' k ≤ f' i := fun x => y (nI_le x (by have := hB i (by omega); omega))
      have k2 := key (qm_si (qm_si h' q i (nI (f' k))) q k (nI (f' i))) (swp f' i k) ((a.si (List.mem_singleton.mpr rfl)).si (List.mem_singleton.mpr rfl)) (fun j hj => by
        rw [si_row, si_row]
        by_cases x : j = i
        · rw [x, swp_i, up_n _ _ (by omega), up_s]
        · by_cases x2 : j = k
          · rw [x2, swp_k (by omega), up_s]
          · rw [swp_o x x2, up_n _ _ x2, up_n _ _ x]; exact b j hj) ((swap_perm (i := i) (l := k) (by omega) (by omega) (by omega) (swp_i _ _ _) (swp_k (by omega)) (fun j z1 z2 => swp_o z1 z2)).trans c) (fun j hj => by
        rw [swp_k (by omega)]
        by_cases x : j = i
        · rw [x, swp_i]; omega
        · rw [swp_o x (by omega)]
          have := e j (by omega)
          omega) (fun j hj => by
        rw [swp_o (by omega) (by omega)]; exact g j hj)
      rw [← nI_1] at k2
      rw [ei, ek, b i (by omega), b k hk]
      exact qm_PW.mask [true, true, true, false] k2
theorem nI_m {r : Nat} (h : r ≤ 4) : nI (r + 2) - 1 = nI (r + 1) ∧ nI (r + 2) - 2 = nI r ∧ nI (r + 2) + (-1) = nI (r + 1) := by
  rcases (by omega : r = 0 ∨ r = 1 ∨ r = 2 ∨ r = 3 ∨ r = 4) with e | e | e | e | e <;> rw [e] <;> decide
theorem code_step {f f1 f2 : Nat → Nat} {r x y : Nat} {l : List Nat} (hs : srd (x :: y :: l)) (hp : List.Perm (pmap f (r + 2)) (x :: y :: l)) (p1 : List.Perm (pmap f1 (r + 2)) (pmap f (r + 2))) (m1 : ∀ j, j ≤ r + 1 → f1 (r + 1) ≤ f1 j) (p2 : List.Perm (pmap f2 (r + 1)) (pmap f1 (r + 1))) (m2 : ∀ j, j ≤ r → f2 r ≤ f2 j) (e2 : ∀ j, r < j → f2 j = f1 j) : f2 (r + 1) = x ∧ f2 r = y ∧ List.Perm (pmap f2 r) l := by
  have q := p1.trans hp
  have ex : f1 (r + 1) = x := srd_min hs q (pmap_mem (by omega)) (fun z hz => by
    obtain ⟨j, j1, j2⟩ := List.mem_map.mp hz
    rw [← j2]; exact m1 j (by have := List.mem_range.mp j1; omega))
  have q1 : List.Perm (x :: pmap f1 (r + 1)) (x :: y :: l) := by
    rw [pmap_1, ex] at q
    exact (List.perm_append_singleton _ _).symm.trans q
  have q2 := p2.trans (List.Perm.cons_inv q1)
  have ey : f2 r = y := srd_min (List.pairwise_cons.mp hs).2 q2 (pmap_mem (by omega)) (fun z hz => by
    obtain ⟨j, j1, j2⟩ := List.mem_map.mp hz
    rw [← j2]; exact m2 j (by have := List.mem_range.mp j1; omega))
  refine ⟨by rw [e2 _ (by omega), ex], ey, ?_⟩
  rw [pmap_1, ey] at q2
  exact List.Perm.cons_inv ((List.perm_append_singleton _ _).symm.trans q2)
