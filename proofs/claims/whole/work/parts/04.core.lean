/-! THE PURE MACHINE: its heap by places (place p lies at the address sz0 + p), what it stands for, and the walk of it -/
abbrev qm_CI : Type := MethodName × ByteArray × Nat × Option FieldType
/-- an instruction: its pc, itself, numbers, a number, the method that it calls -/
abbrev qm_I : Type := Nat × ClassFile.Instr × List Nat × (Int32 × Int64) × qm_CI
/-- a method: the class's name, its name and code, its instructions -/
abbrev qm_M : Type := String × qm_CI × List qm_I
/-- the heap: ints, longs, references by place and slot; kind and length by place; how many places -/
abbrev qm_H : Type := (Nat → Nat → Int32) × (Nat → Nat → Int64) × (Nat → Nat → Option Nat) × (Nat → Nat × Nat) × Nat
abbrev qm_L : Type := List (Option Value)
/-- what a start fixes: classes and slots, array classes by kind, the heap's size, the addresses of the constants, constant places in force -/
abbrev qm_G : Type := va_G × (Nat → ClassId) × Nat × (Nat → Nat) × Bool
def qm_ad (G : qm_G) (p : Nat) : Nat := if p < 1000000 then G.2.2.1 + p else G.2.2.2.1 (p - 1000000)
def qm_mv (G : qm_G) : Value → Value
  | .ref p => .ref (qm_ad G p)
  | v => v
def qm_rd (b : Bool) (h : qm_H) (p k : Nat) : Option Nat := match (bif b then ((qm_SK[p]?).bind (fun r => r[k]?)).join else none) with
  | some q => some q
  | none => h.2.2.1 p k
def qm_kn (b : Bool) (h : qm_H) (p : Nat) : Nat × Nat := match (bif b then qm_SKK[p]? else none) with
  | some x => x
  | none => h.2.2.2.1 p
def qm_si (h : qm_H) (p k : Nat) (v : Int32) : qm_H := (va_up h.1 p (va_up (h.1 p) k v), h.2)
def qm_sl (h : qm_H) (p k : Nat) (v : Int64) : qm_H := (h.1, va_up h.2.1 p (va_up (h.2.1 p) k v), h.2.2)
def qm_sr (h : qm_H) (p k : Nat) (v : Option Nat) : qm_H := (h.1, h.2.1, va_up h.2.2.1 p (va_up (h.2.2.1 p) k v), h.2.2.2)
/-- a new place of a kind and length, all zero -/
def qm_nw (h : qm_H) (kd n : Nat) : qm_H := (va_up h.1 h.2.2.2.2 (fun _ => 0), va_up h.2.1 h.2.2.2.2 (fun _ => 0), va_up h.2.2.1 h.2.2.2.2 (fun _ => none), va_up h.2.2.2.1 h.2.2.2.2 (kd, n), h.2.2.2.2 + 1)
def qm_ft (ci k : Nat) : Nat := ((qm_FT[ci]?).getD []).getD k 2
def qm_et (kd : Nat) : Nat := if kd < 12 then 0 else 2
def qm_vl (G : qm_G) (h : qm_H) (p k t : Nat) : Value := match t with
  | 0 => .int (h.1 p k)
  | 1 => .long (h.2.1 p k)
  | 2 => va_rf ((qm_rd G.2.2.2.2 h p k).map (qm_ad G))
  | _ => .null
def qm_at (G : qm_G) (h : qm_H) (H : Heap) (p : Nat) : Prop :=
  if (qm_kn G.2.2.2.2 h p).1 < 9 then ∃ r : vw_C, vwCl[(qm_kn G.2.2.2.2 h p).1]? = some r ∧ t_OB (G.2.2.1 + p) (G.1.1 (qm_kn G.2.2.2.2 h p).1) r.2.2 (G.1.2 (qm_kn G.2.2.2.2 h p).1) H (fun k => qm_vl G h p k (qm_ft (qm_kn G.2.2.2.2 h p).1 k))
  else H[G.2.2.1 + p]? = some (arrV (G.2.1 (qm_kn G.2.2.2.2 h p).1) (qm_kn G.2.2.2.2 h p).2 (fun j => qm_vl G h p j (qm_et (qm_kn G.2.2.2.2 h p).1)))
def qm_Rep (G : qm_G) (h : qm_H) (H : Heap) : Prop := H.size = G.2.2.1 + h.2.2.2.2 ∧ h.2.2.2.2 ≤ 1000000 ∧ (G.2.2.2.2 = true → qm_SKK.length ≤ h.2.2.2.2) ∧ ∀ p, p < h.2.2.2.2 → qm_at G h H p
/-- the place p is of the kind kd -/
def qm_is (b : Bool) (h : qm_H) (p kd : Nat) : Prop := match (bif b then qm_SKK[p]? else none) with
  | some x => x.1 = kd
  | none => p < h.2.2.2.2 ∧ (h.2.2.2.1 p).1 = kd
/-- what may be written into a constant place -/
def qm_wr (b : Bool) (p k : Nat) (o : Option Nat) : Prop := match (bif b then ((qm_SK[p]?).bind (fun r => r[k]?)).join else none) with
  | some q => o = some q
  | none => True
theorem qm_is.kd {b : Bool} {h : qm_H} {p kd : Nat} (k : qm_is b h p kd) : (qm_kn b h p).1 = kd := by
  unfold qm_is at k
  unfold qm_kn
  cases e : (bif b then qm_SKK[p]? else none) with
  | some x => rw [e] at k; exact k
  | none => rw [e] at k; exact k.2
theorem qm_is.lt {G : qm_G} {h : qm_H} {H : Heap} {p kd : Nat} (hR : qm_Rep G h H) (k : qm_is G.2.2.2.2 h p kd) : p < h.2.2.2.2 := by
  unfold qm_is at k
  split at k
  · rename_i x e
    cases hb : G.2.2.2.2 with
    | false => rw [hb] at e; cases e
    | true =>
      rw [hb] at e
      exact Nat.lt_of_lt_of_le (List.getElem?_eq_some_iff.mp e).1 (hR.2.2.1 hb)
  · exact k.1
theorem qm_ad_lt {G : qm_G} {p : Nat} (h : p < 1000000) : qm_ad G p = G.2.2.1 + p := if_pos h
/-- the cell of a place -/
theorem qm_Rep.obj {G : qm_G} {h : qm_H} {H : Heap} {p kd : Nat} (hR : qm_Rep G h H) (k : qm_is G.2.2.2.2 h p kd) (hk : kd < 9) : qm_ad G p = G.2.2.1 + p ∧ ∃ r : vw_C, vwCl[kd]? = some r ∧ t_OB (G.2.2.1 + p) (G.1.1 kd) r.2.2 (G.1.2 kd) H (fun k => qm_vl G h p k (qm_ft kd k)) := by
  have h1 := k.lt hR
  have h2 := hR.2.2.2 p h1
  unfold qm_at at h2
  rw [k.kd, if_pos hk] at h2
  exact ⟨qm_ad_lt (Nat.lt_of_lt_of_le h1 hR.2.1), h2⟩
theorem qm_Rep.arr {G : qm_G} {h : qm_H} {H : Heap} {p kd : Nat} (hR : qm_Rep G h H) (k : qm_is G.2.2.2.2 h p kd) (hk : ¬ kd < 9) : qm_ad G p = G.2.2.1 + p ∧ H[G.2.2.1 + p]? = some (arrV (G.2.1 kd) (qm_kn G.2.2.2.2 h p).2 (fun j => qm_vl G h p j (qm_et kd))) := by
  have h1 := k.lt hR
  have h2 := hR.2.2.2 p h1
  unfold qm_at at h2
  rw [k.kd, if_neg hk] at h2
  exact ⟨qm_ad_lt (Nat.lt_of_lt_of_le h1 hR.2.1), h2⟩
/-- a write into one place: the others stay -/
theorem qm_Rep.set {G : qm_G} {h h' : qm_H} {H H1 : Heap} {p : Nat} (hR : qm_Rep G h H) (hz : h'.2.2.2.2 = h.2.2.2.2) (hk : h'.2.2.2.1 = h.2.2.2.1) (ho : ∀ q, q ≠ p → ∀ k t, qm_vl G h' q k t = qm_vl G h q k t) (hs : H1.size = H.size) (oq : ∀ q : Nat, q ≠ G.2.2.1 + p → H1[q]? = H[q]?) (hp : qm_at G h' H1 p) : qm_Rep G h' H1 := by
  refine ⟨by rw [hs, hz]; exact hR.1, by rw [hz]; exact hR.2.1, by rw [hz]; exact hR.2.2.1, fun q hq => ?_⟩
  rw [hz] at hq
  by_cases e : q = p
  · rw [e]; exact hp
  · have h2 := hR.2.2.2 q hq
    have hkn : qm_kn G.2.2.2.2 h' q = qm_kn G.2.2.2.2 h q := by unfold qm_kn; rw [hk]
    have hq1 : H1[G.2.2.1 + q]? = H[G.2.2.1 + q]? := oq _ (by omega)
    unfold qm_at at h2 ⊢
    rw [hkn]
    split
    · rename_i hc
      rw [if_pos hc] at h2
      obtain ⟨r, g1, g2⟩ := h2
      exact ⟨r, g1, (g2.kept hq1).to (fun k _ => (ho q e k _).symm)⟩
    · rename_i hc
      rw [if_neg hc] at h2
      rw [hq1, h2]
      congr 2
      funext j
      exact (ho q e j _).symm
/-- the locals that are known, by their numbers -/
def qm_al (G : qm_G) : Nat → qm_L → List (Nat × Value)
  | _, [] => []
  | i, none :: L => qm_al G (i + 1) L
  | i, some v :: L => (i, qm_mv G v) :: qm_al G (i + 1) L
theorem qm_al_mem (G : qm_G) : ∀ (L : qm_L) (i : Nat) (q : Nat × Value), q ∈ qm_al G i L ↔ ∃ j v, L[j]? = some (some v) ∧ q = (i + j, qm_mv G v)
  | [], i, q => by simp [qm_al]
  | none :: L, i, q => by
    rw [qm_al, qm_al_mem G L (i + 1) q]
    constructor
    · rintro ⟨j, v, h, e⟩
      exact ⟨j + 1, v, by simpa using h, by rw [e]; congr 1; omega⟩
    · rintro ⟨j, v, h, e⟩
      cases j with
      | zero => simp at h
      | succ j => exact ⟨j, v, by simpa using h, by rw [e]; congr 1; omega⟩
  | some w :: L, i, q => by
    rw [qm_al, List.mem_cons, qm_al_mem G L (i + 1) q]
    constructor
    · rintro (e | ⟨j, v, h, e⟩)
      · exact ⟨0, w, by simp, by rw [e]; rfl⟩
      · exact ⟨j + 1, v, by simpa using h, by rw [e]; congr 1; omega⟩
    · rintro ⟨j, v, h, e⟩
      cases j with
      | zero => left; simp at h; rw [e, h]; rfl
      | succ j => right; exact ⟨j, v, by simpa using h, by rw [e]; congr 1; omega⟩
def qm_lv (G : qm_G) (ls : Array Slot) (n : Nat) (L : qm_L) : Prop := lv_has ls n (qm_al G 0 L)
theorem qm_lv.at {G : qm_G} {ls : Array Slot} {n : Nat} {L : qm_L} (h : qm_lv G ls n L) {i : Nat} {v : Value} (hi : L[i]? = some (some v)) : ls[i]? = some (.val (qm_mv G v)) := h.2.2 (i, qm_mv G v) ((qm_al_mem G L 0 _).mpr ⟨i, v, hi, by simp⟩)
theorem qm_mv_cat (G : qm_G) (v : Value) : (qm_mv G v).category = v.category := by cases v <;> rfl
/-- a known local of two words -/
def qm_two : Option (Option Value) → Bool
  | some (some (.long _)) => true
  | some (some (.double _)) => true
  | _ => false
theorem qm_two_cat {v : Value} : qm_two (some (some v)) = (v.category == 2) := by cases v <;> rfl
/-- what is known behind a store of one word -/
def qm_s1 (L : qm_L) (i : Nat) (v : Value) : qm_L := match i with
  | 0 => L.set 0 (some v)
  | j + 1 => bif qm_two (L[j]?) then (L.set j none).set (j + 1) (some v) else L.set (j + 1) (some v)
/-- what is known behind a store of two words -/
def qm_s2 (L : qm_L) (i : Nat) (v : Value) : qm_L := (qm_s1 L i v).set (i + 1) none
theorem qm_s1_get {L : qm_L} {i : Nat} {v : Value} {j : Nat} {w : Value} (h : (qm_s1 L i v)[j]? = some (some w)) : (j = i ∧ w = v) ∨ (j ≠ i ∧ L[j]? = some (some w) ∧ ¬ (j + 1 = i ∧ w.category = 2)) := by
  have aux : ∀ (K : qm_L) (i j : Nat) (x : Option Value), (K.set i x)[j]? = some (some w) → (j = i ∧ x = some w) ∨ (j ≠ i ∧ K[j]? = some (some w)) := by
    intro K i j x h
    rw [List.getElem?_set] at h
    by_cases e : i = j
    · rw [if_pos e] at h
      left
      split at h
      · exact ⟨e.symm, by simpa using h⟩
      · cases h
    · rw [if_neg e] at h
      exact Or.inr ⟨fun q => e q.symm, h⟩
  cases i with
  | zero =>
    rcases aux _ _ _ _ h with ⟨e, e2⟩ | ⟨e, e2⟩
    · exact Or.inl ⟨e, by cases e2; rfl⟩
    · exact Or.inr ⟨e, e2, fun q => by omega⟩
  | succ i =>
    unfold qm_s1 at h
    cases ht : qm_two (L[i]?) with
    | true =>
      simp only [ht, cond_true] at h
      rcases aux _ _ _ _ h with ⟨e, e2⟩ | ⟨e, e2⟩
      · exact Or.inl ⟨e, by cases e2; rfl⟩
      · rcases aux _ _ _ _ e2 with ⟨e3, e4⟩ | ⟨e3, e4⟩
        · cases e4
        · exact Or.inr ⟨e, e4, fun q => e3 (by omega)⟩
    | false =>
      simp only [ht, cond_false] at h
      rcases aux _ _ _ _ h with ⟨e, e2⟩ | ⟨e, e2⟩
      · exact Or.inl ⟨e, by cases e2; rfl⟩
      · refine Or.inr ⟨e, e2, fun q => ?_⟩
        have e5 : j = i := by omega
        subst e5
        rw [e2, qm_two_cat, q.2] at ht
        cases ht
theorem qm_lv.s1 {G : qm_G} {ls : Array Slot} {n i : Nat} {L : qm_L} {v : Value} (h : lv_has ls n ((i, qm_mv G v) :: (qm_al G 0 L).filter (fun q => !(q.1 == i) && !(q.1 + 1 == i && q.2.category == 2)))) : qm_lv G ls n (qm_s1 L i v) := by
  refine ⟨h.1, h.2.1, fun q hq => ?_⟩
  obtain ⟨j, w, hw, rfl⟩ := (qm_al_mem G _ 0 q).mp hq
  refine h.2.2 _ ?_
  rcases qm_s1_get hw with ⟨e, e2⟩ | ⟨e, e2, e3⟩
  · subst e; subst e2; simp
  · refine List.mem_cons_of_mem _ (List.mem_filter.mpr ⟨(qm_al_mem G L 0 _).mpr ⟨j, w, e2, rfl⟩, ?_⟩)
    rw [qm_mv_cat]
    simp only [Nat.zero_add, Bool.and_eq_true, Bool.not_eq_true', beq_eq_false_iff_ne, ne_eq, Bool.and_eq_false_imp, beq_iff_eq]
    exact ⟨e, fun q q2 => e3 ⟨q, q2⟩⟩
theorem qm_lv.s2 {G : qm_G} {ls : Array Slot} {n i : Nat} {L : qm_L} {v : Value} (h : lv_has ls n ((i, qm_mv G v) :: (qm_al G 0 L).filter (fun q => !(q.1 == i) && (!(q.1 == i + 1) && !(q.1 + 1 == i && q.2.category == 2))))) : qm_lv G ls n (qm_s2 L i v) := by
  refine ⟨h.1, h.2.1, fun q hq => ?_⟩
  obtain ⟨j, w, hw, rfl⟩ := (qm_al_mem G _ 0 q).mp hq
  refine h.2.2 _ ?_
  have hw2 : j ≠ i + 1 ∧ (qm_s1 L i v)[j]? = some (some w) := by
    unfold qm_s2 at hw
    rw [List.getElem?_set] at hw
    by_cases e : i + 1 = j
    · rw [if_pos e] at hw
      split at hw <;> cases hw
    · rw [if_neg e] at hw
      exact ⟨fun q => e q.symm, hw⟩
  rcases qm_s1_get hw2.2 with ⟨e, e2⟩ | ⟨e, e2, e3⟩
  · subst e; subst e2; simp
  · refine List.mem_cons_of_mem _ (List.mem_filter.mpr ⟨(qm_al_mem G L 0 _).mpr ⟨j, w, e2, rfl⟩, ?_⟩)
    rw [qm_mv_cat]
    simp only [Nat.zero_add, Bool.and_eq_true, Bool.not_eq_true', beq_eq_false_iff_ne, ne_eq, Bool.and_eq_false_imp, beq_iff_eq]
    exact ⟨e, hw2.1, fun q q2 => e3 ⟨q, q2⟩⟩
/-- fewer known locals -/
def qm_mask : List Bool → qm_L → qm_L
  | b :: bs, x :: L => (bif b then x else none) :: qm_mask bs L
  | _, _ => []
theorem qm_mask_get : ∀ (bs : List Bool) (L : qm_L) (j : Nat) (w : Value), (qm_mask bs L)[j]? = some (some w) → L[j]? = some (some w)
  | [], L, j, w, h => by simp [qm_mask] at h
  | b :: bs, [], j, w, h => by simp [qm_mask] at h
  | b :: bs, x :: L, 0, w, h => by
    cases b <;> simp [qm_mask] at h ⊢
    exact h
  | b :: bs, x :: L, j + 1, w, h => by
    simp only [qm_mask, List.getElem?_cons_succ] at h ⊢
    exact qm_mask_get bs L j w h
theorem qm_lv.fewer {G : qm_G} {ls : Array Slot} {n : Nat} {L L' : qm_L} (h : qm_lv G ls n L) (hs : ∀ (j : Nat) (w : Value), L'[j]? = some (some w) → L[j]? = some (some w)) : qm_lv G ls n L' := by
  refine ⟨h.1, h.2.1, fun q hq => ?_⟩
  obtain ⟨j, w, hw, rfl⟩ := (qm_al_mem G _ 0 q).mp hq
  exact h.2.2 _ ((qm_al_mem G _ 0 _).mpr ⟨j, w, hs j w hw, rfl⟩)
