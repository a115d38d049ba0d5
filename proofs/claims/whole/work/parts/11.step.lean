/-! one instruction of the pure machine -/
def qm_p1 (st : List Value) (k : Int32 → List Value → Prop) : Prop := match st with
  | .int x :: r => k x r
  | _ => False
def qm_p2 (st : List Value) (k : Int32 → Int32 → List Value → Prop) : Prop := match st with
  | .int y :: .int x :: r => k x y r
  | _ => False
def qm_q1 (st : List Value) (k : Int64 → List Value → Prop) : Prop := match st with
  | .long x :: r => k x r
  | _ => False
def qm_q2 (st : List Value) (k : Int64 → Int64 → List Value → Prop) : Prop := match st with
  | .long y :: .long x :: r => k x y r
  | _ => False
def qm_qi (st : List Value) (k : Int64 → Int32 → List Value → Prop) : Prop := match st with
  | .int y :: .long x :: r => k x y r
  | _ => False
def qm_pr (st : List Value) (k : Nat → List Value → Prop) : Prop := match st with
  | .ref p :: r => k p r
  | _ => False
def qm_pa (st : List Value) (k : Nat → Int32 → List Value → Prop) : Prop := match st with
  | .int i :: .ref p :: r => k p i r
  | _ => False
def qm_ps (st : List Value) (k : Nat → Int32 → Int32 → List Value → Prop) : Prop := match st with
  | .int x :: .int i :: .ref p :: r => k p i x r
  | _ => False
def qm_pq (st : List Value) (k : Nat → Int32 → Nat → List Value → Prop) : Prop := match st with
  | .ref v :: .int i :: .ref p :: r => k p i v r
  | _ => False
def qm_fi (st : List Value) (k : Nat → Int32 → List Value → Prop) : Prop := match st with
  | .int x :: .ref p :: r => k p x r
  | _ => False
def qm_fl (st : List Value) (k : Nat → Int64 → List Value → Prop) : Prop := match st with
  | .long x :: .ref p :: r => k p x r
  | _ => False
def qm_fr (st : List Value) (k : Nat → Option Nat → List Value → Prop) : Prop := match st with
  | .ref v :: .ref p :: r => k p (some v) r
  | .null :: .ref p :: r => k p none r
  | _ => False
def qm_nl (st : List Value) (k0 k1 : List Value → Prop) : Prop := match st with
  | .null :: r => k0 r
  | .ref _ :: r => k1 r
  | _ => False
def qm_d1 (st : List Value) (k : Value → List Value → Prop) : Prop := match st with
  | .int x :: r => k (.int x) r
  | .ref x :: r => k (.ref x) r
  | .null :: r => k .null r
  | _ => False
def qm_d2 (st : List Value) (k : Value → Value → List Value → Prop) : Prop := match st with
  | .int y :: .ref x :: r => k (.int y) (.ref x) r
  | .int y :: .int x :: r => k (.int y) (.int x) r
  | _ => False
def qm_lc (L : qm_L) (i : Nat) (k : Value → Prop) : Prop := match L[i]? with
  | some (some v) => k v
  | _ => False
def qm_li (v : Value) (k : Int32 → Prop) : Prop := match v with
  | .int x => k x
  | _ => False
def qm_ll (v : Value) (k : Int64 → Prop) : Prop := match v with
  | .long x => k x
  | _ => False
def qm_la (v : Value) (k : Prop) : Prop := match v with
  | .ref _ => k
  | .null => k
  | _ => False
def qm_pop : Nat → List Value → List Value → Option (List Value × List Value)
  | 0, acc, st => some (acc, st)
  | n + 1, acc, v :: st => qm_pop n (v :: acc) st
  | _ + 1, _, [] => none
def qm_cs (n : Nat) (st : List Value) (k : List Value → List Value → Prop) : Prop := match qm_pop n [] st with
  | some (as, r) => bif Nat.ble ((r.map fun v => v.category).sum) 8 then k as r else False
  | none => False
def qm_c1 (as : List Value) (k : Nat → List Value → Prop) : Prop := match as with
  | .ref p :: as' => k p as'
  | _ => False
/-- the cases of a switch -/
def qm_sw (x : Int32) (k : Nat → Prop) : Int → List Nat → Prop
  | _, [] => True
  | lo, t :: ts => (x = Int32.ofInt lo → k t) ∧ qm_sw x k (lo + 1) ts
/-- what a method of this type may return -/
def qm_rn (ty : Option FieldType) (x : Int32) : Prop := match ty with
  | some .int => True
  | some .boolean => x &&& 1 = x
  | _ => False
def qm_bz (ci k : Nat) (x : Int32) : Prop := match (vwCl[ci]?).map (fun r => qm_pt r k) with
  | some .boolean => x = 0 ∨ x = 1
  | _ => True
section Pop
theorem qm_p1e {st : List Value} {k : Int32 → List Value → Prop} (h : qm_p1 st k) : ∃ x r, st = .int x :: r ∧ k x r := by
  unfold qm_p1 at h; split at h
  · exact ⟨_, _, rfl, h⟩
  · exact h.elim
theorem qm_p2e {st : List Value} {k : Int32 → Int32 → List Value → Prop} (h : qm_p2 st k) : ∃ x y r, st = .int y :: .int x :: r ∧ k x y r := by
  unfold qm_p2 at h; split at h
  · exact ⟨_, _, _, rfl, h⟩
  · exact h.elim
theorem qm_q1e {st : List Value} {k : Int64 → List Value → Prop} (h : qm_q1 st k) : ∃ x r, st = .long x :: r ∧ k x r := by
  unfold qm_q1 at h; split at h
  · exact ⟨_, _, rfl, h⟩
  · exact h.elim
theorem qm_q2e {st : List Value} {k : Int64 → Int64 → List Value → Prop} (h : qm_q2 st k) : ∃ x y r, st = .long y :: .long x :: r ∧ k x y r := by
  unfold qm_q2 at h; split at h
  · exact ⟨_, _, _, rfl, h⟩
  · exact h.elim
theorem qm_qie {st : List Value} {k : Int64 → Int32 → List Value → Prop} (h : qm_qi st k) : ∃ x y r, st = .int y :: .long x :: r ∧ k x y r := by
  unfold qm_qi at h; split at h
  · exact ⟨_, _, _, rfl, h⟩
  · exact h.elim
theorem qm_pre_ {st : List Value} {k : Nat → List Value → Prop} (h : qm_pr st k) : ∃ p r, st = .ref p :: r ∧ k p r := by
  unfold qm_pr at h; split at h
  · exact ⟨_, _, rfl, h⟩
  · exact h.elim
theorem qm_pae {st : List Value} {k : Nat → Int32 → List Value → Prop} (h : qm_pa st k) : ∃ p i r, st = .int i :: .ref p :: r ∧ k p i r := by
  unfold qm_pa at h; split at h
  · exact ⟨_, _, _, rfl, h⟩
  · exact h.elim
theorem qm_pse {st : List Value} {k : Nat → Int32 → Int32 → List Value → Prop} (h : qm_ps st k) : ∃ p i x r, st = .int x :: .int i :: .ref p :: r ∧ k p i x r := by
  unfold qm_ps at h; split at h
  · exact ⟨_, _, _, _, rfl, h⟩
  · exact h.elim
theorem qm_pqe {st : List Value} {k : Nat → Int32 → Nat → List Value → Prop} (h : qm_pq st k) : ∃ p i v r, st = .ref v :: .int i :: .ref p :: r ∧ k p i v r := by
  unfold qm_pq at h; split at h
  · exact ⟨_, _, _, _, rfl, h⟩
  · exact h.elim
theorem qm_fie {st : List Value} {k : Nat → Int32 → List Value → Prop} (h : qm_fi st k) : ∃ p x r, st = .int x :: .ref p :: r ∧ k p x r := by
  unfold qm_fi at h; split at h
  · exact ⟨_, _, _, rfl, h⟩
  · exact h.elim
theorem qm_fle {st : List Value} {k : Nat → Int64 → List Value → Prop} (h : qm_fl st k) : ∃ p x r, st = .long x :: .ref p :: r ∧ k p x r := by
  unfold qm_fl at h; split at h
  · exact ⟨_, _, _, rfl, h⟩
  · exact h.elim
theorem qm_fre {st : List Value} {k : Nat → Option Nat → List Value → Prop} (h : qm_fr st k) : ∃ p o r, st = va_rf o :: .ref p :: r ∧ k p o r := by
  unfold qm_fr at h; split at h
  · exact ⟨_, some _, _, rfl, h⟩
  · exact ⟨_, none, _, rfl, h⟩
  · exact h.elim
theorem qm_nle {st : List Value} {k0 k1 : List Value → Prop} (h : qm_nl st k0 k1) : (∃ r, st = .null :: r ∧ k0 r) ∨ ∃ p r, st = .ref p :: r ∧ k1 r := by
  unfold qm_nl at h; split at h
  · exact Or.inl ⟨_, rfl, h⟩
  · exact Or.inr ⟨_, _, rfl, h⟩
  · exact h.elim
theorem qm_d1e {st : List Value} {k : Value → List Value → Prop} (h : qm_d1 st k) : ∃ v r, st = v :: r ∧ v.category = 1 ∧ k v r := by
  unfold qm_d1 at h; split at h
  · exact ⟨_, _, rfl, rfl, h⟩
  · exact ⟨_, _, rfl, rfl, h⟩
  · exact ⟨_, _, rfl, rfl, h⟩
  · exact h.elim
theorem qm_d2e {st : List Value} {k : Value → Value → List Value → Prop} (h : qm_d2 st k) : ∃ v w r, st = v :: w :: r ∧ v.category = 1 ∧ w.category = 1 ∧ k v w r := by
  unfold qm_d2 at h; split at h
  · exact ⟨_, _, _, rfl, rfl, rfl, h⟩
  · exact ⟨_, _, _, rfl, rfl, rfl, h⟩
  · exact h.elim
theorem qm_lce {L : qm_L} {i : Nat} {k : Value → Prop} (h : qm_lc L i k) : ∃ v, L[i]? = some (some v) ∧ k v := by
  unfold qm_lc at h; split at h
  · exact ⟨_, by assumption, h⟩
  · exact h.elim
theorem qm_lie {v : Value} {k : Int32 → Prop} (h : qm_li v k) : ∃ x, v = .int x ∧ k x := by
  unfold qm_li at h; split at h
  · exact ⟨_, rfl, h⟩
  · exact h.elim
theorem qm_lle {v : Value} {k : Int64 → Prop} (h : qm_ll v k) : ∃ x, v = .long x ∧ k x := by
  unfold qm_ll at h; split at h
  · exact ⟨_, rfl, h⟩
  · exact h.elim
theorem qm_lae {v : Value} {k : Prop} (h : qm_la v k) : ((∃ p, v = .ref p) ∨ v = .null) ∧ k := by
  unfold qm_la at h; split at h
  · exact ⟨Or.inl ⟨_, rfl⟩, h⟩
  · exact ⟨Or.inr rfl, h⟩
  · exact h.elim
theorem qm_pop_e : ∀ (n : Nat) (acc st : List Value) {as r : List Value}, qm_pop n acc st = some (as, r) → ∃ t, as = t ++ acc ∧ st = t.reverse ++ r ∧ t.length = n
  | 0, acc, st, as, r, h => by
    simp only [qm_pop, Option.some.injEq, Prod.mk.injEq] at h
    exact ⟨[], h.1.symm, h.2, rfl⟩
  | n + 1, acc, v :: st, as, r, h => by
    obtain ⟨t, e1, e2, e3⟩ := qm_pop_e n (v :: acc) st h
    exact ⟨t ++ [v], by simp [e1], by simp [e2], by simp [e3]⟩
  | n + 1, acc, [], as, r, h => by cases h
theorem qm_cse {n : Nat} {st : List Value} {k : List Value → List Value → Prop} (h : qm_cs n st k) : ∃ as r, st = as.reverse ++ r ∧ as.length = n ∧ (r.map fun v => v.category).sum ≤ 8 ∧ k as r := by
  unfold qm_cs at h
  split at h
  · rename_i as r e
    obtain ⟨t, e1, e2, e3⟩ := qm_pop_e n [] st e
    rw [List.append_nil] at e1
    subst e1
    cases hb : Nat.ble ((r.map fun v => v.category).sum) 8 with
    | true => rw [hb] at h; exact ⟨_, _, e2, e3, Nat.le_of_ble_eq_true hb, h⟩
    | false => rw [hb] at h; exact h.elim
  · exact h.elim
theorem qm_c1e {as : List Value} {k : Nat → List Value → Prop} (h : qm_c1 as k) : ∃ p as', as = .ref p :: as' ∧ k p as' := by
  unfold qm_c1 at h; split at h
  · exact ⟨_, _, rfl, h⟩
  · exact h.elim
end Pop
/-- instructions that stand on words or kinds: with none given the walk stops there -/
def qm_lk (ins : ClassFile.Instr) : Bool := match ins with
  | .ldc _ | .ldc_w _ | .ldc2_w _ | .getfield _ | .putfield _ | .getstatic _ | .new _ | .newarray _ | .anewarray _ | .invokestatic _ | .invokevirtual _ | .invokespecial _ | .arraylength | .iaload | .laload | .baload | .bastore | .aaload | .aastore | .checkcast _ => true
  | _ => false
/-- WHAT THE i-TH INSTRUCTION ASKS, so that the walk goes on -/
def qm_step1 (G : qm_G) (b : Bool) (M : qm_M) (d C S : Nat) (uQ : Option Value → qm_H → Prop) (go : Nat → Nat → Nat → qm_L → List Value → qm_H → Prop) (i c s : Nat) (L : qm_L) (st : List Value) (h : qm_H) (e : qm_I) : Prop := match e.2.1 with
  | .iconst _ => go (i + 1) c s L (.int e.2.2.2.1.1 :: st) h
  | .bipush _ => go (i + 1) c s L (.int e.2.2.2.1.1 :: st) h
  | .sipush _ => go (i + 1) c s L (.int e.2.2.2.1.1 :: st) h
  | .lconst _ => go (i + 1) c s L (.long e.2.2.2.1.2 :: st) h
  | .ldc _ => go (i + 1) c s L (.int e.2.2.2.1.1 :: st) h
  | .ldc_w _ => go (i + 1) c s L (.int e.2.2.2.1.1 :: st) h
  | .ldc2_w _ => go (i + 1) c s L (.long e.2.2.2.1.2 :: st) h
  | .aconst_null => go (i + 1) c s L (.null :: st) h
  | .iload k => qm_lc L k fun v => qm_li v fun x => go (i + 1) c s L (.int x :: st) h
  | .iload_n k => qm_lc L (k : Nat) fun v => qm_li v fun x => go (i + 1) c s L (.int x :: st) h
  | .lload k => qm_lc L k fun v => qm_ll v fun x => go (i + 1) c s L (.long x :: st) h
  | .lload_n k => qm_lc L (k : Nat) fun v => qm_ll v fun x => go (i + 1) c s L (.long x :: st) h
  | .aload k => qm_lc L k fun v => qm_la v (go (i + 1) c s L (v :: st) h)
  | .aload_n k => qm_lc L (k : Nat) fun v => qm_la v (go (i + 1) c s L (v :: st) h)
  | .istore k => bif Nat.blt k M.2.1.2.2.1 then qm_p1 st fun x r => go (i + 1) c s (qm_s1 L k (.int x)) r h else False
  | .istore_n k => bif Nat.blt (k : Nat) M.2.1.2.2.1 then qm_p1 st fun x r => go (i + 1) c s (qm_s1 L (k : Nat) (.int x)) r h else False
  | .lstore k => bif Nat.blt (k + 1) M.2.1.2.2.1 then qm_q1 st fun x r => go (i + 1) c s (qm_s2 L k (.long x)) r h else False
  | .lstore_n k => bif Nat.blt ((k : Nat) + 1) M.2.1.2.2.1 then qm_q1 st fun x r => go (i + 1) c s (qm_s2 L (k : Nat) (.long x)) r h else False
  | .astore k => bif Nat.blt k M.2.1.2.2.1 then qm_nl st (fun r => go (i + 1) c s (qm_s1 L k .null) r h) (fun r => qm_pr st fun p _ => go (i + 1) c s (qm_s1 L k (.ref p)) r h) else False
  | .astore_n k => bif Nat.blt (k : Nat) M.2.1.2.2.1 then qm_nl st (fun r => go (i + 1) c s (qm_s1 L (k : Nat) .null) r h) (fun r => qm_pr st fun p _ => go (i + 1) c s (qm_s1 L (k : Nat) (.ref p)) r h) else False
  | .iinc k _ => bif Nat.blt k M.2.1.2.2.1 then qm_lc L k fun v => qm_li v fun x => go (i + 1) c s (qm_s1 L k (.int (x + e.2.2.2.1.1))) st h else False
  | .iadd => qm_p2 st fun x y r => go (i + 1) c s L (.int (x + y) :: r) h
  | .isub => qm_p2 st fun x y r => go (i + 1) c s L (.int (x - y) :: r) h
  | .imul => qm_p2 st fun x y r => go (i + 1) c s L (.int (x * y) :: r) h
  | .iand => qm_p2 st fun x y r => go (i + 1) c s L (.int (x &&& y) :: r) h
  | .ior => qm_p2 st fun x y r => go (i + 1) c s L (.int (x ||| y) :: r) h
  | .ixor => qm_p2 st fun x y r => go (i + 1) c s L (.int (x ^^^ y) :: r) h
  | .ishl => qm_p2 st fun x y r => go (i + 1) c s L (.int (x <<< (y &&& 31)) :: r) h
  | .ishr => qm_p2 st fun x y r => go (i + 1) c s L (.int (x >>> (y &&& 31)) :: r) h
  | .iushr => qm_p2 st fun x y r => go (i + 1) c s L (.int (x.toUInt32 >>> (y.toUInt32 &&& Int32.toUInt32 31)).toInt32 :: r) h
  | .idiv => qm_p2 st fun x y r => ¬ y = 0 ∧ go (i + 1) c s L (.int (x / y) :: r) h
  | .irem => qm_p2 st fun x y r => ¬ y = 0 ∧ go (i + 1) c s L (.int (x - x / y * y) :: r) h
  | .ineg => qm_p1 st fun x r => go (i + 1) c s L (.int (-x) :: r) h
  | .i2l => qm_p1 st fun x r => go (i + 1) c s L (.long x.toInt64 :: r) h
  | .l2i => qm_q1 st fun x r => go (i + 1) c s L (.int x.toInt32 :: r) h
  | .i2b => qm_p1 st fun x r => go (i + 1) c s L (.int x.toInt8.toInt32 :: r) h
  | .ladd => qm_q2 st fun x y r => go (i + 1) c s L (.long (x + y) :: r) h
  | .lsub => qm_q2 st fun x y r => go (i + 1) c s L (.long (x - y) :: r) h
  | .lmul => qm_q2 st fun x y r => go (i + 1) c s L (.long (x * y) :: r) h
  | .land => qm_q2 st fun x y r => go (i + 1) c s L (.long (x &&& y) :: r) h
  | .lor => qm_q2 st fun x y r => go (i + 1) c s L (.long (x ||| y) :: r) h
  | .lxor => qm_q2 st fun x y r => go (i + 1) c s L (.long (x ^^^ y) :: r) h
  | .ldiv => qm_q2 st fun x y r => ¬ y = 0 ∧ go (i + 1) c s L (.long (x / y) :: r) h
  | .lrem => qm_q2 st fun x y r => ¬ y = 0 ∧ go (i + 1) c s L (.long (x - x / y * y) :: r) h
  | .lushr => qm_qi st fun x y r => go (i + 1) c s L (.long (x.toUInt64 >>> (y.toInt64.toUInt64 &&& Int64.toUInt64 63)).toInt64 :: r) h
  | .lshl => qm_qi st fun x y r => go (i + 1) c s L (.long (x <<< (y.toInt64 &&& 63)) :: r) h
  | .lshr => qm_qi st fun x y r => go (i + 1) c s L (.long (x >>> (y.toInt64 &&& 63)) :: r) h
  | .lcmp => qm_q2 st fun x y r => go (i + 1) c s L (.int (lg_cmp x y) :: r) h
  | .dup => qm_d1 st fun v r => go (i + 1) c s L (v :: v :: r) h
  | .pop => qm_d1 st fun _ r => go (i + 1) c s L r h
  | .dup2 => qm_d2 st fun v w r => go (i + 1) c s L (v :: w :: v :: w :: r) h
  | .ifCond .eq _ => qm_p1 st fun x r => (x = 0 → go (e.2.2.1.headD 0) c s L r h) ∧ (¬ x = 0 → go (i + 1) c s L r h)
  | .ifCond .ne _ => qm_p1 st fun x r => (¬ x = 0 → go (e.2.2.1.headD 0) c s L r h) ∧ (x = 0 → go (i + 1) c s L r h)
  | .ifCond .lt _ => qm_p1 st fun x r => (x < 0 → go (e.2.2.1.headD 0) c s L r h) ∧ (¬ x < 0 → go (i + 1) c s L r h)
  | .ifCond .ge _ => qm_p1 st fun x r => (0 ≤ x → go (e.2.2.1.headD 0) c s L r h) ∧ (¬ 0 ≤ x → go (i + 1) c s L r h)
  | .ifCond .gt _ => qm_p1 st fun x r => (0 < x → go (e.2.2.1.headD 0) c s L r h) ∧ (¬ 0 < x → go (i + 1) c s L r h)
  | .ifCond .le _ => qm_p1 st fun x r => (x ≤ 0 → go (e.2.2.1.headD 0) c s L r h) ∧ (¬ x ≤ 0 → go (i + 1) c s L r h)
  | .if_icmp .eq _ => qm_p2 st fun x y r => (x = y → go (e.2.2.1.headD 0) c s L r h) ∧ (¬ x = y → go (i + 1) c s L r h)
  | .if_icmp .ne _ => qm_p2 st fun x y r => (¬ x = y → go (e.2.2.1.headD 0) c s L r h) ∧ (x = y → go (i + 1) c s L r h)
  | .if_icmp .lt _ => qm_p2 st fun x y r => (x < y → go (e.2.2.1.headD 0) c s L r h) ∧ (¬ x < y → go (i + 1) c s L r h)
  | .if_icmp .ge _ => qm_p2 st fun x y r => (y ≤ x → go (e.2.2.1.headD 0) c s L r h) ∧ (¬ y ≤ x → go (i + 1) c s L r h)
  | .if_icmp .gt _ => qm_p2 st fun x y r => (y < x → go (e.2.2.1.headD 0) c s L r h) ∧ (¬ y < x → go (i + 1) c s L r h)
  | .if_icmp .le _ => qm_p2 st fun x y r => (x ≤ y → go (e.2.2.1.headD 0) c s L r h) ∧ (¬ x ≤ y → go (i + 1) c s L r h)
  | .ifnull _ => qm_nl st (fun r => go (e.2.2.1.headD 0) c s L r h) (fun r => go (i + 1) c s L r h)
  | .ifnonnull _ => qm_nl st (fun r => go (i + 1) c s L r h) (fun r => go (e.2.2.1.headD 0) c s L r h)
  | .goto _ => go (e.2.2.1.headD 0) c s L st h
  | .tableswitch _ lo _ _ => qm_p1 st fun x r => qm_sw x (fun t => go t c s L r h) lo (e.2.2.1.drop 1) ∧ ((x.toInt < lo ∨ lo + (e.2.2.1.drop 1).length ≤ x.toInt) → go (e.2.2.1.headD 0) c s L r h)
  | .getfield _ => qm_pr st fun p r => qm_is b h p (e.2.2.1.getD 0 0) ∧ (match e.2.2.1.getD 2 0 with
    | 0 => go (i + 1) c s L (.int (h.1 p (e.2.2.1.getD 1 0)) :: r) h
    | 1 => go (i + 1) c s L (.long (h.2.1 p (e.2.2.1.getD 1 0)) :: r) h
    | _ => ∃ o, qm_rd b h p (e.2.2.1.getD 1 0) = o ∧ go (i + 1) c s L (va_rf o :: r) h)
  | .putfield _ => match e.2.2.1.getD 2 0 with
    | 0 => qm_fi st fun p x r => qm_is b h p (e.2.2.1.getD 0 0) ∧ qm_bz (e.2.2.1.getD 0 0) (e.2.2.1.getD 1 0) x ∧ go (i + 1) c s L r (qm_si h p (e.2.2.1.getD 1 0) x)
    | 1 => qm_fl st fun p x r => qm_is b h p (e.2.2.1.getD 0 0) ∧ go (i + 1) c s L r (qm_sl h p (e.2.2.1.getD 1 0) x)
    | _ => qm_fr st fun p o r => qm_is b h p (e.2.2.1.getD 0 0) ∧ qm_wr b p (e.2.2.1.getD 1 0) o ∧ go (i + 1) c s L r (qm_sr h p (e.2.2.1.getD 1 0) o)
  | .iaload => qm_pa st fun p j r => qm_is b h p 10 ∧ vp_in j (qm_kn b h p).2 ∧ go (i + 1) c s L (.int (h.1 p j.toNatClampNeg) :: r) h
  | .baload => qm_pa st fun p j r => qm_is b h p (e.2.2.1.headD 9) ∧ vp_in j (qm_kn b h p).2 ∧ go (i + 1) c s L (.int (h.1 p j.toNatClampNeg) :: r) h
  | .aaload => qm_pa st fun p j r => qm_is b h p (e.2.2.1.headD 12) ∧ vp_in j (qm_kn b h p).2 ∧ ∃ o, qm_rd b h p j.toNatClampNeg = o ∧ go (i + 1) c s L (va_rf o :: r) h
  | .arraylength => qm_pr st fun p r => qm_is b h p (e.2.2.1.headD 10) ∧ go (i + 1) c s L (.int (Int32.ofNat (qm_kn b h p).2) :: r) h
  | .iastore => qm_ps st fun p j x r => qm_is b h p 10 ∧ vp_in j (qm_kn b h p).2 ∧ go (i + 1) c s L r (qm_si h p j.toNatClampNeg x)
  | .bastore => qm_ps st fun p j x r => qm_is b h p (e.2.2.1.headD 9) ∧ vp_in j (qm_kn b h p).2 ∧ go (i + 1) c s L r (qm_si h p j.toNatClampNeg (bif (e.2.2.1.headD 9) == 9 then x.toInt8.toInt32 else x &&& 1))
  | .aastore => qm_pq st fun p j v r => qm_is b h p (e.2.2.1.headD 12) ∧ qm_is b h v (qm_ec (e.2.2.1.headD 12)) ∧ vp_in j (qm_kn b h p).2 ∧ qm_wr b p j.toNatClampNeg (some v) ∧ go (i + 1) c s L r (qm_sr h p j.toNatClampNeg (some v))
  | .new _ => h.2.2.2.2 < 1000000 ∧ c + 1 ≤ C ∧ s + ((qm_FT[e.2.2.1.headD 0]?).getD []).length ≤ S ∧ go (i + 1) (c + 1) (s + ((qm_FT[e.2.2.1.headD 0]?).getD []).length) L (.ref h.2.2.2.2 :: st) (qm_nw h (e.2.2.1.headD 0) 0)
  | .newarray _ => qm_p1 st fun n r => ¬ n < 0 ∧ n.toNatClampNeg ≤ 100000 ∧ h.2.2.2.2 < 1000000 ∧ c + 1 ≤ C ∧ s + n.toNatClampNeg ≤ S ∧ go (i + 1) (c + 1) (s + n.toNatClampNeg) L (.ref h.2.2.2.2 :: r) (qm_nw h (e.2.2.1.headD 0) n.toNatClampNeg)
  | .anewarray _ => qm_p1 st fun n r => ¬ n < 0 ∧ n.toNatClampNeg ≤ 100000 ∧ h.2.2.2.2 < 1000000 ∧ c + 1 ≤ C ∧ s + n.toNatClampNeg ≤ S ∧ go (i + 1) (c + 1) (s + n.toNatClampNeg) L (.ref h.2.2.2.2 :: r) (qm_nw h (e.2.2.1.headD 0) n.toNatClampNeg)
  | .invokestatic _ => qm_cs (e.2.2.1.getD 0 0) st fun as r => match d with
    | 0 => False
    | d' + 1 => ∃ C1 S1 Q1, qm_Ev G d' C1 S1 e.2.2.2.2 as h Q1 ∧ (c + C1 ≤ C ∧ s + S1 ≤ S) ∧ ∀ v h', Q1 v h' → go (i + 1) (c + C1) (s + S1) L (v.toList ++ r) h'
  | .invokevirtual _ => qm_cs (e.2.2.1.getD 0 0 + 1) st fun as r => qm_c1 as fun p _ => qm_is b h p (e.2.2.1.getD 1 0) ∧ match d with
    | 0 => False
    | d' + 1 => ∃ C1 S1 Q1, qm_Ev G d' C1 S1 e.2.2.2.2 as h Q1 ∧ (c + C1 ≤ C ∧ s + S1 ≤ S) ∧ ∀ v h', Q1 v h' → go (i + 1) (c + C1) (s + S1) L (v.toList ++ r) h'
  | .invokespecial _ => bif (e.2.2.1.getD 1 0) == 2 then qm_pr st fun _ r => bif Nat.ble ((r.map fun v => v.category).sum) 8 then (match d with
      | 0 => False
      | _ + 1 => go (i + 1) c s L r h) else False
    else qm_cs (e.2.2.1.getD 0 0 + 1) st fun as r => qm_c1 as fun _ _ => match d with
    | 0 => False
    | d' + 1 => ∃ C1 S1 Q1, qm_Ev G d' C1 S1 e.2.2.2.2 as h Q1 ∧ (c + C1 ≤ C ∧ s + S1 ≤ S) ∧ ∀ v h', Q1 v h' → go (i + 1) (c + C1) (s + S1) L (v.toList ++ r) h'
  | .ireturn => match st with
    | [.int x] => qm_rn M.2.1.2.2.2 x ∧ uQ (some (.int x)) h
    | _ => False
  | .lreturn => match st with
    | [.long x] => M.2.1.2.2.2 = some .long ∧ uQ (some (.long x)) h
    | _ => False
  | .areturn => match st with
    | [.ref p] => (∃ t, M.2.1.2.2.2 = some (.object t)) ∧ uQ (some (.ref p)) h
    | [.null] => (∃ t, M.2.1.2.2.2 = some (.object t)) ∧ uQ (some .null) h
    | _ => False
  | .return_ => match st with
    | [] => M.2.1.2.2.2 = none ∧ uQ none h
    | _ => False
  | _ => False
def qm_step (G : qm_G) (b : Bool) (M : qm_M) (d C S : Nat) (uQ : Option Value → qm_H → Prop) (go : Nat → Nat → Nat → qm_L → List Value → qm_H → Prop) (i c s : Nat) (L : qm_L) (st : List Value) (h : qm_H) (e : qm_I) : Prop := bif e.2.2.1.isEmpty && qm_lk e.2.1 then False else qm_step1 G b M d C S uQ go i c s L st h e
