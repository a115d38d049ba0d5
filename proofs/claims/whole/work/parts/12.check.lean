/-! what a program decides of a method's instructions -/
def qm_len (e : qm_I) : Nat := match e.2.1 with
  | .bipush _ | .iload _ | .lload _ | .aload _ | .istore _ | .lstore _ | .astore _ | .ldc _ | .newarray _ => 2
  | .sipush _ | .ldc_w _ | .ldc2_w _ | .iinc _ _ | .ifCond _ _ | .if_icmp _ _ | .ifnull _ | .ifnonnull _ | .goto _ | .getfield _ | .putfield _ | .getstatic _ | .new _ | .anewarray _ | .invokestatic _ | .invokevirtual _ | .invokespecial _ | .checkcast _ => 3
  | .tableswitch _ _ _ _ => e.2.2.2.1.1.toNatClampNeg
  | _ => 1
def qm_hs (k : Cond) (w : Nat) : Bool := decide (lw_tbl[w]? = some k) && goodWord k
def qm_hn (k : Cond) (w : Nat) : Bool := decide (lw_tbl[w]? = some k)
theorem qm_hs_in {k : Cond} {w : Nat} (h : qm_hs k w = true) : k ∈ qm_tb := by
  unfold qm_hs at h
  rw [Bool.and_eq_true, decide_eq_true_eq] at h
  exact List.mem_filter.mpr ⟨List.mem_of_getElem? h.1, h.2⟩
theorem qm_hn_in {k : Cond} {w : Nat} (h : qm_hn k w = true) : k ∈ lw_tbl := List.mem_of_getElem? (of_decide_eq_true h)
def qm_clsOK (y : qm_CI) (n w2 w3 : Nat) : Bool := qm_hs (Cond.code y.1 y.2.1 y.2.2.1 y.2.2.2) w2 && (qm_hs (Cond.initialized y.1.cls) w3 && (decide (y.1.cls ≠ "java/lang/invoke/MethodHandle" ∧ y.1.cls ≠ "java/lang/invoke/VarHandle") && (decide ((parseMethodDescriptor y.1.desc).map (fun d => d.parameters.length) = some n) && decide (y.2.2.1 ≤ 22))))
def qm_jmp (M : qm_M) (pc t : Nat) (off : Int) : Bool := decide ((pc : Int) + off = (qm_pc M t : Int))
def qm_okx (M : qm_M) (e : qm_I) : Bool := match e.2.1 with
  | .iconst n => decide (Int32.ofInt n = e.2.2.2.1.1)
  | .bipush n => decide ((Int8.ofInt n).toInt32 = e.2.2.2.1.1)
  | .sipush n => decide ((Int16.ofInt n).toInt32 = e.2.2.2.1.1)
  | .lconst n => decide (Int64.ofNat (n : Nat) = e.2.2.2.1.2)
  | .iinc _ n => decide (Int32.ofInt n = e.2.2.2.1.1)
  | .ifCond _ off => qm_jmp M e.1 (e.2.2.1.headD 0) off
  | .if_icmp _ off => qm_jmp M e.1 (e.2.2.1.headD 0) off
  | .ifnull off => qm_jmp M e.1 (e.2.2.1.headD 0) off
  | .ifnonnull off => qm_jmp M e.1 (e.2.2.1.headD 0) off
  | .goto off => qm_jmp M e.1 (e.2.2.1.headD 0) off
  | .tableswitch d lo hi offs => qm_jmp M e.1 (e.2.2.1.headD 0) d && (decide (hi = lo + offs.size - 1) && (decide (offs.size = (e.2.2.1.drop 1).length) && (decide (-2147483648 ≤ lo ∧ lo + offs.size ≤ 2147483647) && (List.range offs.size).all fun j => match offs[j]?, (e.2.2.1.drop 1)[j]? with
    | some o, some t => qm_jmp M e.1 t o
    | _, _ => false)))
  | .getfield idx => match vwCl[e.2.2.1.getD 0 0]? with
    | some r => decide (e.2.2.1.getD 0 0 < 9 ∧ e.2.2.1.getD 1 0 < r.2.2 ∧ e.2.2.1.getD 2 0 = qm_ft (e.2.2.1.getD 0 0) (e.2.2.1.getD 1 0)) && qm_hs (Cond.fieldLink M.1 idx r.1 (r.2.1 (e.2.2.1.getD 1 0)).2.1 (r.2.1 (e.2.2.1.getD 1 0)).2.2.1) (e.2.2.1.getD 3 0)
    | none => false
  | .putfield idx => match vwCl[e.2.2.1.getD 0 0]? with
    | some r => decide (e.2.2.1.getD 0 0 < 9 ∧ e.2.2.1.getD 1 0 < r.2.2 ∧ e.2.2.1.getD 2 0 = qm_ft (e.2.2.1.getD 0 0) (e.2.2.1.getD 1 0)) && (qm_hs (Cond.fieldLink M.1 idx r.1 (r.2.1 (e.2.2.1.getD 1 0)).2.1 (r.2.1 (e.2.2.1.getD 1 0)).2.2.1) (e.2.2.1.getD 3 0) && decide ((r.2.1 (e.2.2.1.getD 1 0)).2.2.2 = false ∨ (M.2.1.1.name = "<init>" ∧ r.1 = M.1)))
    | none => false
  | .ldc idx => qm_hs (Cond.constant M.1 idx e.2.2.2.1.1) (e.2.2.1.headD 0)
  | .ldc_w idx => qm_hs (Cond.constant M.1 idx e.2.2.2.1.1) (e.2.2.1.headD 0)
  | .ldc2_w idx => qm_hs (Cond.constantLong M.1 idx e.2.2.2.1.2) (e.2.2.1.headD 0)
  | .new idx => match vwCl[e.2.2.1.headD 0]? with
    | some r => decide (e.2.2.1.headD 0 < 9 ∧ ((qm_FT[e.2.2.1.headD 0]?).getD []).length = r.2.2) && (qm_hs (Cond.classLink M.1 idx r.1) (e.2.2.1.getD 1 0) && (qm_hs (Cond.instantiable r.1 r.2.2) (e.2.2.1.getD 2 0) && qm_hs (Cond.initialized r.1) (e.2.2.1.getD 3 0)))
    | none => false
  | .newarray a => qm_hs (Cond.arrayClass (newarray.typeOf a)) (e.2.2.1.getD 1 0) && decide ((a = .int ∧ e.2.2.1.headD 0 = 10) ∨ (a = .byte ∧ e.2.2.1.headD 0 = 9) ∨ (a = .boolean ∧ e.2.2.1.headD 0 = 11))
  | .anewarray idx => (qm_hs (Cond.classLink M.1 idx RX3) (e.2.2.1.getD 1 0) && decide (e.2.2.1.headD 0 = 12)) || ((qm_hs (Cond.classLink M.1 idx RX7) (e.2.2.1.getD 1 0) && decide (e.2.2.1.headD 0 = 13)) || (qm_hs (Cond.classLink M.1 idx RX8) (e.2.2.1.getD 1 0) && decide (e.2.2.1.headD 0 = 14)))
  | .baload => decide (e.2.2.1.headD 9 = 9 ∨ e.2.2.1.headD 9 = 11)
  | .bastore => decide (e.2.2.1.headD 9 = 9 ∨ e.2.2.1.headD 9 = 11)
  | .aaload => decide (e.2.2.1.headD 12 = 12 ∨ e.2.2.1.headD 12 = 13 ∨ e.2.2.1.headD 12 = 14)
  | .aastore => decide (e.2.2.1.headD 12 = 12 ∨ e.2.2.1.headD 12 = 13 ∨ e.2.2.1.headD 12 = 14)
  | .arraylength => decide (e.2.2.1.headD 10 = 9 ∨ e.2.2.1.headD 10 = 10 ∨ e.2.2.1.headD 10 = 11 ∨ e.2.2.1.headD 10 = 12 ∨ e.2.2.1.headD 10 = 13 ∨ e.2.2.1.headD 10 = 14)
  | .invokestatic idx => qm_clsOK e.2.2.2.2 (e.2.2.1.getD 0 0) (e.2.2.1.getD 3 0) (e.2.2.1.getD 4 0) && (qm_hs (Cond.static e.2.2.2.2.1) (e.2.2.1.getD 5 0) && (qm_hs (Cond.methodLink M.1 idx e.2.2.2.2.1) (e.2.2.1.getD 2 0) || qm_hn (Cond.methodLinkNest M.1 idx e.2.2.2.2.1 RX9) (e.2.2.1.getD 2 0)))
  | .invokevirtual idx => match vwCl[e.2.2.1.getD 1 0]? with
    | some r => decide (e.2.2.1.getD 1 0 < 9) && (qm_clsOK e.2.2.2.2 (e.2.2.1.getD 0 0) (e.2.2.1.getD 3 0) (e.2.2.1.getD 4 0) && (qm_hs (Cond.instanceMethod e.2.2.2.2.1) (e.2.2.1.getD 5 0) && (qm_hs (Cond.selects r.1 e.2.2.2.2.1 e.2.2.2.2.1) (e.2.2.1.getD 6 0) && qm_hs (Cond.methodLink M.1 idx e.2.2.2.2.1) (e.2.2.1.getD 2 0))))
    | none => false
  | .invokespecial idx => bif (e.2.2.1.getD 1 0) == 2 then qm_hs (Cond.methodLink M.1 idx Lib.objectInit) (e.2.2.1.getD 2 0) && (qm_hs (Cond.instanceMethod Lib.objectInit) (e.2.2.1.getD 3 0) && qm_hs (Cond.code Lib.objectInit ⟨#[0xb1]⟩ 1 none) (e.2.2.1.getD 4 0))
    else qm_clsOK e.2.2.2.2 (e.2.2.1.getD 0 0) (e.2.2.1.getD 3 0) (e.2.2.1.getD 4 0) && (qm_hs (Cond.instanceMethod e.2.2.2.2.1) (e.2.2.1.getD 5 0) && (decide (e.2.2.2.2.1.name = "<init>" ∧ e.2.2.2.2.2.2.2 = none) && (qm_hs (Cond.methodLink M.1 idx e.2.2.2.2.1) (e.2.2.1.getD 2 0) || qm_hn (Cond.methodLinkNest M.1 idx e.2.2.2.2.1 RX9) (e.2.2.1.getD 2 0))))
  | _ => true
def qm_tm (ins : ClassFile.Instr) : Bool := match ins with
  | .goto _ | .ireturn | .lreturn | .areturn | .return_ | .tableswitch _ _ _ _ => true
  | _ => false
def qm_ok1 (M : qm_M) (i : Nat) (e : qm_I) : Bool := decide (decode M.2.1.2.1 e.1 = .ok (e.2.1, qm_len e)) && ((qm_tm e.2.1 || decide (qm_pc M (i + 1) = e.1 + qm_len e)) && ((e.2.2.1.isEmpty && qm_lk e.2.1) || qm_okx M e))
def qm_okl (M : qm_M) : Nat → List qm_I → Bool
  | _, [] => true
  | i, e :: es => qm_ok1 M i e && qm_okl M (i + 1) es
/-- all that is decided of a method -/
def qm_okM (M : qm_M) : Bool := qm_okl M 0 M.2.2 && (plainName M.2.1.1.cls && (decide (M.1 = M.2.1.1.cls) && decide (qm_pc M 0 = 0)))
theorem qm_okl_at (M : qm_M) : ∀ (es : List qm_I) (k i : Nat) (e : qm_I), qm_okl M k es = true → es[i]? = some e → qm_ok1 M (k + i) e = true
  | [], k, i, e, _, h => by simp at h
  | x :: es, k, i, e, h, he => by
    rw [qm_okl, Bool.and_eq_true] at h
    cases i with
    | zero => simp at he; subst he; exact h.1
    | succ i =>
      have := qm_okl_at M es (k + 1) i e h.2 (by simpa using he)
      rw [show k + (i + 1) = k + 1 + i by omega]
      exact this
theorem qm_okM_at {M : qm_M} (h : qm_okM M = true) {i : Nat} {e : qm_I} (he : M.2.2[i]? = some e) : decode M.2.1.2.1 (qm_pc M i) = .ok (e.2.1, qm_len e) ∧ (qm_tm e.2.1 = true ∨ qm_pc M (i + 1) = qm_pc M i + qm_len e) ∧ ((e.2.2.1.isEmpty && qm_lk e.2.1) = true ∨ qm_okx M e = true) ∧ e.1 = qm_pc M i := by
  unfold qm_okM at h
  rw [Bool.and_eq_true] at h
  have h1 := qm_okl_at M M.2.2 0 i e h.1 he
  rw [Nat.zero_add] at h1
  unfold qm_ok1 at h1
  rw [Bool.and_eq_true, Bool.and_eq_true, decide_eq_true_eq, Bool.or_eq_true, decide_eq_true_eq, Bool.or_eq_true] at h1
  have e1 : qm_pc M i = e.1 := by unfold qm_pc; rw [he]
  rw [e1]
  exact ⟨h1.1, h1.2.1, h1.2.2, rfl⟩
