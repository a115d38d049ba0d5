/-! what a walk stands on: the words, the classes, the constants -/
def qm_A (G : qm_G) : Nat → Prop := fun q => G.2.2.1 ≤ q
def qm_tys (G : qm_G) : List (ClassId × FieldType) := [(G.2.1 9, .byte), (G.2.1 10, .int), (G.2.1 11, .boolean), (G.2.1 12, .object RX3), (G.2.1 13, .object RX7), (G.2.1 14, .object RX8)]
/-- the static rows of ints: FIRST_WORD, LIMIT, NUMBERS, FIRST_MOST, SECOND_MOST (by 1 to 5) -/
def qm_sti (k j : Nat) : Int32 := ((([[], [0, 5, 10, 12], [6, 40, 8], [1, 2, 2, 2, 2, 2, 2, 2, 3, 0, 1, 1], [30, 5, 5, 5, 5, 5, 5, 5, 5, 0, 5, 5], [0, 20, 5, 5, 5, 5, 5, 5, 5, 0, 0, 0]] : List (List Int32))[k]?).getD []).getD j 0
/-- HAVING -/
def qm_stl (j : Nat) : Int64 := ([-6148914691236517206, -3689348814741910324, -1085102592571150096, -71777214294589696, -281470681808896, -4294967296] : List Int64).getD j 0
/-- the static arrays: class, name, descriptor, type, length, contents -/
def qm_ST : List (String × String × String × FieldType × Nat × (Nat → Value)) := [("OneStatement", "HAVING", "[J", .long, 6, fun j => .long (qm_stl j)), ("OneStatement$Reader", "FIRST_WORD", "[I", .int, 4, fun j => .int (qm_sti 1 j)), ("OneStatement$Reader", "LIMIT", "[I", .int, 3, fun j => .int (qm_sti 2 j)), ("OneStatement$Reader", "NUMBERS", "[I", .int, 12, fun j => .int (qm_sti 3 j)), ("OneStatement$Reader", "FIRST_MOST", "[I", .int, 12, fun j => .int (qm_sti 4 j)), ("OneStatement$Reader", "SECOND_MOST", "[I", .int, 12, fun j => .int (qm_sti 5 j))]
/-- the words of the Reader: their places in the pool, texts, lengths, bytes -/
def qm_SW : List (Nat × String) := [(122, "person"), (124, "worth"), (126, "follows"), (128, "knows"), (130, "hears"), (132, "tell"), (134, "ask"), (136, "see"), (138, "sell"), (140, "eve"), (142, "asked"), (144, "told")]
def qm_SLn : List Nat := [6, 5, 7, 5, 5, 4, 3, 3, 4, 3, 5, 4]
def qm_SB : List (List Int32) := [[112, 101, 114, 115, 111, 110], [119, 111, 114, 116, 104], [102, 111, 108, 108, 111, 119, 115], [107, 110, 111, 119, 115], [104, 101, 97, 114, 115], [116, 101, 108, 108], [97, 115, 107], [115, 101, 101], [115, 101, 108, 108], [101, 118, 101], [97, 115, 107, 101, 100], [116, 111, 108, 100]]
def qm_isNest : Cond → Bool
  | .methodLinkNest .. => true
  | .fieldLinkNest .. => true
  | _ => false
def qm_KX (G : qm_G) (U : State) (H : Heap) : Prop := (∀ w ∈ lw_tbl, qm_isNest w = true → va_Nw w U) ∧ (∀ C ∈ [RX3, RX7, RX8], va_AO C U) ∧ (∀ (i : Nat) (q : String × String × String × FieldType × Nat × (Nat → Value)), qm_ST[i]? = some q → va_Z q.1 q.2.1 q.2.2.1 (.ref (G.2.2.2.1 i)) (qm_A G) U H ∧ va_T q.2.2.2.1 (G.2.2.2.1 i) q.2.2.2.2.1 q.2.2.2.2.2 (qm_A G) U H) ∧ ((∀ (i : Nat) (q : Nat × String), qm_SW[i]? = some q → vk_R RX2 q.1 q.2 (G.2.2.2.1 (6 + i)) U) ∧ vk_S 12 qm_SLn qm_SB (fun i => G.2.2.2.1 (6 + i)) (fun i => G.2.2.2.1 (18 + i)) (qm_A G) U H ∧ va_Z "java/lang/String" "COMPACT_STRINGS" "Z" (.int 1) (qm_A G) U H ∧ (va_Z "jdk/internal/util/Preconditions" "SIOOBE_FORMATTER" "Ljava/util/function/BiFunction;" .null (qm_A G) U H ∨ va_Z "jdk/internal/util/Preconditions" "SIOOBE_FORMATTER" "Ljava/util/function/BiFunction;" (.ref (G.2.2.2.1 30)) (qm_A G) U H) ∧ va_Nw (.castable "[I" "java/lang/Cloneable") U)
def qm_K (G : qm_G) (U : State) (H : Heap) : Prop := va_K G.1 vwCl (qm_tys G) U ∧ qm_KX G U H ∧ G.2.2.1 ≤ H.size
theorem qm_K.moved {G : qm_G} {s U : State} {H H1 : Heap} (hW : s.WarmedH U.vm) (hz : H.size ≤ H1.size) (hq : ∀ a : Nat, a < H.size → ¬ qm_A G a → H1[a]? = H[a]?) (h : qm_K G s H) : qm_K G U H1 := by
  obtain ⟨h1, ⟨h2, h3, h4, h7, h8, h9, h10, h11⟩, h5⟩ := h
  refine ⟨va_K.moved hW.alike h1, ⟨fun w hw hn => ?_, fun C hC => va_AO.moved hW.alike (h3 C hC), fun i q hi => ⟨va_Z.moved hW.alike ((h4 i q hi).1.kept hq), va_T.moved hW.alike ((h4 i q hi).2.kept hq)⟩, fun i q hi => vk_R.warm hW (h7 i q hi), vk_S.moved hW.alike (h8.kept hq), va_Z.moved hW.alike (h9.kept hq), h10.imp (fun q => va_Z.moved hW.alike (q.kept hq)) (fun q => va_Z.moved hW.alike (q.kept hq)), va_Nw.warmC hW h11⟩, Nat.le_trans h5 hz⟩
  have h6 := h2 w hw hn
  cases w with
  | methodLinkNest a i x h => exact va_Nw.warmM hW h6
  | fieldLinkNest a i b n d h => exact va_Nw.warmF hW h6
  | _ => cases hn
theorem qm_K.same {G : qm_G} {s U : State} {H : Heap} (hv : s.vm = U.vm) (h : qm_K G s H) : qm_K G U H := by
  obtain ⟨h1, ⟨h2, h3, h4, h7, h8, h9, h10, h11⟩, h5⟩ := h
  have ha : s.vm.Alike U.vm := by rw [hv]; exact Vm.Alike.refl _
  refine ⟨va_K.moved ha h1, ⟨fun w hw hn => ?_, fun C hC => va_AO.moved ha (h3 C hC), fun i q hi => ⟨va_Z.moved ha (h4 i q hi).1, va_T.moved ha (h4 i q hi).2⟩, fun i q hi => vk_R.same hv.symm (h7 i q hi), vk_S.moved ha h8, va_Z.moved ha h9, h10.imp (va_Z.moved ha) (va_Z.moved ha), va_Nw.same rfl hv h11⟩, h5⟩
  have h6 := h2 w hw hn
  cases w with
  | methodLinkNest a i x h => exact va_Nw.same rfl hv h6
  | fieldLinkNest a i b n d h => exact va_Nw.same rfl hv h6
  | _ => cases hn
abbrev qm_Z : Type := Program × Launch × Env × Room × State × MethodId × Array Value × List Frame × Method × Code × (State → Prop)
def qm_W (z : qm_Z) (H : Heap) (locs : List Loc) (c s : Nat) (g : JFrame) : Prop := W z.1 z.2.1 z.2.2.1 z.2.2.2.1 z.2.2.2.2.1 z.2.2.2.2.2.1 z.2.2.2.2.2.2.1 z.2.2.2.2.2.2.2.1 z.2.2.2.2.2.2.2.2.1 z.2.2.2.2.2.2.2.2.2.1 H locs c s z.2.2.2.2.2.2.2.2.2.2 g
abbrev qm_R (z : qm_Z) : Room := z.2.2.2.1
abbrev qm_S (z : qm_Z) : State := z.2.2.2.2.1
def qm_pc (M : qm_M) (i : Nat) : Nat := match M.2.2[i]? with
  | some e => e.1
  | none => 0
/-- the good words -/
def qm_tb : List Cond := lw_tbl.filter goodWord
/-- the frame and the tables of a walk of M -/
def qm_C (G : qm_G) (M : qm_M) (z : qm_Z) : Prop := z.1.tables.exec = Jvm.exec ∧ z.2.2.2.2.2.2.2.2.2.1.code = M.2.1.2.1 ∧ z.2.2.2.2.2.2.2.2.2.1.maxLocals = M.2.1.2.2.1 ∧ (qm_S z).vm.findClass M.1 = some z.2.2.2.2.2.1.cls ∧ (∀ w ∈ qm_tb, w.before z.2.2.2.2.2.2.1 (qm_S z) = true) ∧ z.2.2.2.2.2.2.2.2.1.locks = false ∧ z.2.2.2.2.2.2.2.2.1.sig.returnType = M.2.1.2.2.2 ∧ z.2.2.2.2.2.2.2.2.1.name = M.2.1.1.name ∧ qm_K G (qm_S z) (qm_S z).heap
/-- the walk from the i-th instruction on, with c cells and s slots made: for every heap that the pure one stands for -/
def qm_PW (G : qm_G) (M : qm_M) (z : qm_Z) (i c s : Nat) (L : qm_L) (st : List Value) (h : qm_H) : Prop :=
  ∀ (H : Heap) (locs : List Loc) (ls : Array Slot), c ≤ (qm_R z).cells → s ≤ (qm_R z).slots → qm_Rep G h H → va_S (qm_A G) (qm_S z).heap H locs → qm_lv G ls M.2.1.2.2.1 L → qm_W z H locs c s (F0 z.2.2.2.2.2.1 (qm_pc M i) ls (st.map (qm_mv G)))
theorem qm_PW.mask {G : qm_G} {M : qm_M} {z : qm_Z} {i c s : Nat} {L : qm_L} {st : List Value} {h : qm_H} (bs : List Bool) (k : qm_PW G M z i c s (qm_mask bs L) st h) : qm_PW G M z i c s L st h := fun H locs ls h1 h2 hR hS hl => k H locs ls h1 h2 hR hS (hl.fewer fun j w hw => qm_mask_get bs L j w hw)
/-- a method's words -/
def qm_ws (y : qm_CI) : List Cond := Cond.code y.1 y.2.1 y.2.2.1 y.2.2.2 :: qm_tb
def qm_Qc (G : qm_G) (uQ : Option Value → qm_H → Prop) : Array Value → State → Outcome → State → Prop := fun _ st oc t => ∃ v h, oc = .returned (v.map (qm_mv G)) ∧ uQ v h ∧ qm_Rep G h t.heap ∧ va_F (qm_A G) st t
def qm_Pc (G : qm_G) (as : List Value) (h : qm_H) : Array Value → State → Prop := fun v U => v = (as.map (qm_mv G)).toArray ∧ qm_Rep G h U.heap ∧ qm_K G U U.heap
/-- A CONTRACT: called with the values as at the heap h, in a depth d, with at most C cells and S slots made, the method returns v with the heap h', as uQ says -/
def qm_Ev (G : qm_G) (d C S : Nat) (y : qm_CI) (as : List Value) (h : qm_H) (uQ : Option Value → qm_H → Prop) : Prop := ∀ l : Launch, Met l y.1 (qm_ws y) { frames := d, cells := C, slots := S, locals := 41 * d } (qm_Pc G as h) (qm_Qc G uQ) C S (qm_A G)
theorem qm_Ev.mono {G : qm_G} {d C S : Nat} {y : qm_CI} {as : List Value} {h : qm_H} {uQ uQ' : Option Value → qm_H → Prop} (k : qm_Ev G d C S y as h uQ) (hq : ∀ v h', uQ v h' → uQ' v h') : qm_Ev G d C S y as h uQ' := by
  intro l p e ha hc hk s m args below hf h1 h2 h3
  obtain ⟨k, o, g1, g2, g3, ⟨⟨v, h', e1, e2, e3⟩, g4⟩⟩ := k l p e ha hc hk s m args below hf h1 h2 h3
  exact ⟨k, o, g1, g2, g3, ⟨v, h', e1, hq v h' e2, e3⟩, g4⟩
