/-! THE STEP IS SOUND -/
theorem fb_asI' (x : Int32) : Int32.ofInt x.toInt = x := Int32.ofInt_toInt x
section Sound
variable {G : qm_G} {b : Bool} {M : qm_M} {z : qm_Z} {d C S i c s : Nat} {uQ : Option Value → qm_H → Prop} {L : qm_L} {st : List Value} {h : qm_H}
/-- from the walk at the next instruction -/
theorem qm_nx {j n pc : Nat} {H : Heap} {locs : List Loc} {ls : Array Slot} (hn : qm_pc M j = pc + n) (k : qm_PW G M z j c s L st h) (h1 : c ≤ (qm_R z).cells) (h2 : s ≤ (qm_R z).slots) (hR : qm_Rep G h H) (hS : va_S (qm_A G) (qm_S z).heap H locs) (hl : qm_lv G ls M.2.1.2.2.1 L) : qm_W z H locs c s (F0 z.2.2.2.2.2.1 (pc + n) ls (st.map (qm_mv G))) := by
  have := k H locs ls h1 h2 hR hS hl
  rw [hn] at this
  exact this
theorem qm_to {j : Nat} {off : Int} {pc : Nat} (hj : qm_jmp M pc j off = true) : (pc : Int) + off = ((qm_pc M j : Nat) : Int) := of_decide_eq_true hj
/-- what holds of a walk of M at depth d, that is to end as uQ says -/
def qm_At (G : qm_G) (b : Bool) (M : qm_M) (z : qm_Z) (d C S : Nat) (uQ : Option Value → qm_H → Prop) : Prop := qm_C G M z ∧ G.2.2.2.2 = b ∧ (d ≤ (qm_R z).frames ∧ 41 * d ≤ (qm_R z).locals ∧ C ≤ (qm_R z).cells ∧ S ≤ (qm_R z).slots) ∧ (qm_MQ G z uQ ∨ ∀ v h, ¬ uQ v h) ∧ qm_okM M = true
theorem qm_sw_at {x : Int32} {k : Nat → Prop} : ∀ (ts : List Nat) (lo : Int) (j t : Nat), qm_sw x k lo ts → ts[j]? = some t → x = Int32.ofInt (lo + j) → k t
  | [], lo, j, t, _, h, _ => by simp at h
  | u :: ts, lo, 0, t, hs, h, e => by
    simp at h; subst h
    exact hs.1 (by simpa using e)
  | u :: ts, lo, j + 1, t, hs, h, e => qm_sw_at ts (lo + 1) j t hs.2 (by simpa using h) (by rw [e]; congr 1; omega)
set_option maxHeartbeats 4000000 in
set_option maxRecDepth 100000 in
theorem qm_step_ok {e : qm_I} {go : Nat → Nat → Nat → qm_L → List Value → qm_H → Prop} (hA : qm_At G b M z d C S uQ) (hi : M.2.2[i]? = some e) (hgo : ∀ j c s L st h, go j c s L st h → qm_PW G M z j c s L st h) (hs : qm_step G b M d C S uQ go i c s L st h e) : qm_PW G M z i c s L st h := by
  obtain ⟨hC, hb, ⟨hdF, hdL, hCR, hSR⟩, hZ, hok⟩ := hA
  subst hb
  obtain ⟨hd, hn, hx, hpc⟩ := qm_okM_at hok hi
  have hx1 := hC.1
  have hb1 := hC.2.1
  obtain ⟨pc, ins, aux, zz, y⟩ := e
  dsimp only at hpc
  subst hpc
  cases hlk : (List.isEmpty aux && qm_lk ins) with
  | true =>
    unfold qm_step at hs
    dsimp only at hs
    rw [hlk] at hs
    exact hs.elim
  | false =>
  replace hx : qm_okx M (qm_pc M i, ins, aux, zz, y) = true := hx.resolve_left (by dsimp only; rw [hlk]; exact Bool.false_ne_true)
  replace hs : qm_step1 G G.2.2.2.2 M d C S uQ go i c s L st h (qm_pc M i, ins, aux, zz, y) := by
    unfold qm_step at hs
    dsimp only at hs
    rw [hlk] at hs
    exact hs
  have nz : ∀ v h, uQ v h → qm_MQ G z uQ := fun v h hq => hZ.resolve_right (fun k => k v h hq)
  cases ins with
  | iconst n => exact fun H locs ls h1 h2 hR hS hl => lv_iconst hx1 hb1 hd (of_decide_eq_true hx) (qm_nx (hn.resolve_left Bool.false_ne_true) (hgo _ _ _ _ _ _ hs) h1 h2 hR hS hl)
  | bipush n => exact fun H locs ls h1 h2 hR hS hl => lv_bipush hx1 hb1 hd (of_decide_eq_true hx) (qm_nx (hn.resolve_left Bool.false_ne_true) (hgo _ _ _ _ _ _ hs) h1 h2 hR hS hl)
  | sipush n => exact fun H locs ls h1 h2 hR hS hl => lv_sipush hx1 hb1 hd (of_decide_eq_true hx) (qm_nx (hn.resolve_left Bool.false_ne_true) (hgo _ _ _ _ _ _ hs) h1 h2 hR hS hl)
  | lconst n => exact fun H locs ls h1 h2 hR hS hl => lv_lconst hx1 hb1 hd (of_decide_eq_true hx) (qm_nx (hn.resolve_left Bool.false_ne_true) (hgo _ _ _ _ _ _ hs) h1 h2 hR hS hl)
  | aconst_null => exact fun H locs ls h1 h2 hR hS hl => lv_null hx1 hb1 hd (qm_nx (hn.resolve_left Bool.false_ne_true) (hgo _ _ _ _ _ _ hs) h1 h2 hR hS hl)
  | ldc k => exact fun H locs ls h1 h2 hR hS hl => lv_ldc hx1 hb1 hC.2.2.2.1 (hC.2.2.2.2.1 _ (qm_hs_in hx)) hd (qm_nx (hn.resolve_left Bool.false_ne_true) (hgo _ _ _ _ _ _ hs) h1 h2 hR hS hl)
  | ldc_w k => exact fun H locs ls h1 h2 hR hS hl => lv_ldcw hx1 hb1 hC.2.2.2.1 (hC.2.2.2.2.1 _ (qm_hs_in hx)) hd (qm_nx (hn.resolve_left Bool.false_ne_true) (hgo _ _ _ _ _ _ hs) h1 h2 hR hS hl)
  | ldc2_w k => exact fun H locs ls h1 h2 hR hS hl => lv_ldc2 hx1 hb1 hC.2.2.2.1 (hC.2.2.2.2.1 _ (qm_hs_in hx)) hd (qm_nx (hn.resolve_left Bool.false_ne_true) (hgo _ _ _ _ _ _ hs) h1 h2 hR hS hl)
  | iload k =>
    obtain ⟨v, hv, hs⟩ := qm_lce hs
    obtain ⟨x, rfl, hs⟩ := qm_lie hs
    exact fun H locs ls h1 h2 hR hS hl => lv_iload hx1 hb1 hd (hl.at hv) (qm_nx (hn.resolve_left Bool.false_ne_true) (hgo _ _ _ _ _ _ hs) h1 h2 hR hS hl)
  | iload_n k =>
    obtain ⟨v, hv, hs⟩ := qm_lce hs
    obtain ⟨x, rfl, hs⟩ := qm_lie hs
    exact fun H locs ls h1 h2 hR hS hl => lv_iload_n hx1 hb1 hd rfl (hl.at hv) (qm_nx (hn.resolve_left Bool.false_ne_true) (hgo _ _ _ _ _ _ hs) h1 h2 hR hS hl)
  | lload k =>
    obtain ⟨v, hv, hs⟩ := qm_lce hs
    obtain ⟨x, rfl, hs⟩ := qm_lle hs
    exact fun H locs ls h1 h2 hR hS hl => lv_lload hx1 hb1 hd (hl.at hv) (qm_nx (hn.resolve_left Bool.false_ne_true) (hgo _ _ _ _ _ _ hs) h1 h2 hR hS hl)
  | lload_n k =>
    obtain ⟨v, hv, hs⟩ := qm_lce hs
    obtain ⟨x, rfl, hs⟩ := qm_lle hs
    exact fun H locs ls h1 h2 hR hS hl => lv_lload_n hx1 hb1 hd rfl (hl.at hv) (qm_nx (hn.resolve_left Bool.false_ne_true) (hgo _ _ _ _ _ _ hs) h1 h2 hR hS hl)
  | aload k =>
    obtain ⟨v, hv, hs⟩ := qm_lce hs
    obtain ⟨hv2, hs⟩ := qm_lae hs
    rcases hv2 with ⟨p, rfl⟩ | rfl
    · exact fun H locs ls h1 h2 hR hS hl => lv_aload hx1 hb1 hd (hl.at hv) (qm_nx (hn.resolve_left Bool.false_ne_true) (hgo _ _ _ _ _ _ hs) h1 h2 hR hS hl)
    · exact fun H locs ls h1 h2 hR hS hl => lv_aloadN hx1 hb1 hd (hl.at hv) (qm_nx (hn.resolve_left Bool.false_ne_true) (hgo _ _ _ _ _ _ hs) h1 h2 hR hS hl)
  | aload_n k =>
    obtain ⟨v, hv, hs⟩ := qm_lce hs
    obtain ⟨hv2, hs⟩ := qm_lae hs
    rcases hv2 with ⟨p, rfl⟩ | rfl
    · exact fun H locs ls h1 h2 hR hS hl => lv_aload_n hx1 hb1 hd rfl (hl.at hv) (qm_nx (hn.resolve_left Bool.false_ne_true) (hgo _ _ _ _ _ _ hs) h1 h2 hR hS hl)
    · exact fun H locs ls h1 h2 hR hS hl => lv_aload_nN hx1 hb1 hd rfl (hl.at hv) (qm_nx (hn.resolve_left Bool.false_ne_true) (hgo _ _ _ _ _ _ hs) h1 h2 hR hS hl)
  | istore k =>
    unfold qm_step1 at hs; dsimp only at hs
    cases hlt : Nat.blt k M.2.1.2.2.1 with
    | false => rw [hlt] at hs; exact hs.elim
    | true =>
      rw [hlt] at hs
      obtain ⟨x, r, rfl, hs⟩ := qm_p1e hs
      exact fun H locs ls h1 h2 hR hS hl => lv_istore hx1 hb1 hd hl (Nat.le_of_ble_eq_true hlt) rfl (fun ls' hl' => qm_nx (hn.resolve_left Bool.false_ne_true) (hgo _ _ _ _ _ _ hs) h1 h2 hR hS (qm_lv.s1 hl'))
  | istore_n k =>
    unfold qm_step1 at hs; dsimp only at hs
    cases hlt : Nat.blt (k : Nat) M.2.1.2.2.1 with
    | false => rw [hlt] at hs; exact hs.elim
    | true =>
      rw [hlt] at hs
      obtain ⟨x, r, rfl, hs⟩ := qm_p1e hs
      exact fun H locs ls h1 h2 hR hS hl => lv_istore_n hx1 hb1 hd rfl hl (Nat.le_of_ble_eq_true hlt) rfl (fun ls' hl' => qm_nx (hn.resolve_left Bool.false_ne_true) (hgo _ _ _ _ _ _ hs) h1 h2 hR hS (qm_lv.s1 hl'))
  | lstore k =>
    unfold qm_step1 at hs; dsimp only at hs
    cases hlt : Nat.blt (k + 1) M.2.1.2.2.1 with
    | false => rw [hlt] at hs; exact hs.elim
    | true =>
      rw [hlt] at hs
      obtain ⟨x, r, rfl, hs⟩ := qm_q1e hs
      exact fun H locs ls h1 h2 hR hS hl => lv_lstore hx1 hb1 hd hl (Nat.le_of_ble_eq_true hlt) rfl (fun ls' hl' => qm_nx (hn.resolve_left Bool.false_ne_true) (hgo _ _ _ _ _ _ hs) h1 h2 hR hS (qm_lv.s2 hl'))
  | lstore_n k =>
    unfold qm_step1 at hs; dsimp only at hs
    cases hlt : Nat.blt ((k : Nat) + 1) M.2.1.2.2.1 with
    | false => rw [hlt] at hs; exact hs.elim
    | true =>
      rw [hlt] at hs
      obtain ⟨x, r, rfl, hs⟩ := qm_q1e hs
      exact fun H locs ls h1 h2 hR hS hl => lv_lstore_n hx1 hb1 hd rfl hl (Nat.le_of_ble_eq_true hlt) rfl (fun ls' hl' => qm_nx (hn.resolve_left Bool.false_ne_true) (hgo _ _ _ _ _ _ hs) h1 h2 hR hS (qm_lv.s2 hl'))
  | astore k =>
    unfold qm_step1 at hs; dsimp only at hs
    cases hlt : Nat.blt k M.2.1.2.2.1 with
    | false => rw [hlt] at hs; exact hs.elim
    | true =>
      rw [hlt] at hs
      rcases qm_nle hs with ⟨r, rfl, hs⟩ | ⟨p, r, rfl, hs⟩
      · exact fun H locs ls h1 h2 hR hS hl => lv_astoreN hx1 hb1 hd hl (Nat.le_of_ble_eq_true hlt) rfl (fun ls' hl' => qm_nx (hn.resolve_left Bool.false_ne_true) (hgo _ _ _ _ _ _ hs) h1 h2 hR hS (qm_lv.s1 (v := .null) hl'))
      · exact fun H locs ls h1 h2 hR hS hl => lv_astore hx1 hb1 hd hl (Nat.le_of_ble_eq_true hlt) rfl (fun ls' hl' => qm_nx (hn.resolve_left Bool.false_ne_true) (hgo _ _ _ _ _ _ hs) h1 h2 hR hS (qm_lv.s1 (v := .ref p) hl'))
  | astore_n k =>
    unfold qm_step1 at hs; dsimp only at hs
    cases hlt : Nat.blt (k : Nat) M.2.1.2.2.1 with
    | false => rw [hlt] at hs; exact hs.elim
    | true =>
      rw [hlt] at hs
      rcases qm_nle hs with ⟨r, rfl, hs⟩ | ⟨p, r, rfl, hs⟩
      · exact fun H locs ls h1 h2 hR hS hl => lv_astore_nN hx1 hb1 hd rfl hl (Nat.le_of_ble_eq_true hlt) rfl (fun ls' hl' => qm_nx (hn.resolve_left Bool.false_ne_true) (hgo _ _ _ _ _ _ hs) h1 h2 hR hS (qm_lv.s1 (v := .null) hl'))
      · exact fun H locs ls h1 h2 hR hS hl => lv_astore_n hx1 hb1 hd rfl hl (Nat.le_of_ble_eq_true hlt) rfl (fun ls' hl' => qm_nx (hn.resolve_left Bool.false_ne_true) (hgo _ _ _ _ _ _ hs) h1 h2 hR hS (qm_lv.s1 (v := .ref p) hl'))
  | iinc k n =>
    unfold qm_step1 at hs; dsimp only at hs
    cases hlt : Nat.blt k M.2.1.2.2.1 with
    | false => rw [hlt] at hs; exact hs.elim
    | true =>
      rw [hlt] at hs
      obtain ⟨v, hv, hs⟩ := qm_lce hs
      obtain ⟨x, rfl, hs⟩ := qm_lie hs
      intro H locs ls h1 h2 hR hS hl
      obtain ⟨q, hq⟩ := List.mem_iff_getElem?.mp ((qm_al_mem G L 0 (k, .int x)).mpr ⟨k, _, hv, by simp [qm_mv]⟩)
      have hxn : Int32.ofInt n = zz.1 := of_decide_eq_true hx
      exact lv_iinc hx1 hb1 hd hl hq (by rw [hxn]) (Nat.le_of_ble_eq_true hlt) rfl (fun ls' hl' => qm_nx (hn.resolve_left Bool.false_ne_true) (hgo _ _ _ _ _ _ hs) h1 h2 hR hS (qm_lv.s1 (v := .int (x + zz.1)) hl'))
  | iadd =>
    obtain ⟨x, y', r, rfl, hs⟩ := qm_p2e hs
    exact fun H locs ls h1 h2 hR hS hl => lv_iadd hx1 hb1 hd (qm_nx (hn.resolve_left Bool.false_ne_true) (hgo _ _ _ _ _ _ hs) h1 h2 hR hS hl)
  | isub =>
    obtain ⟨x, y', r, rfl, hs⟩ := qm_p2e hs
    exact fun H locs ls h1 h2 hR hS hl => lv_isub hx1 hb1 hd (qm_nx (hn.resolve_left Bool.false_ne_true) (hgo _ _ _ _ _ _ hs) h1 h2 hR hS hl)
  | imul =>
    obtain ⟨x, y', r, rfl, hs⟩ := qm_p2e hs
    exact fun H locs ls h1 h2 hR hS hl => lv_imul hx1 hb1 hd (qm_nx (hn.resolve_left Bool.false_ne_true) (hgo _ _ _ _ _ _ hs) h1 h2 hR hS hl)
  | iand =>
    obtain ⟨x, y', r, rfl, hs⟩ := qm_p2e hs
    exact fun H locs ls h1 h2 hR hS hl => lv_iand hx1 hb1 hd (qm_nx (hn.resolve_left Bool.false_ne_true) (hgo _ _ _ _ _ _ hs) h1 h2 hR hS hl)
  | ior =>
    obtain ⟨x, y', r, rfl, hs⟩ := qm_p2e hs
    exact fun H locs ls h1 h2 hR hS hl => lv_ior hx1 hb1 hd (qm_nx (hn.resolve_left Bool.false_ne_true) (hgo _ _ _ _ _ _ hs) h1 h2 hR hS hl)
  | ixor =>
    obtain ⟨x, y', r, rfl, hs⟩ := qm_p2e hs
    exact fun H locs ls h1 h2 hR hS hl => lv_ixor hx1 hb1 hd (qm_nx (hn.resolve_left Bool.false_ne_true) (hgo _ _ _ _ _ _ hs) h1 h2 hR hS hl)
  | ishl =>
    obtain ⟨x, y', r, rfl, hs⟩ := qm_p2e hs
    exact fun H locs ls h1 h2 hR hS hl => lv_ishl hx1 hb1 hd (qm_nx (hn.resolve_left Bool.false_ne_true) (hgo _ _ _ _ _ _ hs) h1 h2 hR hS hl)
  | ishr =>
    obtain ⟨x, y', r, rfl, hs⟩ := qm_p2e hs
    exact fun H locs ls h1 h2 hR hS hl => lv_ishr hx1 hb1 hd (qm_nx (hn.resolve_left Bool.false_ne_true) (hgo _ _ _ _ _ _ hs) h1 h2 hR hS hl)
  | iushr =>
    obtain ⟨x, y', r, rfl, hs⟩ := qm_p2e hs
    exact fun H locs ls h1 h2 hR hS hl => lv_iushr hx1 hb1 hd rfl (qm_nx (hn.resolve_left Bool.false_ne_true) (hgo _ _ _ _ _ _ hs) h1 h2 hR hS hl)
  | idiv =>
    obtain ⟨x, y', r, rfl, h0, hs⟩ := qm_p2e hs
    exact fun H locs ls h1 h2 hR hS hl => lv_idiv hx1 hb1 hd h0 (qm_nx (hn.resolve_left Bool.false_ne_true) (hgo _ _ _ _ _ _ hs) h1 h2 hR hS hl)
  | irem =>
    obtain ⟨x, y', r, rfl, h0, hs⟩ := qm_p2e hs
    exact fun H locs ls h1 h2 hR hS hl => lv_irem hx1 hb1 hd h0 (qm_nx (hn.resolve_left Bool.false_ne_true) (hgo _ _ _ _ _ _ hs) h1 h2 hR hS hl)
  | ineg =>
    obtain ⟨x, r, rfl, hs⟩ := qm_p1e hs
    exact fun H locs ls h1 h2 hR hS hl => lv_ineg hx1 hb1 hd (qm_nx (hn.resolve_left Bool.false_ne_true) (hgo _ _ _ _ _ _ hs) h1 h2 hR hS hl)
  | i2l =>
    obtain ⟨x, r, rfl, hs⟩ := qm_p1e hs
    exact fun H locs ls h1 h2 hR hS hl => lv_i2l hx1 hb1 hd rfl (qm_nx (hn.resolve_left Bool.false_ne_true) (hgo _ _ _ _ _ _ hs) h1 h2 hR hS hl)
  | l2i =>
    obtain ⟨x, r, rfl, hs⟩ := qm_q1e hs
    exact fun H locs ls h1 h2 hR hS hl => lv_l2i hx1 hb1 hd rfl (qm_nx (hn.resolve_left Bool.false_ne_true) (hgo _ _ _ _ _ _ hs) h1 h2 hR hS hl)
  | i2b =>
    obtain ⟨x, r, rfl, hs⟩ := qm_p1e hs
    exact fun H locs ls h1 h2 hR hS hl => lv_i2b hx1 hb1 hd rfl (qm_nx (hn.resolve_left Bool.false_ne_true) (hgo _ _ _ _ _ _ hs) h1 h2 hR hS hl)
  | ladd =>
    obtain ⟨x, y', r, rfl, hs⟩ := qm_q2e hs
    exact fun H locs ls h1 h2 hR hS hl => lv_ladd hx1 hb1 hd (qm_nx (hn.resolve_left Bool.false_ne_true) (hgo _ _ _ _ _ _ hs) h1 h2 hR hS hl)
  | lsub =>
    obtain ⟨x, y', r, rfl, hs⟩ := qm_q2e hs
    exact fun H locs ls h1 h2 hR hS hl => lv_lsub hx1 hb1 hd (qm_nx (hn.resolve_left Bool.false_ne_true) (hgo _ _ _ _ _ _ hs) h1 h2 hR hS hl)
  | lmul =>
    obtain ⟨x, y', r, rfl, hs⟩ := qm_q2e hs
    exact fun H locs ls h1 h2 hR hS hl => lv_lmul hx1 hb1 hd (qm_nx (hn.resolve_left Bool.false_ne_true) (hgo _ _ _ _ _ _ hs) h1 h2 hR hS hl)
  | land =>
    obtain ⟨x, y', r, rfl, hs⟩ := qm_q2e hs
    exact fun H locs ls h1 h2 hR hS hl => lv_land hx1 hb1 hd (qm_nx (hn.resolve_left Bool.false_ne_true) (hgo _ _ _ _ _ _ hs) h1 h2 hR hS hl)
  | lor =>
    obtain ⟨x, y', r, rfl, hs⟩ := qm_q2e hs
    exact fun H locs ls h1 h2 hR hS hl => lv_lor hx1 hb1 hd (qm_nx (hn.resolve_left Bool.false_ne_true) (hgo _ _ _ _ _ _ hs) h1 h2 hR hS hl)
  | lxor =>
    obtain ⟨x, y', r, rfl, hs⟩ := qm_q2e hs
    exact fun H locs ls h1 h2 hR hS hl => lv_lxor hx1 hb1 hd (qm_nx (hn.resolve_left Bool.false_ne_true) (hgo _ _ _ _ _ _ hs) h1 h2 hR hS hl)
  | ldiv =>
    obtain ⟨x, y', r, rfl, h0, hs⟩ := qm_q2e hs
    exact fun H locs ls h1 h2 hR hS hl => lv_ldiv hx1 hb1 hd h0 (qm_nx (hn.resolve_left Bool.false_ne_true) (hgo _ _ _ _ _ _ hs) h1 h2 hR hS hl)
  | lrem =>
    obtain ⟨x, y', r, rfl, h0, hs⟩ := qm_q2e hs
    exact fun H locs ls h1 h2 hR hS hl => lv_lrem hx1 hb1 hd h0 (qm_nx (hn.resolve_left Bool.false_ne_true) (hgo _ _ _ _ _ _ hs) h1 h2 hR hS hl)
  | lushr =>
    obtain ⟨x, y', r, rfl, hs⟩ := qm_qie hs
    exact fun H locs ls h1 h2 hR hS hl => lv_lushr hx1 hb1 hd rfl (qm_nx (hn.resolve_left Bool.false_ne_true) (hgo _ _ _ _ _ _ hs) h1 h2 hR hS hl)
  | lshl =>
    obtain ⟨x, y', r, rfl, hs⟩ := qm_qie hs
    exact fun H locs ls h1 h2 hR hS hl => lv_lshl hx1 hb1 hd rfl (qm_nx (hn.resolve_left Bool.false_ne_true) (hgo _ _ _ _ _ _ hs) h1 h2 hR hS hl)
  | lshr =>
    obtain ⟨x, y', r, rfl, hs⟩ := qm_qie hs
    exact fun H locs ls h1 h2 hR hS hl => lv_lshr hx1 hb1 hd rfl (qm_nx (hn.resolve_left Bool.false_ne_true) (hgo _ _ _ _ _ _ hs) h1 h2 hR hS hl)
  | lcmp =>
    obtain ⟨x, y', r, rfl, hs⟩ := qm_q2e hs
    exact fun H locs ls h1 h2 hR hS hl => W.lcmp hx1 hb1 hd (qm_nx (hn.resolve_left Bool.false_ne_true) (hgo _ _ _ _ _ _ hs) h1 h2 hR hS hl)
  | dup =>
    unfold qm_step1 at hs; dsimp only at hs
    obtain ⟨v, r, rfl, hc1, hs⟩ := qm_d1e hs
    exact fun H locs ls h1 h2 hR hS hl => lv_dup hx1 hb1 hd (by rw [qm_mv_cat]; exact hc1) (qm_nx (hn.resolve_left Bool.false_ne_true) (hgo _ _ _ _ _ _ hs) h1 h2 hR hS hl)
  | pop =>
    unfold qm_step1 at hs; dsimp only at hs
    obtain ⟨v, r, rfl, hc1, hs⟩ := qm_d1e hs
    exact fun H locs ls h1 h2 hR hS hl => lv_pop hx1 hb1 hd (by rw [qm_mv_cat]; exact hc1) (qm_nx (hn.resolve_left Bool.false_ne_true) (hgo _ _ _ _ _ _ hs) h1 h2 hR hS hl)
  | dup2 =>
    unfold qm_step1 at hs; dsimp only at hs
    obtain ⟨v, w, r, rfl, hc1, hc2, hs⟩ := qm_d2e hs
    exact fun H locs ls h1 h2 hR hS hl => lv_dup2_11 hx1 hb1 hd (by rw [qm_mv_cat]; exact hc1) (by rw [qm_mv_cat]; exact hc2) (qm_nx (hn.resolve_left Bool.false_ne_true) (hgo _ _ _ _ _ _ hs) h1 h2 hR hS hl)
  | goto off => exact fun H locs ls h1 h2 hR hS hl => lv_goto hx1 hb1 hd (qm_to hx) (hgo _ _ _ _ _ _ hs H locs ls h1 h2 hR hS hl)
  | ifCond k off =>
    cases k with
    | eq =>
      obtain ⟨x, r, rfl, hs⟩ := qm_p1e hs
      exact fun H locs ls h1 h2 hR hS hl => lv_if_eq hx1 hb1 hd (qm_to hx) (fun q => hgo _ _ _ _ _ _ (hs.1 q) H locs ls h1 h2 hR hS hl) (fun q => qm_nx (hn.resolve_left Bool.false_ne_true) (hgo _ _ _ _ _ _ (hs.2 q)) h1 h2 hR hS hl)
    | ne =>
      obtain ⟨x, r, rfl, hs⟩ := qm_p1e hs
      exact fun H locs ls h1 h2 hR hS hl => lv_if_ne hx1 hb1 hd (qm_to hx) (fun q => hgo _ _ _ _ _ _ (hs.1 q) H locs ls h1 h2 hR hS hl) (fun q => qm_nx (hn.resolve_left Bool.false_ne_true) (hgo _ _ _ _ _ _ (hs.2 q)) h1 h2 hR hS hl)
    | lt =>
      obtain ⟨x, r, rfl, hs⟩ := qm_p1e hs
      exact fun H locs ls h1 h2 hR hS hl => lv_if_lt hx1 hb1 hd (qm_to hx) (fun q => hgo _ _ _ _ _ _ (hs.1 q) H locs ls h1 h2 hR hS hl) (fun q => qm_nx (hn.resolve_left Bool.false_ne_true) (hgo _ _ _ _ _ _ (hs.2 q)) h1 h2 hR hS hl)
    | ge =>
      obtain ⟨x, r, rfl, hs⟩ := qm_p1e hs
      exact fun H locs ls h1 h2 hR hS hl => lv_if_ge hx1 hb1 hd (qm_to hx) (fun q => hgo _ _ _ _ _ _ (hs.1 q) H locs ls h1 h2 hR hS hl) (fun q => qm_nx (hn.resolve_left Bool.false_ne_true) (hgo _ _ _ _ _ _ (hs.2 q)) h1 h2 hR hS hl)
    | gt =>
      obtain ⟨x, r, rfl, hs⟩ := qm_p1e hs
      exact fun H locs ls h1 h2 hR hS hl => lv_if_gt hx1 hb1 hd (qm_to hx) (fun q => hgo _ _ _ _ _ _ (hs.1 q) H locs ls h1 h2 hR hS hl) (fun q => qm_nx (hn.resolve_left Bool.false_ne_true) (hgo _ _ _ _ _ _ (hs.2 q)) h1 h2 hR hS hl)
    | le =>
      obtain ⟨x, r, rfl, hs⟩ := qm_p1e hs
      exact fun H locs ls h1 h2 hR hS hl => lv_if_le hx1 hb1 hd (qm_to hx) (fun q => hgo _ _ _ _ _ _ (hs.1 q) H locs ls h1 h2 hR hS hl) (fun q => qm_nx (hn.resolve_left Bool.false_ne_true) (hgo _ _ _ _ _ _ (hs.2 q)) h1 h2 hR hS hl)
  | if_icmp k off =>
    cases k with
    | eq =>
      obtain ⟨x, y', r, rfl, hs⟩ := qm_p2e hs
      exact fun H locs ls h1 h2 hR hS hl => lv_icmp_eq hx1 hb1 hd (qm_to hx) (fun q => hgo _ _ _ _ _ _ (hs.1 q) H locs ls h1 h2 hR hS hl) (fun q => qm_nx (hn.resolve_left Bool.false_ne_true) (hgo _ _ _ _ _ _ (hs.2 q)) h1 h2 hR hS hl)
    | ne =>
      obtain ⟨x, y', r, rfl, hs⟩ := qm_p2e hs
      exact fun H locs ls h1 h2 hR hS hl => lv_icmp_ne hx1 hb1 hd (qm_to hx) (fun q => hgo _ _ _ _ _ _ (hs.1 q) H locs ls h1 h2 hR hS hl) (fun q => qm_nx (hn.resolve_left Bool.false_ne_true) (hgo _ _ _ _ _ _ (hs.2 q)) h1 h2 hR hS hl)
    | lt =>
      obtain ⟨x, y', r, rfl, hs⟩ := qm_p2e hs
      exact fun H locs ls h1 h2 hR hS hl => lv_icmp_lt hx1 hb1 hd (qm_to hx) (fun q => hgo _ _ _ _ _ _ (hs.1 q) H locs ls h1 h2 hR hS hl) (fun q => qm_nx (hn.resolve_left Bool.false_ne_true) (hgo _ _ _ _ _ _ (hs.2 q)) h1 h2 hR hS hl)
    | ge =>
      obtain ⟨x, y', r, rfl, hs⟩ := qm_p2e hs
      exact fun H locs ls h1 h2 hR hS hl => lv_icmp_ge hx1 hb1 hd (qm_to hx) (fun q => hgo _ _ _ _ _ _ (hs.1 q) H locs ls h1 h2 hR hS hl) (fun q => qm_nx (hn.resolve_left Bool.false_ne_true) (hgo _ _ _ _ _ _ (hs.2 q)) h1 h2 hR hS hl)
    | gt =>
      obtain ⟨x, y', r, rfl, hs⟩ := qm_p2e hs
      exact fun H locs ls h1 h2 hR hS hl => lv_icmp_gt hx1 hb1 hd (qm_to hx) (fun q => hgo _ _ _ _ _ _ (hs.1 q) H locs ls h1 h2 hR hS hl) (fun q => qm_nx (hn.resolve_left Bool.false_ne_true) (hgo _ _ _ _ _ _ (hs.2 q)) h1 h2 hR hS hl)
    | le =>
      obtain ⟨x, y', r, rfl, hs⟩ := qm_p2e hs
      exact fun H locs ls h1 h2 hR hS hl => lv_icmp_le hx1 hb1 hd (qm_to hx) (fun q => hgo _ _ _ _ _ _ (hs.1 q) H locs ls h1 h2 hR hS hl) (fun q => qm_nx (hn.resolve_left Bool.false_ne_true) (hgo _ _ _ _ _ _ (hs.2 q)) h1 h2 hR hS hl)
  | ifnull off =>
    rcases qm_nle hs with ⟨r, rfl, hs⟩ | ⟨p, r, rfl, hs⟩
    · exact fun H locs ls h1 h2 hR hS hl => lv_ifnullN hx1 hb1 hd (qm_to hx) (hgo _ _ _ _ _ _ hs H locs ls h1 h2 hR hS hl)
    · exact fun H locs ls h1 h2 hR hS hl => lv_ifnull hx1 hb1 hd (qm_nx (hn.resolve_left Bool.false_ne_true) (hgo _ _ _ _ _ _ hs) h1 h2 hR hS hl)
  | ifnonnull off =>
    rcases qm_nle hs with ⟨r, rfl, hs⟩ | ⟨p, r, rfl, hs⟩
    · exact fun H locs ls h1 h2 hR hS hl => lv_ifnonnullN hx1 hb1 hd (qm_nx (hn.resolve_left Bool.false_ne_true) (hgo _ _ _ _ _ _ hs) h1 h2 hR hS hl)
    · exact fun H locs ls h1 h2 hR hS hl => lv_ifnonnull hx1 hb1 hd (qm_to hx) (hgo _ _ _ _ _ _ hs H locs ls h1 h2 hR hS hl)
  | tableswitch dflt lo hj2 offs =>
    obtain ⟨x, r, rfl, hs1, hs2⟩ := qm_p1e hs
    unfold qm_okx at hx; dsimp only at hx
    rw [Bool.and_eq_true, Bool.and_eq_true, Bool.and_eq_true, Bool.and_eq_true, decide_eq_true_eq, decide_eq_true_eq, decide_eq_true_eq] at hx
    obtain ⟨g1, g2, g3, g4, g5⟩ := hx
    intro H locs ls h1 h2 hR hS hl
    by_cases hin : x.toInt < lo ∨ hj2 < x.toInt
    · exact lv_tableOut hx1 hb1 hd hin (qm_to g1) (hgo _ _ _ _ _ _ (hs2 (by rcases hin with q | q; exact Or.inl q; right; dsimp only; omega)) H locs ls h1 h2 hR hS hl)
    · have hj : (x.toInt - lo).toNat < offs.size := by omega
      have g6 := List.all_eq_true.mp g5 _ (List.mem_range.mpr hj)
      cases ho : offs[(x.toInt - lo).toNat]? with
      | none => rw [ho] at g6; cases g6
      | some o =>
        cases ht : (List.drop 1 aux)[(x.toInt - lo).toNat]? with
        | none => rw [ho, ht] at g6; cases g6
        | some t =>
          rw [ho, ht] at g6
          refine lv_tableIn hx1 hb1 hd (fun q => hin (Or.inl q)) (fun q => hin (Or.inr q)) ho (qm_to g6) (hgo _ _ _ _ _ _ (qm_sw_at _ lo _ t hs1 ht ?_) H locs ls h1 h2 hR hS hl)
          have e : lo + (((x.toInt - lo).toNat : Nat) : Int) = x.toInt := by omega
          rw [e]
          exact (fb_asI' x).symm
  | getfield idx =>
    obtain ⟨p, r, rfl, hk, hs⟩ := qm_pre_ hs
    unfold qm_okx at hx; dsimp only at hx hk hs
    cases hr : vwCl[aux.getD 0 0]? with
    | none => rw [hr] at hx; cases hx
    | some rr =>
      rw [hr] at hx
      dsimp only at hx
      rw [Bool.and_eq_true, decide_eq_true_eq] at hx
      obtain ⟨⟨g1, g2, g3⟩, g4⟩ := hx
      intro H locs ls h1 h2 hR hS hl
      refine qm_getW hC hR hk g1 hr g2 (qm_hs_in g4) hd ?_
      rw [← g3]
      have ht3 := (qm_tag hr g2).2
      rw [← g3] at ht3
      revert hs
      generalize aux.getD 2 0 = t at ht3 ⊢
      intro hs
      match t, ht3, hs with
      | 0, _, hs => exact qm_nx (hn.resolve_left Bool.false_ne_true) (hgo _ _ _ _ _ _ hs) h1 h2 hR hS hl
      | 1, _, hs => exact qm_nx (hn.resolve_left Bool.false_ne_true) (hgo _ _ _ _ _ _ hs) h1 h2 hR hS hl
      | 2, _, hs =>
        obtain ⟨o, ho, hs⟩ := hs
        have := qm_nx (hn.resolve_left Bool.false_ne_true) (hgo _ _ _ _ _ _ hs) h1 h2 hR hS hl
        unfold qm_vl
        rw [ho]
        cases o <;> exact this
  | putfield idx =>
    unfold qm_okx at hx; dsimp only at hx
    unfold qm_step1 at hs; dsimp only at hs
    cases hr : vwCl[aux.getD 0 0]? with
    | none => rw [hr] at hx; cases hx
    | some rr =>
      rw [hr] at hx
      dsimp only at hx
      rw [Bool.and_eq_true, Bool.and_eq_true, decide_eq_true_eq, decide_eq_true_eq] at hx
      obtain ⟨⟨g1, g2, g3⟩, g4, g5⟩ := hx
      obtain ⟨ht1, ht3⟩ := qm_tag hr g2
      rw [← g3] at ht1 ht3
      intro H locs ls h1 h2 hR hS hl
      have hbz : ∀ x, qm_bz (aux.getD 0 0) (aux.getD 1 0) x → (qm_pt rr (aux.getD 1 0) = .boolean → x = 0 ∨ x = 1) := by
        intro x hx2 e
        unfold qm_bz at hx2
        rw [hr, Option.map_some, e] at hx2
        exact hx2
      match ht : aux.getD 2 0, ht3, hs with
      | 0, _, hs =>
        obtain ⟨p, x, r, rfl, hk, hz2, hs⟩ := qm_fie hs
        refine qm_putW hC hR hS hk g1 hr g2 (qm_hs_in g4) g5 (v := .int x) (h' := qm_si h p (aux.getD 1 0) x) ?_ ?_ rfl rfl (fun q j t => ?_) hd (fun H1 locs1 hR1 hS1 => qm_nx (hn.resolve_left Bool.false_ne_true) (hgo _ _ _ _ _ _ hs) h1 h2 hR1 hS1 hl)
        · rw [ht] at ht1
          have hz3 := hbz x hz2
          cases hq : qm_pt rr (aux.getD 1 0) <;> rw [hq] at ht1 <;> first | rfl | (cases ht1; done) | (rcases hz3 hq with rfl | rfl <;> rfl)
        · rw [ht] at ht1
          have hz3 := hbz x hz2
          cases hq : qm_pt rr (aux.getD 1 0) <;> rw [hq] at ht1 <;> first | rfl | (cases ht1; done) | (rcases hz3 hq with rfl | rfl <;> rfl)
        · rw [qm_vl_si, ← g3, ht]
      | 1, _, hs =>
        obtain ⟨p, x, r, rfl, hk, hs⟩ := qm_fle hs
        refine qm_putW hC hR hS hk g1 hr g2 (qm_hs_in g4) g5 (v := .long x) (h' := qm_sl h p (aux.getD 1 0) x) ?_ ?_ rfl rfl (fun q j t => ?_) hd (fun H1 locs1 hR1 hS1 => qm_nx (hn.resolve_left Bool.false_ne_true) (hgo _ _ _ _ _ _ hs) h1 h2 hR1 hS1 hl)
        · rw [ht] at ht1
          cases hq : qm_pt rr (aux.getD 1 0) <;> rw [hq] at ht1 <;> first | rfl | cases ht1
        · rw [ht] at ht1
          cases hq : qm_pt rr (aux.getD 1 0) <;> rw [hq] at ht1 <;> first | rfl | cases ht1
        · rw [qm_vl_sl, ← g3, ht]
      | 2, _, hs =>
        obtain ⟨p, o, r, rfl, hk, hw, hs⟩ := qm_fre hs
        have e0 : qm_mv G (va_rf o) = va_rf (o.map (qm_ad G)) := by cases o <;> rfl
        have key := qm_putW (ls := ls) (c := c) (s := s) (rest := r.map (qm_mv G)) hC hR hS hk g1 hr g2 (qm_hs_in g4) g5 (v := va_rf (o.map (qm_ad G))) (h' := qm_sr h p (aux.getD 1 0) o) (by
            rw [ht] at ht1
            cases hq : qm_pt rr (aux.getD 1 0) <;> rw [hq] at ht1 <;> first | (cases o <;> rfl) | cases ht1) (by
            rw [ht] at ht1
            cases hq : qm_pt rr (aux.getD 1 0) <;> rw [hq] at ht1 <;> first | (cases o <;> rfl) | cases ht1) rfl rfl (fun q j t => by rw [qm_vl_sr hw, ← g3, ht]) hd (fun H1 locs1 hR1 hS1 => qm_nx (hn.resolve_left Bool.false_ne_true) (hgo _ _ _ _ _ _ hs) h1 h2 hR1 hS1 hl)
        rw [← e0] at key
        exact key
  | iaload =>
    obtain ⟨p, j, r, rfl, hk, hin, hs⟩ := qm_pae hs
    exact fun H locs ls h1 h2 hR hS hl => qm_ialdW hC hR hk hin hd (qm_nx (hn.resolve_left Bool.false_ne_true) (hgo _ _ _ _ _ _ hs) h1 h2 hR hS hl)
  | baload =>
    obtain ⟨p, j, r, rfl, hk, hin, hs⟩ := qm_pae hs
    rcases (of_decide_eq_true hx : aux.headD 9 = 9 ∨ aux.headD 9 = 11) with e | e
    · dsimp only at hk; rw [e] at hk
      exact fun H locs ls h1 h2 hR hS hl => qm_baldW hC hR hk hin hd (qm_nx (hn.resolve_left Bool.false_ne_true) (hgo _ _ _ _ _ _ hs) h1 h2 hR hS hl)
    · dsimp only at hk; rw [e] at hk
      exact fun H locs ls h1 h2 hR hS hl => qm_zaldW hC hR hk hin hd (qm_nx (hn.resolve_left Bool.false_ne_true) (hgo _ _ _ _ _ _ hs) h1 h2 hR hS hl)
  | aaload =>
    obtain ⟨p, j, r, rfl, hk, hin, o, ho, hs⟩ := qm_pae hs
    intro H locs ls h1 h2 hR hS hl
    refine qm_aaldW hC hR (of_decide_eq_true hx) hk hin hd ?_
    have := qm_nx (hn.resolve_left Bool.false_ne_true) (hgo _ _ _ _ _ _ hs) h1 h2 hR hS hl
    rw [ho]
    cases o <;> exact this
  | arraylength =>
    obtain ⟨p, r, rfl, hk, hs⟩ := qm_pre_ hs
    exact fun H locs ls h1 h2 hR hS hl => qm_alenW hC hR (of_decide_eq_true hx) hk hd (qm_nx (hn.resolve_left Bool.false_ne_true) (hgo _ _ _ _ _ _ hs) h1 h2 hR hS hl)
  | iastore =>
    obtain ⟨p, j, x, r, rfl, hk, hin, hs⟩ := qm_pse hs
    exact fun H locs ls h1 h2 hR hS hl => qm_iastW hC hR hS hk hin hd (fun H1 locs1 hR1 hS1 => qm_nx (hn.resolve_left Bool.false_ne_true) (hgo _ _ _ _ _ _ hs) h1 h2 hR1 hS1 hl)
  | bastore =>
    obtain ⟨p, j, x, r, rfl, hk, hin, hs⟩ := qm_pse hs
    dsimp only at hk hs
    rcases (of_decide_eq_true hx : aux.headD 9 = 9 ∨ aux.headD 9 = 11) with e | e
    · rw [e] at hk hs
      exact fun H locs ls h1 h2 hR hS hl => qm_bastW hC hR hS hk hin hd (fun H1 locs1 hR1 hS1 => qm_nx (hn.resolve_left Bool.false_ne_true) (hgo _ _ _ _ _ _ hs) h1 h2 hR1 hS1 hl)
    · rw [e] at hk hs
      exact fun H locs ls h1 h2 hR hS hl => qm_zastW hC hR hS hk hin hd (fun H1 locs1 hR1 hS1 => qm_nx (hn.resolve_left Bool.false_ne_true) (hgo _ _ _ _ _ _ hs) h1 h2 hR1 hS1 hl)
  | aastore =>
    obtain ⟨p, j, v, r, rfl, hk, hv, hin, hw, hs⟩ := qm_pqe hs
    exact fun H locs ls h1 h2 hR hS hl => qm_aastW hC hR hS (of_decide_eq_true hx) hk hv hin hw hd (fun H1 locs1 hR1 hS1 => qm_nx (hn.resolve_left Bool.false_ne_true) (hgo _ _ _ _ _ _ hs) h1 h2 hR1 hS1 hl)
  | new idx =>
    obtain ⟨hz, hc1, hs1, hs⟩ := hs
    unfold qm_okx at hx; dsimp only at hx hc1 hs1 hs
    cases hr : vwCl[aux.headD 0]? with
    | none => rw [hr] at hx; cases hx
    | some rr =>
      rw [hr] at hx
      dsimp only at hx
      rw [Bool.and_eq_true, Bool.and_eq_true, Bool.and_eq_true, decide_eq_true_eq] at hx
      obtain ⟨⟨g1, g2⟩, g3, g4, g5⟩ := hx
      rw [g2] at hs1 hs
      exact fun H locs ls h1 h2 hR hS hl => qm_newW hC hR hS g1 hr hz (qm_hs_in g3) (qm_hs_in g4) (qm_hs_in g5) (Nat.le_trans hc1 hCR) (Nat.le_trans hs1 hSR) hd (fun H1 hR1 hS1 => qm_nx (hn.resolve_left Bool.false_ne_true) (hgo _ _ _ _ _ _ hs) (Nat.le_trans hc1 hCR) (Nat.le_trans hs1 hSR) hR1 hS1 hl)
  | newarray a =>
    obtain ⟨n, r, rfl, hn0, hn1, hz, hc1, hs1, hs'⟩ := qm_p1e hs
    unfold qm_okx at hx; dsimp only at hx hs'
    rw [Bool.and_eq_true, decide_eq_true_eq] at hx
    obtain ⟨g1, g2⟩ := hx
    intro H locs ls h1 h2 hR hS hl
    rcases g2 with ⟨rfl, e⟩ | ⟨rfl, e⟩ | ⟨rfl, e⟩
    · rw [e] at hs'
      exact qm_newaW (at_ := .int) (k := 1) (kd := 10) hC hR hS rfl (by decide) rfl rfl (fun C h => by cases h) hz (qm_hs_in g1) hn0 (Nat.le_trans (Nat.mul_le_mul hn1 (Nat.le_refl 4)) (Nat.le_of_ble_eq_true rfl)) (Nat.le_trans hc1 hCR) (Nat.le_trans hs1 hSR) hd (fun H1 hR1 hS1 => qm_nx (hn.resolve_left Bool.false_ne_true) (hgo _ _ _ _ _ _ hs') (Nat.le_trans hc1 hCR) (Nat.le_trans hs1 hSR) hR1 hS1 hl)
    · rw [e] at hs'
      exact qm_newaW (at_ := .byte) (k := 0) (kd := 9) hC hR hS rfl (by decide) rfl rfl (fun C h => by cases h) hz (qm_hs_in g1) hn0 (Nat.le_trans (Nat.mul_le_mul hn1 (Nat.le_refl 1)) (Nat.le_of_ble_eq_true rfl)) (Nat.le_trans hc1 hCR) (Nat.le_trans hs1 hSR) hd (fun H1 hR1 hS1 => qm_nx (hn.resolve_left Bool.false_ne_true) (hgo _ _ _ _ _ _ hs') (Nat.le_trans hc1 hCR) (Nat.le_trans hs1 hSR) hR1 hS1 hl)
    · rw [e] at hs'
      exact qm_newaW (at_ := .boolean) (k := 2) (kd := 11) hC hR hS rfl (by decide) rfl rfl (fun C h => by cases h) hz (qm_hs_in g1) hn0 (Nat.le_trans (Nat.mul_le_mul hn1 (Nat.le_refl 1)) (Nat.le_of_ble_eq_true rfl)) (Nat.le_trans hc1 hCR) (Nat.le_trans hs1 hSR) hd (fun H1 hR1 hS1 => qm_nx (hn.resolve_left Bool.false_ne_true) (hgo _ _ _ _ _ _ hs') (Nat.le_trans hc1 hCR) (Nat.le_trans hs1 hSR) hR1 hS1 hl)
  | anewarray idx =>
    obtain ⟨n, r, rfl, hn0, hn1, hz, hc1, hs1, hs'⟩ := qm_p1e hs
    unfold qm_okx at hx; dsimp only at hx hs'
    rw [Bool.or_eq_true, Bool.or_eq_true, Bool.and_eq_true, Bool.and_eq_true, Bool.and_eq_true, decide_eq_true_eq, decide_eq_true_eq, decide_eq_true_eq] at hx
    intro H locs ls h1 h2 hR hS hl
    rcases hx with ⟨g1, e⟩ | ⟨g1, e⟩ | ⟨g1, e⟩
    · rw [e] at hs'
      exact qm_anewW (k := 3) (kd := 12) (C := RX3) hC hR hS rfl (by simp) (by decide) rfl hz (qm_hs_in g1) hn0 (Nat.le_trans (Nat.mul_le_mul hn1 (Nat.le_refl 4)) (Nat.le_of_ble_eq_true rfl)) (Nat.le_trans hc1 hCR) (Nat.le_trans hs1 hSR) hd (fun H1 hR1 hS1 => qm_nx (hn.resolve_left Bool.false_ne_true) (hgo _ _ _ _ _ _ hs') (Nat.le_trans hc1 hCR) (Nat.le_trans hs1 hSR) hR1 hS1 hl)
    · rw [e] at hs'
      exact qm_anewW (k := 4) (kd := 13) (C := RX7) hC hR hS rfl (by simp) (by decide) rfl hz (qm_hs_in g1) hn0 (Nat.le_trans (Nat.mul_le_mul hn1 (Nat.le_refl 4)) (Nat.le_of_ble_eq_true rfl)) (Nat.le_trans hc1 hCR) (Nat.le_trans hs1 hSR) hd (fun H1 hR1 hS1 => qm_nx (hn.resolve_left Bool.false_ne_true) (hgo _ _ _ _ _ _ hs') (Nat.le_trans hc1 hCR) (Nat.le_trans hs1 hSR) hR1 hS1 hl)
    · rw [e] at hs'
      exact qm_anewW (k := 5) (kd := 14) (C := RX8) hC hR hS rfl (by simp) (by decide) rfl hz (qm_hs_in g1) hn0 (Nat.le_trans (Nat.mul_le_mul hn1 (Nat.le_refl 4)) (Nat.le_of_ble_eq_true rfl)) (Nat.le_trans hc1 hCR) (Nat.le_trans hs1 hSR) hd (fun H1 hR1 hS1 => qm_nx (hn.resolve_left Bool.false_ne_true) (hgo _ _ _ _ _ _ hs') (Nat.le_trans hc1 hCR) (Nat.le_trans hs1 hSR) hR1 hS1 hl)
  | ireturn =>
    unfold qm_step1 at hs; dsimp only at hs
    split at hs
    · rename_i x
      obtain ⟨g1, g2⟩ := hs
      intro H locs ls h1 h2 hR hS hl
      unfold qm_rn at g1
      split at g1
      · rename_i e
        exact qm_iretW hC (nz _ _ g2) hR hS h1 h2 e rfl g2 hd
      · rename_i e
        exact qm_iretW hC (nz _ _ g2) hR hS h1 h2 e (by show Value.int (x &&& 1) = _; rw [g1]) g2 hd
      · exact g1.elim
    · exact hs.elim
  | lreturn =>
    unfold qm_step1 at hs; dsimp only at hs
    split at hs
    · exact fun H locs ls h1 h2 hR hS hl => qm_lretW hC (nz _ _ hs.2) hR hS h1 h2 hs.1 hs.2 hd
    · exact hs.elim
  | areturn =>
    unfold qm_step1 at hs; dsimp only at hs
    split at hs
    · obtain ⟨⟨t, g1⟩, g2⟩ := hs
      exact fun H locs ls h1 h2 hR hS hl => qm_aretW hC (nz _ _ g2) hR hS h1 h2 g1 (Or.inl ⟨_, rfl⟩) (Or.inr ⟨_, rfl⟩) g2 hd
    · obtain ⟨⟨t, g1⟩, g2⟩ := hs
      exact fun H locs ls h1 h2 hR hS hl => qm_aretW hC (nz _ _ g2) hR hS h1 h2 g1 (Or.inl ⟨_, rfl⟩) (Or.inl rfl) g2 hd
    · exact hs.elim
  | return_ =>
    unfold qm_step1 at hs; dsimp only at hs
    split at hs
    · exact fun H locs ls h1 h2 hR hS hl => qm_vretW hC (nz _ _ hs.2) hR hS h1 h2 hs.1 hs.2 hd
    · exact hs.elim
  | invokestatic idx =>
    unfold qm_step1 at hs; dsimp only at hs
    obtain ⟨as, r, rfl, hlen, hcat, hs⟩ := qm_cse hs
    unfold qm_okx at hx; dsimp only at hx
    unfold qm_clsOK at hx
    rw [Bool.and_eq_true, Bool.and_eq_true, Bool.and_eq_true, Bool.and_eq_true, Bool.and_eq_true, Bool.and_eq_true, decide_eq_true_eq, decide_eq_true_eq, decide_eq_true_eq, Bool.or_eq_true] at hx
    obtain ⟨⟨g1, g2, g3, g4, g5⟩, g6, g7⟩ := hx
    intro H locs ls h1 h2 hR hS hl
    match d, hdF, hdL, hs with
    | d' + 1, hdF, hdL, ⟨C1, S1, Q1, hE, ⟨k1, k2⟩, hk⟩ =>
      have kk : ∀ (v : Option Value) (h' : qm_H) (H1 : Heap) (locs1 : List Loc), Q1 v h' → qm_Rep G h' H1 → va_S (qm_A G) (qm_S z).heap H1 locs1 → qm_W z H1 locs1 (c + C1) (s + S1) (F0 z.2.2.2.2.2.1 (qm_pc M i + 3) ls ((v.map (qm_mv G)).toList ++ r.map (qm_mv G))) := by
        intro v h' H1 locs1 hq hR1 hS1
        have := qm_nx (hn.resolve_left Bool.false_ne_true) (hgo _ _ _ _ _ _ (hk v h' hq)) (Nat.le_trans k1 hCR) (Nat.le_trans k2 hSR) hR1 hS1 hl
        rw [List.map_append] at this
        cases v <;> exact this
      rcases g7 with g7 | g7
      · exact qm_staW hC hR hS ⟨qm_hs_in g1, qm_hs_in g2, g3, g4, qm_hs_in g7, g5⟩ (qm_hs_in g6) hdF hdL hE hlen hl.1 hcat (Nat.le_trans k1 hCR) (Nat.le_trans k2 hSR) hd kk
      · exact qm_staNW hC hR hS ⟨qm_hs_in g1, qm_hs_in g2, g3, g4, qm_hn_in g7, g5⟩ (qm_hs_in g6) hdF hdL hE hlen hl.1 hcat (Nat.le_trans k1 hCR) (Nat.le_trans k2 hSR) hd kk
  | invokevirtual idx =>
    unfold qm_step1 at hs; dsimp only at hs
    obtain ⟨as, r, rfl, hlen, hcat, hs⟩ := qm_cse hs
    obtain ⟨p, as', rfl, hk0, hs⟩ := qm_c1e hs
    unfold qm_okx at hx; dsimp only at hx
    unfold qm_clsOK at hx
    cases hr : vwCl[aux.getD 1 0]? with
    | none => rw [hr] at hx; cases hx
    | some rr =>
      rw [hr] at hx
      dsimp only at hx
      rw [Bool.and_eq_true, Bool.and_eq_true, Bool.and_eq_true, Bool.and_eq_true, Bool.and_eq_true, Bool.and_eq_true, Bool.and_eq_true, Bool.and_eq_true, decide_eq_true_eq, decide_eq_true_eq, decide_eq_true_eq, decide_eq_true_eq] at hx
      obtain ⟨g0, ⟨g1, g2, g3, g4, g5⟩, g6, g7, g8⟩ := hx
      intro H locs ls h1 h2 hR hS hl
      match d, hdF, hdL, hs with
      | d' + 1, hdF, hdL, ⟨C1, S1, Q1, hE, ⟨k1, k2⟩, hk⟩ =>
        have kk : ∀ (v : Option Value) (h' : qm_H) (H1 : Heap) (locs1 : List Loc), Q1 v h' → qm_Rep G h' H1 → va_S (qm_A G) (qm_S z).heap H1 locs1 → qm_W z H1 locs1 (c + C1) (s + S1) (F0 z.2.2.2.2.2.1 (qm_pc M i + 3) ls ((v.map (qm_mv G)).toList ++ r.map (qm_mv G))) := by
          intro v h' H1 locs1 hq hR1 hS1
          have := qm_nx (hn.resolve_left Bool.false_ne_true) (hgo _ _ _ _ _ _ (hk v h' hq)) (Nat.le_trans k1 hCR) (Nat.le_trans k2 hSR) hR1 hS1 hl
          rw [List.map_append] at this
          cases v <;> exact this
        have e1 : (Value.ref p :: as').reverse ++ r = as'.reverse ++ .ref p :: r := by simp
        rw [e1]
        exact qm_virW hC hR hS hr g0 hk0 ⟨qm_hs_in g1, qm_hs_in g2, g3, g4, qm_hs_in g8, g5⟩ (qm_hs_in g6) (qm_hs_in g7) hdF hdL hE (Nat.succ.inj hlen) hl.1 hcat (Nat.le_trans k1 hCR) (Nat.le_trans k2 hSR) hd kk
  | invokespecial idx =>
    unfold qm_step1 at hs; dsimp only at hs
    unfold qm_okx at hx; dsimp only at hx
    cases h2m : (aux.getD 1 0 == 2) with
    | true =>
      rw [h2m, cond_true] at hs hx
      obtain ⟨p, r, rfl, hs'⟩ := qm_pre_ hs
      clear hs
      rw [Bool.and_eq_true, Bool.and_eq_true] at hx
      obtain ⟨g1, g2, g3⟩ := hx
      cases hb8 : Nat.ble ((r.map fun v => v.category).sum) 8 with
      | false => rw [hb8] at hs'; exact hs'.elim
      | true =>
        rw [hb8, cond_true] at hs'
        have hcat := Nat.le_of_ble_eq_true hb8
        intro H locs ls h1 h2 hR hS hl
        match d, hdF, hdL, hs' with
        | d' + 1, hdF, hdL, hs =>
          refine W.objInit hx1 hb1 hC.2.2.2.1 (hC.2.2.2.2.1 _ (qm_hs_in g1)) (hC.2.2.2.2.1 _ (qm_hs_in g2)) (hC.2.2.2.2.1 _ (qm_hs_in g3)) rfl (hl.1.trans hC.2.2.1.symm) rfl hd (Nat.le_trans (Nat.succ_le_succ (Nat.zero_le d')) hdF) ?_ (qm_nx (hn.resolve_left Bool.false_ne_true) (hgo _ _ _ _ _ _ hs) h1 h2 hR hS hl)
          have hlr : 2 * (F0 z.2.2.2.2.2.1 (qm_pc M i) ls ((Value.ref p :: r).map (qm_mv G))).monitorRoom + ((r.map (qm_mv G)).map fun v => v.category).sum ≤ 8 := by
            refine lv_room ?_
            rw [List.map_map]
            refine Nat.le_trans (Nat.le_of_eq ?_) hcat
            congr 1
            exact List.map_congr_left fun v _ => qm_mv_cat G v
          refine Nat.le_trans (Nat.add_le_add_right hlr 12) (Nat.le_trans ?_ hdL)
          omega
    | false =>
      rw [h2m] at hs hx
      rw [cond_false] at hs hx
      unfold qm_clsOK at hx
      obtain ⟨as, r, rfl, hlen, hcat, hs⟩ := qm_cse hs
      obtain ⟨p, as', rfl, hs⟩ := qm_c1e hs
      rw [Bool.and_eq_true, Bool.and_eq_true, Bool.and_eq_true, Bool.and_eq_true, Bool.and_eq_true, Bool.and_eq_true, Bool.and_eq_true, decide_eq_true_eq, decide_eq_true_eq, decide_eq_true_eq, decide_eq_true_eq, Bool.or_eq_true] at hx
      obtain ⟨⟨g1, g2, g3, g4, g5⟩, g6, ⟨g7, g8⟩, g9⟩ := hx
      intro H locs ls h1 h2 hR hS hl
      match d, hdF, hdL, hs with
      | d' + 1, hdF, hdL, ⟨C1, S1, Q1, hE, ⟨k1, k2⟩, hk⟩ =>
        have kk : ∀ (v : Option Value) (h' : qm_H) (H1 : Heap) (locs1 : List Loc), Q1 v h' → qm_Rep G h' H1 → va_S (qm_A G) (qm_S z).heap H1 locs1 → qm_W z H1 locs1 (c + C1) (s + S1) (F0 z.2.2.2.2.2.1 (qm_pc M i + 3) ls ((v.map (qm_mv G)).toList ++ r.map (qm_mv G))) := by
          intro v h' H1 locs1 hq hR1 hS1
          have := qm_nx (hn.resolve_left Bool.false_ne_true) (hgo _ _ _ _ _ _ (hk v h' hq)) (Nat.le_trans k1 hCR) (Nat.le_trans k2 hSR) hR1 hS1 hl
          rw [List.map_append] at this
          cases v <;> exact this
        have e1 : (Value.ref p :: as').reverse ++ r = as'.reverse ++ .ref p :: r := by simp
        rw [e1]
        rcases g9 with g9 | g9
        · exact qm_speW hC hR hS ⟨qm_hs_in g1, qm_hs_in g2, g3, g4, qm_hs_in g9, g5⟩ g8 (qm_hs_in g6) g7 hdF hdL hE (Nat.succ.inj hlen) hl.1 hcat (Nat.le_trans k1 hCR) (Nat.le_trans k2 hSR) hd kk
        · exact qm_speNW hC hR hS ⟨qm_hs_in g1, qm_hs_in g2, g3, g4, qm_hn_in g9, g5⟩ g8 (qm_hs_in g6) g7 hdF hdL hE (Nat.succ.inj hlen) hl.1 hcat (Nat.le_trans k1 hCR) (Nat.le_trans k2 hSR) hd kk
  | _ => exact hs.elim
/-- the walk over at most n instructions, up to the next one of those at which it stops -/
def qm_wp (G : qm_G) (b : Bool) (M : qm_M) (z : qm_Z) (d C S : Nat) (uQ : Option Value → qm_H → Prop) (stops : List Nat) (n : Nat) : Nat → Nat → Nat → qm_L → List Value → qm_H → Prop := Nat.rec (fun i c s L st h => qm_PW G M z i c s L st h) (fun _ ih i c s L st h => match M.2.2[i]? with
  | some e => qm_step G b M d C S uQ (fun j c s L st h => bif stops.elem j then qm_PW G M z j c s L st h else ih j c s L st h) i c s L st h e
  | none => False) n
theorem qm_wp_ok (hA : qm_At G b M z d C S uQ) (stops : List Nat) : ∀ (n i c s : Nat) (L : qm_L) (st : List Value) (h : qm_H), qm_wp G b M z d C S uQ stops n i c s L st h → qm_PW G M z i c s L st h
  | 0, i, c, s, L, st, h, k => k
  | n + 1, i, c, s, L, st, h, k => by
    have k' : (match M.2.2[i]? with
      | some e => qm_step G b M d C S uQ (fun j c s L st h => bif stops.elem j then qm_PW G M z j c s L st h else qm_wp G b M z d C S uQ stops n j c s L st h) i c s L st h e
      | none => False) := k
    cases hi : M.2.2[i]? with
    | none => rw [hi] at k'; exact k'.elim
    | some e =>
      rw [hi] at k'
      refine qm_step_ok hA hi (fun j c s L st h q => ?_) k'
      cases hj : stops.elem j with
      | true => rw [hj] at q; exact q
      | false => rw [hj] at q; exact qm_wp_ok hA stops n j c s L st h q
/-- A CONTRACT, by a walk with wp -/
theorem qm_Ev.by {as : List Value} (hok : qm_okM M = true) (hn : (qm_in as).length ≤ M.2.1.2.2.1) (hb : G.2.2.2.2 = b)
    (body : ∀ z : qm_Z, qm_At G b M z d C S uQ → qm_PW G M z 0 0 0 (qm_L0 M.2.1.2.2.1 as) [] h) : qm_Ev G d C S M.2.1 as h uQ := by
  have h1 := hok
  unfold qm_okM at h1
  rw [Bool.and_eq_true, Bool.and_eq_true, Bool.and_eq_true, decide_eq_true_eq, decide_eq_true_eq] at h1
  refine qm_Ev.intro M h1.2.1 h1.2.2.1 hn h1.2.2.2 (fun z hC hR hZ => body z ⟨hC, hb, ?_, Or.inl hZ, hok⟩)
  rw [hR]
  exact ⟨Nat.le_refl _, Nat.le_refl _, Nat.le_refl _, Nat.le_refl _⟩
end Sound
