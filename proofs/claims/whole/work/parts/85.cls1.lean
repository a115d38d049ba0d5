/-! the class: a town -/
def TO (h : qm_H) (P : Nat) (w : Nat → Int32) (n : Nat) : Prop := (51 ≤ P ∧ P + 8 ≤ h.2.2.2.2) ∧ qm_is true h P 6 ∧ h.1 P 0 = nI n ∧ (∀ k, 1 ≤ k → k ≤ 7 → qm_rd true h P k = some (P + k) ∧ qm_is true h (P + k) 10 ∧ (qm_kn true h (P + k)).2 = if k = 7 then 64 else 6) ∧ (∀ j, j < 6 → h.1 (P + 1) j = w (1 + j) ∧ h.1 (P + 2) j = w (7 + j) ∧ h.1 (P + 3) j = w (13 + j) ∧ h.1 (P + 4) j = w (19 + j) ∧ h.1 (P + 5) j = w (25 + j) ∧ h.1 (P + 6) j = nI (if j < n then hbN w j n else 0)) ∧ (∀ s, s < 64 → h.1 (P + 7) s = nI (worthN w (nI s) 6)) ∧ ∀ s, s < 64 → (h.2.1 P 8).toBitVec.getLsbD s = decide (s_closed w (nI s) 6 = nI s)
theorem qm_is_sb {S : List Nat} {h h' : qm_H} (a : sb S h h') {p kd : Nat} (k : qm_is true h p kd) : qm_is true h' p kd := by
  unfold qm_is at k ⊢
  rw [a.1]; exact k
theorem qm_kn_sb {S : List Nat} {h h' : qm_H} (a : sb S h h') (p : Nat) : qm_kn true h' p = qm_kn true h p := by
  unfold qm_kn
  rw [a.1]
theorem qm_rd_sb {S : List Nat} {h h' : qm_H} (a : sb S h h') (p k : Nat) : qm_rd true h' p k = qm_rd true h p k := by
  unfold qm_rd
  rw [a.1]
theorem TO.sb {S : List Nat} {h h' : qm_H} {P n : Nat} {w : Nat → Int32} (t : TO h P w n) (a : sb S h h') (hS : ∀ q, q ∈ S → q < 51) : TO h' P w n := by
  obtain ⟨⟨t1, t2⟩, t3, t4, t5, t6, t7, t8⟩ := t
  have e : ∀ q, 51 ≤ q → h'.1 q = h.1 q := fun q hq => a.2 q (fun z => by have := hS q z; omega)
  refine ⟨⟨t1, by rw [a.1]; exact t2⟩, qm_is_sb a t3, by rw [e P t1]; exact t4, fun k h1 h2 => ?_, fun j hj => ?_, fun s hs => by rw [e _ (by omega)]; exact t7 s hs, fun s hs => by rw [a.1]; exact t8 s hs⟩
  · obtain ⟨x, y, z⟩ := t5 k h1 h2
    exact ⟨by rw [qm_rd_sb a]; exact x, qm_is_sb a y, by rw [qm_kn_sb a]; exact z⟩
  · rw [e _ (by omega), e _ (by omega), e _ (by omega), e _ (by omega), e _ (by omega), e _ (by omega)]; exact t6 j hj
theorem TO.is {h : qm_H} {P n : Nat} {w : Nat → Int32} (t : TO h P w n) : qm_is true h P 6 := t.2.1
theorem TO.pp {h : qm_H} {P n : Nat} {w : Nat → Int32} (t : TO h P w n) : h.1 P 0 = nI n := t.2.2.1
theorem TO.rd {h : qm_H} {P n : Nat} {w : Nat → Int32} (t : TO h P w n) {k : Nat} (h1 : 1 ≤ k) (h2 : k ≤ 7) : qm_rd true h P k = some (P + k) := (t.2.2.2.1 k h1 h2).1
theorem TO.ar {h : qm_H} {P n : Nat} {w : Nat → Int32} (t : TO h P w n) {k : Nat} (h1 : 1 ≤ k) (h2 : k ≤ 7) : qm_is true h (P + k) 10 := (t.2.2.2.1 k h1 h2).2.1
theorem TO.ln {h : qm_H} {P n : Nat} {w : Nat → Int32} (t : TO h P w n) {k : Nat} (h1 : 1 ≤ k) (h2 : k ≤ 6) {j : Nat} (hj : j < 6) : vp_in (nI j) (qm_kn true h (P + k)).2 := by
  rw [(t.2.2.2.1 k h1 (by omega)).2.2, if_neg (by omega)]
  exact vp_in_nI hj (by decide)
theorem TO.l7 {h : qm_H} {P n : Nat} {w : Nat → Int32} (t : TO h P w n) {j : Nat} (hj : j < 64) : vp_in (nI j) (qm_kn true h (P + 7)).2 := by
  rw [(t.2.2.2.1 7 (by decide) (by decide)).2.2, if_pos rfl]
  exact vp_in_nI hj (by decide)
theorem TO.at {h : qm_H} {P n : Nat} {w : Nat → Int32} (t : TO h P w n) {j : Nat} (hj : j < 6) : h.1 (P + 1) (nI j).toNatClampNeg = w (1 + j) ∧ h.1 (P + 2) (nI j).toNatClampNeg = w (7 + j) ∧ h.1 (P + 3) (nI j).toNatClampNeg = w (13 + j) ∧ h.1 (P + 4) (nI j).toNatClampNeg = w (19 + j) ∧ h.1 (P + 5) (nI j).toNatClampNeg = w (25 + j) ∧ h.1 (P + 6) (nI j).toNatClampNeg = nI (if j < n then hbN w j n else 0) := by
  rw [nI_clamp (by omega)]; exact t.2.2.2.2.1 j hj
theorem TO.wo {h : qm_H} {P n : Nat} {w : Nat → Int32} (t : TO h P w n) {s : Nat} (hs : s < 64) : h.1 (P + 7) (nI s).toNatClampNeg = nI (worthN w (nI s) 6) := by
  rw [nI_clamp (by omega)]; exact t.2.2.2.2.2.1 s hs
theorem inb_lt {a : Int32} {n : Nat} (hn : n ≤ 1000) : inb a n = (decide (0 ≤ a) && decide (a < nI n)) := by
  rw [inb, Bool.eq_iff_iff, decide_eq_true_eq, Bool.and_eq_true, decide_eq_true_eq, decide_eq_true_eq]
  have e : (nI n - 1).toInt = (n : Int) - 1 := by
    have h1 : nI n - 1 = nI n - nI 1 := rfl
    rw [h1, pk_sub_toInt (by omega) (by decide)]; rfl
  refine and_congr_right fun _ => ?_
  rw [Int32.le_iff_toInt_le, Int32.lt_iff_toInt_lt, e, nI_toInt (by omega)]
  omega
theorem and1 (y : Int32) : ¬ y &&& 1 = 0 ↔ y &&& 1 = 1 := by
  have e : y &&& 1 = nI (y.toBitVec.toNat % 2 ^ 1) := pk_and y 1 rfl
  rw [e]
  rcases Nat.mod_two_eq_zero_or_one y.toBitVec.toNat with q | q
  · rw [show y.toBitVec.toNat % 2 ^ 1 = 0 from q]; decide
  · rw [show y.toBitVec.toNat % 2 ^ 1 = 1 from q]; decide
theorem c_isIn {G : qm_G} (hG : G.2.2.2.2 = true) (d : Nat) (h : qm_H) (x k : Int32) : qm_Ev G d 0 0 qyX9_isIn [.int x, .int k] h (fun r h' => r = some (.int (b2 (bit x k))) ∧ h = h') := by
  refine qm_Ev.run (M := mX9_isIn) okX9_isIn rfl hG fun z => ?_
  refine ⟨fun (q : (x >>> (k &&& 31)) &&& 1 = 0) => ⟨rfl, ?_, rfl⟩, fun (q : ¬ (x >>> (k &&& 31)) &&& 1 = 0) => ⟨rfl, ?_, rfl⟩⟩
  · rw [bit, decide_eq_false (fun e => by rw [q] at e; exact absurd e (by decide))]; rfl
  · rw [bit, decide_eq_true ((and1 _).mp q)]; rfl
theorem c_isFact {G : qm_G} (hG : G.2.2.2.2 = true) (d : Nat) (h : qm_H) (a : Int32) : qm_Ev G d 0 0 qyX9_isFact [.int a] h (fun r h' => r = some (.int (b2 (inb a 6))) ∧ h = h') := by
  have e := inb_lt (a := a) (n := 6) (by decide)
  refine qm_Ev.run (M := mX9_isFact) okX9_isFact rfl hG fun z => ?_
  refine ⟨fun (q : a < 0) => ⟨rfl, ?_, rfl⟩, fun (q : ¬ a < 0) => ⟨fun (q2 : nI 6 ≤ a) => ⟨rfl, ?_, rfl⟩, fun (q2 : ¬ nI 6 ≤ a) => ⟨rfl, ?_, rfl⟩⟩⟩
  · rw [e, decide_eq_false (Int32.not_le.mpr q)]; rfl
  · rw [e, decide_eq_false (Int32.not_lt.mpr q2), Bool.and_false]; rfl
  · rw [e, decide_eq_true (Int32.not_lt.mp q), decide_eq_true (Int32.not_le.mp q2)]; rfl
theorem c_has {G : qm_G} (hG : G.2.2.2.2 = true) (d : Nat) (h : qm_H) {P n : Nat} {w : Nat → Int32} (t : TO h P w n) (hn : n ≤ 6) (a : Int32) : qm_Ev G d 0 0 qyX8_has [.ref P, .int a] h (fun r h' => r = some (.int (b2 (inb a n))) ∧ h = h') := by
  have e := inb_lt (a := a) (n := n) (by omega)
  refine qm_Ev.run (M := mX8_has) okX8_has rfl hG fun z => ?_
  refine ⟨fun (q : a < 0) => ⟨rfl, ?_, rfl⟩, fun (q : ¬ a < 0) => ⟨t.is, fun (q2 : h.1 P 0 ≤ a) => ⟨rfl, ?_, rfl⟩, fun (q2 : ¬ h.1 P 0 ≤ a) => ⟨rfl, ?_, rfl⟩⟩⟩
  · rw [e, decide_eq_false (Int32.not_le.mpr q)]; rfl
  · rw [t.pp] at q2
    rw [e, decide_eq_false (Int32.not_lt.mpr q2), Bool.and_false]; rfl
  · rw [t.pp] at q2
    rw [e, decide_eq_true (Int32.not_lt.mp q), decide_eq_true (Int32.not_le.mp q2)]; rfl
theorem c_isRowIndex {G : qm_G} (hG : G.2.2.2.2 = true) (d : Nat) (h : qm_H) {P n : Nat} {w : Nat → Int32} (t : TO h P w n) (hn : n ≤ 6) (a : Int32) : qm_Ev G (d + 1) 0 0 qyX9_isRowIndex [.ref P, .int a] h (fun r h' => r = some (.int (b2 (decide (a = -1) || inb a n))) ∧ h = h') := by
  refine qm_Ev.run (M := mX9_isRowIndex) okX9_isRowIndex rfl hG fun z => ?_
  refine ⟨fun (q : a = -1) => ⟨rfl, by rw [decide_eq_true q]; rfl, rfl⟩, fun (q : ¬ a = -1) => ⟨t.is, 0, 0, _, c_has hG d h t hn a, ⟨Nat.le_refl _, Nat.le_refl _⟩, ?_⟩⟩
  rintro _ _ ⟨rfl, rfl⟩
  rw [decide_eq_false q]
  exact b2_eq (fun hb => ⟨rfl, by rw [hb]; rfl, rfl⟩) (fun hb => ⟨rfl, by rw [hb]; rfl, rfl⟩)
theorem c_knows {G : qm_G} (hG : G.2.2.2.2 = true) (d : Nat) (h : qm_H) {P n : Nat} {w : Nat → Int32} (t : TO h P w n) (hn : n ≤ 6) (a f : Int32) : qm_Ev G (d + 1) 0 0 qyX8_knows [.ref P, .int a, .int f] h (fun r h' => r = some (.int (b2 (inb a n && bit (mi0 w a.toNatClampNeg) f))) ∧ h = h') := by
  refine qm_Ev.run (M := mX8_knows) okX8_knows rfl hG fun z => ?_
  refine ⟨t.is, 0, 0, _, c_has hG d h t hn a, ⟨Nat.le_refl _, Nat.le_refl _⟩, ?_⟩
  rintro _ _ ⟨rfl, rfl⟩
  refine b2_eq (fun hb => ?_) (fun hb => ⟨rfl, by rw [hb]; rfl, rfl⟩)
  obtain ⟨p, hp, rfl⟩ := inb_e (by omega) hb
  refine ⟨t.is, _, t.rd (k := 4) (by decide) (by decide), t.ar (k := 4) (by decide) (by decide), t.ln (k := 4) (by decide) (by decide) (by omega), 0, 0, _, c_isIn hG d h _ f, ⟨Nat.le_refl _, Nat.le_refl _⟩, ?_⟩
  rintro _ _ ⟨rfl, rfl⟩
  rw [(t.at (by omega : p < 6)).2.2.2.1, hb, nI_clamp (by omega)]
  exact b2_eq (fun hb2 => ⟨rfl, by rw [show bit (mi0 w p) f = true from hb2]; rfl, rfl⟩) (fun hb2 => ⟨rfl, by rw [show bit (mi0 w p) f = false from hb2]; rfl, rfl⟩)
theorem c_everyone {G : qm_G} (hG : G.2.2.2.2 = true) (d : Nat) (h : qm_H) {P n : Nat} {w : Nat → Int32} (t : TO h P w n) (hn : n ≤ 6) : qm_Ev G d 0 0 qyX8_everyone [.ref P] h (fun r h' => r = some (.int (nI (2 ^ n - 1))) ∧ h = h') := by
  refine qm_Ev.run (M := mX8_everyone) okX8_everyone rfl hG fun z => ?_
  refine ⟨t.is, trivial, congV ?_, rfl⟩
  show (1 : Int32) <<< (h.1 P 0 &&& 31) - 1 = _
  rw [t.pp]; exact (s_pow hn).1
theorem c_wholeOf {G : qm_G} (hG : G.2.2.2.2 = true) (d : Nat) (h : qm_H) {P n : Nat} {w : Nat → Int32} (t : TO h P w n) {f : Nat} (hf : f < 6) : qm_Ev G d 0 0 qyX8_wholeOf [.ref P, .int (nI f)] h (fun r h' => r = some (.int (s_whole w f)) ∧ h = h') := by
  refine qm_Ev.run (M := mX8_wholeOf) okX8_wholeOf rfl hG fun z => ?_
  refine ⟨fun q => absurd q (nI_pos (by omega)), fun _ => ⟨fun q => absurd q (nI_ge hf (by decide)), fun _ => ⟨t.is, _, t.rd (k := 2) (by decide) (by decide), t.ar (k := 2) (by decide) (by decide), t.ln (k := 2) (by decide) (by decide) hf, trivial, congV ?_, rfl⟩⟩⟩
  show h.1 (P + 2) (nI f).toNatClampNeg ||| ((1 : Int32) <<< (nI f &&& 31)) = _
  rw [(t.at hf).2.1, s_whole, Int32.or_comm]
theorem c_withAll {G : qm_G} (hG : G.2.2.2.2 = true) (d : Nat) (h : qm_H) {P n : Nat} {w : Nat → Int32} (t : TO h P w n) (x : Int32) : qm_Ev G (d + 1) 0 0 qyX8_withAll [.ref P, .int x] h (fun r h' => r = some (.int (s_closed w x 6)) ∧ h = h') := by
  refine qm_Ev.by (M := mX8_withAll) okX8_withAll (Nat.le_of_ble_eq_true rfl) hG fun z hA => ?_
  refine qm_wp_ok hA [4] 20 _ _ _ _ _ _ ?_
  refine qm_for (P := fun f => qm_PW G mX8_withAll z 4 0 0 [vr P, vi x, vi (s_closed w x f), vi (nI f)] [] h) (N := 6) ?_ ?_
  · exact qm_wp_ok hA [] 20 _ _ _ _ _ _ ⟨fun _ => ⟨trivial, rfl, rfl⟩, fun q => absurd (by decide) q⟩
  · intro f hf key
    rw [← nI_1, s_closed] at key
    refine qm_wp_ok hA [4] 40 _ _ _ _ _ _ ⟨fun q => absurd q (nI_ge hf (by decide)), fun _ => ⟨0, 0, _, c_isIn hG d h x (nI f), ⟨Nat.le_refl _, Nat.le_refl _⟩, ?_⟩⟩
    rintro _ _ ⟨rfl, rfl⟩
    refine b2_eq (fun hb => ⟨t.is, _, t.rd (k := 2) (by decide) (by decide), t.ar (k := 2) (by decide) (by decide), t.ln (k := 2) (by decide) (by decide) hf, ?_⟩) (fun hb => ?_)
    · rw [if_pos hb, ← (t.at hf).2.1] at key
      exact key
    · rw [if_neg (by rw [hb]; decide)] at key
      exact key
theorem c_whoKnow {G : qm_G} (hG : G.2.2.2.2 = true) (d : Nat) (h : qm_H) {P n : Nat} {w : Nat → Int32} (t : TO h P w n) (hn : n ≤ 6) (f : Int32) : qm_Ev G (d + 1) 0 0 qyX8_whoKnow [.ref P, .int f] h (fun r h' => r = some (.int (s_knowers (mi0 w) f n)) ∧ h = h') := by
  refine qm_Ev.by (M := mX8_whoKnow) okX8_whoKnow (Nat.le_of_ble_eq_true rfl) hG fun z hA => ?_
  refine qm_wp_ok hA [4] 20 _ _ _ _ _ _ ?_
  refine qm_for (P := fun p => qm_PW G mX8_whoKnow z 4 0 0 [vr P, vi f, vi (s_knowers (mi0 w) f p), vi (nI p)] [] h) (N := n) ?_ ?_
  · exact qm_wp_ok hA [] 20 _ _ _ _ _ _ ⟨t.is, fun _ => ⟨trivial, rfl, rfl⟩, fun (q : ¬ h.1 P 0 ≤ nI n) => absurd (by rw [t.pp]; exact Int32.le_refl _) q⟩
  · intro p hp key
    rw [← nI_1, s_knowers] at key
    refine qm_wp_ok hA [4] 40 _ _ _ _ _ _ ⟨t.is, fun (q : h.1 P 0 ≤ nI p) => absurd q (by rw [t.pp]; exact nI_ge hp (by omega)), fun _ => ⟨t.is, _, t.rd (k := 4) (by decide) (by decide), t.ar (k := 4) (by decide) (by decide), t.ln (k := 4) (by decide) (by decide) (by omega), 0, 0, _, c_isIn hG d h _ f, ⟨Nat.le_refl _, Nat.le_refl _⟩, ?_⟩⟩
    rintro _ _ ⟨rfl, rfl⟩
    rw [(t.at (by omega : p < 6)).2.2.2.1]
    refine b2_eq (fun hb => ?_) (fun hb => ?_)
    · rw [if_pos (show bit (mi0 w p) f = true from hb)] at key
      exact key
    · rw [if_neg (by rw [show bit (mi0 w p) f = false from hb]; decide)] at key
      exact key
