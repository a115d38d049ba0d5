/-! the calls that keep what is told: both answer alike -/
/-- both are called, answer alike, and what holds between two calls holds again -/
def VK (lg : Bool) (v : Value) : Prop := bif lg then (∃ y, v = .long y) else ∃ y, v = .int y
def BOTH (lg : Bool) (G : qm_G) (d C S : Nat) (yx ym : qm_CI) (as : List Value) (h : qm_H) : Prop := qm_Ev G d C S yx (.ref 0 :: as) h (fun r h1 => ∃ v, r = some v ∧ VK lg v ∧ qm_Ev G d 0 0 ym (.ref 26 :: as) h1 (fun r' h2 => r' = some v ∧ INV h2 ∧ h2.2.2.2.2 ≤ h.2.2.2.2 + 8))
def RWS (h h1 : qm_H) : Prop := ∀ q, 27 ≤ q → q ≤ 34 → h1.1 q = h.1 q
theorem RWS.tw {h h1 : qm_H} (e : RWS h h1) : tw h1 = tw h := by
  funext t j
  show h1.1 32 _ = h.1 32 _
  rw [e 32 (by decide) (by decide)]
theorem RWS.yw {h h1 : qm_H} (e : RWS h h1) : yw h1 = yw h := by
  funext t j
  show h1.1 33 _ = h.1 33 _
  rw [e 33 (by decide) (by decide)]
theorem RWS.gw {h h1 : qm_H} (e : RWS h h1) : gw h1 = gw h := by
  funext t j
  show h1.1 34 _ = h.1 34 _
  rw [e 34 (by decide) (by decide)]
theorem ST.co {h h1 : qm_H} {mt my ml : Nat} (s : ST h mt my ml) (e : RWS h h1) : ST h1 mt my ml := by
  unfold ST
  rw [e.tw, e.yw, e.gw, e 31 (by decide) (by decide)]
  exact s
theorem both_of {lg : Bool} {G : qm_G} {d C S : Nat} {yx ym : qm_CI} {as : List Value} {h : qm_H} {V : qm_H → Value} (hk : ∀ h, VK lg (V h)) (hv : INV h) (hx : qm_Ev G d C S yx (.ref 0 :: as) h (fun r h1 => r = some (V h) ∧ ∃ n, n ≤ 8 ∧ ge XL [] n h h1)) (hm : ∀ h1, RWS h h1 → qm_Ev G d 0 0 ym (.ref 26 :: as) h1 (fun r h2 => r = some (V h1) ∧ pers h1 h2)) (hV : ∀ h1, RWS h h1 → V h1 = V h) : BOTH lg G d C S yx ym as h := by
  refine hx.mono fun r h1 => ?_
  rintro ⟨rfl, n, n8, g⟩
  have v1 : INV h1 := hv.keep g (fun q hq => by
    have : q ∈ [8, 9, 10, 11, 12, 13, 14, 15, 16, 17, 18, 19, 20, 21, 22, 23, 24, 25] := hq
    simp at this; omega)
  have e : RWS h h1 := fun q a b => (g.2 q (by have := hv.1; omega)).1 (fun z => by
    have : q ∈ [8, 9, 10, 11, 12, 13, 14, 15, 16, 17, 18, 19, 20, 21, 22, 23, 24, 25] := z
    simp at this; omega)
  refine ⟨V h, rfl, hk h, (hm h1 e).mono fun r h2 => ?_⟩
  rintro ⟨rfl, p⟩
  refine ⟨by rw [hV h1 e], v1.keep (ge.sb p) (fun q hq => by simp at hq; omega), ?_⟩
  have : h2.2.2.2.2 = h1.2.2.2.2 := by rw [p.1]
  rw [this, g.1]; omega
theorem g_town {G : qm_G} (hG : G.2.2.2.2 = true) (h : qm_H) (v : INV h) (a b : Int32) : BOTH false G 20 0 0 qyX9_town qyX10_town [.int a, .int b] h := by
  obtain ⟨m, L, z1, z2, z3, z4, z5, z6, z7, z8⟩ := v.st
  exact both_of (fun _ => ⟨_, rfl⟩) v (V := fun h => .int (p_town h (m 0) a b)) ((b_town hG 19 h (z4 0 (by decide)).1 z5 a b).mono fun r h1 q => ⟨q.1, 0, by decide, ge.sb q.2⟩) (fun h1 e => a_town hG 17 h1 (z8.co e) a b) (fun h1 e => by simp only [p_town, e.tw, e.yw, e.gw])
theorem g_deed {G : qm_G} (hG : G.2.2.2.2 = true) (h : qm_H) (v : INV h) (a b c : Int32) : BOTH false G 20 0 0 qyX9_deed qyX10_deed [.int a, .int b, .int c] h := by
  obtain ⟨m, L, z1, z2, z3, z4, z5, z6, z7, z8⟩ := v.st
  exact both_of (fun _ => ⟨_, rfl⟩) v (V := fun h => .int (p_deed h (m 1) a b c)) ((b_deed hG 18 h (z4 1 (by decide)).1 z6 a b c).mono fun r h1 q => ⟨q.1, 0, by decide, ge.sb q.2⟩) (fun h1 e => a_deed hG 17 h1 (z8.co e) a b c) (fun h1 e => by simp only [p_deed, e.tw, e.yw, e.gw])
theorem g_fact {G : qm_G} (hG : G.2.2.2.2 = true) (h : qm_H) (v : INV h) (a b c : Int32) : BOTH false G 20 0 0 qyX9_fact qyX10_fact [.int a, .int b, .int c] h := by
  obtain ⟨m, L, z1, z2, z3, z4, z5, z6, z7, z8⟩ := v.st
  exact both_of (fun _ => ⟨_, rfl⟩) v (V := fun h => .int (p_fact h (m 2) a b c)) ((b_fact hG 18 h (z4 2 (by decide)).1 z7 a b c).mono fun r h1 q => ⟨q.1, 0, by decide, ge.sb q.2⟩) (fun h1 e => a_fact hG 17 h1 (z8.co e) a b c) (fun h1 e => by simp only [p_fact, e.tw, e.yw, e.gw])
theorem g_till {G : qm_G} (hG : G.2.2.2.2 = true) (h : qm_H) (v : INV h) (a b : Int32) : BOTH false G 20 0 0 qyX9_till qyX10_till [.int a, .int b] h := by
  obtain ⟨m, L, z1, z2, z3, z4, z5, z6, z7, z8⟩ := v.st
  exact both_of (fun _ => ⟨_, rfl⟩) v (V := fun h => .int (p_till h (m 0) (m 1) a b)) ((b_till hG 13 h (z4 0 (by decide)).1 (z4 1 (by decide)).1 z5 z6 a b).mono fun r h1 q => ⟨q.1, 0, by decide, ge.sb q.2⟩) (fun h1 e => a_till hG 14 h1 (z8.co e) a b) (fun h1 e => by simp only [p_till, e.tw, e.yw, e.gw])
theorem g_state {G : qm_G} (hG : G.2.2.2.2 = true) (h : qm_H) (v : INV h) (a b c x : Int32) : BOTH false G 20 0 0 qyX9_state qyX10_state [.int a, .int b, .int c, .int x] h := by
  obtain ⟨m, L, z1, z2, z3, z4, z5, z6, z7, z8⟩ := v.st
  exact both_of (fun _ => ⟨_, rfl⟩) v (V := fun h => .int (p_state h (m 0) (m 1) a b c x)) ((b_state hG 13 h (z4 0 (by decide)).1 (z4 1 (by decide)).1 z5 z6 a b c x).mono fun r h1 q => ⟨q.1, 0, by decide, ge.sb q.2⟩) (fun h1 e => a_state hG 14 h1 (z8.co e) a b c x) (fun h1 e => by simp only [p_state, e.tw, e.yw, e.gw])
theorem g_drawn {G : qm_G} (hG : G.2.2.2.2 = true) (h : qm_H) (v : INV h) (a b c x : Int32) : BOTH false G 20 0 0 qyX9_drawn qyX10_drawn [.int a, .int b, .int c, .int x] h := by
  obtain ⟨m, L, z1, z2, z3, z4, z5, z6, z7, z8⟩ := v.st
  exact both_of (fun _ => ⟨_, rfl⟩) v (V := fun h => .int (p_drawn h (m 0) a b c x)) ((b_drawn hG 12 h (z4 0 (by decide)).1 z5 a b c x).mono fun r h1 q => ⟨q.1, 0, by decide, ge.sb q.2⟩) (fun h1 e => a_drawn hG 15 h1 (z8.co e) a b c x) (fun h1 e => by simp only [p_drawn, e.tw, e.yw, e.gw])
theorem g_tellings {G : qm_G} (hG : G.2.2.2.2 = true) (h : qm_H) (v : INV h) (a b c : Int32) : BOTH false G 20 0 0 qyX9_tellings qyX10_tellings [.int a, .int b, .int c] h := by
  obtain ⟨m, L, z1, z2, z3, z4, z5, z6, z7, z8⟩ := v.st
  exact both_of (fun _ => ⟨_, rfl⟩) v (V := fun h => .int (p_tell h (m 0) a b c)) ((b_tellings hG 17 h (z4 0 (by decide)).1 z5 a b c).mono fun r h1 q => ⟨q.1, 0, by decide, ge.sb q.2⟩) (fun h1 e => a_tellings hG 16 h1 (z8.co e) a b c) (fun h1 e => by simp only [p_tell, e.tw, e.yw, e.gw])
theorem g_message {G : qm_G} (hG : G.2.2.2.2 = true) (h : qm_H) (v : INV h) (a b c : Int32) : BOTH false G 20 0 0 qyX9_message qyX10_message [.int a, .int b, .int c] h := by
  obtain ⟨m, L, z1, z2, z3, z4, z5, z6, z7, z8⟩ := v.st
  exact both_of (fun _ => ⟨_, rfl⟩) v (V := fun h => .int (p_msg h (m 0) a b c)) ((b_message hG 17 h (z4 0 (by decide)).1 z5 a b c).mono fun r h1 q => ⟨q.1, 0, by decide, ge.sb q.2⟩) (fun h1 e => a_message hG 16 h1 (z8.co e) a b c) (fun h1 e => by simp only [p_msg, e.tw, e.yw, e.gw])
theorem g_learnt {G : qm_G} (hG : G.2.2.2.2 = true) (h : qm_H) (v : INV h) (a b c : Int32) : BOTH false G 20 0 0 qyX9_learnt qyX10_learnt [.int a, .int b, .int c] h := by
  obtain ⟨m, L, z1, z2, z3, z4, z5, z6, z7, z8⟩ := v.st
  exact both_of (fun _ => ⟨_, rfl⟩) v (V := fun h => .int (p_learnt h (m 0) a b c)) ((b_learnt hG 18 h (z4 0 (by decide)).1 z5 a b c).mono fun r h1 q => ⟨q.1, 0, by decide, ge.sb q.2⟩) (fun h1 e => a_learnt hG 17 h1 (z8.co e) a b c) (fun h1 e => by simp only [p_learnt, e.tw, e.yw, e.gw])
theorem g_best {G : qm_G} (hG : G.2.2.2.2 = true) (h : qm_H) (v : INV h) (a b : Int32) (u : Bool) : BOTH false G 20 0 0 qyX9_best qyX10_best [.int a, .int b, .int (b2 u)] h := by
  obtain ⟨m, L, z1, z2, z3, z4, z5, z6, z7, z8⟩ := v.st
  exact both_of (fun _ => ⟨_, rfl⟩) v (V := fun h => .int (p_best h (m 0) a b u)) ((b_best hG 16 h (z4 0 (by decide)).1 z5 a b u).mono fun r h1 q => ⟨q.1, 0, by decide, ge.sb q.2⟩) (fun h1 e => a_best hG 16 h1 (z8.co e) a b u) (fun h1 e => by simp only [p_best, e.tw, e.yw, e.gw])
theorem g_luck {G : qm_G} (hG : G.2.2.2.2 = true) (h : qm_H) (v : INV h) (a b : Int32) (u : Bool) : BOTH true G 20 0 0 qyX9_luck qyX10_luck [.int a, .int b, .int (b2 u)] h := by
  obtain ⟨m, L, z1, z2, z3, z4, z5, z6, z7, z8⟩ := v.st
  exact both_of (fun _ => ⟨_, rfl⟩) v (V := fun h => .long (p_luck h (m 0) a b u)) ((b_luck hG 18 h (z4 0 (by decide)).1 z5 a b u).mono fun r h1 q => ⟨q.1, 0, by decide, ge.sb q.2⟩) (fun h1 e => a_luck hG 17 h1 (z8.co e) a b u) (fun h1 e => by simp only [p_luck, e.tw, e.yw, e.gw])
theorem g_fewest {G : qm_G} (hG : G.2.2.2.2 = true) (h : qm_H) (v : INV h) (a b : Int32) (u : Bool) : BOTH false G 20 0 0 qyX9_fewest qyX10_fewest [.int a, .int b, .int (b2 u)] h := by
  obtain ⟨m, L, z1, z2, z3, z4, z5, z6, z7, z8⟩ := v.st
  exact both_of (fun _ => ⟨_, rfl⟩) v (V := fun h => .int (p_fewest h (m 0) (m 2) a b u)) ((b_fewest hG 18 h (z4 0 (by decide)).1 (z4 2 (by decide)).1 z5 z7 a b u).mono fun r h1 q => ⟨q.1, 0, by decide, ge.sb q.2⟩) (fun h1 e => a_fewest hG 16 h1 (z8.co e) a b u) (fun h1 e => by simp only [p_fewest, e.tw, e.yw, e.gw])
theorem g_fits {G : qm_G} (hG : G.2.2.2.2 = true) (h : qm_H) (v : INV h) (a b c : Int32) : BOTH false G 20 0 0 qyX9_fits qyX10_fits [.int a, .int b, .int c] h := by
  obtain ⟨m, L, z1, z2, z3, z4, z5, z6, z7, z8⟩ := v.st
  exact both_of (fun _ => ⟨_, rfl⟩) v (V := fun h => .int (p_fits h (m 0) (m 2) a b c)) ((b_fits hG 18 h (z4 0 (by decide)).1 (z4 2 (by decide)).1 z5 z7 a b c).mono fun r h1 q => ⟨q.1, 0, by decide, ge.sb q.2⟩) (fun h1 e => a_fits hG 16 h1 (z8.co e) a b c) (fun h1 e => by simp only [p_fits, e.tw, e.yw, e.gw])
theorem g_share {G : qm_G} (hG : G.2.2.2.2 = true) (h : qm_H) (v : INV h) (a b c : Int32) (u : Bool) : BOTH true G 20 0 0 qyX9_share qyX10_share [.int a, .int b, .int c, .int (b2 u)] h := by
  obtain ⟨m, L, z1, z2, z3, z4, z5, z6, z7, z8⟩ := v.st
  exact both_of (fun _ => ⟨_, rfl⟩) v (V := fun h => .long (p_share h (m 0) (m 2) a b c u)) ((b_share hG 18 h (z4 0 (by decide)).1 (z4 2 (by decide)).1 z5 z7 a b c u).mono fun r h1 q => ⟨q.1, 0, by decide, ge.sb q.2⟩) (fun h1 e => a_share hG 16 h1 (z8.co e) a b c u) (fun h1 e => by simp only [p_share, e.tw, e.yw, e.gw])
theorem g_roots {G : qm_G} (hG : G.2.2.2.2 = true) (h : qm_H) (v : INV h) (a b : Int32) : BOTH false G 20 0 0 qyX9_roots qyX10_roots [.int a, .int b] h := by
  obtain ⟨m, L, z1, z2, z3, z4, z5, z6, z7, z8⟩ := v.st
  exact both_of (fun _ => ⟨_, rfl⟩) v (V := fun h => .int (p_roots h (m 0) a b)) ((b_roots hG 17 h (z4 0 (by decide)).1 z5 a b).mono fun r h1 q => ⟨q.1, 0, by decide, ge.sb q.2⟩) (fun h1 e => a_roots hG 17 h1 (z8.co e) a b) (fun h1 e => by simp only [p_roots, e.tw, e.yw, e.gw])
theorem g_reach {G : qm_G} (hG : G.2.2.2.2 = true) (h : qm_H) (v : INV h) (a b : Int32) : BOTH false G 20 0 0 qyX9_reach qyX10_reach [.int a, .int b] h := by
  obtain ⟨m, L, z1, z2, z3, z4, z5, z6, z7, z8⟩ := v.st
  exact both_of (fun _ => ⟨_, rfl⟩) v (V := fun h => .int (p_reach h (m 0) a b)) ((b_reach hG 17 h (z4 0 (by decide)).1 z5 a b).mono fun r h1 q => ⟨q.1, 0, by decide, ge.sb q.2⟩) (fun h1 e => a_reach hG 16 h1 (z8.co e) a b) (fun h1 e => by simp only [p_reach, e.tw, e.yw, e.gw])
theorem g_chain {G : qm_G} (hG : G.2.2.2.2 = true) (h : qm_H) (v : INV h) (a b : Int32) : BOTH false G 20 0 0 qyX9_chain qyX10_chain [.int a, .int b] h := by
  obtain ⟨m, L, z1, z2, z3, z4, z5, z6, z7, z8⟩ := v.st
  exact both_of (fun _ => ⟨_, rfl⟩) v (V := fun h => .int (p_chain h (m 0) a b)) ((b_chain hG 10 h (z4 0 (by decide)).1 z5 a b).mono fun r h1 q => ⟨q.1, 0, by decide, ge.sb q.2⟩) (fun h1 e => a_chain hG 16 h1 (z8.co e) a b) (fun h1 e => by simp only [p_chain, e.tw, e.yw, e.gw])
theorem g_weddings {G : qm_G} (hG : G.2.2.2.2 = true) (h : qm_H) (v : INV h) (a b : Int32) : BOTH false G 20 0 0 qyX9_weddings qyX10_weddings [.int a, .int b] h := by
  obtain ⟨m, L, z1, z2, z3, z4, z5, z6, z7, z8⟩ := v.st
  exact both_of (fun _ => ⟨_, rfl⟩) v (V := fun h => .int (p_cpl h (m 0) false a b)) ((b_weddings hG 10 h (z4 0 (by decide)).1 z5 a b).mono fun r h1 q => ⟨q.1, 0, by decide, ge.sb q.2⟩) (fun h1 e => a_weddings hG 13 h1 (z8.co e) a b) (fun h1 e => by simp only [p_cpl, e.tw, e.yw, e.gw])
theorem g_sales {G : qm_G} (hG : G.2.2.2.2 = true) (h : qm_H) (v : INV h) (a b : Int32) : BOTH false G 20 0 0 qyX9_sales qyX10_sales [.int a, .int b] h := by
  obtain ⟨m, L, z1, z2, z3, z4, z5, z6, z7, z8⟩ := v.st
  exact both_of (fun _ => ⟨_, rfl⟩) v (V := fun h => .int (p_cpl h (m 0) true a b)) ((b_sales hG 10 h (z4 0 (by decide)).1 z5 a b).mono fun r h1 q => ⟨q.1, 0, by decide, ge.sb q.2⟩) (fun h1 e => a_sales hG 13 h1 (z8.co e) a b) (fun h1 e => by simp only [p_cpl, e.tw, e.yw, e.gw])
theorem g_bell {G : qm_G} (hG : G.2.2.2.2 = true) (h : qm_H) (v : INV h) (a b : Int32) : BOTH false G 20 0 0 qyX9_bell qyX10_bell [.int a, .int b] h := by
  obtain ⟨m, L, z1, z2, z3, z4, z5, z6, z7, z8⟩ := v.st
  exact both_of (fun _ => ⟨_, rfl⟩) v (V := fun h => .int (p_bell h (m 0) a b)) ((b_bell hG 10 h (z4 0 (by decide)).1 z5 a b).mono fun r h1 q => ⟨q.1, 0, by decide, ge.sb q.2⟩) (fun h1 e => a_bell hG 16 h1 (z8.co e) a b) (fun h1 e => by simp only [p_bell, e.tw, e.yw, e.gw])
theorem g_byTurns {G : qm_G} (hG : G.2.2.2.2 = true) (h : qm_H) (v : INV h) (a b : Int32) (u : Bool) : BOTH false G 20 0 0 qyX9_byTurns qyX10_byTurns [.int a, .int b, .int (b2 u)] h := by
  obtain ⟨m, L, z1, z2, z3, z4, z5, z6, z7, z8⟩ := v.st
  exact both_of (fun _ => ⟨_, rfl⟩) v (V := fun h => .int (p_turns h (m 0) a b u)) ((b_byTurns hG 10 h (z4 0 (by decide)).1 z5 a b u).mono fun r h1 q => ⟨q.1, 0, by decide, ge.sb q.2⟩) (fun h1 e => a_byTurns hG 16 h1 (z8.co e) a b u) (fun h1 e => by simp only [p_turns, e.tw, e.yw, e.gw])
theorem g_after {G : qm_G} (hG : G.2.2.2.2 = true) (h : qm_H) (v : INV h) (a b c : Int32) : BOTH false G 20 0 0 qyX9_after qyX10_after [.int a, .int b, .int c] h := by
  obtain ⟨m, L, z1, z2, z3, z4, z5, z6, z7, z8⟩ := v.st
  exact both_of (fun _ => ⟨_, rfl⟩) v (V := fun h => .int (p_after h (m 0) (m 1) a b c)) ((b_after hG 13 h (z4 0 (by decide)).1 (z4 1 (by decide)).1 z5 z6 a b c).mono fun r h1 q => ⟨q.1, 0, by decide, ge.sb q.2⟩) (fun h1 e => a_after hG 14 h1 (z8.co e) a b c) (fun h1 e => by simp only [p_after, e.tw, e.yw, e.gw])
theorem g_count {G : qm_G} (hG : G.2.2.2.2 = true) (h : qm_H) (v : INV h) (a : Int32) : BOTH false G 20 0 0 qyX9_count qyX10_count [.int a] h := by
  obtain ⟨m, L, z1, z2, z3, z4, z5, z6, z7, z8⟩ := v.st
  exact both_of (fun _ => ⟨_, rfl⟩) v (V := fun h => .int (p_count h a)) ((b_count hG 19 h (fun s hs => by rw [(z4 s hs).2.1, (z4 s hs).2.2]) a).mono fun r h1 q => ⟨q.1, 0, by decide, ge.sb q.2⟩) (fun h1 e => a_count hG 19 h1 a) (fun h1 e => by simp only [p_count, e 31 (by decide) (by decide)])
theorem g_fault {G : qm_G} (hG : G.2.2.2.2 = true) (h : qm_H) (v : INV h) (a : Int32) : BOTH false G 20 0 0 qyX9_fault qyX10_fault [.int a] h := by
  exact both_of (fun _ => ⟨_, rfl⟩) v (V := fun h => .int (p_fault h a)) ((b_fault hG 20 h v.2.2.1.2.1.2.2.1 v.2.2.1.2.1.2.2.2.1 a).mono fun r h1 q => ⟨q.1, 0, by decide, ge.sb q.2⟩) (fun h1 e => a_fault hG 20 h1 a) (fun h1 e => by simp only [p_fault, e 29 (by decide) (by decide), e 30 (by decide) (by decide)])
theorem g_save {G : qm_G} (hG : G.2.2.2.2 = true) (h : qm_H) (v : INV h) (a b c : Int32) : BOTH true G 20 0 0 qyX9_save qyX10_save [.int a, .int b, .int c] h := by
  exact both_of (fun _ => ⟨_, rfl⟩) v (V := fun _ => .long (p_save a b c)) ((b_save hG 17 h a b c).mono fun r h1 q => ⟨q.1, 0, by decide, by rw [← q.2]; exact ge.rf⟩) (fun h1 e => a_save hG 18 h1 a b c) (fun h1 e => rfl)
theorem g_code {G : qm_G} (hG : G.2.2.2.2 = true) (h : qm_H) (v : INV h) (hz : h.2.2.2.2 < 1000000) (a : Int32) : BOTH false G 20 1 6 qyX9_code qyX10_code [.int a] h := by
  obtain ⟨m, L, z1, z2, z3, z4, z5, z6, z7, z8⟩ := v.st
  exact both_of (fun _ => ⟨_, rfl⟩) v (V := fun h => .int (p_code h (m 0) a)) ((b_code hG 18 h (z4 0 (by decide)).1 z5 hz a).mono fun r h1 q => ⟨q.1, q.2.choose, Nat.le_trans q.2.choose_spec.1 (by decide), ge.gr q.2.choose_spec.2⟩) (fun h1 e => a_code hG 16 h1 (z8.co e) a) (fun h1 e => by simp only [p_code, e.tw, e.yw, e.gw])
