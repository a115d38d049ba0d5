/-! the class: which word is written -/
theorem wr_eq {B : Nat → Nat} {b : Nat} : ∀ n l, wr B b n = l ↔ l.length = n ∧ ∀ k, k < n → l.getD (n - 1 - k) 0 = B (b + k)
  | 0, l => by
    rw [wr]
    exact ⟨fun e => by rw [← e]; exact ⟨rfl, fun k hk => absurd hk (Nat.not_lt_zero _)⟩, fun e => (List.length_eq_zero_iff.mp e.1).symm⟩
  | n + 1, [] => by
    rw [wr]
    exact ⟨fun e => absurd e (by simp), fun e => absurd e.1 (by simp)⟩
  | n + 1, x :: l => by
    rw [wr, List.cons.injEq, wr_eq n l, List.length_cons]
    constructor
    · rintro ⟨e1, e2, e3⟩
      refine ⟨by omega, fun k hk => ?_⟩
      by_cases c : k = n
      · rw [c, show n + 1 - 1 - n = 0 by omega]; exact e1.symm
      · rw [show n + 1 - 1 - k = (n - 1 - k) + 1 by omega]
        exact e3 k (by omega)
    · rintro ⟨e2, e3⟩
      refine ⟨?_, by omega, fun k hk => ?_⟩
      · have := e3 n (by omega)
        rw [show n + 1 - 1 - n = 0 by omega] at this
        exact this.symm
      · have := e3 k (by omega)
        rw [show n + 1 - 1 - k = (n - 1 - k) + 1 by omega] at this
        exact this
def lt_ (j k : Nat) : Nat := (nm j).getD (wn j - 1 - k) 0
theorem lt_ok : ∀ j, j < 12 → (nm j).length = wn j ∧ ∀ k, k < 7 → k < wn j → wl j k = nI (lt_ j k) ∧ lt_ j k < 128 := by decide +kernel
theorem wr_nm {B : Nat → Nat} {b n j : Nat} (hj : j < 12) : wr B b n = nm j ↔ n = wn j ∧ ∀ k, k < n → B (b + k) = lt_ j k := by
  rw [wr_eq, (lt_ok j hj).1]
  constructor
  · rintro ⟨e, f⟩
    exact ⟨e.symm, fun k hk => by rw [lt_, e]; exact (f k hk).symm⟩
  · rintro ⟨e, f⟩
    exact ⟨e.symm, fun k hk => by rw [f k hk, lt_, e]⟩
theorem c_isWritten {G : qm_G} (hG : G.2.2.2.2 = true) (d : Nat) (h : qm_H) {B : Nat → Nat} {b e j : Nat} (hB : TP (h.1 2) B) (he : e ≤ 600) (hbe : b ≤ e) (h5 : h.1 8 5 = nI e) (h7 : h.1 8 7 = nI b) (hj : j < 12) : qm_Ev G (d + 4) 0 0 qyX2_isWritten [.ref 8, .ref 2, .ref (sR j)] h (fun r h' => r = some (.int (b2 (decide (wr B b (e - b) = nm j)))) ∧ h = h') := by
  obtain ⟨w1, w2⟩ := wn_le j hj
  have es : h.1 8 5 - h.1 8 7 = nI (e - b) := by rw [h5, h7, pk_sub hbe]
  have iff := wr_nm (B := B) (b := b) (n := e - b) hj
  obtain ⟨V, hV⟩ : ∃ V, V = decide (wr B b (e - b) = nm j) := ⟨_, rfl⟩
  rw [← hV]
  refine qm_Ev.by (M := mX2_isWritten) okX2_isWritten (Nat.le_of_ble_eq_true rfl) hG fun z hA => ?_
  have len : ∀ i e', mX2_isWritten.2.2[i]? = some e' → e'.2.1 = .invokevirtual 112 → qm_len e' = 3 → ∀ (L : qm_L) (rs : List Value), (rs.map fun v => v.category).sum ≤ 8 → qm_PW G mX2_isWritten z (i + 1) 0 0 L (.int (nI (wn j)) :: rs) h → qm_PW G mX2_isWritten z i 0 0 L (.ref (sR j) :: rs) h := fun i e' k1 k2 k3 L rs hc k => by
    refine sp_vstr (as := []) (n := 0) hA k1 k2 k3 hj (y := qyJ0_length_8abf5) (cok_S (k1 := 415) (k2 := 124) (k3 := 412) (by decide +kernel) (by decide +kernel) (by decide +kernel) (by decide +kernel) (by decide +kernel) rfl) (qm_hs_in (w := 413) (by decide +kernel)) (qm_hs_in (w := 414) (by decide +kernel)) (j_length hG _ h hj) rfl hc (Nat.le_refl _) (Nat.le_refl _) ?_
    rintro _ _ ⟨rfl, rfl⟩
    exact k
  refine qm_wp_ok hA [6] 20 _ _ _ _ _ _ ⟨rfl, rfl, ?_⟩
  refine len 6 _ rfl rfl rfl _ _ (Nat.le_of_ble_eq_true rfl) ?_
  by_cases hn : e - b = wn j
  · refine qm_wp_ok hA [12] 20 _ _ _ _ _ _ ⟨fun _ => ?_, fun (q : ¬ h.1 8 5 - h.1 8 7 = nI (wn j)) => absurd (by rw [es, hn]) q⟩
    refine qm_for (P := fun k => (∀ i, i < k → B (b + i) = lt_ j i) → qm_PW G mX2_isWritten z 12 0 0 [vr 8, vr 2, vr (sR j), vi (nI k)] [] (h)) (N := wn j) ?_ ?_ (fun i hi => absurd hi (Nat.not_lt_zero _))
    · intro all
      have e1 : V = true := by rw [hV]; exact decide_eq_true (iff.mpr ⟨hn, fun k hk => all k (by omega)⟩)
      refine qm_wp_ok hA [14] 20 _ _ _ _ _ _ ?_
      refine len 14 _ rfl rfl rfl _ _ (Nat.le_of_ble_eq_true rfl) ?_
      exact qm_wp_ok hA [] 20 _ _ _ _ _ _ ⟨fun _ => ⟨rfl, congV (by rw [e1]; rfl), rfl⟩, fun q => absurd (Int32.le_refl _) q⟩
    · intro k hk nx all
      have hkb : b + k < 600 := by omega
      obtain ⟨l1, l2⟩ := (lt_ok j hj).2 k (by omega) hk
      have ek : h.1 8 7 + nI k = nI (b + k) := by rw [h7, nI_add]
      have hin : vp_in (h.1 8 7 + nI k) 600 := by rw [ek]; exact vp_in_nI hkb (by decide)
      have eb : h.1 2 (h.1 8 7 + nI k).toNatClampNeg = byI (B (b + k)) := by rw [ek, nI_clamp (by omega), (hB _ hkb).1]
      have ec := by_eq (b := B (b + k)) (hB _ hkb).2 l2
      rw [← eb, ← l1] at ec
      refine qm_wp_ok hA [14] 20 _ _ _ _ _ _ ?_
      refine len 14 _ rfl rfl rfl _ _ (Nat.le_of_ble_eq_true rfl) ?_
      refine qm_wp_ok hA [31] 40 _ _ _ _ _ _ ⟨fun q => absurd q (nI_ge hk (by omega)), fun _ => ⟨rfl, rfl, fun (q : nI 600 ≤ h.1 8 7 + nI k) => absurd q (by rw [ek]; exact nI_ge hkb (by decide)), fun _ => ⟨rfl, rfl, hin, ?_⟩⟩⟩
      refine sp_vstr (as := [.int (nI k)]) (n := 1) hA rfl rfl rfl hj (y := qyJ0_charAt_5068e) (cok_S (k1 := 425) (k2 := 124) (k3 := 422) (by decide +kernel) (by decide +kernel) (by decide +kernel) (by decide +kernel) (by decide +kernel) rfl) (qm_hs_in (w := 423) (by decide +kernel)) (qm_hs_in (w := 424) (by decide +kernel)) (j_charAt hG _ h hj hk) rfl (Nat.le_of_ble_eq_true rfl) (Nat.le_refl _) (Nat.le_refl _) ?_
      rintro _ _ ⟨rfl, rfl⟩
      refine qm_wp_ok hA [12] 20 _ _ _ _ _ _ ⟨fun (q : h.1 2 (h.1 8 7 + nI k).toNatClampNeg = wl j k) => ?_, fun (q : ¬ h.1 2 (h.1 8 7 + nI k).toNatClampNeg = wl j k) => ⟨rfl, congV ?_, rfl⟩⟩
      · have k2 := nx (fun i hi => by
          rcases Nat.lt_or_ge i k with x | x
          · exact all i x
          · rw [show i = k by omega]; exact ec.mp q)
        rw [← nI_1] at k2
        exact k2
      · have e0 : V = false := by rw [hV]; exact decide_eq_false (fun x => q (ec.mpr ((iff.mp x).2 k (by omega))))
        rw [e0]; rfl
  · have e0 : V = false := by rw [hV]; exact decide_eq_false (fun x => hn (iff.mp x).1)
    refine qm_wp_ok hA [] 20 _ _ _ _ _ _ ⟨fun (q : h.1 8 5 - h.1 8 7 = nI (wn j)) => absurd ((nI_eq (by omega) (by omega)).mp (by rw [← es]; exact q)) hn, fun _ => ⟨rfl, congV (by rw [e0]; rfl), rfl⟩⟩
def oI (o : Option Nat) : Int32 := match o with
  | none => -1
  | some w => nI w
def fw (s : Nat) : Nat := [0, 5, 10, 12].getD s 0
theorem fw_ok : ∀ s, s < 3 → ws s = List.range' (fw s) (fw (s + 1) - fw s) ∧ fw s ≤ fw (s + 1) ∧ fw (s + 1) ≤ 12 ∧ qm_sti 1 s = nI (fw s) ∧ qm_sti 1 (s + 1) = nI (fw (s + 1)) := by decide
theorem c_wordOf {G : qm_G} (hG : G.2.2.2.2 = true) (d : Nat) (h : qm_H) {B : Nat → Nat} {b e s : Nat} (hB : TP (h.1 2) B) (he : e ≤ 600) (hbe : b ≤ e) (h5 : h.1 8 5 = nI e) (h7 : h.1 8 7 = nI b) (hs : s < 3) : qm_Ev G (d + 5) 0 0 qyX2_wordOf [.ref 8, .ref 2, .int (nI s)] h (fun r h' => r = some (.int (oI (wof (wr B b (e - b)) (ws s)))) ∧ h = h') := by
  obtain ⟨f1, f2, f3, f4, f5⟩ := fw_ok s hs
  obtain ⟨V, hV⟩ : ∃ V, V = wof (wr B b (e - b)) (ws s) := ⟨_, rfl⟩
  rw [← hV]
  rw [f1] at hV
  refine qm_Ev.by (M := mX2_wordOf) okX2_wordOf (Nat.le_of_ble_eq_true rfl) hG fun z hA => ?_
  refine qm_wp_ok hA [7] 20 _ _ _ _ _ _ ⟨fun q => absurd q (nI_pos (by omega)), fun _ => ⟨fun _ => ?_, fun q => absurd (nI_lt (b := 3) hs (by decide)) q⟩⟩
  refine sp_gets hA rfl rfl rfl 1 rfl (k1 := 391) (by decide +kernel) ?_
  refine qm_wp_ok hA [9] 10 _ _ _ _ _ _ ?_
  refine sp_ti hA rfl rfl rfl 1 rfl (y := nI (fw s)) (vp_in_nI (by omega) (by decide)) (by rw [nI_clamp (by omega), f4]) ?_
  have hx : vp_in (nI s + 1) 4 := by rw [nI_1]; exact vp_in_nI (by omega) (by decide)
  have hy : Value.int (qm_sti 1 (nI s + 1).toNatClampNeg) = .int (nI (fw (s + 1))) := by rw [nI_1, nI_clamp (by omega), f5]
  have main : ∀ r w, w + r = fw (s + 1) → V = wof (wr B b (e - b)) (List.range' w r) → qm_PW G mX2_wordOf z 11 0 0 [vr 8, vr 2, vi (nI s), vi (nI w)] [] (h) := by
    intro r
    induction r with
    | zero =>
      intro w hw q
      refine qm_wp_ok hA [12] 10 _ _ _ _ _ _ ?_
      refine sp_gets hA rfl rfl rfl 1 rfl (k1 := 391) (by decide +kernel) ?_
      refine qm_wp_ok hA [16] 10 _ _ _ _ _ _ ?_
      refine sp_ti hA rfl rfl rfl 1 rfl (x := nI s + 1) (y := nI (fw (s + 1))) hx hy ?_
      refine qm_wp_ok hA [] 10 _ _ _ _ _ _ ⟨fun _ => ⟨trivial, congV ?_, rfl⟩, fun (q : ¬ nI (fw (s + 1)) ≤ nI w) => absurd (nI_le (by omega) (by omega)) q⟩
      rw [q]; rfl
    | succ r ih =>
      intro w hw q
      have q : V = if wr B b (e - b) = nm w then some w else wof (wr B b (e - b)) (List.range' (w + 1) r) := q
      refine qm_wp_ok hA [12] 10 _ _ _ _ _ _ ?_
      refine sp_gets hA rfl rfl rfl 1 rfl (k1 := 391) (by decide +kernel) ?_
      refine qm_wp_ok hA [16] 10 _ _ _ _ _ _ ?_
      refine sp_ti hA rfl rfl rfl 1 rfl (x := nI s + 1) (y := nI (fw (s + 1))) hx hy ?_
      refine qm_wp_ok hA [11] 20 _ _ _ _ _ _ ⟨fun (q : nI (fw (s + 1)) ≤ nI w) => absurd q (nI_ge (by omega) (by omega)), fun _ => ⟨0, 0, _, c_nameOf hG _ h (j := w) (by omega), ⟨Nat.le_refl _, Nat.le_refl _⟩, ?_⟩⟩
      rintro _ _ ⟨rfl, rfl⟩
      refine ⟨rfl, 0, 0, _, c_isWritten hG d h hB he hbe h5 h7 (j := w) (by omega), ⟨Nat.le_refl _, Nat.le_refl _⟩, ?_⟩
      rintro _ _ ⟨rfl, rfl⟩
      by_cases c : wr B b (e - b) = nm w
      · rw [decide_eq_true c]
        rw [if_pos c] at q
        exact ⟨fun q => absurd q (by decide), fun _ => ⟨trivial, congV (by rw [q]; rfl), rfl⟩⟩
      · rw [decide_eq_false c]
        rw [if_neg c] at q
        have k2 := ih (w + 1) (by omega) q
        rw [← nI_1] at k2
        exact ⟨fun _ => k2, fun q => absurd rfl q⟩
  refine qm_wp_ok hA [11] 10 _ _ _ _ _ _ ?_
  exact main _ (fw s) (by omega) hV
