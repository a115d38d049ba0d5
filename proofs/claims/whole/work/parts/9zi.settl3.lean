/-! the class: a town settles: who knows, who is heard -/
/-- behind p people -/
def SB (h h' : qm_H) (P n : Nat) (T : Nat → Int32) (p : Nat) : Prop := sb [P + 4, P + 6] h h' ∧ ∀ j, j < 6 → h'.1 (P + 4) j = (if j < p then s_closed T (T (19 + j)) 6 else T (19 + j)) ∧ h'.1 (P + 6) j = nI (if j < p then hbN T j n else 0)
theorem st_b {G : qm_G} (hG : G.2.2.2.2 = true) {d : Nat} {h : qm_H} {P n : Nat} {T : Nat → Int32} {z : qm_Z} {U : Option Value → qm_H → Prop} (hA : qm_At G true mX8_settle z (d + 2) 0 0 U) (hn : n ≤ 6) (hH : TH h P) (hK : TK h P T) (h0 : T 0 = nI n) (h6 : ∀ j, j < 6 → h.1 (P + 6) j = 0) (k79 : ∀ h', SB h h' P n T n → qm_PW G mX8_settle z 79 0 0 [vr P, vu, vu] [] (h')) : qm_PW G mX8_settle z 36 0 0 [vr P, vi (nI 0), vu] [] (h) := by
  refine qm_for (P := fun p => ∀ h', SB h h' P n T p → qm_PW G mX8_settle z 36 0 0 [vr P, vi (nI p), vu] [] (h')) (N := n) ?_ ?_ h ⟨sb.rf, fun j hj => ⟨by rw [if_neg (Nat.not_lt_zero _)]; exact (hK.2 j hj).2.2.2.1, by rw [if_neg (Nat.not_lt_zero _)]; exact h6 j hj⟩⟩
  · intro h' c
    have hp : h'.1 P 0 = nI n := by rw [c.1.2 P (fun z => by simp at z), hK.1, h0]
    exact qm_wp_ok hA [79] 10 _ _ _ _ _ _ ⟨(hH.sb c.1).2.1, fun _ => qm_PW.mask [true, false, false] (k79 h' c), fun (q : ¬ h'.1 P 0 ≤ nI n) => absurd (by rw [hp]; exact Int32.le_refl _) q⟩
  · intro p hp nx h' c
    obtain ⟨c1, c2⟩ := c
    have H1 := hH.sb c1
    have pp : h'.1 P 0 = nI n := by rw [c1.2 P (fun z => by simp at z), hK.1, h0]
    have ar := fun k (a : 1 ≤ k) (b : k ≤ 7) => H1.2.2 k a b
    have ln : ∀ k, 1 ≤ k → k ≤ 6 → ∀ i, i < 6 → vp_in (nI i) (qm_kn true h' (P + k)).2 := fun k a b i hi => by
      rw [(ar k a (by omega)).2.2, if_neg (by omega)]; exact vp_in_nI hi (by decide)
    have ep : (nI p).toNatClampNeg = p := nI_clamp (by omega)
    have w7 : ∀ f, f < 6 → h'.1 (P + 2) f = T (7 + f) := fun f hf => by rw [c1.2 (P + 2) (fun z => by simp at z)]; exact (hK.2 f hf).2.1
    have kp : h'.1 (P + 4) (nI p).toNatClampNeg = T (19 + p) := by rw [ep, (c2 p (by omega)).1, if_neg (Nat.lt_irrefl _)]
    refine qm_wp_ok hA [52] 40 _ _ _ _ _ _ ⟨H1.2.1, fun (q : h'.1 P 0 ≤ nI p) => absurd q (by rw [pp]; exact nI_ge hp (by omega)), fun _ => ⟨H1.2.1, _, (ar 4 (by decide) (by decide)).1, H1.2.1, _, (ar 4 (by decide) (by decide)).1, (ar 4 (by decide) (by decide)).2.1, ln 4 (by decide) (by decide) p (by omega), H1.2.1, 0, 0, _, c_withAllK hG d h' H1 w7 _, ⟨Nat.le_refl _, Nat.le_refl _⟩, ?_⟩⟩
    rintro _ _ ⟨rfl, rfl⟩
    refine ⟨(ar 4 (by decide) (by decide)).2.1, ln 4 (by decide) (by decide) p (by omega), ?_⟩
    have go : ∀ h2, sb [P + 4, P + 6] h h2 → (∀ j, j < 6 → h2.1 (P + 4) j = (if j < p + 1 then s_closed T (T (19 + j)) 6 else T (19 + j))) → (∀ j, j < 6 → j ≠ p → h2.1 (P + 6) j = nI (if j < p then hbN T j n else 0)) → h2.1 (P + 6) p = nI (hbN T p 0) → qm_PW G mX8_settle z 52 0 0 [vr P, vi (nI p), vi (nI 0)] [] (h2) := by
      refine qm_for (P := fun o => ∀ h2, sb [P + 4, P + 6] h h2 → (∀ j, j < 6 → h2.1 (P + 4) j = (if j < p + 1 then s_closed T (T (19 + j)) 6 else T (19 + j))) → (∀ j, j < 6 → j ≠ p → h2.1 (P + 6) j = nI (if j < p then hbN T j n else 0)) → h2.1 (P + 6) p = nI (hbN T p o) → qm_PW G mX8_settle z 52 0 0 [vr P, vi (nI p), vi (nI o)] [] (h2)) (N := n) ?_ ?_
      · intro h2 d1 d2 d3 d4
        have pp2 : h2.1 P 0 = nI n := by rw [d1.2 P (fun z => by simp at z), hK.1, h0]
        have k := nx h2 ⟨d1, fun j hj => ⟨d2 j hj, ?_⟩⟩
        · rw [← nI_1] at k
          exact qm_wp_ok hA [36] 10 _ _ _ _ _ _ ⟨(hH.sb d1).2.1, fun _ => qm_PW.mask [true, true, false] k, fun (q : ¬ h2.1 P 0 ≤ nI n) => absurd (by rw [pp2]; exact Int32.le_refl _) q⟩
        · by_cases e : j = p
          · rw [e, if_pos (Nat.lt_succ_self _), d4]
          · rw [d3 j hj e]
            by_cases x : j < p
            · rw [if_pos x, if_pos (by omega)]
            · rw [if_neg x, if_neg (by omega)]
      · intro o ho nx2 h2 d1 d2 d3 d4
        have H2 := hH.sb d1
        have pp2 : h2.1 P 0 = nI n := by rw [d1.2 P (fun z => by simp at z), hK.1, h0]
        have ar2 := fun k (a : 1 ≤ k) (b : k ≤ 7) => H2.2.2 k a b
        have ln2 : ∀ k, 1 ≤ k → k ≤ 6 → ∀ i, i < 6 → vp_in (nI i) (qm_kn true h2 (P + k)).2 := fun k a b i hi => by
          rw [(ar2 k a (by omega)).2.2, if_neg (by omega)]; exact vp_in_nI hi (by decide)
        have v5 : h2.1 (P + 5) (nI o).toNatClampNeg = T (25 + o) := by rw [nI_clamp (by omega), d1.2 (P + 5) (fun z => by simp at z)]; exact (hK.2 o (by omega)).2.2.2.2
        have v6 : h2.1 (P + 6) (nI p).toNatClampNeg = nI (hbN T p o) := by rw [ep]; exact d4
        have m73 : ∀ y, y = nI (if s_hears T o p then 2 ^ o else 0) → qm_PW G mX8_settle z 73 0 0 [vr P, vi (nI p), vi (nI o)] [.int y, .int (h2.1 (P + 6) (nI p).toNatClampNeg), .int (nI p), .ref (P + 6)] (h2) := fun y hy => by
          have k := nx2 (qm_si h2 (P + 6) (nI p).toNatClampNeg (h2.1 (P + 6) (nI p).toNatClampNeg ||| y)) (d1.si (by simp)) (fun j hj => by rw [si_ne _ _ _ (by omega)]; exact d2 j hj) (fun j hj e => by rw [ep, si_o _ _ _ e]; exact d3 j hj e) (by rw [v6, ep, si_s, hy, fa_or, hbN])
          rw [← nI_1 o] at k
          exact qm_wp_ok hA [52] 10 _ _ _ _ _ _ ⟨(ar2 6 (by decide) (by decide)).2.1, ln2 6 (by decide) (by decide) p (by omega), k⟩
        refine qm_wp_ok hA [73] 40 _ _ _ _ _ _ ⟨H2.2.1, fun (q : h2.1 P 0 ≤ nI o) => absurd q (by rw [pp2]; exact nI_ge ho (by omega)), fun _ => ⟨H2.2.1, _, (ar2 6 (by decide) (by decide)).1, (ar2 6 (by decide) (by decide)).2.1, ln2 6 (by decide) (by decide) p (by omega), H2.2.1, _, (ar2 5 (by decide) (by decide)).1, (ar2 5 (by decide) (by decide)).2.1, ln2 5 (by decide) (by decide) o (by omega), 0, 0, _, c_isIn hG _ h2 _ _, ⟨Nat.le_refl _, Nat.le_refl _⟩, ?_⟩⟩
        rintro _ _ ⟨rfl, rfl⟩
        refine b2_eq (fun t => m73 _ ?_) (fun t => m73 _ ?_)
        · rw [v5] at t
          rw [if_pos (show s_hears T o p = true from t)]
          exact (s_pow (by omega)).2
        · rw [v5] at t
          rw [if_neg (by rw [show s_hears T o p = false from t]; decide)]; rfl
    have g := go (qm_si h' (P + 4) (nI p).toNatClampNeg (s_closed T (h'.1 (P + 4) (nI p).toNatClampNeg) 6)) (c1.si (by simp)) (fun j hj => by
      rw [kp, ep]
      by_cases e : j = p
      · rw [e, si_s, if_pos (Nat.lt_succ_self _)]
      · rw [si_o _ _ _ e, (c2 j hj).1]
        by_cases x : j < p
        · rw [if_pos x, if_pos (by omega)]
        · rw [if_neg x, if_neg (by omega)]) (fun j hj e => by rw [si_ne _ _ _ (by omega)]; exact (c2 j hj).2) (by
      rw [si_ne _ _ _ (by omega), (c2 p (by omega)).2, if_neg (Nat.lt_irrefl _)]; rfl)
    exact g
