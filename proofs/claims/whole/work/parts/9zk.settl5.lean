/-! the class: a town settles: which sets are closed -/
/-- nothing but a long of the place P -/
def SL (P : Nat) (h h' : qm_H) : Prop := h'.1 = h.1 ∧ (∀ q, q ≠ P → h'.2.1 q = h.2.1 q) ∧ h'.2.2 = h.2.2
theorem SL.sl {P : Nat} {h h' : qm_H} (a : SL P h h') (k : Nat) (v : Int64) : SL P h (qm_sl h' P k v) := ⟨a.1, fun q hq => (up_n _ _ hq).trans (a.2.1 q hq), a.2.2⟩
theorem TH.sl {P : Nat} {h h' : qm_H} (t : TH h P) (a : SL P h h') : TH h' P := by
  obtain ⟨x1, x2, x3⟩ := h
  obtain ⟨y1, y2, y3⟩ := h'
  obtain ⟨-, -, e⟩ := a
  subst e
  exact t
def clG (T : Nat → Int32) (s f : Nat) : Nat → Bool
  | 0 => true
  | g + 1 => clG T s f g && (if bit (T (7 + f)) (nI g) then (!s.testBit f || s.testBit g) else true)
def clH (T : Nat → Int32) (s : Nat) : Nat → Bool
  | 0 => true
  | f + 1 => clH T s f && clG T s f 6
theorem LB_or (x y : Int64) (s : Nat) : LB (x ||| y) s = (LB x s || LB y s) := by
  show (x ||| y).toBitVec.getLsbD s = _
  rw [Int64.toBitVec_or, BitVec.getLsbD_or]; rfl
theorem LB_m {s : Nat} (hs : s < 64) : LB (-1) s = true := by
  have := LB_not 0 hs
  rw [LB_z, show (0 : Int64) ^^^ -1 = -1 from rfl] at this
  exact this
theorem st_d {G : qm_G} (hG : G.2.2.2.2 = true) {d : Nat} {h : qm_H} {P : Nat} {T : Nat → Int32} {z : qm_Z} {U : Option Value → qm_H → Prop} (hA : qm_At G true mX8_settle z (d + 1) 0 0 U) (hH : TH h P) (hK : ∀ f, f < 6 → h.1 (P + 2) f = T (7 + f)) (h8 : h.2.1 P 8 = -1) (k148 : ∀ h', SL P h h' → (∀ s, s < 64 → LB (h'.2.1 P 8) s = clH T s 6) → qm_PW G mX8_settle z 148 0 0 [vr P, vu, vu] [] (h')) : qm_PW G mX8_settle z 111 0 0 [vr P, vu, vu] [] (h) := by
  have go := qm_for (P := fun f => ∀ h', SL P h h' → (∀ s, s < 64 → LB (h'.2.1 P 8) s = clH T s f) → qm_PW G mX8_settle z 113 0 0 [vr P, vi (nI f), vu] [] (h')) (N := 6) ?_ ?_
  · exact qm_wp_ok hA [113] 10 _ _ _ _ _ _ (go h ⟨rfl, fun _ _ => rfl, rfl⟩ (fun s hs => by rw [h8, LB_m hs]; rfl))
  · intro h' c1 c2
    exact qm_wp_ok hA [148] 10 _ _ _ _ _ _ ⟨fun _ => qm_PW.mask [true, false, false] (k148 h' c1 c2), fun q => absurd (by decide) q⟩
  · intro f hf nx h' c1 c2
    refine qm_wp_ok hA [118] 10 _ _ _ _ _ _ ⟨fun q => absurd q (nI_ge hf (by decide)), fun _ => ?_⟩
    refine qm_for (P := fun g => ∀ h2, SL P h h2 → (∀ s, s < 64 → LB (h2.2.1 P 8) s = (clH T s f && clG T s f g)) → qm_PW G mX8_settle z 118 0 0 [vr P, vi (nI f), vi (nI g)] [] (h2)) (N := 6) ?_ ?_ h' c1 (fun s hs => by rw [c2 s hs, clG, Bool.and_true])
    · intro h2 d1 d2
      have k := nx h2 d1 d2
      rw [← nI_1] at k
      exact qm_wp_ok hA [113] 10 _ _ _ _ _ _ ⟨fun _ => qm_PW.mask [true, true, false] k, fun q => absurd (by decide) q⟩
    · intro g hg nx2 h2 d1 d2
      have H2 := hH.sl d1
      obtain ⟨r2, a2, n2⟩ := H2.2.2 2 (by decide) (by decide)
      have i2 : vp_in (nI f) (qm_kn true h2 (P + 2)).2 := by rw [n2, if_neg (by decide)]; exact vp_in_nI hf (by decide)
      have vf : h2.1 (P + 2) (nI f).toNatClampNeg = T (7 + f) := by rw [nI_clamp (by omega), d1.1]; exact hK f hf
      have m142 : ∀ y, (∀ s, s < 64 → LB y s = (if bit (T (7 + f)) (nI g) then (!s.testBit f || s.testBit g) else true)) → qm_PW G mX8_settle z 142 0 0 [vr P, vi (nI f), vi (nI g)] [.long y, .long (h2.2.1 P 8), .ref P] (h2) := fun y hy => by
        have k := nx2 (qm_sl h2 P 8 (h2.2.1 P 8 &&& y)) (d1.sl _ _) (fun s hs => by rw [sl_s, LB_and, d2 s hs, hy s hs, clG, Bool.and_assoc])
        rw [← nI_1 g] at k
        exact qm_wp_ok hA [118] 10 _ _ _ _ _ _ ⟨H2.2.1, k⟩
      refine qm_wp_ok hA [131, 142] 40 _ _ _ _ _ _ ⟨fun q => absurd q (nI_ge hg (by decide)), fun _ => ⟨H2.2.1, H2.2.1, _, r2, a2, i2, 0, 0, _, c_isIn hG _ h2 _ _, ⟨Nat.le_refl _, Nat.le_refl _⟩, ?_⟩⟩
      rintro _ _ ⟨rfl, rfl⟩
      refine b2_eq (fun t => ?_) (fun t => m142 _ (fun s hs => ?_))
      · rw [vf] at t
        refine sp_getsN hA rfl rfl rfl 0 rfl (k1 := 572) (host := "OneStatement") (by decide +kernel) ?_
        refine qm_wp_ok hA [133] 20 _ _ _ _ _ _ ?_
        refine sp_tl hA rfl rfl rfl 0 rfl (vp_in_nI hf (by decide)) (stl_f hf) ?_
        refine qm_wp_ok hA [136] 20 _ _ _ _ _ _ ?_
        refine sp_getsN hA rfl rfl rfl 0 rfl (k1 := 572) (host := "OneStatement") (by decide +kernel) ?_
        refine qm_wp_ok hA [138] 20 _ _ _ _ _ _ ?_
        refine sp_tl hA rfl rfl rfl 0 rfl (vp_in_nI hg (by decide)) (stl_f hg) ?_
        exact qm_wp_ok hA [142] 20 _ _ _ _ _ _ (m142 _ (fun s hs => by rw [LB_or, LB_not _ hs, LB_hav f hf s hs, LB_hav g hg s hs, if_pos t]))
      · rw [vf] at t
        rw [LB_m hs, if_neg (by rw [t]; decide)]
