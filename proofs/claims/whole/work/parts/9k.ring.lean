/-! the class: the bell -/
def frx (w mi : Nat → Int32) (p : Nat) (x : Int32) (o : Nat) : Int32 := if s_hears w o p then x &&& (mi o ^^^ -1) else 0
def toldX (w mi : Nat → Int32) (p : Nat) (x : Int32) : Nat → Nat
  | 0 => 0
  | o + 1 => toldX w mi p x o + worthN w (frx w mi p x o) 6
theorem toldX_w (w mi : Nat → Int32) (p f : Nat) : ∀ o, toldX w mi p (s_whole w f) o = toldN w mi p f o
  | 0 => rfl
  | o + 1 => by rw [toldX, toldN, toldX_w w mi p f o]; rfl
theorem frx_0 (w mi : Nat → Int32) (p o : Nat) : frx w mi p 0 o = 0 := by
  rw [frx]; split
  · exact Int32.zero_and
  · rfl
theorem worth_0 (w : Nat → Int32) : ∀ k, k ≤ 6 → worthN w 0 k = 0
  | 0, _ => rfl
  | k + 1, hk => by rw [worthN, worth_0 w k (by omega), bit_0 (by omega)]; rfl
theorem toldX_0 (w mi : Nat → Int32) (p : Nat) : ∀ o, toldX w mi p 0 o = 0
  | 0 => rfl
  | o + 1 => by rw [toldX, toldX_0 w mi p o, frx_0, worth_0 w 6 (Nat.le_refl _)]
theorem c_hearFrom {G : qm_G} (hG : G.2.2.2.2 = true) (d : Nat) (h : qm_H) {P n : Nat} {w : Nat → Int32} (t : TO h P w n) (v : VT w n) {k p s : Nat} (hk : k < 6) (hp : p < 6) (hs : s < 64) (x : Int32) (hx : x = nI s) (mi : Nat → Int32) (hm : ∀ q, q < n → h.1 20 (6 * k + q) = mi q) : qm_Ev G (d + 1) 0 0 qyX4_hearFrom [.ref 17, .ref P, .int (nI k), .int (nI p), .int x] h (fun r h' => r = some (.int (nI (toldX w mi p x n))) ∧ (∀ q, q < n → h'.1 20 (6 * (k + 1) + q) = mi q ||| frx w mi p x q) ∧ (∀ j, j < 6 * (k + 1) → h'.1 20 j = h.1 20 j) ∧ sb [20] h h') := by
  have hn := v.1
  refine qm_Ev.by (M := mX4_hearFrom) okX4_hearFrom (Nat.le_of_ble_eq_true rfl) hG fun z hA => ?_
  refine qm_wp_ok hA [16] 30 _ _ _ _ _ _ ⟨fun q => absurd q (nI_pos (by omega)), fun _ => ⟨fun q => absurd q (nI_ge (b := 6) hk (by decide)), fun _ => ⟨fun q => absurd q (nI_pos (by omega)), fun _ => ⟨fun _ => ?_, fun q => absurd (nI_lt (b := 6) hp (by decide)) q⟩⟩⟩⟩
  refine qm_for (P := fun q => ∀ h', (∀ a, a < q → h'.1 20 (6 * (k + 1) + a) = mi a ||| frx w mi p x a) → (∀ j, j < 6 * (k + 1) → h'.1 20 j = h.1 20 j) → sb [20] h h' → qm_PW G mX4_hearFrom z 16 0 0 [vr 17, vr P, vi (nI k), vi (nI p), vi x, vi (nI (toldX w mi p x q)), vi (nI q), vu, vu] [] (h')) (N := n) ?_ ?_ h (fun a ha => absurd ha (Nat.not_lt_zero _)) (fun _ _ => rfl) sb.rf
  · intro h' a b fr
    have t' := t.sb fr (fun q hq => by rw [List.mem_singleton.mp hq]; decide)
    exact qm_wp_ok hA [] 20 _ _ _ _ _ _ ⟨t'.is, fun _ => ⟨trivial, rfl, a, b, fr⟩, fun (z : ¬ h'.1 P 0 ≤ nI n) => absurd (by rw [t'.pp]; exact Int32.le_refl _) z⟩
  · intro q hq key h' a b fr
    have t' := t.sb fr (fun q hq => by rw [List.mem_singleton.mp hq]; decide)
    have ei : (6 : Int32) * nI k + nI q = nI (6 * k + q) := by rw [show (6 : Int32) = nI 6 from rfl, pk_mul, nI_add]
    have ei2 : (6 : Int32) * (nI k + 1) + nI q = nI (6 * (k + 1) + q) := by rw [show (6 : Int32) = nI 6 from rfl, nI_1, pk_mul, nI_add]
    have h1 : vp_in ((6 : Int32) * nI k + nI q) 42 := by rw [ei]; exact vp_in_nI (by omega) (by decide)
    have h2 : vp_in ((6 : Int32) * (nI k + 1) + nI q) 42 := by rw [ei2]; exact vp_in_nI (by omega) (by decide)
    have ev : h'.1 20 ((6 : Int32) * nI k + nI q).toNatClampNeg = mi q := by rw [ei, nI_clamp (by omega), b _ (by omega)]; exact hm q hq
    have e5 : h'.1 (P + 5) (nI q).toNatClampNeg = w (25 + q) := (t'.at (by omega : q < 6)).2.2.2.2.1
    have nxt : ∀ X Y, X = mi q ||| frx w mi p x q → Y = nI (toldX w mi p x q) + nI (worthN w (frx w mi p x q) 6) → qm_PW G mX4_hearFrom z 16 0 0 [vr 17, vr P, vi (nI k), vi (nI p), vi x, vi Y, vi (nI q + 1), vu, vu] [] (qm_si h' 20 ((6 : Int32) * (nI k + 1) + nI q).toNatClampNeg X) := fun X Y hX hY => by
      rw [ei2, nI_clamp (by omega), nI_1, hY, nI_add]
      refine key _ (fun c hc => ?_) (fun j hj => ?_) (fr.si (by decide))
      · rw [si_row]
        by_cases e : c = q
        · rw [e, up_s, hX]
        · rw [up_n _ _ (by omega)]; exact a c (by omega)
      · rw [si_row, up_n _ _ (by omega)]; exact b j hj
    refine qm_wp_ok hA [16] 80 _ _ _ _ _ _ ⟨t'.is, fun (z : h'.1 P 0 ≤ nI q) => absurd z (by rw [t'.pp]; exact nI_ge hq (by omega)), fun _ => ⟨rfl, _, rfl, rfl, h1, t'.is, _, t'.rd (k := 5) (by decide) (by decide), t'.ar (k := 5) (by decide) (by decide), t'.ln (k := 5) (by decide) (by decide) (by omega), 0, 0, _, c_isIn hG _ h' _ (nI p), ⟨Nat.le_refl _, Nat.le_refl _⟩, ?_⟩⟩
    rintro _ _ ⟨rfl, rfl⟩
    rw [e5]
    refine b2_eq (fun hb => ?_) (fun hb => ?_)
    · have ef : frx w mi p x q = x &&& (mi q ^^^ -1) := if_pos hb
      obtain ⟨u, u1, u2⟩ := lt_and hx hs (mi q ^^^ -1)
      have ex : (x &&& (h'.1 20 ((6 : Int32) * nI k + nI q).toNatClampNeg ^^^ -1)) &&& 63 = nI u := by rw [ev, lt_63 u2 u1, u2]
      refine ⟨t'.is, _, t'.rd (k := 7) (by decide) (by decide), t'.ar (k := 7) (by decide) (by decide), (show vp_in ((x &&& (h'.1 20 ((6 : Int32) * nI k + nI q).toNatClampNeg ^^^ -1)) &&& 63) (qm_kn true h' (P + 7)).2 by rw [ex]; exact t'.l7 u1), rfl, _, rfl, rfl, h2, (nxt _ _ ?_ ?_).mask [true, true, true, true, true, true, true, false, false]⟩
      · show h'.1 20 ((6 : Int32) * nI k + nI q).toNatClampNeg ||| ((x &&& (h'.1 20 ((6 : Int32) * nI k + nI q).toNatClampNeg ^^^ -1)) &&& 63) = _
        rw [ex, ev, ef, u2]
      · show nI (toldX w mi p x q) + h'.1 (P + 7) ((x &&& (h'.1 20 ((6 : Int32) * nI k + nI q).toNatClampNeg ^^^ -1)) &&& 63).toNatClampNeg = _
        rw [ex, t'.wo u1, ef, u2]
    · have ef : frx w mi p x q = 0 := if_neg (by rw [show s_hears w q p = false from hb]; decide)
      refine ⟨t'.is, _, t'.rd (k := 7) (by decide) (by decide), t'.ar (k := 7) (by decide) (by decide), (t'.l7 (j := 0) (by decide)), rfl, _, rfl, rfl, h2, (nxt _ _ ?_ ?_).mask [true, true, true, true, true, true, true, false, false]⟩
      · show h'.1 20 ((6 : Int32) * nI k + nI q).toNatClampNeg ||| 0 = _
        rw [ev, ef]
      · show nI (toldX w mi p x q) + h'.1 (P + 7) (nI 0).toNatClampNeg = _
        rw [t'.wo (by decide), ef]; rfl
/-! no more than hoped -/
theorem worth_mono {w : Nat → Int32} {a b : Int32} : ∀ k, k ≤ 6 → (∀ f, f < 6 → bit a (nI f) = true → bit b (nI f) = true) → worthN w a k ≤ worthN w b k
  | 0, _, _ => Nat.le_refl _
  | k + 1, hk, h => by
    have ih := worth_mono (w := w) k (by omega) h
    rw [worthN, worthN]
    cases q : bit a (nI k)
    · rw [if_neg (by decide)]; omega
    · rw [if_pos rfl, h k (by omega) q, if_pos rfl]; omega
def SUP (w : Nat → Int32) (n : Nat) (mi : Nat → Int32) : Prop := ∀ q, q < n → ∀ f, f < 6 → bit (mi0 w q) (nI f) = true → bit (mi q) (nI f) = true
theorem told_le {w mi : Nat → Int32} {n : Nat} (hS : SUP w n mi) (p f : Nat) : ∀ o, o ≤ n → toldN w mi p f o ≤ learntN w (mi0 w) p f o
  | 0, _ => Nat.le_refl _
  | o + 1, ho => by
    have ih := told_le hS p f o (by omega)
    rw [toldN, learntN, frs]
    split
    · have := worth_mono (w := w) (a := s_whole w f &&& (mi o ^^^ -1)) (b := s_whole w f &&& (mi0 w o ^^^ -1)) 6 (Nat.le_refl _) (fun g hg h => by
        rw [bit_and _ _ (by omega), bit_not _ (by omega), Bool.and_eq_true, Bool.not_eq_true'] at h
        rw [bit_and _ _ (by omega), bit_not _ (by omega), h.1]
        cases q : bit (mi0 w o) (nI g) with
        | false => rfl
        | true => rw [hS o (by omega) g hg q] at h; exact absurd h.2 (by decide))
      omega
    · rw [worth_0 w 6 (Nat.le_refl _)]; omega
theorem best_ge {w mi : Nat → Int32} {n p : Nat} : ∀ k f, f < k → bit (mi p) (nI f) = true → ∃ b v, bestN w mi n p k = some (b, v) ∧ learntN w mi p f n ≤ v
  | 0, f, hf, _ => by omega
  | k + 1, f, hf, hb => by
    rw [bestN]
    by_cases e : f = k
    · subst e
      rw [if_pos hb]
      cases q : bestN w mi n p f with
      | none => exact ⟨_, _, rfl, Nat.le_refl _⟩
      | some x =>
        obtain ⟨b, v⟩ := x
        show ∃ b' v', (if v < learntN w mi p f n then some (f, learntN w mi p f n) else some (b, v)) = some (b', v') ∧ _
        by_cases c : v < learntN w mi p f n
        · rw [if_pos c]; exact ⟨_, _, rfl, Nat.le_refl _⟩
        · rw [if_neg c]; exact ⟨_, _, rfl, by omega⟩
    · obtain ⟨b, v, e1, e2⟩ := best_ge (w := w) (n := n) k f (by omega) hb
      rw [e1]
      split
      · show ∃ b' v', (if v < learntN w mi p k n then some (k, learntN w mi p k n) else some (b, v)) = some (b', v') ∧ _
        by_cases c : v < learntN w mi p k n
        · rw [if_pos c]; exact ⟨_, _, rfl, by omega⟩
        · rw [if_neg c]; exact ⟨_, _, rfl, e2⟩
      · exact ⟨b, v, rfl, e2⟩
theorem bg_ge {w mi : Nat → Int32} {n p f : Nat} (hf : f < 6) (hb : bit (mi p) (nI f) = true) : learntN w mi p f n ≤ bgN w mi n p := by
  obtain ⟨b, v, e1, e2⟩ := best_ge (w := w) (n := n) 6 f hf hb
  rw [bgN, e1]; exact e2
def hop (w : Nat → Int32) (n : Nat) : Nat → Nat → Nat
  | 0, _ => 0
  | r + 1, p => hop w n r (p + 1) + bgN w (mi0 w) n p
theorem SUP.t {w mi : Nat → Int32} {n : Nat} (h : SUP w n mi) (p f : Nat) : SUP w n (tM w n mi p f) := fun q hq g hg z => by
  rw [tM, if_pos hq, bit_or _ _ (by omega), h q hq g hg z]; rfl
theorem cM_le' {o : Nat → Option Nat} {K : Nat} : ∀ j, (∀ b v, b < j → o b = some v → v ≤ K) → cM o j ≤ K
  | 0, _ => Nat.zero_le _
  | j + 1, h => by
    rw [cM]
    have h1 := cM_le' j (fun b v hb => h b v (by omega))
    cases q : o j with
    | none => exact Nat.max_le.mpr ⟨h1, Nat.zero_le _⟩
    | some v => exact Nat.max_le.mpr ⟨h1, h j v (by omega) q⟩
theorem bV_le {w : Nat → Int32} {n : Nat} : ∀ r p mi, SUP w n mi → bV w n r p mi ≤ hop w n r p
  | 0, _, _, _ => Nat.le_refl _
  | r + 1, p, mi, hS => by
    rw [bV, hop]
    refine cM_le' 7 (fun b v hb7 h => ?_)
    rw [bvO] at h
    split at h
    · rw [← Option.some.inj h]
      have := bV_le r (p + 1) mi hS
      omega
    · split at h
      · rename_i c1 c2
        rw [← Option.some.inj h]
        have h1 := bV_le r (p + 1) _ (hS.t p b)
        have h2 := told_le hS p b n (Nat.le_refl _)
        have h3 := bg_ge (w := w) (n := n) (by omega : b < 6) c2
        omega
      · exact absurd h (by simp)
def bRow (w : Nat → Int32) (n : Nat) : Nat → Nat → (Nat → Int32) → Nat → Nat
  | 0, _, _ => fun _ => 0
  | r + 1, p, mi => fun j => if j = p then bF w n r p mi else bRow w n r (p + 1) (bmi w n p mi (bF w n r p mi)) j
theorem bN_lt (w : Nat → Int32) (n : Nat) : ∀ r p mi, bN w n r p mi < 7 ^ r
  | 0, _, _ => by rw [bN]; decide
  | r + 1, p, mi => by
    have h1 := (bF_spec w n r p mi).1
    have h2 := bN_lt w n r (p + 1) (bmi w n p mi (bF w n r p mi))
    rw [bN, Nat.pow_succ]
    have : bF w n r p mi * 7 ^ r ≤ 6 * 7 ^ r := Nat.mul_le_mul_right _ (by omega)
    omega
theorem dg_row (w : Nat → Int32) {n : Nat} : ∀ r p mi j, p + r = n → p ≤ j → j < n → s_dg n (bN w n r p mi) j = bRow w n r p mi j
  | 0, p, mi, j, h1, h2, h3 => by omega
  | r + 1, p, mi, j, h1, h2, h3 => by
    have hF := (bF_spec w n r p mi).1
    have hl := bN_lt w n r (p + 1) (bmi w n p mi (bF w n r p mi))
    have hp7 : 0 < 7 ^ r := Nat.pow_pos (by decide)
    rw [bN, bRow, s_dg]
    by_cases e : j = p
    · show _ = if j = p then _ else _
      rw [if_pos e, e, show n - 1 - p = r by omega, Nat.mul_comm, Nat.mul_add_div hp7, Nat.div_eq_of_lt hl, Nat.add_zero, Nat.mod_eq_of_lt hF]
    · show _ = if j = p then _ else _
      rw [if_neg e, ← dg_row w r (p + 1) _ j (by omega) (by omega) h3, s_dg]
      obtain ⟨i, hi⟩ : ∃ i, r = (n - 1 - j) + 1 + i := ⟨r - ((n - 1 - j) + 1), by omega⟩
      have e7 : bF w n r p mi * 7 ^ r = 7 ^ (n - 1 - j) * (7 * (bF w n r p mi * 7 ^ i)) := by
        rw [show (7 : Nat) ^ r = 7 ^ (n - 1 - j) * 7 * 7 ^ i by rw [← Nat.pow_succ, ← Nat.pow_add]; congr 1]
        rw [Nat.mul_left_comm, Nat.mul_assoc, ← Nat.mul_assoc, ← Nat.mul_assoc, Nat.mul_assoc (7 ^ (n - 1 - j)), Nat.mul_comm _ (7 ^ i)]
      rw [e7, Nat.mul_add_div (Nat.pow_pos (by decide)), Nat.mul_add_mod]
theorem amB (w : Nat → Int32) (n r p : Nat) (mi : Nat → Int32) : amN (bvO (bV w n r (p + 1)) w n p mi) 7 = some (bF w n r p mi, bV w n (r + 1) p mi) := by
  obtain ⟨c1, c2, c3⟩ := bF_spec w n r p mi
  have hge : ∀ b v, b < 7 → bvO (bV w n r (p + 1)) w n p mi b = some v → v ≤ bV w n (r + 1) p mi := fun b v hb h => cM_ge h 7 hb
  have kvs : ∀ b j x, kv b (bvO (bV w n r (p + 1)) w n p mi b) = some (j, x) → j = b ∧ bvO (bV w n r (p + 1)) w n p mi b = some x := fun b j x h => by
    cases q : bvO (bV w n r (p + 1)) w n p mi b with
    | none => rw [q] at h; exact absurd h (by simp [kv])
    | some y =>
      rw [q] at h
      have : (b, y) = (j, x) := Option.some.inj h
      injection this with h1 h2
      exact ⟨h1.symm, by rw [h2]⟩
  refine (fdc_first (g := fun b => kv b (bvO (bV w n r (p + 1)) w n p mi b)) (F := bF w n r p mi) (J := bF w n r p mi) (M := bV w n (r + 1) p mi) (by rw [c2]; rfl) (fun b j x hb h => ?_) 7 (fun b j x hb h => ?_)).2 c1
  · obtain ⟨-, h2⟩ := kvs b j x h
    have := hge b x (by omega) h2
    rcases Nat.eq_or_lt_of_le this with e | e
    · rw [e] at h2; exact absurd h2 (c3 b hb)
    · exact e
  · exact hge b x hb (kvs b j x h).2
/-- the search, with what each has heard -/
def f4 (h h' : qm_H) : Prop := h'.2 = h.2 ∧ (∀ q, q ∉ [17, 18, 19, 20] → h'.1 q = h.1 q) ∧ ∀ k, k ≠ 0 → h'.1 17 k = h.1 17 k
theorem f4.rf {h : qm_H} : f4 h h := ⟨rfl, fun _ _ => rfl, fun _ _ => rfl⟩
theorem f4.tr {h h1 h2 : qm_H} (a : f4 h h1) (b : f4 h1 h2) : f4 h h2 := ⟨b.1.trans a.1, fun q hq => (b.2.1 q hq).trans (a.2.1 q hq), fun k hk => (b.2.2 k hk).trans (a.2.2 k hk)⟩
theorem f4.s19 {h h1 : qm_H} (a : f4 h h1) {k : Nat} {v : Int32} : f4 h (qm_si h1 19 k v) := ⟨a.1, fun q hq => by
  rw [si_ne _ _ _ (fun e => hq (by rw [e]; decide))]; exact a.2.1 q hq, fun k hk => by rw [si_ne _ _ _ (by decide)]; exact a.2.2 k hk⟩
theorem f4of {h h1 : qm_H} (a : fs h h1) : f4 h h1 := ⟨a.1, fun q hq => a.2.1 q (fun e => hq (by revert e; simp only [List.mem_cons, List.not_mem_nil, or_false]; omega)), a.2.2⟩
theorem f420 {h h1 : qm_H} (a : sb [20] h h1) : f4 h h1 := ⟨a.1, fun q hq => a.2 q (fun e => hq (by rw [List.mem_singleton.mp e]; decide)), fun k _ => by rw [a.2 17 (by decide)]⟩
theorem f4XL : ∀ q, q ∈ [17, 18, 19, 20] → q ∈ XL := by decide
theorem f4.x {h h1 : qm_H} (a : f4 h h1) : sb XL h h1 := ⟨a.1, fun q hq => a.2.1 q (fun e => hq (f4XL q e))⟩
theorem f4.to {h h1 : qm_H} (a : f4 h h1) {P n : Nat} {w : Nat → Int32} (t : TO h P w n) : TO h1 P w n := t.sb a.x XL51
def rrb (w : Nat → Int32) (n r p : Nat) (mi T : Nat → Int32) (b : Nat) : Nat → Int32 := fun j => if j < p then T j else if j = p then nI b else nI (bRow w n r (p + 1) (bmi w n p mi b) j)
def rr0 (w : Nat → Int32) (n r p : Nat) (mi T : Nat → Int32) : Nat → Int32 := fun j => if j < p then T j else nI (bRow w n r p mi j)
theorem rr_F (w : Nat → Int32) (n r p : Nat) (mi T : Nat → Int32) : rrb w n r p mi T (bF w n r p mi) = rr0 w n (r + 1) p mi T := by
  funext j
  rw [rrb, rr0]
  split
  · rfl
  · show _ = nI (if j = p then bF w n r p mi else bRow w n r (p + 1) (bmi w n p mi (bF w n r p mi)) j)
    split <;> rfl
theorem c_ringFrom {G : qm_G} (hG : G.2.2.2.2 = true) (d : Nat) {P n : Nat} {w : Nat → Int32} (v : VT w n) : ∀ (r : Nat) (h : qm_H) (p acc : Nat) (mi : Nat → Int32), TO h P w n → p + r = n → acc + hop w n r p ≤ 100000 → (∀ j, j ≤ n → h.1 21 j = nI (hop w n (n - j) j)) → SUP w n mi → (∀ q, q < n → h.1 20 (6 * p + q) = mi q) → qm_Ev G (d + r + 2) 0 0 qyX4_ringFrom [.ref 17, .ref P, .int (nI p), .int (nI acc)] h (fun r' h' => r' = none ∧ KB (fun _ => n) (h.1 17 0) (h.1 18) (acc + bV w n r p mi) (rr0 w n r p mi (h.1 19)) (h'.1 17 0) (h'.1 18) ∧ (∀ j, j < p → h'.1 19 j = h.1 19 j) ∧ (∀ j, j < 6 * (p + 1) → h'.1 20 j = h.1 20 j) ∧ f4 h h')
  | 0, h, p, acc, mi, t, hp, ha, hh, hS, hm => by
    have hn := v.1
    refine qm_Ev.by (M := mX4_ringFrom) okX4_ringFrom (Nat.le_of_ble_eq_true rfl) hG fun z hA => ?_
    refine qm_wp_ok hA [22] 40 _ _ _ _ _ _ ⟨fun q => absurd q (nI_pos (by omega)), fun _ => ⟨t.is, fun (q : nI p < h.1 P 0) => absurd q (by rw [t.pp]; exact nI_nlt (by omega) (by omega)), fun _ => ⟨rfl, 0, 0, _, c_keep hG d h (fun _ => n) (fun _ => hn), ⟨Nat.le_refl _, Nat.le_refl _⟩, ?_⟩⟩⟩
    rintro _ h1 ⟨rfl, kb, e19, f1⟩
    refine ⟨rfl, rfl, ?_, fun j _ => by rw [e19], fun j _ => by rw [f1.2.1 20 (by decide)], f4of f1⟩
    exact kb.co (fun j hj => by rw [rr0, if_pos (by omega)])
  | r + 1, h, p, acc, mi, t, hp, ha, hh, hS, hm => by
    have hn := v.1
    have hpn : p < n := by omega
    have hVle := bV_le (w := w) (r + 1) p mi hS
    have hinp : vp_in (nI p) 6 := vp_in_nI (by omega) (by decide)
    have hin7 : vp_in (nI p) 7 := vp_in_nI (by omega) (by decide)
    have ep : (nI p).toNatClampNeg = p := nI_clamp (by omega)
    have eh : h.1 21 (nI p).toNatClampNeg = nI (hop w n (r + 1) p) := by rw [ep, hh p (by omega), show n - p = r + 1 by omega]
    refine qm_Ev.by (M := mX4_ringFrom) okX4_ringFrom (Nat.le_of_ble_eq_true rfl) hG fun z hA => ?_
    refine qm_wp_ok hA [22] 60 _ _ _ _ _ _ ⟨fun q => absurd q (nI_pos (by omega)), fun _ => ⟨t.is, fun _ => ⟨rfl, _, rfl, rfl, hin7, rfl, fun _ => ?_, fun (c : ¬ h.1 17 0 < nI acc + h.1 21 (nI p).toNatClampNeg) => ⟨rfl, rfl, ?_, fun _ _ => rfl, fun _ _ => rfl, f4.rf⟩⟩, fun (q : ¬ nI p < h.1 P 0) => absurd (by rw [t.pp]; exact nI_lt hpn (by omega)) q⟩⟩
    · have hbv : ∀ b x, b < 7 → bvO (bV w n r (p + 1)) w n p mi b = some x → acc + x ≤ 100000 := fun b x hb e => by
        have h1 : x ≤ bV w n (r + 1) p mi := cM_ge e 7 hb
        omega
      have hamv : ∀ q, q ≤ 7 → ∀ b x, amN (bvO (bV w n r (p + 1)) w n p mi) q = some (b, x) → acc + x < 2 ^ 31 := fun q hq b x e => by
        obtain ⟨h1, h2⟩ := amN_in q b x e
        have := hbv b x (by omega) h2
        omega
      -- a child: what is told is the whole of b, or nothing
      have child : ∀ b, b < 7 → (b < 6 → bit (mi0 w p) (nI b) = true) → ∀ h', (∀ j, j < p → h'.1 19 j = h.1 19 j) → (∀ j, j < 6 * (p + 1) → h'.1 20 j = h.1 20 j) → f4 h h' → ∀ x s, x = nI s → s < 64 → (x = if b < 6 then s_whole w b else 0) → ∃ g, bvO (bV w n r (p + 1)) w n p mi b = some (g + bV w n r (p + 1) (bmi w n p mi b)) ∧ toldX w mi p x n = g ∧ ∀ h2, (∀ q, q < n → h2.1 20 (6 * (p + 1) + q) = mi q ||| frx w mi p x q) → (∀ j, j < 6 * (p + 1) → h2.1 20 j = (qm_si h' 19 p (nI b)).1 20 j) → sb [20] (qm_si h' 19 p (nI b)) h2 → qm_Ev G (d + r + 2) 0 0 qyX4_ringFrom [.ref 17, .ref P, .int (nI p + 1), .int (nI acc + nI g)] h2 (fun r' h3 => r' = none ∧ KB (fun _ => n) (h'.1 17 0) (h'.1 18) (acc + (g + bV w n r (p + 1) (bmi w n p mi b))) (rrb w n r p mi (h.1 19) b) (h3.1 17 0) (h3.1 18) ∧ (∀ j, j < p → h3.1 19 j = h.1 19 j) ∧ (∀ j, j < 6 * (p + 1) → h3.1 20 j = h.1 20 j) ∧ f4 h h3) := by
        intro b hb hbk h' tr hd fr x s hx hs hxb
        obtain ⟨g, hg1, hg2, hg3⟩ : ∃ g, bvO (bV w n r (p + 1)) w n p mi b = some (g + bV w n r (p + 1) (bmi w n p mi b)) ∧ toldX w mi p x n = g ∧ ∀ q, q < n → (mi q ||| frx w mi p x q) = bmi w n p mi b q := by
          by_cases c : b = 6
          · rw [hxb, if_neg (by omega)]
            refine ⟨0, by rw [bvO, if_pos c, bmi, if_pos c, Nat.zero_add], toldX_0 _ _ _ _, fun q hq => ?_⟩
            rw [frx_0, bmi, if_pos c, Int32.or_zero]
          · rw [hxb, if_pos (by omega)]
            refine ⟨toldN w mi p b n, by rw [bvO, if_neg c, if_pos (hbk (by omega)), bmi, if_neg c], toldX_w _ _ _ _ _, fun q hq => ?_⟩
            rw [bmi, if_neg c, tM, if_pos hq]; rfl
        refine ⟨g, hg1, hg2, fun h2 k1 k2 k3 => ?_⟩
        have hle := hbv b _ hb hg1
        have fr2 : f4 h h2 := fr.s19.tr (f420 k3)
        have hSb : SUP w n (bmi w n p mi b) := by
          rw [bmi]; split
          · exact hS
          · exact hS.t p b
        have hVb := bV_le (w := w) (n := n) r (p + 1) mi hS
        have ih := c_ringFrom hG d v r h2 (p + 1) (acc + g) (bmi w n p mi b) (fr2.to t) (by omega) (by
          have h1 : g ≤ bgN w (mi0 w) n p := by
            rw [← hg2, hxb]
            by_cases c : b < 6
            · rw [if_pos c, toldX_w]
              exact Nat.le_trans (told_le hS p b n (Nat.le_refl _)) (bg_ge c (hbk c))
            · rw [if_neg c, toldX_0]; exact Nat.zero_le _
          have h2 : hop w n (r + 1) p = hop w n r (p + 1) + bgN w (mi0 w) n p := rfl
          omega) (fun j hj => by rw [fr2.2.1 21 (by decide)]; exact hh j hj) hSb (fun q hq => by rw [k1 q hq]; exact hg3 q hq)
        rw [← nI_1, ← nI_add] at ih
        refine ih.mono ?_
        rintro _ h3 ⟨rfl, kb, tr3, hd3, f3⟩
        have e17 : h2.1 17 0 = h'.1 17 0 := by rw [k3.2 17 (by decide), si_ne _ _ _ (by decide)]
        have e18 : h2.1 18 = h'.1 18 := by rw [k3.2 18 (by decide), si_ne _ _ _ (by decide)]
        have e19 : h2.1 19 = (qm_si h' 19 p (nI b)).1 19 := k3.2 19 (by decide)
        refine ⟨rfl, ?_, fun j hj => ?_, fun j hj => ?_, fr2.tr f3⟩
        · rw [← Nat.add_assoc, ← e17, ← e18]
          refine kb.co (fun j hj => ?_)
          rw [rr0, rrb]
          by_cases c : j < p
          · rw [if_pos (by omega), if_pos c, e19, si_row, up_n _ _ (by omega)]; exact tr j c
          · rw [if_neg c]
            by_cases c2 : j = p
            · rw [if_pos (by omega), if_pos c2, c2, e19, si_row, up_s]
            · rw [if_neg (by omega), if_neg c2]
        · rw [tr3 j (by omega), e19, si_row, up_n _ _ (by omega)]; exact tr j hj
        · rw [hd3 j (by omega), k2 j hj, si_ne _ _ _ (by decide)]; exact hd j hj
      refine qm_for (P := fun f => ∀ h', KBo (fun _ => n) acc (rrb w n r p mi (h.1 19)) (h.1 17 0) (h.1 18) (amN (bvO (bV w n r (p + 1)) w n p mi) f) (h'.1 17 0) (h'.1 18) → (∀ j, j < p → h'.1 19 j = h.1 19 j) → (∀ j, j < 6 * (p + 1) → h'.1 20 j = h.1 20 j) → f4 h h' → qm_PW G mX4_ringFrom z 22 0 0 [vr 17, vr P, vi (nI p), vi (nI acc), vi (nI f)] [] (h')) (N := 6) ?_ ?_ h ⟨rfl, fun _ _ => rfl⟩ (fun _ _ => rfl) (fun _ _ => rfl) f4.rf
      · intro h' kb tr hd fr
        obtain ⟨g, g1, g2, g3⟩ := child 6 (by decide) (fun z => absurd z (by decide)) h' tr hd fr 0 0 rfl (by decide) rfl
        have kh := c_hearFrom hG (d + r + 1) (qm_si h' 19 p (nI 6)) ((fr.s19).to t) v (by omega : p < 6) (by omega : p < 6) (by decide : 0 < 64) 0 rfl mi (fun q hq => by rw [si_ne _ _ _ (by decide), hd _ (by omega)]; exact hm q hq)
        rw [g2] at kh
        have ep' : qm_si h' 19 p (nI 6) = qm_si h' 19 (nI p).toNatClampNeg 6 := by rw [ep]; rfl
        rw [ep'] at kh
        refine qm_wp_ok hA [] 60 _ _ _ _ _ _ ⟨fun _ => ⟨rfl, _, rfl, rfl, hinp, rfl, 0, 0, _, kh, ⟨Nat.le_refl _, Nat.le_refl _⟩, ?_⟩, fun z => absurd (by decide) z⟩
        rintro _ h2 ⟨rfl, k1, k2, k3⟩
        rw [← ep'] at k2 k3
        refine ⟨rfl, 0, 0, _, g3 h2 k1 k2 k3, ⟨Nat.le_refl _, Nat.le_refl _⟩, ?_⟩
        rintro _ h3 ⟨rfl, kb3, tr3, hd3, f3⟩
        have hx6 := hbv 6 _ (by decide) g1
        have st := KBo.st (b := 6) (hamv 6 (by decide)) (by omega) (fun _ => hn) kb kb3
        have a7 := amB w n r p mi
        have a6 : amN (bvO (bV w n r (p + 1)) w n p mi) 7 = cmb (amN (bvO (bV w n r (p + 1)) w n p mi) 6) (kv 6 (bvO (bV w n r (p + 1)) w n p mi 6)) := rfl
        rw [a6, g1] at a7
        have a7 : cmb (amN (bvO (bV w n r (p + 1)) w n p mi) 6) (some (6, g + bV w n r (p + 1) (bmi w n p mi 6))) = some (bF w n r p mi, bV w n (r + 1) p mi) := a7
        rw [a7] at st
        have st : KB (fun _ => n) (h.1 17 0) (h.1 18) (acc + bV w n (r + 1) p mi) (rrb w n r p mi (h.1 19) (bF w n r p mi)) (h3.1 17 0) (h3.1 18) := st
        rw [rr_F] at st
        exact ⟨rfl, rfl, st, tr3, hd3, f3⟩
      · intro f hf key h' kb tr hd fr
        have t' := fr.to t
        have aS : amN (bvO (bV w n r (p + 1)) w n p mi) (f + 1) = cmb (amN (bvO (bV w n r (p + 1)) w n p mi) f) (kv f (bvO (bV w n r (p + 1)) w n p mi f)) := rfl
        refine qm_wp_ok hA [22] 60 _ _ _ _ _ _ ⟨fun z => absurd z (nI_ge hf (by decide)), fun _ => ⟨t'.is, 0, 0, _, c_knowsN hG _ h' t' hn hpn (nI f), ⟨Nat.le_refl _, Nat.le_refl _⟩, ?_⟩⟩
        rintro _ _ ⟨rfl, rfl⟩
        refine b2_eq (fun hb => ?_) (fun hb => ?_)
        · obtain ⟨s, s1, s2⟩ := v.wh hf
          obtain ⟨g, g1, g2, g3⟩ := child f (by omega) (fun _ => hb) h' tr hd fr (s_whole w f) s s2 s1 (by rw [if_pos hf])
          have ep' : qm_si h' 19 p (nI f) = qm_si h' 19 (nI p).toNatClampNeg (nI f) := by rw [ep]
          have ts := (fr.s19 (k := p) (v := nI f)).to t
          have kw := c_wholeOf hG (d + r + 2) (qm_si h' 19 p (nI f)) ts hf
          have kh := c_hearFrom hG (d + r + 1) (qm_si h' 19 p (nI f)) ts v (by omega : p < 6) (by omega : p < 6) s1 (s_whole w f) s2 mi (fun q hq => by rw [si_ne _ _ _ (by decide), hd _ (by omega)]; exact hm q hq)
          rw [g2] at kh
          have tis := ts.is
          rw [ep'] at kh kw tis
          refine ⟨rfl, _, rfl, rfl, hinp, tis, 0, 0, _, kw, ⟨Nat.le_refl _, Nat.le_refl _⟩, ?_⟩
          rintro _ _ ⟨rfl, rfl⟩
          refine ⟨rfl, 0, 0, _, kh, ⟨Nat.le_refl _, Nat.le_refl _⟩, ?_⟩
          rintro _ h2 ⟨rfl, k1, k2, k3⟩
          rw [← ep'] at k2 k3
          refine ⟨rfl, 0, 0, _, g3 h2 k1 k2 k3, ⟨Nat.le_refl _, Nat.le_refl _⟩, ?_⟩
          rintro _ h3 ⟨rfl, kb3, tr3, hd3, f3⟩
          have hxf := hbv f _ (by omega) g1
          have st := KBo.st (b := f) (hamv f (by omega)) (by omega) (fun _ => hn) kb kb3
          have kk := key h3 (by rw [aS, g1]; exact st) tr3 hd3 f3
          rw [← nI_1] at kk
          exact kk
        · have e0 : bvO (bV w n r (p + 1)) w n p mi f = none := by rw [bvO, if_neg (by omega), if_neg (by rw [hb]; decide)]
          have kk := key h' (by rw [aS, e0]; exact kb) tr hd fr
          rw [← nI_1] at kk
          exact kk
    · rw [eh, nI_add] at c
      refine ⟨fun _ => ⟨rfl, fun _ _ => rfl⟩, fun q => absurd (Int32.le_trans (nI_le (by omega) (by omega)) (Int32.not_lt.mp c)) q⟩
