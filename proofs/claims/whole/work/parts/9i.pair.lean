/-! the class: couples -/
def KBo (dom : Nat → Nat) (sum : Nat) (RR : Nat → Nat → Int32) (m0 : Int32) (r0 : Nat → Int32) (x : Option (Nat × Nat)) (m1 : Int32) (r1 : Nat → Int32) : Prop := match x with
  | none => m1 = m0 ∧ ∀ j, j < 6 → r1 j = r0 j
  | some (b, v) => KB dom m0 r0 (sum + v) (RR b) m1 r1
theorem KBo.st {dom : Nat → Nat} {sum : Nat} {RR : Nat → Nat → Int32} {m0 m1 m2 : Int32} {r0 r1 r2 : Nat → Int32} {x : Option (Nat × Nat)} {b v : Nat} (hx : ∀ b v, x = some (b, v) → sum + v < 2 ^ 31) (hv : sum + v < 2 ^ 31) (hd : ∀ V, dom V ≤ 6) (a : KBo dom sum RR m0 r0 x m1 r1) (k : KB dom m1 r1 (sum + v) (RR b) m2 r2) : KBo dom sum RR m0 r0 (cmb x (some (b, v))) m2 r2 := by
  cases x with
  | none =>
    obtain ⟨a1, a2⟩ := a
    show KB dom m0 r0 (sum + v) (RR b) m2 r2
    constructor
    · intro q
      obtain ⟨e1, f1⟩ := k.1 (by rw [a1]; exact q)
      exact ⟨e1.trans a1, fun j hj => (f1 j hj).trans (a2 j hj)⟩
    · intro q
      exact k.2 (by rw [a1]; exact q)
  | some y =>
    obtain ⟨b0, v0⟩ := y
    have kk := KB.two (hx b0 v0 rfl) hv (hd _) a k
    show KBo dom sum RR m0 r0 (if v0 < v then some (b, v) else some (b0, v0)) m2 r2
    by_cases c : v0 < v
    · rw [if_pos (by omega), if_pos (by omega)] at kk
      rw [if_pos c]; exact kk
    · rw [if_neg (by omega), if_neg (by omega)] at kk
      rw [if_neg c]; exact kk
section Pair
variable {g : Nat → Nat → Option Nat} {n : Nat} {sale : Bool}
/-- the row behind a choice -/
def rch (g : Nat → Nat → Option Nat) (n : Nat) (sale : Bool) (k p had : Nat) (T : Nat → Nat) (b : Nat) : Nat → Nat := if b < 6 then cRow g n sale k (p + 1) ((had ||| 2 ^ p) ||| 2 ^ b) (va_up (va_up T p b) b (if sale then 6 else p)) else cRow g n sale k (p + 1) had T
theorem rch_c (k p had : Nat) (T : Nat → Nat) : rch g n sale k p had T (cC g n k p had) = cRow g n sale (k + 1) p had T := rfl
theorem am7 (k p had : Nat) : amN (cO g n (cB g n k (p + 1)) p had) 7 = some (cC g n k p had, cB g n (k + 1) p had) := by
  obtain ⟨c1, c2, c3⟩ := cC_spec g n k p had
  have hge : ∀ b v, b < 7 → cO g n (cB g n k (p + 1)) p had b = some v → v ≤ cB g n (k + 1) p had := fun b v hb h => cM_ge h 7 hb
  have kvs : ∀ b j x, kv b (cO g n (cB g n k (p + 1)) p had b) = some (j, x) → j = b ∧ cO g n (cB g n k (p + 1)) p had b = some x := fun b j x h => by
    cases q : cO g n (cB g n k (p + 1)) p had b with
    | none => rw [q] at h; exact absurd h (by simp [kv])
    | some y =>
      rw [q] at h
      have : (b, y) = (j, x) := Option.some.inj h
      injection this with h1 h2
      exact ⟨h1.symm, by rw [h2]⟩
  refine (fdc_first (g := fun b => kv b (cO g n (cB g n k (p + 1)) p had b)) (F := cC g n k p had) (J := cC g n k p had) (M := cB g n (k + 1) p had) (by rw [c2]; rfl) (fun b j x hb h => ?_) 7 (fun b j x hb h => ?_)).2 c1
  · obtain ⟨-, h2⟩ := kvs b j x h
    have := hge b x (by omega) h2
    rcases Nat.eq_or_lt_of_le this with e | e
    · rw [e] at h2; exact absurd h2 (c3 b hb)
    · exact e
  · exact hge b x hb (kvs b j x h).2
theorem am_skip {q : Nat → Option Nat} : ∀ m k, (∀ j, k ≤ j → j < k + m → q j = none) → amN q (k + m) = amN q k
  | 0, k, _ => rfl
  | m + 1, k, h => by
    have : amN q (k + (m + 1)) = cmb (amN q (k + m)) (kv (k + m) (q (k + m))) := rfl
    rw [this, h (k + m) (by omega) (by omega), am_skip m k (fun j h1 h2 => h j h1 (by omega))]
    rfl
theorem cO_n {L : Nat → Nat} {a had b : Nat} (hb : b < 6) (h : ¬ b < n ∨ bit (nI had) (nI a) = true ∨ bit (nI had) (nI b) = true ∨ g a b = none) : cO g n L a had b = none := by
  rw [cO, if_neg (by omega)]
  split
  · rename_i c
    rw [Bool.and_eq_true, Bool.and_eq_true, decide_eq_true_eq] at c
    rcases h with h | h | h | h
    · exact absurd c.1 h
    · rw [h] at c; exact absurd c.2.1 (by decide)
    · rw [h] at c; exact absurd c.2.2 (by decide)
    · rw [h]
  · rfl
theorem cO_s {L : Nat → Nat} {a had b x : Nat} (hb : b < n) (hn : n ≤ 6) (h1 : bit (nI had) (nI a) = false) (h2 : bit (nI had) (nI b) = false) (h3 : g a b = some x) : cO g n L a had b = some (x + L ((had ||| 2 ^ a) ||| 2 ^ b)) := by
  rw [cO, if_neg (by omega), decide_eq_true hb, h1, h2, h3]; rfl
theorem cO_6 {L : Nat → Nat} {a had : Nat} : cO g n L a had 6 = some (L had) := by rw [cO, if_pos rfl]
theorem am_one {q : Nat → Option Nat} {x : Nat} (h0 : ∀ j, j < 6 → q j = none) (h6 : q 6 = some x) : amN q 7 = some (6, x) := by
  have : amN q 7 = cmb (amN q 6) (kv 6 (q 6)) := rfl
  have z := am_skip 6 0 (q := q) (fun j _ hj => h0 j (by omega))
  rw [this, z, h6]; rfl
end Pair
/-- the table of couples, the flag -/
def CT (h : qm_H) (g : Nat → Nat → Option Nat) (n : Nat) (sale : Bool) : Prop := (∀ a b, a < n → b < n → h.1 22 (6 * a + b) = s_oi (g a b)) ∧ h.1 17 8 = b2 (!sale)
theorem CT.fs {h h' : qm_H} {g : Nat → Nat → Option Nat} {n : Nat} {sale : Bool} (c : CT h g n sale) (a : fs h h') : CT h' g n sale := ⟨fun x y hx hy => by rw [a.2.1 22 (by decide)]; exact c.1 x y hx hy, by rw [a.2.2 8 (by decide)]; exact c.2⟩
def TRY (h : qm_H) (n p had : Nat) (T : Nat → Nat) : Prop := (∀ j, j < n → j < p ∨ had.testBit j = true → h.1 19 j = nI (T j)) ∧ ∀ j, had.testBit j = false → T j = 6
theorem c_pairFrom {G : qm_G} (hG : G.2.2.2.2 = true) (d : Nat) {P n : Nat} {w : Nat → Int32} (hn : n ≤ 6) {g : Nat → Nat → Option Nat} (hg : ∀ a b v, g a b = some v → v ≤ 720) (hgd : ∀ a, g a a = none) {sale : Bool} (hlt : sale = false → ∀ a b v, g a b = some v → a < b) : ∀ (k : Nat) (h : qm_H) (p had sum : Nat) (T : Nat → Nat), TO h P w n → CT h g n sale → p + k = n → had < 64 → sum ≤ 720 * p → TRY h n p had T → qm_Ev G (d + k + 2) 0 0 qyX4_pairFrom [.ref 17, .ref P, .int (nI p), .int (nI had), .int (nI sum)] h (fun r h' => r = none ∧ KB (fun _ => n) (h.1 17 0) (h.1 18) (sum + cB g n k p had) (fun j => nI (cRow g n sale k p had T j)) (h'.1 17 0) (h'.1 18) ∧ (∀ j, j < n → j < p ∨ had.testBit j = true → h'.1 19 j = h.1 19 j) ∧ fs h h')
  | 0, h, p, had, sum, T, t, ct, hp, hh, hsum, hT => by
    refine qm_Ev.by (M := mX4_pairFrom) okX4_pairFrom (Nat.le_of_ble_eq_true rfl) hG fun z hA => ?_
    refine qm_wp_ok hA [25] 40 _ _ _ _ _ _ ⟨fun q => absurd q (nI_pos (by omega)), fun _ => ⟨t.is, fun (q : nI p < h.1 P 0) => absurd q (by rw [t.pp]; exact nI_nlt (by omega) (by omega)), fun _ => ⟨rfl, 0, 0, _, c_keep hG d h (fun _ => n) (fun _ => hn), ⟨Nat.le_refl _, Nat.le_refl _⟩, ?_⟩⟩⟩
    rintro _ h1 ⟨rfl, kb, e19, f1⟩
    refine ⟨rfl, rfl, ?_, fun j _ _ => by rw [e19], f1⟩
    exact kb.co (fun j hj => hT.1 j hj (Or.inl (by omega)))
  | k + 1, h, p, had, sum, T, t, ct, hp, hh, hsum, hT => by
    have cb : ∀ a s, cB g n k a s ≤ 720 * k := fun a s => cB_le hg k a s
    have hpn : p < n := by omega
    refine qm_Ev.by (M := mX4_pairFrom) okX4_pairFrom (Nat.le_of_ble_eq_true rfl) hG fun z hA => ?_
    refine qm_wp_ok hA [25] 60 _ _ _ _ _ _ ⟨fun q => absurd q (nI_pos (by omega)), fun _ => ⟨t.is, fun _ => ⟨0, 0, _, c_isIn hG _ h (nI had) (nI p), ⟨Nat.le_refl _, Nat.le_refl _⟩, ?_⟩, fun (q : ¬ nI p < h.1 P 0) => absurd (by rw [t.pp]; exact nI_lt hpn (by omega)) q⟩⟩
    rintro _ _ ⟨rfl, rfl⟩
    refine b2_eq (fun hb => ?_) (fun hb => ?_)
    · have htb : had.testBit p = true := by rw [← bit_n _ (by omega)]; exact hb
      have ih := c_pairFrom hG d hn hg hgd hlt k h (p + 1) had sum T t ct (by omega) hh (by omega) ⟨fun j hj hf => hT.1 j hj (by
        rcases hf with z | z
        · by_cases e : j = p
          · rw [e]; exact Or.inr htb
          · exact Or.inl (by omega)
        · exact Or.inr z), hT.2⟩
      rw [← nI_1] at ih
      refine ⟨rfl, 0, 0, _, ih, ⟨Nat.le_refl _, Nat.le_refl _⟩, ?_⟩
      rintro _ h1 ⟨rfl, kb, tr, f1⟩
      have a7 := am7 (g := g) (n := n) k p had
      rw [am_one (fun j hj => cO_n hj (Or.inr (Or.inl hb))) cO_6] at a7
      have a7' := Option.some.inj a7
      injection a7' with a1 a2
      refine ⟨rfl, rfl, ?_, fun j hj hf => tr j hj (hf.imp (fun z => by omega) id), f1⟩
      rw [← a2, ← rch_c, ← a1]
      exact kb
    · have htb : had.testBit p = false := by rw [← bit_n _ (by omega)]; exact hb
      have hcv : ∀ b v, cO g n (cB g n k (p + 1)) p had b = some v → v ≤ 720 + 720 * k := cO_le hg (fun s => cb _ s)
      have hamv : ∀ q b v, amN (cO g n (cB g n k (p + 1)) p had) q = some (b, v) → sum + v < 2 ^ 31 := fun q b v e => by
        have := hcv b v (amN_in q b v e).2
        omega
      have o1 := s_or1 hh (by omega : p < 6)
      have hinp : vp_in (nI p) 6 := vp_in_nI (by omega) (by decide)
      have ep : (nI p).toNatClampNeg = p := nI_clamp (by omega)
      have cRB : ∀ b, (fun j => nI (rch g n sale k p had T b j)) = (fun b j => nI (rch g n sale k p had T b j)) b := fun _ => rfl
      refine qm_for (P := fun q => ∀ h', KBo (fun _ => n) sum (fun b j => nI (rch g n sale k p had T b j)) (h.1 17 0) (h.1 18) (amN (cO g n (cB g n k (p + 1)) p had) q) (h'.1 17 0) (h'.1 18) → (∀ j, j < n → j < p ∨ had.testBit j = true → h'.1 19 j = h.1 19 j) → fs h h' → qm_PW G mX4_pairFrom z 25 0 0 [vr 17, vr P, vi (nI p), vi (nI had), vi (nI sum), vi (nI q), vu] [] (h')) (N := n) ?_ ?_ h ⟨rfl, fun _ _ => rfl⟩ (fun _ _ _ => rfl) fs.rf
      · intro h' kb tr fr
        have t' := fr.to t
        have go : qm_PW G mX4_pairFrom z 85 0 0 [vr 17, vr P, vi (nI p), vi (nI had), vi (nI sum), vi (nI n), vu] [] (qm_si h' 19 (nI p).toNatClampNeg 6) := by
          rw [ep]
          obtain ⟨h2, e2⟩ : ∃ h2, h2 = qm_si h' 19 p 6 := ⟨_, rfl⟩
          rw [← e2]
          have fr2 : fs h h2 := by rw [e2]; exact fr.s19
          have Tp : T p = 6 := hT.2 p htb
          have e19 : ∀ j, j < n → j < p ∨ had.testBit j = true → h2.1 19 j = h.1 19 j := fun j hj hf => by
            have : j ≠ p := fun e => by
              rw [e] at hf
              rcases hf with z | z
              · omega
              · rw [htb] at z; exact absurd z (by decide)
            rw [e2, si_row, up_n _ _ this]; exact tr j hj hf
          have ih := c_pairFrom hG d hn hg hgd hlt k h2 (p + 1) had sum T (fr2.to t) (ct.fs fr2) (by omega) hh (by omega) ⟨fun j hj hf => by
            by_cases e : j = p
            · rw [e, e2, si_row, up_s, Tp]; rfl
            · have hf' : j < p ∨ had.testBit j = true := hf.imp (fun z => by omega) id
              rw [e19 j hj hf']; exact hT.1 j hj hf', hT.2⟩
          rw [← nI_1] at ih
          refine qm_wp_ok hA [] 40 _ _ _ _ _ _ ⟨rfl, 0, 0, _, ih, ⟨Nat.le_refl _, Nat.le_refl _⟩, ?_⟩
          rintro _ h3 ⟨rfl, kb3, tr3, f3⟩
          have e17 : h2.1 17 0 = h'.1 17 0 := by rw [e2, si_ne _ _ _ (by decide)]
          have e18 : h2.1 18 = h'.1 18 := by rw [e2, si_ne _ _ _ (by decide)]
          rw [e17, e18] at kb3
          have kb6 : KB (fun _ => n) (h'.1 17 0) (h'.1 18) (sum + cB g n k (p + 1) had) ((fun b j => nI (rch g n sale k p had T b j)) 6) (h3.1 17 0) (h3.1 18) := kb3
          have st := KBo.st (b := 6) (hamv n) (by have := cb (p + 1) had; omega) (fun _ => hn) kb kb6
          have a7 := am7 (g := g) (n := n) k p had
          have sk := am_skip (q := cO g n (cB g n k (p + 1)) p had) (6 - n) n (fun j h1 h2 => cO_n (by omega) (Or.inl (by omega)))
          rw [show n + (6 - n) = 6 by omega] at sk
          have a6 : amN (cO g n (cB g n k (p + 1)) p had) 7 = cmb (amN (cO g n (cB g n k (p + 1)) p had) 6) (kv 6 (cO g n (cB g n k (p + 1)) p had 6)) := rfl
          rw [a6, cO_6, sk] at a7
          have a7 : cmb (amN (cO g n (cB g n k (p + 1)) p had) n) (some (6, cB g n k (p + 1) had)) = some (cC g n k p had, cB g n (k + 1) p had) := a7
          rw [a7] at st
          have st : KB (fun _ => n) (h.1 17 0) (h.1 18) (sum + cB g n (k + 1) p had) (fun j => nI (rch g n sale k p had T (cC g n k p had) j)) (h3.1 17 0) (h3.1 18) := st
          rw [rch_c] at st
          exact ⟨rfl, rfl, st, fun j hj hf => (tr3 j hj (hf.imp (fun z => by omega) id)).trans (e19 j hj hf), fr2.tr f3⟩
        exact qm_wp_ok hA [85] 40 _ _ _ _ _ _ ⟨t'.is, fun _ => ⟨rfl, _, rfl, rfl, hinp, go⟩, fun (z : ¬ h'.1 P 0 ≤ nI n) => absurd (by rw [t'.pp]; exact Int32.le_refl _) z⟩
      · intro q hq key h' kb tr fr
        have t' := fr.to t
        have ct' := ct.fs fr
        have o2 := s_or1 o1.2 (by omega : q < 6)
        have hinq : vp_in (nI q) 6 := vp_in_nI (by omega) (by decide)
        have eq' : (nI q).toNatClampNeg = q := nI_clamp (by omega)
        have ei : (6 : Int32) * nI p + nI q = nI (6 * p + q) := by rw [show (6 : Int32) = nI 6 from rfl, pk_mul, nI_add]
        have hini : vp_in ((6 : Int32) * nI p + nI q) 36 := by rw [ei]; exact vp_in_nI (by omega) (by decide)
        have ev : h'.1 22 ((6 : Int32) * nI p + nI q).toNatClampNeg = s_oi (g p q) := by rw [ei, nI_clamp (by omega)]; exact ct'.1 p q hpn hq
        have skip : cO g n (cB g n k (p + 1)) p had q = none → qm_PW G mX4_pairFrom z 25 0 0 [vr 17, vr P, vi (nI p), vi (nI had), vi (nI sum), vi (nI q + 1), vu] [] (h') := fun e => by
          rw [nI_1]
          refine key h' ?_ tr fr
          have : amN (cO g n (cB g n k (p + 1)) p had) (q + 1) = cmb (amN (cO g n (cB g n k (p + 1)) p had) q) (kv q (cO g n (cB g n k (p + 1)) p had q)) := rfl
          rw [this, e]
          exact kb
        refine qm_wp_ok hA [25, 60] 60 _ _ _ _ _ _ ⟨t'.is, fun (z : h'.1 P 0 ≤ nI q) => absurd z (by rw [t'.pp]; exact nI_ge hq (by omega)), fun _ => ⟨rfl, _, rfl, rfl, hini, ?_⟩⟩
        rw [ev]
        cases hgq : g p q with
        | none => exact ⟨fun _ => (skip (cO_n (by omega) (Or.inr (Or.inr (Or.inr hgq))))).mask [true, true, true, true, true, true, false], fun z => absurd rfl z⟩
        | some x =>
          have hx := hg p q x hgq
          have hpq : p ≠ q := fun e => by rw [← e, hgd p] at hgq; exact absurd hgq (by simp)
          refine ⟨fun z => absurd z (nI_ne1 (by omega)), fun _ => ⟨0, 0, _, c_isIn hG _ h' (nI had) (nI q), ⟨Nat.le_refl _, Nat.le_refl _⟩, ?_⟩⟩
          rintro _ _ ⟨rfl, rfl⟩
          refine b2_ne (fun hbq => (skip (cO_n (by omega) (Or.inr (Or.inr (Or.inl hbq))))).mask [true, true, true, true, true, true, false]) (fun hbq => ?_)
          have htq : had.testBit q = false := by rw [← bit_n _ (by omega)]; exact hbq
          have go : ∀ X, X = nI (if sale then 6 else p) → qm_PW G mX4_pairFrom z 60 0 0 [vr 17, vr P, vi (nI p), vi (nI had), vi (nI sum), vi (nI q), vi (nI x)] [] (qm_si (qm_si h' 19 (nI p).toNatClampNeg (nI q)) 19 (nI q).toNatClampNeg X) := by
            intro X hX
            rw [ep, eq', hX]
            obtain ⟨h2, e2⟩ : ∃ h2, h2 = qm_si (qm_si h' 19 p (nI q)) 19 q (nI (if sale then 6 else p)) := ⟨_, rfl⟩
            rw [← e2]
            have fr2 : fs h h2 := by rw [e2]; exact fr.s19.s19
            have vp : h2.1 19 p = nI q := by rw [e2, si_row, up_n _ _ hpq, si_row, up_s]
            have vq : h2.1 19 q = nI (if sale then 6 else p) := by rw [e2, si_row, up_s]
            have vo : ∀ j, j ≠ p → j ≠ q → h2.1 19 j = h'.1 19 j := fun j j1 j2 => by rw [e2, si_row, up_n _ _ j2, si_row, up_n _ _ j1]
            have tbo : ∀ j, ((had ||| 2 ^ p) ||| 2 ^ q).testBit j = (had.testBit j || (decide (p = j) || decide (q = j))) := fun j => by rw [Nat.testBit_or, Nat.testBit_or, Nat.testBit_two_pow, Nat.testBit_two_pow, Bool.or_assoc]
            have ih := c_pairFrom hG d hn hg hgd hlt k h2 (p + 1) ((had ||| 2 ^ p) ||| 2 ^ q) (sum + x) (va_up (va_up T p q) q (if sale then 6 else p)) (fr2.to t) (ct.fs fr2) (by omega) o2.2 (by omega) ⟨fun j hj hf => by
              by_cases jq : j = q
              · rw [jq, vq, up_s]
              · by_cases jp : j = p
                · rw [jp, vp, up_n _ _ hpq, up_s]
                · have hf' : j < p ∨ had.testBit j = true := by
                    rcases hf with z | z
                    · exact Or.inl (by omega)
                    · rw [tbo, decide_eq_false (fun e => jp e.symm), decide_eq_false (fun e => jq e.symm), Bool.or_false, Bool.or_false] at z
                      exact Or.inr z
                  rw [vo j jp jq, tr j hj hf', hT.1 j hj hf', up_n _ _ jq, up_n _ _ jp], fun j hj => by
              rw [tbo, Bool.or_eq_false_iff, Bool.or_eq_false_iff] at hj
              rw [up_n _ _ (fun e => of_decide_eq_false hj.2.2 e.symm), up_n _ _ (fun e => of_decide_eq_false hj.2.1 e.symm)]
              exact hT.2 j hj.1⟩
            rw [← nI_1, ← nI_add, ← o2.1, ← o1.1] at ih
            refine qm_wp_ok hA [25] 40 _ _ _ _ _ _ ⟨rfl, 0, 0, _, ih, ⟨Nat.le_refl _, Nat.le_refl _⟩, ?_⟩
            rintro _ h3 ⟨rfl, kb3, tr3, f3⟩
            have e17 : h2.1 17 0 = h'.1 17 0 := by rw [e2, si_ne _ _ _ (by decide), si_ne _ _ _ (by decide)]
            have e18 : h2.1 18 = h'.1 18 := by rw [e2, si_ne _ _ _ (by decide), si_ne _ _ _ (by decide)]
            have eco := cO_s (L := cB g n k (p + 1)) hq hn hb hbq hgq
            have cb' := cb (p + 1) ((had ||| 2 ^ p) ||| 2 ^ q)
            have kbq : KB (fun _ => n) (h'.1 17 0) (h'.1 18) (sum + (x + cB g n k (p + 1) ((had ||| 2 ^ p) ||| 2 ^ q))) ((fun b j => nI (rch g n sale k p had T b j)) q) (h3.1 17 0) (h3.1 18) := by
              rw [← Nat.add_assoc, ← e17, ← e18]
              refine kb3.co (fun j hj => ?_)
              show _ = nI (rch g n sale k p had T q j)
              rw [rch, if_pos (show q < 6 by omega)]
            have st := KBo.st (b := q) (hamv q) (by omega) (fun _ => hn) kb kbq
            have k2 := key h3 (by
              have : amN (cO g n (cB g n k (p + 1)) p had) (q + 1) = cmb (amN (cO g n (cB g n k (p + 1)) p had) q) (kv q (cO g n (cB g n k (p + 1)) p had q)) := rfl
              rw [this, eco]
              exact st) (fun j hj hf => by
              have jp : j ≠ p := fun e => by
                rw [e] at hf
                rcases hf with z | z
                · omega
                · rw [htb] at z; exact absurd z (by decide)
              rw [tr3 j hj (by
                rcases hf with z | z
                · exact Or.inl (by omega)
                · exact Or.inr (by rw [tbo, z]; rfl))]
              by_cases jq : j = q
              · rw [jq, vq]
                cases hs : sale with
                | true =>
                  rw [if_pos rfl]
                  rw [jq] at hf
                  rw [hT.1 q hq hf, hT.2 q htq]
                | false =>
                  have := hlt hs p q x hgq
                  rw [jq] at hf
                  rcases hf with z | z
                  · omega
                  · rw [htq] at z; exact absurd z (by decide)
              · rw [vo j jp jq]; exact tr j hj hf) (fr2.tr f3)
            rw [← nI_1] at k2
            exact k2.mask [true, true, true, true, true, true, false]
          have hfl : h'.1 17 8 = b2 (!sale) := ct'.2
          refine ⟨rfl, _, rfl, rfl, hinp, rfl, _, rfl, rfl, fun (z : h'.1 17 8 = 0) => ⟨rfl, hinq, go _ ?_⟩, fun (z : ¬ h'.1 17 8 = 0) => ⟨rfl, hinq, go _ ?_⟩⟩
          · rw [hfl] at z
            cases hs : sale with
            | true => rfl
            | false => rw [hs] at z; exact absurd z (by decide)
          · rw [hfl] at z
            cases hs : sale with
            | true => rw [hs] at z; exact absurd rfl z
            | false => rfl
