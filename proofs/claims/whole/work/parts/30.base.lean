/-! words for locals and truth values; calls; frames -/
abbrev vi (x : Int32) : Option Value := some (.int x)
abbrev vl (x : Int64) : Option Value := some (.long x)
abbrev vr (x : Nat) : Option Value := some (.ref x)
abbrev vu : Option Value := none
def b2 (b : Bool) : Int32 := if b then 1 else 0
theorem b2_t : b2 true = 1 := rfl
theorem b2_f : b2 false = 0 := rfl
theorem b2_and (b : Bool) : b2 b &&& 1 = b2 b := by cases b <;> rfl
/-- ifeq, ifne over a truth value -/
theorem b2_eq {b : Bool} {A B : Prop} (t : b = true → B) (f : b = false → A) : (b2 b = 0 → A) ∧ (¬ b2 b = 0 → B) := by
  cases b
  · exact ⟨fun _ => f rfl, fun q => absurd rfl q⟩
  · exact ⟨fun q => absurd q (by decide), fun _ => t rfl⟩
theorem b2_ne {b : Bool} {A B : Prop} (t : b = true → A) (f : b = false → B) : (¬ b2 b = 0 → A) ∧ (b2 b = 0 → B) := ⟨fun q => (b2_eq (b := b) t f).2 q, fun q => (b2_eq (b := b) t f).1 q⟩
/-- ints of these places alone may differ -/
def sb (S : List Nat) (h h' : qm_H) : Prop := h'.2 = h.2 ∧ ∀ q, q ∉ S → h'.1 q = h.1 q
theorem sb.rf {S : List Nat} {h : qm_H} : sb S h h := ⟨rfl, fun _ _ => rfl⟩
theorem sb.tr {S : List Nat} {h h1 h2 : qm_H} (a : sb S h h1) (b : sb S h1 h2) : sb S h h2 := ⟨b.1.trans a.1, fun q hq => (b.2 q hq).trans (a.2 q hq)⟩
theorem sb.mono {S S' : List Nat} {h h' : qm_H} (a : sb S h h') (hs : ∀ q, q ∈ S → q ∈ S') : sb S' h h' := ⟨a.1, fun q hq => a.2 q (fun k => hq (hs q k))⟩
theorem sb.si {S : List Nat} {h h1 : qm_H} (a : sb S h h1) {p k : Nat} {v : Int32} (hp : p ∈ S) : sb S h (qm_si h1 p k v) := ⟨a.1, fun q hq => by
  have e : q ≠ p := fun e => hq (e ▸ hp)
  show va_up h1.1 p _ q = h.1 q
  rw [va_up, if_neg e]
  exact a.2 q hq⟩
theorem si_row (h : qm_H) (p k : Nat) (v : Int32) : (qm_si h p k v).1 p = va_up (h.1 p) k v := by
  show va_up h.1 p _ p = _
  rw [va_up, if_pos rfl]
theorem si_ne (h : qm_H) {p q : Nat} (k : Nat) (v : Int32) (e : q ≠ p) : (qm_si h p k v).1 q = h.1 q := by
  show va_up h.1 p _ q = _
  rw [va_up, if_neg e]
theorem si_2 (h : qm_H) (p k : Nat) (v : Int32) : (qm_si h p k v).2 = h.2 := rfl
theorem up_s {α : Type} (f : Nat → α) (k : Nat) (v : α) : va_up f k v k = v := if_pos rfl
theorem up_n {α : Type} (f : Nat → α) {k j : Nat} (v : α) (e : j ≠ k) : va_up f k v j = f j := if_neg e
/-- a contract of a method without a loop -/
theorem qm_Ev.run {G : qm_G} {b : Bool} {d C S : Nat} {M : qm_M} {as : List Value} {h : qm_H} {uQ : Option Value → qm_H → Prop} (hok : qm_okM M = true) (hn : Nat.ble (qm_in as).length M.2.1.2.2.1 = true) (hb : G.2.2.2.2 = b) (body : ∀ z : qm_Z, qm_wp G b M z d C S uQ [] 400 0 0 0 (qm_L0 M.2.1.2.2.1 as) [] h) : qm_Ev G d C S M.2.1 as h uQ := qm_Ev.by hok (Nat.le_of_ble_eq_true hn) hb fun z hA => qm_wp_ok hA [] 400 _ _ _ _ _ _ (body z)
/-- a bit -/
def bit (x k : Int32) : Bool := decide ((x >>> (k &&& 31)) &&& 1 = 1)
theorem in_of {x : Int32} {n : Nat} (h : 0 ≤ x) (h2 : x ≤ nI n - 1) (hn : n < 2 ^ 31) : ∃ j, j < n ∧ x = nI j := by
  have h3 : ¬ x < 0 := Int32.not_lt.mpr h
  rcases n with _ | n
  · have e : nI 0 - 1 = (-1 : Int32) := by decide
    rw [e] at h2
    exact absurd (Int32.le_trans h h2) (by decide)
  · rw [nI_pred] at h2
    obtain ⟨j, hj, e⟩ := nI_of h3
    refine ⟨j, ?_, e⟩
    rw [e] at h2
    have := (nI_leI hj (by omega)).mp h2
    omega
