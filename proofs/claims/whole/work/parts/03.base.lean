/-! ===== own rows: what the pure functions are made of, and what a call needs ===== -/
def inb (i : Int32) (n : Nat) : Bool := decide (¬ (i < 0 ∨ n ≤ i.toNatClampNeg))
theorem inb_in {i : Int32} {n : Nat} (h : inb i n = true) : vp_in i n := by
  have h2 : decide (¬ (i < 0 ∨ n ≤ i.toNatClampNeg)) = true := h
  have h3 := of_decide_eq_true h2
  exact h3
theorem ift_s {c : Prop} [Decidable c] {α : Type} {x : Option α} {r : α} (h : (if c then x else none) = some r) : c ∧ x = some r := by
  by_cases hc : c
  · rw [if_pos hc] at h; exact ⟨hc, h⟩
  · rw [if_neg hc] at h; cases h
theorem ifn_s {c : Prop} [Decidable c] {α : Type} {x : Option α} {r : α} (h : (if c then none else x) = some r) : ¬ c ∧ x = some r := by
  by_cases hc : c
  · rw [if_pos hc] at h; cases h
  · rw [if_neg hc] at h; exact ⟨hc, h⟩
def nm {α β : Type} (x : α) (k : α → β) : β := k x
def jn {α β : Type} (a : α) (b : α → β) : β := b a
theorem jn_s {α β : Type} {a : α} {b : α → β} {r : β} (h : jn a b = r) : ∃ k, k = a ∧ b k = r := ⟨a, rfl, h⟩
theorem nm_s {α β : Type} {x : α} {k : α → β} {r : β} (h : nm x k = r) : ∃ a, x = a ∧ k a = r := ⟨x, rfl, h⟩
theorem nm_y {α β : Type} {x y : α} {k : α → β} {r : β} (e : y = x) (h : nm x k = r) : k y = r := by subst e; exact h
theorem bd_s {α β : Type} {o : Option α} {k : α → Option β} {r : β} (h : Option.bind o k = some r) : ∃ a, o = some a ∧ k a = some r := by
  cases o with
  | none => cases h
  | some a => exact ⟨a, rfl, h⟩
theorem nb_ok {x : Int32} (h : x = 0 ∨ x = 1) : narrow .boolean (.int x) = .int x := by
  rcases h with h | h <;> (rw [h]; rfl)
theorem sw_ne {x k : Int32} {z : Int} (hk : k.toInt = z) (h : ¬ x = k) : x.toInt ≠ z := fun e => h (Int32.toInt_inj.mp (e.trans hk.symm))
