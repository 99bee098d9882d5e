/-! ===== own rows: how many bits; all processes; what a set is worth ===== -/
theorem bc_all : ∀ k, k < 256 → fJ6_bitCount_0f7a4 (nI k) = nI (cnt (nI k) 8) := by decide +kernel
theorem bits_all : ∀ k, k < 256 → fX6_bits (nI k) = some (nI (cnt (nI k) 8)) := by decide +kernel
theorem bc_eq {x : Int32} (h : lo8 x) : fJ6_bitCount_0f7a4 x = nI (cnt x 8) := by
  obtain ⟨k, hk, rfl⟩ := lo8_nI h
  exact bc_all k hk
theorem bits_eq {x : Int32} (h : lo8 x) : fX6_bits x = some (nI (cnt x 8)) := by
  obtain ⟨k, hk, rfl⟩ := lo8_nI h
  exact bits_all k hk
theorem cnt_le (x : Int32) : ∀ m, cnt x m ≤ m
  | 0 => Nat.le_refl _
  | m + 1 => by
    have := cnt_le x m
    rw [cnt]
    by_cases h : bt x m = true
    · rw [if_pos h]; omega
    · rw [if_neg h]; omega
theorem ev_all : ∀ n, n < 9 → ∀ i, i < 32 → bt (fX2_everyone (nI n)) i = decide (i < n) := by decide +kernel
theorem all_ev (n : Int32) : fX6_all n = fX2_everyone n := rfl
theorem ev_bt {n : Nat} (hn : n ≤ 8) (i : Nat) : bt (fX2_everyone (nI n)) i = decide (i < n) := by
  rcases Nat.lt_or_ge i 32 with h | h
  · exact ev_all n (by omega) i h
  · rw [b_big h, decide_eq_false (by omega)]
theorem ev_lo8 {n : Nat} (hn : n ≤ 8) : lo8 (fX2_everyone (nI n)) := fun i hi => by rw [ev_bt hn, decide_eq_false (by omega)]
theorem lo8_and {x y : Int32} (h : lo8 x) : lo8 (x &&& y) := fun i hi => by rw [b_and, h i hi, Bool.false_and]
theorem lo8_or {x y : Int32} (h : lo8 x) (h2 : lo8 y) : lo8 (x ||| y) := fun i hi => by rw [b_or, h i hi, h2 i hi]; rfl
theorem lo8_one {p : Nat} (hp : p < 8) : lo8 ((1 : Int32) <<< (nI p &&& 31)) := fun i hi => by
  rcases Nat.lt_or_ge i 32 with h | h
  · rw [b_one p (by omega) h, decide_eq_false (by omega)]
  · exact b_big h
theorem lo8_0 : lo8 0 := fun i _ => b_0 i
theorem lo8_ext {x y : Int32} (hx : lo8 x) (hy : lo8 y) (h : ∀ i, i < 8 → bt x i = bt y i) : x = y := b_ext (fun i _ => by
  rcases Nat.lt_or_ge i 8 with h8 | h8
  · exact h i h8
  · rw [hx i h8, hy i h8])
theorem isUp_eq (x : Int32) (p : Nat) (hp : p < 32) : fX6_isUp x (nI p) = if bt x p = true then 1 else 0 := by
  unfold fX6_isUp
  by_cases h : bt x p = true
  · rw [if_pos ((hs_1 x p hp).mpr h), if_pos h]
  · rw [if_neg (fun e => h ((hs_1 x p hp).mp e)), if_neg h]
theorem isUp_0 (x : Int32) (p : Nat) (hp : p < 32) : fX6_isUp x (nI p) = 0 ↔ bt x p = false := by
  rw [isUp_eq x p hp]
  by_cases h : bt x p = true
  · rw [if_pos h, h]; simp
  · rw [if_neg h]; simp [Bool.not_eq_true] at h; simp [h]
/-- what the set s of processes is worth to one that knows it -/
def valK (alg : Int32) (inp : Nat → Int32) (s : Int32) : Int32 := if alg = 0 then asb inp s 8 else if alg = 4 ∨ alg = 5 then s else lst inp s 8
theorem joined_val (alg : Int32) (inp : Nat → Int32) (a b : Int32) (h : ¬ alg = 6) : fX6_joined alg (valK alg inp a) (valK alg inp b) = valK alg inp (a ||| b) := by
  unfold fX6_joined valK
  by_cases h0 : alg = 0
  · simp only [if_pos h0]; exact (asb_or inp a b 8).symm
  · simp only [if_neg h0]
    by_cases h4 : alg = 4
    · subst h4; simp
    · by_cases h5 : alg = 5
      · subst h5; simp
      · have hn : ¬ (alg = 4 ∨ alg = 5) := fun q => q.elim h4 h5
        simp only [if_neg hn, if_neg h4, if_neg h5, if_neg h, lst_or]
        split <;> first | rfl | (split <;> first | rfl | (split <;> rfl))
theorem joined_6 (alg : Int32) (x y : Int32) (h : alg = 6) : fX6_joined alg x y = y := by
  subst h; rfl
