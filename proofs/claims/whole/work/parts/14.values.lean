/-! ===== own rows: the least input of a set, the inputs of a set as bits ===== -/
def lst (inp : Nat → Int32) (s : Int32) : Nat → Int32
  | 0 => 15
  | i + 1 => if bt s i = true ∧ inp i < lst inp s i then inp i else lst inp s i
def asb (inp : Nat → Int32) (s : Int32) : Nat → Int32
  | 0 => 0
  | i + 1 => if bt s i = true then asb inp s i ||| ((1 : Int32) <<< (inp i &&& 31)) else asb inp s i
theorem least_L (s : Int32) (inp : Nat → Int32) (k : Int32 → Option Int32) :
    ∀ (m i fuel : Nat), i + m = 8 → m < fuel → fX0_least_L5 s inp k fuel (lst inp s i) (nI i) = k (lst inp s 8) := by
  intro m
  induction m with
  | zero =>
    intro i fuel hi hf
    obtain ⟨f, rfl⟩ : ∃ f, fuel = f + 1 := ⟨fuel - 1, by omega⟩
    obtain rfl : i = 8 := by omega
    rw [fX0_least_L5, if_pos ((le8 (by omega)).mpr (by omega))]
  | succ m ih =>
    intro i fuel hi hf
    obtain ⟨f, rfl⟩ : ∃ f, fuel = f + 1 := ⟨fuel - 1, by omega⟩
    have h := ih (i + 1) f (by omega) (by omega)
    rw [fX0_least_L5, if_neg (fun e => absurd ((le8 (by omega)).mp e) (by omega)), nI_1]
    rw [lst] at h
    by_cases h1 : bt s i = true
    · rw [if_neg (fun e => by rw [(has_0 s i (by omega)).mp e] at h1; cases h1), if_pos (inb8 (by omega)), cl8 (by omega)]
      by_cases h2 : lst inp s i ≤ inp i
      · rw [if_pos h2]
        rw [if_neg (fun e => absurd e.2 (Int32.not_lt.mpr h2))] at h
        exact h
      · rw [if_neg h2]
        rw [if_pos ⟨h1, Int32.not_le.mp h2⟩] at h
        exact h
    · rw [if_pos ((has_0 s i (by omega)).mpr (by simpa using h1))]
      rw [if_neg (fun e => h1 e.1)] at h
      exact h
theorem least_eq (s : Int32) (inp : Nat → Int32) : fX0_least inp s = some (lst inp s 8) := by
  unfold fX0_least
  exact least_L s inp _ 8 0 1000 rfl (by omega)
theorem asBits_L (s : Int32) (inp : Nat → Int32) (k : Int32 → Option Int32) :
    ∀ (m i fuel : Nat), i + m = 8 → m < fuel → fX0_asBits_L4 s inp k fuel (asb inp s i) (nI i) = k (asb inp s 8) := by
  intro m
  induction m with
  | zero =>
    intro i fuel hi hf
    obtain ⟨f, rfl⟩ : ∃ f, fuel = f + 1 := ⟨fuel - 1, by omega⟩
    obtain rfl : i = 8 := by omega
    rw [fX0_asBits_L4, if_pos ((le8 (by omega)).mpr (by omega))]
  | succ m ih =>
    intro i fuel hi hf
    obtain ⟨f, rfl⟩ : ∃ f, fuel = f + 1 := ⟨fuel - 1, by omega⟩
    have h := ih (i + 1) f (by omega) (by omega)
    rw [fX0_asBits_L4, if_neg (fun e => absurd ((le8 (by omega)).mp e) (by omega)), nI_1]
    rw [asb] at h
    by_cases h1 : bt s i = true
    · rw [if_neg (fun e => by rw [(has_0 s i (by omega)).mp e] at h1; cases h1), if_pos (inb8 (by omega)), cl8 (by omega)]
      rw [if_pos h1] at h
      exact h
    · rw [if_pos ((has_0 s i (by omega)).mpr (by simpa using h1))]
      rw [if_neg h1] at h
      exact h
theorem asBits_eq (s : Int32) (inp : Nat → Int32) : fX0_asBits inp s = some (asb inp s 8) := by
  unfold fX0_asBits
  exact asBits_L s inp _ 8 0 1000 rfl (by omega)
theorem i_le_refl (x : Int32) : x ≤ x := Int32.le_iff_toInt_le.mpr (Int.le_refl _)
theorem i_le_trans {x y z : Int32} (h : x ≤ y) (h2 : y ≤ z) : x ≤ z := Int32.le_iff_toInt_le.mpr (Int.le_trans (Int32.le_iff_toInt_le.mp h) (Int32.le_iff_toInt_le.mp h2))
theorem i_le_anti {x y : Int32} (h : x ≤ y) (h2 : y ≤ x) : x = y := Int32.toInt_inj.mp (Int.le_antisymm (Int32.le_iff_toInt_le.mp h) (Int32.le_iff_toInt_le.mp h2))
theorem i_lt_le {x y : Int32} (h : x < y) : x ≤ y := Int32.le_iff_toInt_le.mpr (Int.le_of_lt (Int32.lt_iff_toInt_lt.mp h))
theorem lst_15 (inp : Nat → Int32) (s : Int32) : ∀ m, lst inp s m ≤ 15
  | 0 => i_le_refl _
  | m + 1 => by
    rw [lst]
    by_cases h : bt s m = true ∧ inp m < lst inp s m
    · rw [if_pos h]; exact i_le_trans (i_lt_le h.2) (lst_15 inp s m)
    · rw [if_neg h]; exact lst_15 inp s m
theorem lst_le (inp : Nat → Int32) (s : Int32) : ∀ m i, i < m → bt s i = true → lst inp s m ≤ inp i
  | 0, i, hi, _ => absurd hi (by omega)
  | m + 1, i, hi, hb => by
    rw [lst]
    by_cases h : bt s m = true ∧ inp m < lst inp s m
    · rw [if_pos h]
      by_cases e : i = m
      · subst e; exact i_le_refl _
      · exact i_le_trans (i_lt_le h.2) (lst_le inp s m i (by omega) hb)
    · rw [if_neg h]
      by_cases e : i = m
      · subst e; exact Int32.not_lt.mp (fun q => h ⟨hb, q⟩)
      · exact lst_le inp s m i (by omega) hb
theorem lst_in (inp : Nat → Int32) (s : Int32) : ∀ m, lst inp s m = 15 ∨ ∃ i, i < m ∧ bt s i = true ∧ lst inp s m = inp i
  | 0 => Or.inl rfl
  | m + 1 => by
    rw [lst]
    by_cases h : bt s m = true ∧ inp m < lst inp s m
    · rw [if_pos h]; exact Or.inr ⟨m, by omega, h.1, rfl⟩
    · rw [if_neg h]
      rcases lst_in inp s m with e | ⟨i, h1, h2, h3⟩
      · exact Or.inl e
      · exact Or.inr ⟨i, by omega, h2, h3⟩
theorem lst_or (inp : Nat → Int32) (a b : Int32) (m : Nat) : lst inp (a ||| b) m = if lst inp b m ≤ lst inp a m then lst inp b m else lst inp a m := by
  have hle : ∀ x, x ≤ lst inp a m → x ≤ lst inp b m → x ≤ lst inp (a ||| b) m := by
    intro x ha hb
    rcases lst_in inp (a ||| b) m with e | ⟨i, h1, h2, h3⟩
    · rw [e]; exact i_le_trans ha (lst_15 inp a m)
    · rw [h3]
      rw [b_or, Bool.or_eq_true] at h2
      rcases h2 with h2 | h2
      · exact i_le_trans ha (lst_le inp a m i h1 h2)
      · exact i_le_trans hb (lst_le inp b m i h1 h2)
  have ha : lst inp (a ||| b) m ≤ lst inp a m := by
    rcases lst_in inp a m with e | ⟨i, h1, h2, h3⟩
    · rw [e]; exact lst_15 _ _ m
    · rw [h3]; exact lst_le _ _ m i h1 (by rw [b_or, h2]; rfl)
  have hb : lst inp (a ||| b) m ≤ lst inp b m := by
    rcases lst_in inp b m with e | ⟨i, h1, h2, h3⟩
    · rw [e]; exact lst_15 _ _ m
    · rw [h3]; exact lst_le _ _ m i h1 (by rw [b_or, h2, Bool.or_true])
  by_cases h : lst inp b m ≤ lst inp a m
  · rw [if_pos h]; exact i_le_anti hb (hle _ h (i_le_refl _))
  · rw [if_neg h]; exact i_le_anti ha (hle _ (i_le_refl _) (i_lt_le (Int32.not_le.mp h)))
theorem asb_or (inp : Nat → Int32) (a b : Int32) : ∀ m, asb inp (a ||| b) m = asb inp a m ||| asb inp b m
  | 0 => by rw [asb, asb, asb]; rfl
  | m + 1 => by
    rw [asb, asb, asb, b_or, asb_or inp a b m]
    cases ha : bt a m <;> cases hb : bt b m <;> simp <;> (apply b_ext; intro i hi; simp only [b_or]; cases bt (asb inp a m) i <;> cases bt (asb inp b m) i <;> cases bt (1 <<< (inp m &&& 31)) i <;> rfl)
