/-! ===== own rows: what the small functions are ===== -/
theorem has_eq (x : Int32) (p : Nat) (hp : p < 32) : fX5_has x (nI p) = if bt x p = true then 1 else 0 := by
  unfold fX5_has
  by_cases h : bt x p = true
  · rw [if_neg (fun e => by rw [(hs_0 x p hp).mp e] at h; cases h), if_pos h]
  · rw [if_pos ((hs_0 x p hp).mpr (by simpa using h)), if_neg h]
theorem has_0 (x : Int32) (p : Nat) (hp : p < 32) : fX5_has x (nI p) = 0 ↔ bt x p = false := by
  rw [has_eq x p hp]
  by_cases h : bt x p = true
  · rw [if_pos h, h]; simp
  · rw [if_neg h]; simp [Bool.not_eq_true] at h; simp [h]
theorem within_eq (v lo hi : Int32) : fX5_isWithin v lo hi = if lo ≤ v ∧ v ≤ hi then 1 else 0 := by
  unfold fX5_isWithin
  by_cases h1 : v < lo
  · rw [if_pos h1, if_neg (fun h => absurd h.1 (Int32.not_le.mpr h1))]
  · rw [if_neg h1]
    by_cases h2 : hi < v
    · rw [if_pos h2, if_neg (fun h => absurd h.2 (Int32.not_le.mpr h2))]
    · rw [if_neg h2, if_pos ⟨Int32.not_lt.mp h1, Int32.not_lt.mp h2⟩]
theorem within_0 (v lo hi : Int32) : fX5_isWithin v lo hi = 0 ↔ ¬ (lo ≤ v ∧ v ≤ hi) := by
  rw [within_eq]
  by_cases h : lo ≤ v ∧ v ≤ hi
  · rw [if_pos h]; simp [h]
  · rw [if_neg h]; simp [h]
theorem inb8 {i : Nat} (h : i < 8) : inb (nI i) 8 = true := by
  unfold inb
  exact decide_eq_true (vp_in_nI h (by omega))
theorem cl8 {i : Nat} (h : i < 8) : (nI i).toNatClampNeg = i := nI_clamp (by omega)
theorem le8 {i : Nat} (h : i ≤ 8) : ((8 : Int32) ≤ nI i) ↔ 8 ≤ i := nI_leI (a := 8) (by omega) (by omega)
/-- a set by what is in it -/
def mk (P : Nat → Bool) : Nat → Int32
  | 0 => 0
  | i + 1 => if P i = true then mk P i ||| ((1 : Int32) <<< (nI i &&& 31)) else mk P i
theorem mk_bt (P : Nat → Bool) : ∀ m, m ≤ 32 → ∀ j, j < 32 → bt (mk P m) j = (decide (j < m) && P j)
  | 0, _, j, _ => by rw [mk, b_0]; simp
  | m + 1, hm, j, hj => by
    rw [mk]
    have ih := mk_bt P m (by omega) j hj
    by_cases hP : P m = true
    · rw [if_pos hP, b_or, ih, b_one m (by omega) hj]
      by_cases e : j = m
      · subst e; simp [hP]
      · have : (j < m + 1) ↔ (j < m) := by omega
        simp [e, this]
    · rw [if_neg hP, ih]
      by_cases e : j = m
      · subst e; simp at hP; simp [hP]
      · have : (j < m + 1) ↔ (j < m) := by omega
        simp [this]
theorem mk_lo8 (P : Nat → Bool) : lo8 (mk P 8) := by
  intro i hi
  rcases Nat.lt_or_ge i 32 with h | h
  · rw [mk_bt P 8 (by omega) i h, decide_eq_false (by omega)]; rfl
  · exact b_big h
theorem crashingIn_L (cr : Int32) (ro : Nat → Int32) (lo up : Int32) (k : Int32 → Option Int32) (P : Nat → Bool) (hP : ∀ p, P p = (bt cr p && decide (lo ≤ ro p ∧ ro p ≤ up))) :
    ∀ (m i fuel : Nat), i + m = 8 → m < fuel → fX1_crashingIn_L5 lo up cr ro k fuel (mk P i) (nI i) = k (mk P 8) := by
  intro m
  induction m with
  | zero =>
    intro i fuel hi hf
    obtain ⟨f, rfl⟩ : ∃ f, fuel = f + 1 := ⟨fuel - 1, by omega⟩
    obtain rfl : i = 8 := by omega
    rw [fX1_crashingIn_L5, if_pos ((le8 (by omega)).mpr (by omega))]
  | succ m ih =>
    intro i fuel hi hf
    obtain ⟨f, rfl⟩ : ∃ f, fuel = f + 1 := ⟨fuel - 1, by omega⟩
    have h := ih (i + 1) f (by omega) (by omega)
    rw [fX1_crashingIn_L5, if_neg (fun e => absurd ((le8 (by omega)).mp e) (by omega))]
    rw [mk, hP i] at h
    rw [nI_1]
    by_cases h1 : bt cr i = false
    · rw [if_pos ((has_0 cr i (by omega)).mpr h1)]
      rw [h1] at h; simpa using h
    · rw [if_neg (fun e => h1 ((has_0 cr i (by omega)).mp e)), if_pos (inb8 (by omega)), cl8 (by omega)]
      simp only [Bool.not_eq_false] at h1
      by_cases h2 : lo ≤ ro i ∧ ro i ≤ up
      · rw [if_neg (fun e => absurd h2 ((within_0 _ _ _).mp e))]
        rw [h1, decide_eq_true h2] at h; simpa using h
      · rw [if_pos ((within_0 _ _ _).mpr h2)]
        rw [h1, decide_eq_false h2] at h; simpa using h
theorem crashingIn_eq (cr : Int32) (ro : Nat → Int32) (lo up : Int32) : fX1_crashingIn cr ro lo up = some (mk (fun p => bt cr p && decide (lo ≤ ro p ∧ ro p ≤ up)) 8) := by
  unfold fX1_crashingIn
  exact crashingIn_L cr ro lo up _ _ (fun _ => rfl) 8 0 1000 rfl (by omega)
