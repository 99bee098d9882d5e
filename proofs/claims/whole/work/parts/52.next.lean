/-! ===== own rows: the next inputs, both sides ===== -/
def U (d : Nat) (g : Nat → Nat) : Nat → Nat → Nat
  | 0, _ => 0
  | m + 1, i => g i + d * U d g m (i + 1)
theorem U_congr (d : Nat) {g g' : Nat → Nat} : ∀ m i, (∀ p, i ≤ p → p < i + m → g p = g' p) → U d g m i = U d g' m i
  | 0, _, _ => rfl
  | m + 1, i, h => by rw [U, U, h i (Nat.le_refl _) (by omega), U_congr d m (i + 1) (fun p h1 h2 => h p (by omega) (by omega))]
theorem U_0 (d : Nat) {g : Nat → Nat} (h : ∀ p, g p = 0) : ∀ m i, U d g m i = 0
  | 0, _ => rfl
  | m + 1, i => by rw [U, h i, U_0 d h m (i + 1), Nat.mul_zero]
def IN (n d : Nat) (g : Nat → Nat) (ti mi : Nat → Int32) : Prop := (∀ p, p < n → ti p = nI (g p) ∧ mi p = nI (g p) ∧ g p < d) ∧ (∀ p, n ≤ p → p < 8 → ti p = 0 ∧ mi p = 0)
theorem nx_L {n d : Nat} (hn : n ≤ 8) (hd3 : d ≤ 3) : ∀ (m i fuel fuel2 : Nat), i + m = n → m < fuel → m < fuel2 → ∀ (ti mi : Nat → Int32) (g : Nat → Nat), (∀ p, p < n → ti p = nI (g p) ∧ mi p = nI (g p) ∧ g p < d) →
    ∃ (ti' mi' : Nat → Int32) (g' : Nat → Nat) (b : Bool), fX0_advance_L2 (nI n) (nI d) (fun v_of_2 => some v_of_2) fuel (nI i) ti = some ti' ∧ fX6_nextInputs_L2 (nI d) (nI n) (fun v_inputs_2 => some ((0 : Int32), v_inputs_2)) fuel2 (nI i) mi = some (b01 b, mi') ∧
      (∀ p, p < n → ti' p = nI (g' p) ∧ mi' p = nI (g' p) ∧ g' p < d) ∧ (∀ p, p < i → g' p = g p) ∧ (∀ p, n ≤ p → ti' p = ti p ∧ mi' p = mi p) ∧ (b = true → U d g' m i = U d g m i + 1) ∧ (b = false → (∀ p, i ≤ p → p < n → g' p = 0) ∧ U d g m i + 1 = d ^ m) := by
  intro m
  induction m with
  | zero =>
    intro i fuel fuel2 hi hf hf2 ti mi g hg
    obtain ⟨f, rfl⟩ : ∃ f, fuel = f + 1 := ⟨fuel - 1, by omega⟩
    obtain ⟨f2, rfl⟩ : ∃ f, fuel2 = f + 1 := ⟨fuel2 - 1, by omega⟩
    obtain rfl : i = n := by omega
    refine ⟨ti, mi, g, false, ?_, ?_, hg, fun _ _ => rfl, fun _ _ => ⟨rfl, rfl⟩, fun h => (by cases h), fun _ => ⟨fun p h1 h2 => absurd h1 (by omega), rfl⟩⟩
    · rw [fX0_advance_L2, if_pos ((leN hn hn).mpr (Nat.le_refl _))]
    · rw [fX6_nextInputs_L2, if_pos ((leN hn hn).mpr (Nat.le_refl _))]; rfl
  | succ m ih =>
    intro i fuel fuel2 hi hf hf2 ti mi g hg
    obtain ⟨f, rfl⟩ : ∃ f, fuel = f + 1 := ⟨fuel - 1, by omega⟩
    obtain ⟨f2, rfl⟩ : ∃ f, fuel2 = f + 1 := ⟨fuel2 - 1, by omega⟩
    obtain ⟨e1, e2, e3⟩ := hg i (by omega)
    rw [fX0_advance_L2, if_neg (fun e => absurd ((leN hn (by omega)).mp e) (by omega)), if_neg (fun e => absurd ((le8 (by omega)).mp e) (by omega)), if_pos (inb8 (by omega)), cl8 (by omega), e1, nI_1, nI_1,
      fX6_nextInputs_L2, if_neg (fun e => absurd ((leN hn (by omega)).mp e) (by omega)), if_pos (inb8 (by omega)), cl8 (by omega), e2, nI_1, nI_1, upd_same, upd_upd]
    have hle : (nI d ≤ nI (g i + 1)) ↔ d ≤ g i + 1 := nI_leI (by omega) (by omega)
    by_cases hc : d ≤ g i + 1
    · rw [if_pos (hle.mpr hc), if_pos (hle.mpr hc)]
      obtain ⟨ti', mi', g', b, c1, c2, c3, c4, c5, c6, c7⟩ := ih (i + 1) f f2 (by omega) (by omega) (by omega) (upd ti i 0) (upd mi i 0) (fun p => if p = i then 0 else g p) (fun p hp => by
        by_cases e : p = i
        · subst e; simp only [upd_same, if_pos]; exact ⟨rfl, rfl, by omega⟩
        · simp only [upd_ne _ _ e, if_neg e]; exact hg p hp)
      have hU : U d (fun p => if p = i then 0 else g p) m (i + 1) = U d g m (i + 1) := U_congr d m (i + 1) (fun p h1 _ => if_neg (by omega))
      have hg0 : g' i = 0 := by rw [c4 i (by omega)]; exact if_pos rfl
      have hgi : g i + 1 = d := by omega
      rw [hU] at c6 c7
      refine ⟨ti', mi', g', b, c1, c2, c3, fun p hp => by rw [c4 p (by omega)]; exact if_neg (by omega), fun p hp => ?_, fun hb => ?_, fun hb => ?_⟩
      · obtain ⟨z1, z2⟩ := c5 p hp
        rw [z1, z2, upd_ne _ _ (by omega), upd_ne _ _ (by omega)]; exact ⟨rfl, rfl⟩
      · rw [U, U, c6 hb, hg0, Nat.mul_add, Nat.mul_one]; omega
      · obtain ⟨z1, z2⟩ := c7 hb
        refine ⟨fun p h1 h2 => ?_, ?_⟩
        · by_cases e : p = i
          · rw [e]; exact hg0
          · exact z1 p (by omega) h2
        · rw [U, Nat.pow_succ, ← z2, Nat.mul_comm (U d g m (i + 1) + 1) d, Nat.mul_add, Nat.mul_one]; omega
    · rw [if_neg (fun e => hc (hle.mp e)), if_neg (fun e => hc (hle.mp e))]
      refine ⟨_, _, (fun p => if p = i then g i + 1 else g p), true, rfl, rfl, fun p hp => ?_, fun p hp => if_neg (by omega), fun p hp => ?_, fun _ => ?_, fun h => (by cases h)⟩
      · by_cases e : p = i
        · subst e; simp only [upd_same, if_pos]; exact ⟨trivial, trivial, by omega⟩
        · simp only [upd_ne _ _ e, if_neg e]; exact hg p hp
      · rw [upd_ne _ _ (by omega), upd_ne _ _ (by omega)]; exact ⟨rfl, rfl⟩
      · rw [U, U, if_pos rfl, U_congr d (g := fun p => if p = i then g i + 1 else g p) (g' := g) m (i + 1) (fun p h1 _ => if_neg (by omega))]; omega
theorem nx_pair {n d : Nat} (hn : n ≤ 8) (hd3 : d ≤ 3) {ti mi : Nat → Int32} {g : Nat → Nat} (h : IN n d g ti mi) :
    ∃ (ti' mi' : Nat → Int32) (g' : Nat → Nat) (b : Bool), fX0_advance ti (nI n) (nI d) = some ti' ∧ fX6_nextInputs (nI n) mi (nI d) = some (b01 b, mi') ∧ IN n d g' ti' mi' ∧ (∀ p, 8 ≤ p → mi' p = mi p) ∧ (b = true → U d g' n 0 = U d g n 0 + 1) ∧ (b = false → (∀ p, p < 8 → mi' p = 0) ∧ U d g n 0 + 1 = d ^ n) := by
  obtain ⟨ti', mi', g', b, c1, c2, c3, c4, c5, c6, c7⟩ := nx_L hn hd3 n 0 1000 1000 (by omega) (by omega) (by omega) ti mi g h.1
  rw [nI_0] at c1 c2
  refine ⟨ti', mi', g', b, ?_, ?_, ⟨c3, fun p h1 h2 => ?_⟩, fun p hp => (c5 p (by omega)).2, c6, fun hb => ⟨fun p hp => ?_, (c7 hb).2⟩⟩
  · unfold fX0_advance
    generalize fX0_advance_L2 = F at c1 ⊢
    exact c1
  · unfold fX6_nextInputs
    generalize fX6_nextInputs_L2 = F at c2 ⊢
    exact c2
  · rw [(c5 p h1).1, (c5 p h1).2]; exact h.2 p h1 h2
  · rcases Nat.lt_or_ge p n with h' | h'
    · rw [(c3 p h').2.1, (c7 hb).1 p (by omega) h']; rfl
    · rw [(c5 p h').2]; exact (h.2 p h' hp).2
theorem IN_IR {n d : Nat} (hd3 : d ≤ 3) {ti mi : Nat → Int32} {g : Nat → Nat} (h : IN n d g ti mi) : IR ti ∧ IR mi := by
  refine ⟨fun i hi => ?_, fun i hi => ?_⟩
  · rcases Nat.lt_or_ge i n with h' | h'
    · exact ⟨g i, by have := (h.1 i h').2.2; omega, (h.1 i h').1⟩
    · exact ⟨0, by omega, (h.2 i h' hi).1⟩
  · rcases Nat.lt_or_ge i n with h' | h'
    · exact ⟨g i, by have := (h.1 i h').2.2; omega, (h.1 i h').2.1⟩
    · exact ⟨0, by omega, (h.2 i h' hi).2⟩
theorem IN_eq {n d : Nat} {ti mi : Nat → Int32} {g : Nat → Nat} (h : IN n d g ti mi) : ∀ p, p < 8 → ti p = mi p := by
  intro p hp
  rcases Nat.lt_or_ge p n with h' | h'
  · rw [(h.1 p h').1, (h.1 p h').2.1]
  · rw [(h.2 p h' hp).1, (h.2 p h' hp).2]
theorem IN_zero {n d : Nat} (hn : n ≤ 8) (hd : 1 ≤ d) {ti mi : Nat → Int32} (h1 : ∀ p, p < 8 → ti p = 0) (h2 : ∀ p, p < 8 → mi p = 0) : IN n d (fun _ => 0) ti mi :=
  ⟨fun p hp => ⟨h1 p (by omega), h2 p (by omega), show 0 < d by omega⟩, fun p _ hp => ⟨h1 p hp, h2 p hp⟩⟩
