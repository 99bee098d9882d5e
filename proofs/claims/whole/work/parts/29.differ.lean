/-! ===== own rows: the different decisions, both sides ===== -/
/-- the values that those with P stand for, as bits -/
def DS (P : Nat → Bool) (v : Nat → Int32) : Nat → Int32
  | 0 => 0
  | i + 1 => if P i = true then DS P v i ||| ((1 : Int32) <<< (v i &&& 31)) else DS P v i
theorem DS_bt {P : Nat → Bool} {v : Nat → Int32} {n : Nat} (hv : ∀ p, p < n → P p = true → ∃ w, w < 16 ∧ v p = nI w) {j : Nat} (hj : j < 32) : ∀ i, i ≤ n → (bt (DS P v i) j = true ↔ ∃ p, p < i ∧ P p = true ∧ v p = nI j)
  | 0, _ => by rw [DS, b_0]; simp
  | i + 1, hi => by
    have ih := DS_bt hv hj i (by omega)
    rw [DS]
    by_cases h : P i = true
    · obtain ⟨w, hw, e⟩ := hv i (by omega) h
      rw [if_pos h, b_or, Bool.or_eq_true, ih, e, b_one w (by omega) hj, decide_eq_true_eq]
      constructor
      · rintro (⟨p, a, b, c⟩ | rfl)
        · exact ⟨p, by omega, b, c⟩
        · exact ⟨i, by omega, h, e⟩
      · rintro ⟨p, a, b, c⟩
        by_cases q : p = i
        · subst q; exact Or.inr ((nI_eq (by omega) (by omega)).mp (c.symm.trans e))
        · exact Or.inl ⟨p, by omega, b, c⟩
    · rw [if_neg h, ih]
      constructor
      · rintro ⟨p, a, b, c⟩; exact ⟨p, by omega, b, c⟩
      · rintro ⟨p, a, b, c⟩
        by_cases q : p = i
        · subst q; exact absurd b h
        · exact ⟨p, by omega, b, c⟩
theorem DS_lo16 {P : Nat → Bool} {v : Nat → Int32} {n : Nat} (hv : ∀ p, p < n → P p = true → ∃ w, w < 16 ∧ v p = nI w) : lo16 (DS P v n) := by
  intro j hj
  rcases Nat.lt_or_ge j 32 with h | h
  · cases hb : bt (DS P v n) j
    · rfl
    · obtain ⟨p, a, b, c⟩ := (DS_bt hv h n (Nat.le_refl _)).mp hb
      obtain ⟨w, hw, e⟩ := hv p a b
      exact absurd ((nI_eq (by omega) (by omega)).mp (e.symm.trans c)) (by omega)
  · exact b_big h
theorem decV_16 {alg : Int32} {n : Nat} (hn : n ≤ 8) {inp : Nat → Int32} (hI : IR inp) {s : Int32} (hs : okS n s) : ∃ w, w < 16 ∧ decV alg n inp s = nI w := by
  unfold decV
  by_cases h4 : alg = 4
  · rw [if_pos h4]
    exact ⟨cnt s 8, Nat.lt_of_le_of_lt (cnt_le s 8) (by omega), rfl⟩
  · rw [if_neg h4]
    by_cases h5 : alg = 5
    · rw [if_pos h5]
      by_cases hc : s = fX2_everyone (nI n) ∧ ¬ lst inp s 8 = 0
      · rw [if_pos hc]; exact ⟨1, by omega, rfl⟩
      · rw [if_neg hc]; exact ⟨0, by omega, rfl⟩
    · rw [if_neg h5]
      obtain ⟨i, h1, h2⟩ := hs.2
      obtain ⟨_, w, _, _, h3, _, h5'⟩ := lst_mem hI (s := s) (i0 := i) (by omega) h2
      exact ⟨w, h3, h5'⟩
/-- decisionsOf, with its last set -/
theorem decOf_L {alg who : Int32} {n : Nat} (hn : n ≤ 8) {inp di df : Nat → Int32} (hok : ∀ p, p < n → ¬ di p = 0 → okS n (df p)) (P : Nat → Bool) (hP : ∀ p, P p = (bt who p && !decide (di p = 0))) (k : Int32 → Option Int32) :
    ∀ (m i fuel : Nat) (last : Int32), i + m = n → m < fuel → (last = 0 ∨ DS P (fun p => decV alg n inp (df p)) i ||| ((1 : Int32) <<< (decV alg n inp last &&& 31)) = DS P (fun p => decV alg n inp (df p)) i) →
      fX3_decisionsOf_L7 who alg (nI n) inp di df k fuel (DS P (fun p => decV alg n inp (df p)) i) last (nI i) = k (DS P (fun p => decV alg n inp (df p)) n) := by
  intro m
  induction m with
  | zero =>
    intro i fuel last hi hf _
    obtain ⟨f, rfl⟩ : ∃ f, fuel = f + 1 := ⟨fuel - 1, by omega⟩
    obtain rfl : i = n := by omega
    rw [fX3_decisionsOf_L7, if_pos ((leN hn hn).mpr (Nat.le_refl _))]
  | succ m ih =>
    intro i fuel last hi hf hl
    obtain ⟨f, rfl⟩ : ∃ f, fuel = f + 1 := ⟨fuel - 1, by omega⟩
    rw [fX3_decisionsOf_L7, if_neg (fun e => absurd ((leN hn (by omega)).mp e) (by omega)), nI_1]
    have hPi := hP i
    have hno : P i = false → fX3_decisionsOf_L7 who alg (nI n) inp di df k f (DS P (fun p => decV alg n inp (df p)) i) last (nI (i + 1)) = k (DS P (fun p => decV alg n inp (df p)) n) := by
      intro hp
      have h := ih (i + 1) f last (by omega) (by omega)
      rw [DS, hp, if_neg (by simp)] at h
      exact h hl
    by_cases h1 : bt who i = true
    · rw [if_neg (fun e => by rw [(has_0 who i (by omega)).mp e] at h1; cases h1), if_pos (inb8 (by omega)), cl8 (by omega)]
      by_cases h2 : di i = 0
      · rw [if_pos h2]
        exact hno (by rw [hPi, decide_eq_true h2]; simp)
      · rw [if_neg h2]
        have hp : P i = true := by rw [hPi, h1, decide_eq_false h2]; rfl
        have hs := hok i (by omega) h2
        by_cases h3 : df i = last
        · rw [if_pos h3]
          have hnz : ¬ last = 0 := by
            intro e
            obtain ⟨j, _, hj⟩ := hs.2
            rw [h3, e, b_0] at hj
            cases hj
          have hsame : DS P (fun p => decV alg n inp (df p)) (i + 1) = DS P (fun p => decV alg n inp (df p)) i := by
            rw [DS, if_pos hp, h3]
            exact hl.resolve_left hnz
          have h := ih (i + 1) f last (by omega) (by omega)
          rw [hsame] at h
          exact h hl
        · rw [if_neg h3, decisionFrom_eq alg n inp (okS_lo8 hn hs), Option.bind_some]
          have h := ih (i + 1) f (df i) (by omega) (by omega)
          rw [DS, if_pos hp] at h
          exact h (Or.inr (or_same3 _ _))
    · rw [if_pos ((has_0 who i (by omega)).mpr (by simpa using h1))]
      exact hno (by rw [hPi]; simp at h1; rw [h1]; rfl)
theorem decOf_eq {alg who : Int32} {n : Nat} (hn : n ≤ 8) {inp di df : Nat → Int32} (hok : ∀ p, p < n → ¬ di p = 0 → okS n (df p)) : fX3_decisionsOf alg (nI n) inp di df who = some (DS (fun p => bt who p && !decide (di p = 0)) (fun p => decV alg n inp (df p)) n) := by
  unfold fX3_decisionsOf
  have h := decOf_L (alg := alg) (who := who) hn (inp := inp) hok _ (fun _ => rfl) (fun x2_7 => some x2_7) n 0 1000 0 (by omega) (by omega) (Or.inl rfl)
  rw [DS, nI_0] at h
  generalize fX3_decisionsOf_L7 = F at h ⊢
  exact h
/-- one of P is the first with its value -/
def frs (P : Nat → Bool) (v : Nat → Int32) (p : Nat) : Bool := P p && !anyf (fun q => P q && decide (v q = v p)) 0 p
theorem cnt_or_one {x : Int32} {w m : Nat} (hm : m ≤ 32) (hw : w < m) : cnt (x ||| ((1 : Int32) <<< (nI w &&& 31))) m = cnt x m + (if bt x w = true then 0 else 1) := by
  have key : ∀ j, j ≤ m → cnt (x ||| ((1 : Int32) <<< (nI w &&& 31))) j = cnt x j + (if w < j ∧ ¬ bt x w = true then 1 else 0) := by
    intro j
    induction j with
    | zero => intro _; rw [cnt, cnt, if_neg (fun q => absurd q.1 (by omega))]
    | succ j ih =>
      intro hj
      rw [cnt, cnt, ih (by omega), b_or, b_one w (by omega) (show j < 32 by omega)]
      by_cases e : j = w
      · subst e
        rw [if_neg (show ¬ (j < j ∧ ¬ bt x j = true) from fun q => absurd q.1 (by omega))]
        cases hb : bt x j <;> simp
      · rw [decide_eq_false e, Bool.or_false]
        have e2 : (w < j + 1 ∧ ¬ bt x w = true) ↔ (w < j ∧ ¬ bt x w = true) := ⟨fun q => ⟨by omega, q.2⟩, fun q => ⟨by omega, q.2⟩⟩
        simp only [e2]
        omega
  rw [key m (Nat.le_refl _)]
  by_cases hb : bt x w = true
  · rw [if_pos hb, if_neg (fun q => q.2 hb)]
  · rw [if_neg hb, if_pos ⟨hw, hb⟩]
theorem cnt_DS {P : Nat → Bool} {v : Nat → Int32} {n : Nat} (hv : ∀ p, p < n → P p = true → ∃ w, w < 16 ∧ v p = nI w) : ∀ i, i ≤ n → cnt (DS P v i) 16 = cp (frs P v) i
  | 0, _ => by rw [DS, cp]; decide +kernel
  | i + 1, hi => by
    have ih := cnt_DS hv i (by omega)
    rw [DS, cp]
    by_cases h : P i = true
    · obtain ⟨w, hw, e⟩ := hv i (by omega) h
      rw [if_pos h, e, cnt_or_one (by omega) hw, ih]
      congr 1
      have hb := DS_bt hv (show w < 32 by omega) i (by omega)
      have ha := anyf_iff (fun q => P q && decide (v q = v i)) i 0
      cases hx : bt (DS P v i) w
      · have : anyf (fun q => P q && decide (v q = v i)) 0 i = false := by
          cases hy : anyf (fun q => P q && decide (v q = v i)) 0 i
          · rfl
          · obtain ⟨q, a, b, c⟩ := ha.mp hy
            rw [Bool.and_eq_true, decide_eq_true_eq] at c
            have := hb.mpr ⟨q, by omega, c.1, c.2.trans e⟩
            rw [hx] at this
            cases this
        unfold frs
        rw [h, this]; rfl
      · obtain ⟨q, a, b, c⟩ := hb.mp hx
        have : anyf (fun q => P q && decide (v q = v i)) 0 i = true := ha.mpr ⟨q, by omega, by omega, by rw [Bool.and_eq_true, decide_eq_true_eq]; exact ⟨b, c.trans e.symm⟩⟩
        unfold frs
        rw [h, this]; rfl
    · rw [if_neg h, ih]
      have : frs P v i = false := by unfold frs; simp at h; rw [h]; rfl
      rw [this, if_neg (by simp), Nat.add_zero]
