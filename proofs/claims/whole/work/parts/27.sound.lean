/-! ===== own rows: who is sound, how many others, the bound, who is late ===== -/
def sd (cr : Int32) (ro : Nat → Int32) (R : Int32) (p : Nat) : Bool := !(bt cr p && decide (ro p ≤ R))
def anyf (P : Nat → Bool) (i : Nat) : Nat → Bool
  | 0 => false
  | m + 1 => P i || anyf P (i + 1) m
theorem anyf_iff (P : Nat → Bool) : ∀ m i, anyf P i m = true ↔ ∃ q, i ≤ q ∧ q < i + m ∧ P q = true
  | 0, i => by rw [anyf]; exact ⟨fun h => absurd h (by simp), fun ⟨q, a, b, _⟩ => absurd a (by omega)⟩
  | m + 1, i => by
    rw [anyf, Bool.or_eq_true, anyf_iff P m (i + 1)]
    constructor
    · rintro (h | ⟨q, a, b, c⟩)
      · exact ⟨i, Nat.le_refl _, by omega, h⟩
      · exact ⟨q, by omega, by omega, c⟩
    · rintro ⟨q, a, b, c⟩
      by_cases e : q = i
      · subst e; exact Or.inl c
      · exact Or.inr ⟨q, by omega, by omega, c⟩
theorem isSound_eq {n : Nat} (hn : n ≤ 8) {cr R : Int32} {ro rch crs mrc : Nat → Int32} (hP : PL n cr ro rch crs mrc) {p : Nat} (hp : p < n) : fX6_isSound R crs (nI p) = some (b01 (sd cr ro R p)) := by
  unfold fX6_isSound sd
  rw [if_pos (inb8 (by omega)), cl8 (by omega)]
  cases hc : bt cr p
  · rw [if_pos (hP.2.2 p hp hc)]; rfl
  · obtain ⟨⟨r, h1, h2, h3⟩, h4, _⟩ := hP.2.1 p hp hc
    rw [h4, if_neg (by rw [h3]; exact nI_ne0 (by omega) (by omega))]
    by_cases h : ro p ≤ R
    · rw [if_pos h, decide_eq_true h]; rfl
    · rw [if_neg h, decide_eq_false h]; rfl
theorem others_L {n : Nat} (hn : n ≤ 8) {cr R : Int32} {ro rch crs mrc : Nat → Int32} (hP : PL n cr ro rch crs mrc) (k : Int32 → Option Int32) :
    ∀ (m i fuel : Nat), i + m = n → m < fuel → fX6_others_L4 (nI n) R crs k fuel (nI (cp (fun p => !sd cr ro R p) i)) (nI i) = k (nI (cp (fun p => !sd cr ro R p) n)) := by
  intro m
  induction m with
  | zero =>
    intro i fuel hi hf
    obtain ⟨f, rfl⟩ : ∃ f, fuel = f + 1 := ⟨fuel - 1, by omega⟩
    obtain rfl : i = n := by omega
    rw [fX6_others_L4, if_pos ((leN hn hn).mpr (Nat.le_refl _))]
  | succ m ih =>
    intro i fuel hi hf
    obtain ⟨f, rfl⟩ : ∃ f, fuel = f + 1 := ⟨fuel - 1, by omega⟩
    have h := ih (i + 1) f (by omega) (by omega)
    rw [fX6_others_L4, if_neg (fun e => absurd ((leN hn (by omega)).mp e) (by omega)), isSound_eq hn hP (by omega : i < n), Option.bind_some]
    rw [cp] at h
    cases hs : sd cr ro R i
    · rw [hs] at h
      rw [if_pos (show b01 false = 0 from rfl), nI_1, nI_1]
      exact h
    · rw [hs] at h
      rw [if_neg (show ¬ b01 true = 0 by decide), nI_1]
      have e : nI (cp (fun p => !sd cr ro R p) i) + 0 = nI (cp (fun p => !sd cr ro R p) i + 0) := by rw [Nat.add_zero]; simp
      rw [e]
      exact h
theorem others_eq {n : Nat} (hn : n ≤ 8) {cr R : Int32} {ro rch crs mrc : Nat → Int32} (hP : PL n cr ro rch crs mrc) : fX6_others (nI n) R crs = some (nI (cp (fun p => !sd cr ro R p) n)) := by
  unfold fX6_others
  have h := others_L hn (R := R) hP (fun x1_4 => some x1_4) n 0 1000 (by omega) (by omega)
  rw [cp, nI_0] at h
  generalize fX6_others_L4 = F at h ⊢
  exact h
/-- the sound ones as a set -/
def SS (n : Nat) (cr : Int32) (ro : Nat → Int32) (R : Int32) : Int32 := fX2_everyone (nI n) &&& (mk (fun p => bt cr p && decide (1 ≤ ro p ∧ ro p ≤ R)) 8 ^^^ (-1))
theorem SS_bt {n : Nat} (hn : n ≤ 8) {cr R : Int32} {ro rch crs mrc : Nat → Int32} (hP : PL n cr ro rch crs mrc) (p : Nat) : bt (SS n cr ro R) p = (decide (p < n) && sd cr ro R p) := by
  unfold SS sd
  rcases Nat.lt_or_ge p 32 with h | h
  · rw [b_and, ev_bt hn, b_not _ h, mk_bt _ 8 (by omega) p h]
    by_cases hp : p < n
    · rw [decide_eq_true hp, decide_eq_true (show p < 8 by omega), Bool.true_and, Bool.true_and, Bool.true_and]
      cases hc : bt cr p
      · rfl
      · obtain ⟨⟨r, h1, h2, h3⟩, _⟩ := hP.2.1 p hp hc
        have : (1 : Int32) ≤ ro p := by rw [h3]; exact (nI_leI (a := 1) (by omega) (by omega)).mpr h1
        simp [this]
    · rw [decide_eq_false hp, Bool.false_and, Bool.false_and]
  · rw [b_big h, decide_eq_false (by omega), Bool.false_and]
theorem SS_lo8 {n : Nat} (hn : n ≤ 8) {cr R : Int32} {ro : Nat → Int32} : lo8 (SS n cr ro R) := lo8_and (ev_lo8 hn)
theorem sound_eq (n : Nat) (cr R : Int32) (ro : Nat → Int32) : fX3_sound (nI n) R cr ro = some (SS n cr ro R) := by
  unfold fX3_sound
  rw [crashingIn_eq, Option.bind_some]; rfl
theorem cp_neg (P : Nat → Bool) : ∀ m, cp P m + cp (fun p => !P p) m = m
  | 0 => rfl
  | m + 1 => by
    have := cp_neg P m
    rw [cp, cp]
    cases P m <;> simp <;> omega
theorem faults_eq {n : Nat} (hn : n ≤ 8) {cr R : Int32} {ro rch crs mrc : Nat → Int32} (hP : PL n cr ro rch crs mrc) : fX2_faultsBeside (nI n) (SS n cr ro R) = nI (cp (fun p => !sd cr ro R p) n) := by
  unfold fX2_faultsBeside
  rw [bc_eq (SS_lo8 hn)]
  have e : cnt (SS n cr ro R) 8 = cp (sd cr ro R) n := by
    rw [cnt_cp, cp_congr (Q := fun i => decide (i < n) && sd cr ro R i) 8 (fun i _ => SS_bt hn hP i)]
    have := cp_cut (sd cr ro R) n (8 - n)
    rw [show n + (8 - n) = 8 by omega] at this
    exact this
  have h := cp_neg (sd cr ro R) n
  rw [e, pk_sub (by omega), show n - cp (sd cr ro R) n = cp (fun p => !sd cr ro R p) n by omega]
def bnd (alg : Int32) (F : Nat) (R : Int32) : Int32 := if alg = 1 ∨ alg = 2 then (if R ≤ nI F + 2 then R else nI F + 2) else R
theorem bound_eq {n : Nat} (hn : n ≤ 8) {alg cr R : Int32} {ro rch crs mrc : Nat → Int32} (hP : PL n cr ro rch crs mrc) : fX2_boundFor alg (nI n) R (SS n cr ro R) = bnd alg (cp (fun p => !sd cr ro R p) n) R := by
  unfold fX2_boundFor bnd
  rw [faults_eq hn hP]
  have key : ∀ x : Int32, (if R < x then R else x) = (if R ≤ x then R else x) := by
    intro x
    by_cases h : R < x
    · rw [if_pos h, if_pos (i_lt_le h)]
    · rw [if_neg h]
      by_cases h2 : R ≤ x
      · rw [if_pos h2]; exact i_le_anti (Int32.not_lt.mp h) h2
      · rw [if_neg h2]
  by_cases h1 : alg = 1
  · rw [if_pos h1, if_pos (Or.inl h1), key]
  · rw [if_neg h1]
    by_cases h2 : alg = 2
    · rw [if_pos h2, if_pos (Or.inr h2), key]
    · rw [if_neg h2, if_neg (fun q => q.elim h1 h2)]
theorem mbound_eq {n : Nat} (hn : n ≤ 8) {alg cr R : Int32} {ro rch crs mrc : Nat → Int32} (hP : PL n cr ro rch crs mrc) : fX6_bound alg (nI n) R crs = some (bnd alg (cp (fun p => !sd cr ro R p) n) R) := by
  unfold fX6_bound bnd
  rw [others_eq hn hP]
  simp only [Option.bind_some]
  have key : ∀ x : Int32, (if R ≤ x then some R else some x) = some (if R ≤ x then R else x) := fun x => by by_cases h : R ≤ x <;> simp [h]
  by_cases h1 : alg = 1
  · rw [if_pos h1, if_pos (Or.inl h1), key]
  · rw [if_neg h1]
    by_cases h2 : alg = 2
    · rw [if_pos h2, if_pos (Or.inr h2), key]
    · rw [if_neg h2, if_neg (fun q => q.elim h1 h2)]
/-- a sound one that is late -/
def ltB (cr : Int32) (ro : Nat → Int32) (R B : Int32) (di : Nat → Int32) (p : Nat) : Bool := sd cr ro R p && (decide (di p = 0) || !decide (di p ≤ B))
theorem late_L {n : Nat} (hn : n ≤ 8) {cr R B : Int32} {ro rch crs mrc : Nat → Int32} (hP : PL n cr ro rch crs mrc) (di : Nat → Int32) (k : Option Int32) :
    ∀ (m i fuel : Nat), i + m = n → m < fuel → fX3_isLate_L11 (SS n cr ro R) B (nI n) di k fuel (nI i) = if anyf (ltB cr ro R B di) i m = true then some 1 else k := by
  intro m
  induction m with
  | zero =>
    intro i fuel hi hf
    obtain ⟨f, rfl⟩ : ∃ f, fuel = f + 1 := ⟨fuel - 1, by omega⟩
    obtain rfl : i = n := by omega
    rw [fX3_isLate_L11, if_pos ((leN hn hn).mpr (Nat.le_refl _)), anyf, if_neg (by simp)]
  | succ m ih =>
    intro i fuel hi hf
    obtain ⟨f, rfl⟩ : ∃ f, fuel = f + 1 := ⟨fuel - 1, by omega⟩
    have h := ih (i + 1) f (by omega) (by omega)
    have hb : bt (SS n cr ro R) i = sd cr ro R i := by rw [SS_bt hn hP, decide_eq_true (show i < n by omega), Bool.true_and]
    rw [fX3_isLate_L11, if_neg (fun e => absurd ((leN hn (by omega)).mp e) (by omega)), nI_1, anyf]
    cases hs : sd cr ro R i
    · rw [if_pos ((has_0 _ i (by omega)).mpr (by rw [hb, hs])), h]
      have : ltB cr ro R B di i = false := by unfold ltB; rw [hs]; rfl
      rw [this, Bool.false_or]
    · rw [if_neg (fun e => by have := (has_0 _ i (by omega)).mp e; rw [hb, hs] at this; cases this), if_pos (inb8 (by omega)), cl8 (by omega)]
      by_cases h0 : di i = 0
      · have : ltB cr ro R B di i = true := by unfold ltB; rw [hs, decide_eq_true h0]; rfl
        rw [if_pos h0, this, Bool.true_or, if_pos rfl]
      · rw [if_neg h0]
        by_cases h1 : di i ≤ B
        · have : ltB cr ro R B di i = false := by unfold ltB; rw [hs, decide_eq_false h0, decide_eq_true h1]; rfl
          rw [if_pos h1, h, this, Bool.false_or]
        · have : ltB cr ro R B di i = true := by unfold ltB; rw [hs, decide_eq_false h0, decide_eq_false h1]; rfl
          rw [if_neg h1, this, Bool.true_or, if_pos rfl]
theorem late_eq {n : Nat} (hn : n ≤ 8) {alg cr R : Int32} {ro rch crs mrc : Nat → Int32} (hP : PL n cr ro rch crs mrc) (di : Nat → Int32) : fX3_isLate alg (nI n) R di (SS n cr ro R) = some (b01 (anyf (ltB cr ro R (bnd alg (cp (fun p => !sd cr ro R p) n) R) di) 0 n)) := by
  unfold fX3_isLate
  rw [bound_eq hn hP]
  have h := late_L hn (B := bnd alg (cp (fun p => !sd cr ro R p) n) R) (R := R) hP di (some 0) n 0 1000 (by omega) (by omega)
  rw [nI_0] at h
  generalize fX3_isLate_L11 = F at h ⊢
  rw [h]
  cases anyf (ltB cr ro R (bnd alg (cp (fun p => !sd cr ro R p) n) R) di) 0 n <;> rfl
theorem mlate_L {n : Nat} (hn : n ≤ 8) {alg cr R : Int32} {ro rch crs mrc : Nat → Int32} (hP : PL n cr ro rch crs mrc) (di : Nat → Int32) (k : Option Int32) :
    ∀ (m i fuel : Nat), i + m = n → m < fuel → fX6_breachNow_L37 alg (nI n) R crs di k fuel (nI i) = if anyf (ltB cr ro R (bnd alg (cp (fun p => !sd cr ro R p) n) R) di) i m = true then some 3 else k := by
  intro m
  induction m with
  | zero =>
    intro i fuel hi hf
    obtain ⟨f, rfl⟩ : ∃ f, fuel = f + 1 := ⟨fuel - 1, by omega⟩
    obtain rfl : i = n := by omega
    rw [fX6_breachNow_L37, if_pos ((leN hn hn).mpr (Nat.le_refl _)), anyf, if_neg (by simp)]
  | succ m ih =>
    intro i fuel hi hf
    obtain ⟨f, rfl⟩ : ∃ f, fuel = f + 1 := ⟨fuel - 1, by omega⟩
    have h := ih (i + 1) f (by omega) (by omega)
    rw [fX6_breachNow_L37, if_neg (fun e => absurd ((leN hn (by omega)).mp e) (by omega)), isSound_eq hn hP (by omega : i < n), Option.bind_some, nI_1, anyf]
    generalize hB : bnd alg (cp (fun p => !sd cr ro R p) n) R = B at h ⊢
    cases hs : sd cr ro R i
    · rw [if_pos (show b01 false = 0 from rfl), h]
      have : ltB cr ro R B di i = false := by unfold ltB; rw [hs]; rfl
      rw [this, Bool.false_or]
    · rw [if_neg (show ¬ b01 true = 0 by decide), if_pos (inb8 (by omega)), cl8 (by omega)]
      by_cases h0 : di i = 0
      · have : ltB cr ro R B di i = true := by unfold ltB; rw [hs, decide_eq_true h0]; rfl
        rw [if_pos h0, this, Bool.true_or, if_pos rfl]
      · rw [if_neg h0, mbound_eq hn hP, hB, Option.bind_some]
        by_cases h1 : di i ≤ B
        · have : ltB cr ro R B di i = false := by unfold ltB; rw [hs, decide_eq_false h0, decide_eq_true h1]; rfl
          rw [if_pos h1, h, this, Bool.false_or]
        · have : ltB cr ro R B di i = true := by unfold ltB; rw [hs, decide_eq_false h0, decide_eq_false h1]; rfl
          rw [if_neg h1, this, Bool.true_or, if_pos rfl]
