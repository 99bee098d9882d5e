/-! ===== own rows: breach 2, both sides ===== -/
def anyu (P : Nat → Bool) : Nat → Bool
  | 0 => false
  | i + 1 => anyu P i || P i
theorem anyu_iff (P : Nat → Bool) : ∀ m, anyu P m = true ↔ ∃ q, q < m ∧ P q = true
  | 0 => ⟨fun h => absurd h (by simp [anyu]), fun ⟨q, a, _⟩ => absurd a (by omega)⟩
  | m + 1 => by
    rw [anyu, Bool.or_eq_true, anyu_iff P m]
    constructor
    · rintro (⟨q, a, b⟩ | h)
      · exact ⟨q, by omega, b⟩
      · exact ⟨m, by omega, h⟩
    · rintro ⟨q, a, b⟩
      by_cases e : q = m
      · subst e; exact Or.inr b
      · exact Or.inl ⟨q, by omega, b⟩
theorem isInput_L {n : Nat} (hn : n ≤ 8) (inp : Nat → Int32) (v : Int32) (k : Int32 → Option Int32) :
    ∀ (m i fuel : Nat), i + m = n → m < fuel → fX6_isInput_L4 v (nI n) inp k fuel (b01 (anyu (fun q => decide (inp q = v)) i)) (nI i) = k (b01 (anyu (fun q => decide (inp q = v)) n)) := by
  intro m
  induction m with
  | zero =>
    intro i fuel hi hf
    obtain ⟨f, rfl⟩ : ∃ f, fuel = f + 1 := ⟨fuel - 1, by omega⟩
    obtain rfl : i = n := by omega
    rw [fX6_isInput_L4, if_pos ((leN hn hn).mpr (Nat.le_refl _))]
  | succ m ih =>
    intro i fuel hi hf
    obtain ⟨f, rfl⟩ : ∃ f, fuel = f + 1 := ⟨fuel - 1, by omega⟩
    have h := ih (i + 1) f (by omega) (by omega)
    rw [fX6_isInput_L4, if_neg (fun e => absurd ((leN hn (by omega)).mp e) (by omega)), nI_1]
    rw [anyu] at h
    cases ha : anyu (fun q => decide (inp q = v)) i
    · rw [ha, Bool.false_or] at h
      rw [if_pos (show b01 false = 0 from rfl), if_pos (inb8 (by omega)), cl8 (by omega)]
      by_cases he : inp i = v
      · rw [if_pos he]; rw [decide_eq_true he] at h; exact h
      · rw [if_neg he]; rw [decide_eq_false he] at h; exact h
    · rw [ha, Bool.true_or] at h
      rw [if_neg (show ¬ b01 true = 0 by decide)]
      exact h
theorem isInput_eq {n : Nat} (hn : n ≤ 8) (inp : Nat → Int32) (v : Int32) : fX6_isInput (nI n) inp v = some (b01 (anyu (fun q => decide (inp q = v)) n)) := by
  unfold fX6_isInput
  have h := isInput_L hn inp v (fun x2_4 => (if x2_4 = 0 ∨ x2_4 = 1 then some x2_4 else none)) n 0 1000 (by omega) (by omega)
  rw [anyu, nI_0] at h
  generalize fX6_isInput_L4 = F at h ⊢
  refine h.trans ?_
  cases anyu (fun q => decide (inp q = v)) n <;> rfl
def lackB (n : Nat) (cr : Int32) (ro : Nat → Int32) (R k : Int32) : Bool := anyu (fun q => sd cr ro R q && !bt k q) n
theorem lack_L {n : Nat} (hn : n ≤ 8) {cr R : Int32} {ro rch crs mrc : Nat → Int32} (hP : PL n cr ro rch crs mrc) (km : Nat → Int32) {p : Nat} (hp : p < 8) (k : Int32 → Option Int32) :
    ∀ (m i fuel : Nat), i + m = n → m < fuel → fX6_strays_L36 (nI p) (nI n) R crs km k fuel (b01 (anyu (fun q => sd cr ro R q && !bt (km p) q) i)) (nI i) = k (b01 (lackB n cr ro R (km p))) := by
  intro m
  induction m with
  | zero =>
    intro i fuel hi hf
    obtain ⟨f, rfl⟩ : ∃ f, fuel = f + 1 := ⟨fuel - 1, by omega⟩
    obtain rfl : i = n := by omega
    rw [fX6_strays_L36, if_pos ((leN hn hn).mpr (Nat.le_refl _))]; rfl
  | succ m ih =>
    intro i fuel hi hf
    obtain ⟨f, rfl⟩ : ∃ f, fuel = f + 1 := ⟨fuel - 1, by omega⟩
    have h := ih (i + 1) f (by omega) (by omega)
    rw [fX6_strays_L36, if_neg (fun e => absurd ((leN hn (by omega)).mp e) (by omega)), nI_1]
    rw [anyu] at h
    cases ha : anyu (fun q => sd cr ro R q && !bt (km p) q) i
    · rw [ha, Bool.false_or] at h
      rw [if_pos (show b01 false = 0 from rfl), isSound_eq hn hP (by omega : i < n), Option.bind_some]
      cases hs : sd cr ro R i
      · rw [hs, Bool.false_and] at h
        rw [if_pos (show b01 false = 0 from rfl)]; exact h
      · rw [hs, Bool.true_and] at h
        rw [if_neg (show ¬ b01 true = 0 by decide), if_pos (inb8 hp), cl8 hp]
        cases hb : bt (km p) i
        · rw [hb] at h; rw [if_pos ((hs_0 _ i (by omega)).mpr hb)]; exact h
        · rw [hb] at h; rw [if_neg (fun e => by rw [(hs_0 _ i (by omega)).mp e] at hb; cases hb)]; exact h
    · rw [ha, Bool.true_or] at h
      rw [if_neg (show ¬ b01 true = 0 by decide)]
      exact h
def strB (alg : Int32) (n : Nat) (cr : Int32) (ro : Nat → Int32) (R : Int32) (inp km dm im : Nat → Int32) (p : Nat) : Bool :=
  if alg = 4 then sd cr ro R p && lackB n cr ro R (km p)
  else if alg = 5 then !decide (im p = 0) && (if dm p = 1 then anyu (fun q => decide (inp q = 0)) n else !anyu (fun q => decide (inp q = 0)) n && decide (cp (fun p => !sd cr ro R p) n = 0))
  else !decide (im p = 0) && !anyu (fun q => decide (inp q = dm p)) n
theorem cp_le (P : Nat → Bool) : ∀ j, cp P j ≤ j
  | 0 => Nat.le_refl _
  | j + 1 => by
    have := cp_le P j
    rw [cp]; by_cases q : P j = true <;> simp [q] <;> omega
theorem strays_eq {n : Nat} (hn : n ≤ 8) {alg cr R : Int32} {inp ro rch crs mrc km dm im : Nat → Int32} (hP : PL n cr ro rch crs mrc) {p : Nat} (hp : p < n) (hr : ∃ d, d ≤ 100 ∧ im p = nI d) : fX6_strays alg (nI n) R inp crs km dm im (nI p) = some (b01 (strB alg n cr ro R inp km dm im p)) := by
  obtain ⟨d, hd, e⟩ := hr
  have hz : (im p ≤ 0) ↔ im p = 0 := by
    rw [e, ← nI_0, nI_leI (by omega) (by omega), nI_eq (by omega) (by omega)]; omega
  unfold fX6_strays strB
  by_cases h4 : alg = 4
  · rw [if_pos h4, if_pos h4]
    have h := lack_L hn (R := R) hP km (show p < 8 by omega) (fun x2_36 => (Option.bind (fX6_isSound R crs (nI p)) (fun a3 => (if a3 = 0 then some (0 : Int32) else (if x2_36 = 0 then some (0 : Int32) else some (1 : Int32)))))) n 0 1000 (by omega) (by omega)
    rw [anyu, nI_0] at h
    generalize fX6_strays_L36 = F at h ⊢
    refine h.trans ?_
    rw [isSound_eq hn hP hp, Option.bind_some]
    cases sd cr ro R p <;> cases lackB n cr ro R (km p) <;> rfl
  · rw [if_neg h4, if_neg h4]
    by_cases h5 : alg = 5
    · rw [if_pos h5, if_pos h5, if_pos (inb8 (by omega)), cl8 (by omega), isInput_eq hn, others_eq hn hP]
      by_cases h0 : im p = 0
      · rw [if_pos (hz.mpr h0), decide_eq_true h0]; rfl
      · rw [if_neg (fun q => h0 (hz.mp q)), decide_eq_false h0]
        simp only [Option.bind_some]
        by_cases h1 : dm p = 1
        · rw [if_pos h1, if_pos h1]
          cases anyu (fun q => decide (inp q = 0)) n <;> rfl
        · rw [if_neg h1, if_neg h1]
          cases anyu (fun q => decide (inp q = 0)) n
          · rw [if_pos (show b01 false = 0 from rfl)]
            have hc := cp_le (fun p => !sd cr ro R p) n
            by_cases hf : cp (fun p => !sd cr ro R p) n = 0
            · rw [hf]; rfl
            · rw [if_neg (nI_ne0 (by omega) (by omega)), decide_eq_false hf]; rfl
          · rfl
    · rw [if_neg h5, if_neg h5, if_pos (inb8 (by omega)), cl8 (by omega), isInput_eq hn]
      by_cases h0 : im p = 0
      · rw [if_pos (hz.mpr h0), decide_eq_true h0]; rfl
      · rw [if_neg (fun q => h0 (hz.mp q)), decide_eq_false h0, Option.bind_some]
        cases anyu (fun q => decide (inp q = dm p)) n <;> rfl
theorem mstrays_L {n : Nat} (hn : n ≤ 8) {alg cr R : Int32} {inp ro rch crs mrc km dm im : Nat → Int32} (hP : PL n cr ro rch crs mrc) (hr : ∀ q, q < n → ∃ d, d ≤ 100 ∧ im q = nI d) (k : Option Int32) :
    ∀ (m i fuel : Nat), i + m = n → m < fuel → fX6_breachNow_L11 alg (nI n) R inp crs km dm im k fuel (nI i) = if anyf (strB alg n cr ro R inp km dm im) i m = true then some 2 else k := by
  intro m
  induction m with
  | zero =>
    intro i fuel hi hf
    obtain ⟨f, rfl⟩ : ∃ f, fuel = f + 1 := ⟨fuel - 1, by omega⟩
    obtain rfl : i = n := by omega
    rw [fX6_breachNow_L11, if_pos ((leN hn hn).mpr (Nat.le_refl _)), anyf, if_neg (by simp)]
  | succ m ih =>
    intro i fuel hi hf
    obtain ⟨f, rfl⟩ : ∃ f, fuel = f + 1 := ⟨fuel - 1, by omega⟩
    have h := ih (i + 1) f (by omega) (by omega)
    rw [fX6_breachNow_L11, if_neg (fun e => absurd ((leN hn (by omega)).mp e) (by omega)), nI_1, strays_eq hn hP (by omega : i < n) (hr i (by omega)), Option.bind_some, anyf]
    cases strB alg n cr ro R inp km dm im i
    · rw [if_pos (show b01 false = 0 from rfl), h, Bool.false_or]
    · rw [if_neg (show ¬ b01 true = 0 by decide), Bool.true_or, if_pos rfl]
/-- someone sound lacks someone sound -/
theorem misses_L {n : Nat} (hn : n ≤ 8) {cr R : Int32} {ro rch crs mrc : Nat → Int32} (hP : PL n cr ro rch crs mrc) (kn : Nat → Int32) (k : Option Int32) :
    ∀ (m i fuel : Nat), i + m = n → m < fuel → fX3_missesSomeOf_L2 (SS n cr ro R) (nI n) kn k fuel (nI i) = if anyf (fun p => sd cr ro R p && lackB n cr ro R (kn p)) i m = true then some 1 else k := by
  intro m
  induction m with
  | zero =>
    intro i fuel hi hf
    obtain ⟨f, rfl⟩ : ∃ f, fuel = f + 1 := ⟨fuel - 1, by omega⟩
    obtain rfl : i = n := by omega
    rw [fX3_missesSomeOf_L2, if_pos ((leN hn hn).mpr (Nat.le_refl _)), anyf, if_neg (by simp)]
  | succ m ih =>
    intro i fuel hi hf
    obtain ⟨f, rfl⟩ : ∃ f, fuel = f + 1 := ⟨fuel - 1, by omega⟩
    have h := ih (i + 1) f (by omega) (by omega)
    have hb : bt (SS n cr ro R) i = sd cr ro R i := by rw [SS_bt hn hP, decide_eq_true (show i < n by omega), Bool.true_and]
    have hl : (SS n cr ro R &&& (kn i ^^^ (-1)) = 0) ↔ lackB n cr ro R (kn i) = false := by
      have ha := anyu_iff (fun q => sd cr ro R q && !bt (kn i) q) n
      unfold lackB
      constructor
      · intro hz
        cases hc : anyu (fun q => sd cr ro R q && !bt (kn i) q) n
        · rfl
        · obtain ⟨q, a, b⟩ := ha.mp hc
          have : bt (SS n cr ro R &&& (kn i ^^^ (-1))) q = true := by
            rw [b_and, SS_bt hn hP, decide_eq_true a, Bool.true_and, b_not _ (by omega)]; exact b
          rw [hz, b_0] at this
          cases this
      · intro hf2
        apply b_ext
        intro j hj
        rw [b_and, SS_bt hn hP, b_not _ hj, b_0]
        by_cases hjn : j < n
        · rw [decide_eq_true hjn, Bool.true_and]
          cases hx : (sd cr ro R j && !bt (kn i) j)
          · rfl
          · have := ha.mpr ⟨j, hjn, hx⟩
            rw [hf2] at this
            cases this
        · rw [decide_eq_false hjn, Bool.false_and, Bool.false_and]
    rw [fX3_missesSomeOf_L2, if_neg (fun e => absurd ((leN hn (by omega)).mp e) (by omega)), nI_1, anyf]
    cases hs : sd cr ro R i
    · rw [if_pos ((has_0 _ i (by omega)).mpr (by rw [hb, hs])), h, Bool.false_and, Bool.false_or]
    · rw [if_neg (fun e => by have := (has_0 _ i (by omega)).mp e; rw [hb, hs] at this; cases this), if_pos (inb8 (by omega)), cl8 (by omega), Bool.true_and]
      cases hx : lackB n cr ro R (kn i)
      · rw [if_pos (hl.mpr hx), h, Bool.false_or]
      · rw [if_neg (fun e => by rw [hl.mp e] at hx; cases hx), Bool.true_or, if_pos rfl]
theorem misses_eq {n : Nat} (hn : n ≤ 8) {cr R : Int32} {ro rch crs mrc : Nat → Int32} (hP : PL n cr ro rch crs mrc) (kn : Nat → Int32) : fX3_missesSomeOf (nI n) kn (SS n cr ro R) = some (b01 (anyf (fun p => sd cr ro R p && lackB n cr ro R (kn p)) 0 n)) := by
  unfold fX3_missesSomeOf
  have h := misses_L hn (R := R) hP kn (some 0) n 0 1000 (by omega) (by omega)
  rw [nI_0] at h
  generalize fX3_missesSomeOf_L2 = F at h ⊢
  rw [h]
  cases anyf (fun p => sd cr ro R p && lackB n cr ro R (kn p)) 0 n <;> rfl
