/-! ===== own rows: isSameFor, and disagrees beside differ ===== -/
theorem cp_mono (P : Nat → Bool) : ∀ d i, cp P i ≤ cp P (i + d)
  | 0, i => Nat.le_refl _
  | d + 1, i => by rw [Nat.add_succ, cp]; exact Nat.le_trans (cp_mono P d i) (Nat.le_add_right _ _)
/-- the sets of those in 'who' are the same: as many first ones -/
theorem same_L {n : Nat} (hn : n ≤ 8) {who : Int32} {P : Nat → Bool} (hw : ∀ p, p < n → bt who p = P p) {ar : Nat → Int32} (hz : ∀ p, p < n → P p = true → ¬ ar p = 0) (k : Option Int32) :
    ∀ (m i fuel : Nat) (last : Int32), i + m = n → m < fuel → (∀ q, q < i → P q = true → ar q = last) → cp (frs P ar) i = (if last = 0 then 0 else 1) →
      fX3_isSameFor_L5 who (nI n) ar k fuel last (nI i) = if cp (frs P ar) n ≤ 1 then k else some 0 := by
  intro m
  induction m with
  | zero =>
    intro i fuel last hi hf _ hc
    obtain ⟨f, rfl⟩ : ∃ f, fuel = f + 1 := ⟨fuel - 1, by omega⟩
    obtain rfl : i = n := by omega
    rw [fX3_isSameFor_L5, if_pos ((leN hn hn).mpr (Nat.le_refl _)), if_pos (by rw [hc]; split <;> omega)]
  | succ m ih =>
    intro i fuel last hi hf ha hc
    obtain ⟨f, rfl⟩ : ∃ f, fuel = f + 1 := ⟨fuel - 1, by omega⟩
    have hin : i < n := by omega
    have han := anyf_iff (fun q => P q && decide (ar q = ar i)) i 0
    rw [fX3_isSameFor_L5, if_neg (fun e => absurd ((leN hn (by omega)).mp e) (by omega)), if_neg (fun e => absurd ((le8 (by omega)).mp e) (by omega)), nI_1]
    cases hp : P i
    · rw [if_pos ((has_0 who i (by omega)).mpr (by rw [hw i hin, hp]))]
      refine ih (i + 1) f last (by omega) (by omega) (fun q hq hpq => ?_) ?_
      · by_cases e : q = i
        · subst e; rw [hp] at hpq; cases hpq
        · exact ha q (by omega) hpq
      · have : frs P ar i = false := by unfold frs; rw [hp]; rfl
        rw [cp, this, hc]; simp
    · rw [if_neg (fun e => by have := (has_0 who i (by omega)).mp e; rw [hw i hin, hp] at this; cases this)]
      have hzi := hz i hin hp
      by_cases hl : last = 0
      · rw [if_pos hl, if_pos (inb8 (by omega)), cl8 (by omega)]
        rw [if_pos hl] at hc
        have hnone : ∀ q, q < i → P q = true → False := fun q hq hpq => hz q (by omega) hpq ((ha q hq hpq).trans hl)
        refine ih (i + 1) f (ar i) (by omega) (by omega) (fun q hq hpq => ?_) ?_
        · by_cases e : q = i
          · rw [e]
          · exact absurd (hnone q (by omega) hpq) id
        · have : frs P ar i = true := by
            unfold frs
            rw [hp, Bool.true_and]
            cases hy : anyf (fun q => P q && decide (ar q = ar i)) 0 i
            · rfl
            · obtain ⟨q, a, b, c⟩ := han.mp hy
              rw [Bool.and_eq_true] at c
              exact absurd (hnone q (by omega) c.1) id
          rw [cp, this, hc, if_neg hzi]; rfl
      · rw [if_neg hl, if_pos (inb8 (by omega)), cl8 (by omega)]
        rw [if_neg hl] at hc
        by_cases he : ar i = last
        · rw [if_pos he]
          refine ih (i + 1) f (ar i) (by omega) (by omega) (fun q hq hpq => ?_) ?_
          · by_cases e : q = i
            · rw [e]
            · rw [he]; exact ha q (by omega) hpq
          · have hex : ∃ q, q < i ∧ P q = true := by
              apply Classical.byContradiction
              intro hno
              have : cp (frs P ar) i = cp (fun _ => false) i := cp_congr i (fun j hj => by
                unfold frs
                cases hpj : P j
                · rfl
                · exact absurd ⟨j, hj, hpj⟩ hno)
              rw [hc] at this
              have z : ∀ j, cp (fun _ => false) j = 0 := by
                intro j
                induction j with
                | zero => rfl
                | succ j ihj => rw [cp, ihj]; rfl
              rw [z] at this
              omega
            obtain ⟨q, hq, hpq⟩ := hex
            have : frs P ar i = false := by
              unfold frs
              rw [han.mpr ⟨q, by omega, by omega, by rw [hpq, decide_eq_true ((ha q hq hpq).trans he.symm)]; rfl⟩, hp]; rfl
            rw [cp, this, hc, if_neg hzi]; rfl
        · rw [if_neg he]
          have hfr : frs P ar i = true := by
            unfold frs
            rw [hp, Bool.true_and]
            cases hy : anyf (fun q => P q && decide (ar q = ar i)) 0 i
            · rfl
            · obtain ⟨q, a, b, c⟩ := han.mp hy
              rw [Bool.and_eq_true, decide_eq_true_eq] at c
              exact absurd (c.2.symm.trans (ha q (by omega) c.1)) he
          have h2 : cp (frs P ar) (i + 1) = 2 := by rw [cp, hfr, hc]; rfl
          have h3 := cp_mono (frs P ar) (n - (i + 1)) (i + 1)
          rw [show i + 1 + (n - (i + 1)) = n by omega, h2] at h3
          rw [if_neg (by omega)]
theorem same_eq {n : Nat} (hn : n ≤ 8) {who : Int32} {P : Nat → Bool} (hw : ∀ p, p < n → bt who p = P p) {ar : Nat → Int32} (hz : ∀ p, p < n → P p = true → ¬ ar p = 0) : fX3_isSameFor (nI n) ar who = some (b01 (decide (cp (frs P ar) n ≤ 1))) := by
  unfold fX3_isSameFor
  have h := same_L hn hw hz (some 1) n 0 1000 0 (by omega) (by omega) (fun q hq => absurd hq (by omega)) rfl
  rw [nI_0] at h
  generalize fX3_isSameFor_L5 = F at h ⊢
  rw [h]
  by_cases hq : cp (frs P ar) n ≤ 1
  · rw [if_pos hq, decide_eq_true hq]; rfl
  · rw [if_neg hq, decide_eq_false hq]; rfl
theorem frs_congr {P Q : Nat → Bool} {v w : Nat → Int32} {n : Nat} (hPQ : ∀ p, p < n → P p = Q p) (hvw : ∀ p, p < n → P p = true → v p = w p) : ∀ p, p < n → frs P v p = frs Q w p := by
  intro p hp
  unfold frs
  rw [← hPQ p hp]
  cases hpp : P p
  · rfl
  · rw [Bool.true_and, Bool.true_and]
    congr 1
    have h1 := anyf_iff (fun q => P q && decide (v q = v p)) p 0
    have h2 := anyf_iff (fun q => Q q && decide (w q = w p)) p 0
    have : (∃ q, 0 ≤ q ∧ q < 0 + p ∧ (P q && decide (v q = v p)) = true) ↔ (∃ q, 0 ≤ q ∧ q < 0 + p ∧ (Q q && decide (w q = w p)) = true) := by
      constructor
      · rintro ⟨q, a, b, c⟩
        rw [Bool.and_eq_true, decide_eq_true_eq] at c
        refine ⟨q, a, b, ?_⟩
        rw [Bool.and_eq_true, decide_eq_true_eq, ← hPQ q (by omega), ← hvw q (by omega) c.1, ← hvw p hp hpp]
        exact c
      · rintro ⟨q, a, b, c⟩
        rw [Bool.and_eq_true, decide_eq_true_eq, ← hPQ q (by omega)] at c
        refine ⟨q, a, b, ?_⟩
        rw [Bool.and_eq_true, decide_eq_true_eq, hvw q (by omega) c.1, hvw p hp hpp]
        exact c
    cases x1 : anyf (fun q => P q && decide (v q = v p)) 0 p <;> cases x2 : anyf (fun q => Q q && decide (w q = w p)) 0 p
    · rfl
    · have := h1.mpr (this.mpr (h2.mp x2)); rw [x1] at this; cases this
    · have := h2.mpr (this.mp (h1.mp x1)); rw [x2] at this; cases this
    · rfl
/-- both sides find the same breach 1 -/
theorem disagree_pair {n : Nat} (hn : n ≤ 8) {alg cr R g mde : Int32} {inp ro rch crs mrc kn he di df km hm dm im : Nat → Int32} (hI : IR inp) (hP : PL n cr ro rch crs mrc) (hA : RA alg n inp kn he di df km hm dm im) (hg : mde = if alg = 3 then g else 1) (who D : Int32) (hwho : who = if alg = 2 then fX2_everyone (nI n) else SS n cr ro R) (hD : fX3_decisionsOf alg (nI n) inp di df who = some D) :
    ∃ b : Bool, fX3_disagrees alg (nI n) mde kn (SS n cr ro R) D = some (b01 b) ∧ fX6_differ alg (nI n) g R crs km dm im = some (b01 b) := by
  have hr : ∀ q, q < n → ∃ d, d ≤ 100 ∧ im q = nI d := fun q hq => by
    obtain ⟨_, _, _, ⟨e, d, h1, h2⟩, _⟩ := hA q hq
    exact ⟨d, h1, e.trans h2⟩
  have hok : ∀ p, p < n → ¬ di p = 0 → okS n (df p) := fun p hp h => ((hA p hp).2.2.2.2.2 h).1
  refine ⟨_, ?_, differ_eq hn hP hr⟩
  unfold fX3_disagrees
  by_cases h4 : alg = 4
  · have h3 : ¬ alg = 3 := by rw [h4]; decide
    rw [if_pos h4, if_neg h3, same_eq hn (P := sd cr ro R) (fun p hp => by rw [SS_bt hn hP, decide_eq_true hp, Bool.true_and]) (fun p hp _ e => by
      obtain ⟨j, _, hj⟩ := (hA p hp).1.2
      rw [e, b_0] at hj
      cases hj), Option.bind_some]
    have hc : cp (frs (PB alg cr ro R im) (VB alg km dm)) n = cp (frs (sd cr ro R) kn) n := cp_congr n (frs_congr (fun p hp => by unfold PB; rw [if_pos h4]) (fun p hp _ => by
      unfold VB; rw [if_pos h4, (hA p hp).2.1]; unfold valK
      rw [if_neg (by rw [h4]; decide), if_pos (Or.inl h4)]))
    rw [hc]
    have hcl : cp (frs (sd cr ro R) kn) n ≤ n := by
      have z : ∀ (P : Nat → Bool) j, cp P j ≤ j := by
        intro P j
        induction j with
        | zero => exact Nat.le_refl _
        | succ j ihj => rw [cp]; by_cases q : P j = true <;> simp [q] <;> omega
      exact z _ n
    have e1 : (nI (cp (frs (sd cr ro R) kn) n) ≤ 1) ↔ cp (frs (sd cr ro R) kn) n ≤ 1 := nI_leI (b := 1) (by omega) (by omega)
    by_cases hq : cp (frs (sd cr ro R) kn) n ≤ 1
    · rw [decide_eq_true hq, decide_eq_true (e1.mpr hq)]; rfl
    · rw [decide_eq_false hq, decide_eq_false (fun q => hq (e1.mp q))]; rfl
  · rw [decOf_eq hn hok] at hD
    have hD := Option.some.inj hD
    have hv : ∀ p, p < n → (bt who p && !decide (di p = 0)) = true → ∃ w, w < 16 ∧ decV alg n inp (df p) = nI w := fun p hp h => by
      rw [Bool.and_eq_true] at h
      exact decV_16 hn hI (hok p hp (by simpa using h.2))
    rw [if_neg h4, ← hD, bc16_eq (DS_lo16 hv), cnt_DS hv n (Nat.le_refl _), hg]
    have hc : cp (frs (PB alg cr ro R im) (VB alg km dm)) n = cp (frs (fun p => bt who p && !decide (di p = 0)) (fun p => decV alg n inp (df p))) n := by
      refine cp_congr n (frs_congr (fun p hp => ?_) (fun p hp h => ?_))
      · obtain ⟨_, _, _, ⟨e, _⟩, _⟩ := hA p hp
        unfold PB cmpB
        rw [if_neg h4, e, hwho]
        by_cases h2 : alg = 2
        · rw [if_pos h2, ev_bt hn, decide_eq_true hp, decide_eq_true h2]; simp
        · rw [if_neg h2, SS_bt hn hP, decide_eq_true hp, decide_eq_false h2, Bool.true_and, Bool.false_or, Bool.and_comm]
      · obtain ⟨_, _, _, ⟨e, _⟩, _, h1⟩ := hA p hp
        unfold PB cmpB at h
        rw [if_neg h4, Bool.and_eq_true, e] at h
        unfold VB
        rw [if_neg h4]
        exact (h1 (by simpa using h.1)).2
    rw [hc]
    by_cases hq : nI (cp (frs (fun p => bt who p && !decide (di p = 0)) (fun p => decV alg n inp (df p))) n) ≤ (if alg = 3 then g else 1)
    · rw [if_pos hq, decide_eq_true hq]; rfl
    · rw [if_neg hq, decide_eq_false hq]; rfl
