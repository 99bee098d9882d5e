/-! ===== own rows: a round, both sides at once ===== -/
def RA (alg : Int32) (n : Nat) (inp kn he di df km hm dm im : Nat → Int32) : Prop := ∀ p, p < n → RP alg n inp (kn p) (he p) (di p) (df p) (km p) (hm p) (dm p) (im p)
/-- the plan, both sides -/
def PL (n : Nat) (cr : Int32) (ro rch crs mrc : Nat → Int32) : Prop :=
  (∀ p, n ≤ p → bt cr p = false) ∧ (∀ p, p < n → bt cr p = true → (∃ r, 1 ≤ r ∧ r ≤ 20 ∧ ro p = nI r) ∧ crs p = ro p ∧ mrc p = rch p ∧ (∀ i, n ≤ i → bt (rch p) i = false) ∧ bt (rch p) p = false) ∧ (∀ p, p < n → bt cr p = false → crs p = 0)
def upm (crs : Nat → Int32) (r up : Int32) : Nat → Int32
  | 0 => up
  | i + 1 => if crs i = r then upm crs r up i &&& (((1 : Int32) <<< (nI i &&& 31)) ^^^ (-1)) else upm crs r up i
theorem up_L (r up : Int32) (crs : Nat → Int32) {n : Nat} (hn : n ≤ 8) (k : Int32 → Option (Int32 × Int32 × Int32 × Int32 × (Nat → Int32) × (Nat → Int32) × (Nat → Int32) × (Nat → Int32) × (Nat → Int32) × (Nat → Int32))) :
    ∀ (m i fuel : Nat), i + m = n → m < fuel → fX6_round_L19 r (nI n) crs k fuel (nI i) (upm crs r up i) = k (upm crs r up n) := by
  intro m
  induction m with
  | zero =>
    intro i fuel hi hf
    obtain ⟨f, rfl⟩ : ∃ f, fuel = f + 1 := ⟨fuel - 1, by omega⟩
    obtain rfl : i = n := by omega
    rw [fX6_round_L19, if_pos ((leN hn hn).mpr (Nat.le_refl _))]
  | succ m ih =>
    intro i fuel hi hf
    obtain ⟨f, rfl⟩ : ∃ f, fuel = f + 1 := ⟨fuel - 1, by omega⟩
    have h := ih (i + 1) f (by omega) (by omega)
    rw [fX6_round_L19, if_neg (fun e => absurd ((leN hn (by omega)).mp e) (by omega)), if_pos (inb8 (by omega)), cl8 (by omega), nI_1]
    rw [upm] at h
    by_cases hc : crs i = r
    · rw [if_pos hc]; rw [if_pos hc] at h; exact h
    · rw [if_neg hc]; rw [if_neg hc] at h; exact h
theorem upm_bt (crs : Nat → Int32) (r up : Int32) {j : Nat} (hj : j < 32) : ∀ i, i ≤ 32 → bt (upm crs r up i) j = (bt up j && !(decide (j < i) && decide (crs j = r)))
  | 0, _ => by rw [upm]; simp
  | i + 1, hi => by
    have ih := upm_bt crs r up hj i (by omega)
    rw [upm]
    by_cases e : j = i
    · subst e
      by_cases hc : crs j = r
      · rw [if_pos hc, b_and, b_not _ hj, b_one j hj hj]; simp [hc]
      · rw [if_neg hc, ih]; simp [hc]
    · have e2 : decide (j < i + 1) = decide (j < i) := by rw [decide_eq_decide]; omega
      by_cases hc : crs i = r
      · rw [if_pos hc, b_and, b_not _ hj, b_one i (by omega) hj, ih, decide_eq_false e, e2]; simp
      · rw [if_neg hc, ih, e2]
theorem loop_pair {alg mkl up : Int32} {n mm RR : Nat} {inp lt bf rd sn : Nat → Int32} (hI : IR inp) (hn : n ≤ 8) (hn2 : 0 < n) (hmm : 1 ≤ mm) (hmn : mm ≤ n) (hmR : mm ≤ RR) (hRR : RR ≤ 100)
    (hL : LT alg (nI mm) n inp lt bf rd sn) (hspk : ∀ p, p < n → bt up p = true → (bt (rd p) p = true ↔ (alg = 6 → nI mm - 1 = nI p)))
    (k : (Nat → Int32) → (Nat → Int32) → (Nat → Int32) → (Nat → Int32) → Int32 → Option (Int32 × Int32 × Int32 × Int32 × Int32 × (Nat → Int32) × (Nat → Int32) × (Nat → Int32) × (Nat → Int32) × (Nat → Int32) × (Nat → Int32)))
    (k2 : (Nat → Int32) → (Nat → Int32) → (Nat → Int32) → (Nat → Int32) → Int32 → Option (Int32 × Int32 × Int32 × Int32 × (Nat → Int32) × (Nat → Int32) × (Nat → Int32) × (Nat → Int32) × (Nat → Int32) × (Nat → Int32))) :
    ∀ (m i fuel : Nat), i + m = n → m < fuel → ∀ (kn he di df km hm dm im : Nat → Int32) (mkd : Int32), RA alg n inp kn he di df km hm dm im → (∀ q, q < n → i ≤ q → lt q = kn q) → (∀ q, bt mkl q = true → bt mkd q = true) →
      ∃ (kn' he' di' df' km' hm' dm' im' : Nat → Int32) (mkd' : Int32), RA alg n inp kn' he' di' df' km' hm' dm' im' ∧
        fX3_makeRound_L45 (nI mm) up mkl alg (nI n) (nI RR) lt rd k fuel (nI i) df di he kn mkd = k df' di' he' kn' mkd' ∧
        fX6_round_L71 mkl alg (nI n) (nI RR) (nI mm) up inp bf sn k2 fuel (nI i) dm im hm km mkd = k2 dm' im' hm' km' mkd' := by
  intro m
  induction m with
  | zero =>
    intro i fuel hi hf kn he di df km hm dm im mkd hA _ _
    obtain ⟨f, rfl⟩ : ∃ f, fuel = f + 1 := ⟨fuel - 1, by omega⟩
    obtain rfl : i = n := by omega
    refine ⟨kn, he, di, df, km, hm, dm, im, mkd, hA, ?_, ?_⟩
    · rw [fX3_makeRound_L45, if_pos ((leN hn hn).mpr (Nat.le_refl _))]
    · rw [fX6_round_L71, if_pos ((leN hn hn).mpr (Nat.le_refl _))]
  | succ m ih =>
    intro i fuel hi hf kn he di df km hm dm im mkd hA hlt hsub
    obtain ⟨f, rfl⟩ : ∃ f, fuel = f + 1 := ⟨fuel - 1, by omega⟩
    have hin : i < n := by omega
    rw [fX3_makeRound_L45, if_neg (fun e => absurd ((leN hn (by omega)).mp e) (by omega)), fX6_round_L71, if_neg (fun e => absurd ((leN hn (by omega)).mp e) (by omega)), nI_1]
    by_cases hu : bt up i = false
    · rw [if_pos ((has_0 up i (by omega)).mpr hu), if_pos ((isUp_0 up i (by omega)).mpr hu)]
      exact ih (i + 1) f (by omega) (by omega) kn he di df km hm dm im mkd hA (fun q h1 h2 => hlt q h1 (by omega)) hsub
    · rw [if_neg (fun e => hu ((has_0 up i (by omega)).mp e)), if_neg (fun e => hu ((isUp_0 up i (by omega)).mp e))]
      simp only [Bool.not_eq_false] at hu
      obtain ⟨mkd', kp, hp', D, M, c1, c2, c3, c4, c5⟩ := step_pair hI hn hn2 hin hmm hmn hmR hRR hL (hspk i hin hu) (hlt i hin (Nat.le_refl _)) (hA i hin) hsub
      rw [c1, c2]
      simp only [Option.bind_some]
      refine ih (i + 1) f (by omega) (by omega) _ _ _ _ _ _ _ _ mkd' ?_ ?_ (fun q h => c5 q (hsub q h))
      · intro q hq
        by_cases e : q = i
        · subst e
          simp only [upd_same]
          exact c3
        · simp only [upd_ne _ _ e]
          obtain ⟨d1, d2, d3, d4⟩ := c4 q e
          rw [d1, d2, d3, d4]
          exact hA q hq
      · intro q h1 h2
        rw [upd_ne _ _ (by omega)]
        exact hlt q h1 (by omega)
theorem CN_bt {n : Nat} (hn : n ≤ 8) {cr : Int32} {ro rch crs mrc : Nat → Int32} (hP : PL n cr ro rch crs mrc) (r : Int32) (p : Nat) : bt (mk (fun p => bt cr p && decide (r ≤ ro p ∧ ro p ≤ r)) 8) p = (bt cr p && decide (ro p = r)) := by
  rcases Nat.lt_or_ge p 32 with h | h
  · rw [mk_bt _ 8 (by omega) p h]
    have e : decide (r ≤ ro p ∧ ro p ≤ r) = decide (ro p = r) := by
      rw [decide_eq_decide]
      exact ⟨fun q => i_le_anti q.2 q.1, fun q => by rw [q]; exact ⟨i_le_refl _, i_le_refl _⟩⟩
    rw [e]
    by_cases h8 : p < 8
    · rw [decide_eq_true h8, Bool.true_and]
    · rw [decide_eq_false h8, Bool.false_and, hP.1 p (by omega), Bool.false_and]
  · rw [b_big h, b_big h, Bool.false_and]
