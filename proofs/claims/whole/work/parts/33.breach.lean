/-! ===== own rows: the breach of a run, both sides ===== -/
theorem anyf_eq {P Q : Nat → Bool} {n : Nat} (h : (∃ p, p < n ∧ P p = true) ↔ (∃ p, p < n ∧ Q p = true)) : anyf P 0 n = anyf Q 0 n := by
  have h1 := anyf_iff P n 0
  have h2 := anyf_iff Q n 0
  have c1 : (∃ q, 0 ≤ q ∧ q < 0 + n ∧ P q = true) ↔ ∃ p, p < n ∧ P p = true := ⟨fun ⟨q, _, a, b⟩ => ⟨q, by omega, b⟩, fun ⟨q, a, b⟩ => ⟨q, by omega, by omega, b⟩⟩
  have c2 : (∃ q, 0 ≤ q ∧ q < 0 + n ∧ Q q = true) ↔ ∃ p, p < n ∧ Q p = true := ⟨fun ⟨q, _, a, b⟩ => ⟨q, by omega, b⟩, fun ⟨q, a, b⟩ => ⟨q, by omega, by omega, b⟩⟩
  cases x1 : anyf P 0 n <;> cases x2 : anyf Q 0 n
  · rfl
  · have := h1.mpr (c1.mpr (h.mpr (c2.mp (h2.mp x2)))); rw [x1] at this; cases this
  · have := h2.mpr (c2.mpr (h.mp (c1.mp (h1.mp x1)))); rw [x2] at this; cases this
  · rfl
theorem anyf_is {P : Nat → Bool} {n : Nat} {b : Bool} (h : b = true ↔ ∃ p, p < n ∧ P p = true) : anyf P 0 n = b := by
  have h1 := anyf_iff P n 0
  have c1 : (∃ q, 0 ≤ q ∧ q < 0 + n ∧ P q = true) ↔ ∃ p, p < n ∧ P p = true := ⟨fun ⟨q, _, a, b⟩ => ⟨q, by omega, b⟩, fun ⟨q, a, b⟩ => ⟨q, by omega, by omega, b⟩⟩
  cases x1 : anyf P 0 n <;> cases b
  · rfl
  · have := h1.mpr (c1.mpr (h.mp rfl)); rw [x1] at this; cases this
  · have := h.mpr (c1.mp (h1.mp x1)); cases this
  · rfl
theorem unfounded_pair {n : Nat} (hn : n ≤ 8) (hn0 : 0 < n) {alg cr R : Int32} {inp ro rch crs mrc kn he di df km hm dm im : Nat → Int32} (hI : IR inp) (hP : PL n cr ro rch crs mrc) (hA : RA alg n inp kn he di df km hm dm im) (D : Int32) (hD : fX3_decisionsOf alg (nI n) inp di df (fX2_everyone (nI n)) = some D) :
    fX3_isUnfounded alg (nI n) inp kn (SS n cr ro R) D = some (b01 (anyf (strB alg n cr ro R inp km dm im) 0 n)) := by
  have hok : ∀ p, p < n → ¬ di p = 0 → okS n (df p) := fun p hp h => ((hA p hp).2.2.2.2.2 h).1
  rw [decOf_eq hn hok] at hD
  have hD := Option.some.inj hD
  have hv : ∀ p, p < n → (bt (fX2_everyone (nI n)) p && !decide (di p = 0)) = true → ∃ w, w < 16 ∧ decV alg n inp (df p) = nI w := fun p hp h => by
    rw [Bool.and_eq_true] at h
    exact decV_16 hn hI (hok p hp (by simpa using h.2))
  have hbt : ∀ j, j < 32 → (bt D j = true ↔ ∃ p, p < n ∧ ¬ di p = 0 ∧ dm p = nI j) := by
    intro j hj
    rw [← hD, DS_bt hv hj n (Nat.le_refl _)]
    constructor
    · rintro ⟨p, a, b, c⟩
      rw [Bool.and_eq_true] at b
      have hz : ¬ di p = 0 := by simpa using b.2
      exact ⟨p, a, hz, ((hA p a).2.2.2.2.2 hz).2.trans c⟩
    · rintro ⟨p, a, b, c⟩
      exact ⟨p, a, by rw [ev_bt hn, decide_eq_true a, decide_eq_false b]; rfl, ((hA p a).2.2.2.2.2 b).2.symm.trans c⟩
  unfold fX3_isUnfounded
  by_cases h4 : alg = 4
  · rw [if_pos h4, misses_eq hn hP, Option.bind_some]
    have e : anyf (fun p => sd cr ro R p && lackB n cr ro R (kn p)) 0 n = anyf (strB alg n cr ro R inp km dm im) 0 n := by
      apply anyf_eq
      have : ∀ p, p < n → (sd cr ro R p && lackB n cr ro R (kn p)) = strB alg n cr ro R inp km dm im p := by
        intro p hp
        unfold strB
        rw [if_pos h4, (hA p hp).2.1]; unfold valK
        rw [if_neg (by rw [h4]; decide), if_pos (Or.inl h4)]
      exact ⟨fun ⟨p, a, b⟩ => ⟨p, a, by rw [← this p a]; exact b⟩, fun ⟨p, a, b⟩ => ⟨p, a, by rw [this p a]; exact b⟩⟩
    rw [e]
    cases anyf (strB alg n cr ro R inp km dm im) 0 n <;> rfl
  · rw [if_neg h4]
    by_cases h5 : alg = 5
    · rw [if_pos h5]
      have h01 : ∀ p, p < n → ¬ di p = 0 → (dm p = 0 ∨ dm p = 1) := by
        intro p hp hz
        rw [((hA p hp).2.2.2.2.2 hz).2]
        unfold decV
        rw [if_neg h4, if_pos h5]
        by_cases hc : df p = fX2_everyone (nI n) ∧ ¬ lst inp (df p) 8 = 0
        · rw [if_pos hc]; exact Or.inr rfl
        · rw [if_neg hc]; exact Or.inl rfl
      have hau : lst inp (fX2_everyone (nI n)) 8 = 0 ↔ anyu (fun q => decide (inp q = 0)) n = true := by
        rw [lst_ev0 hI hn hn0, anyu_iff]
        simp only [decide_eq_true_eq]
      have b1 := hbt 1 (by omega)
      have b0 := hbt 0 (by omega)
      have hcw : fX3_commitsWrongly (nI n) inp (SS n cr ro R) D = some (b01 (anyf (strB alg n cr ro R inp km dm im) 0 n)) := by
        unfold fX3_commitsWrongly
        rw [least_eq, Option.bind_some, faults_eq hn hP]
        by_cases hz : lst inp (fX2_everyone (nI n)) 8 = 0
        · rw [if_pos hz]
          have hany := hau.mp hz
          have e : anyf (strB alg n cr ro R inp km dm im) 0 n = bt D 1 := by
            apply anyf_is
            rw [b1]
            constructor
            · rintro ⟨p, a, b, c⟩
              refine ⟨p, a, ?_⟩
              unfold strB
              rw [if_neg h4, if_pos h5, (hA p a).2.2.2.1.1, decide_eq_false b, if_pos (by rw [c]; rfl), hany]; rfl
            · rintro ⟨p, a, b⟩
              unfold strB at b
              rw [if_neg h4, if_pos h5, (hA p a).2.2.2.1.1, hany, Bool.and_eq_true] at b
              refine ⟨p, a, by simpa using b.1, ?_⟩
              apply Classical.byContradiction
              intro hne
              have h2 := b.2
              rw [if_neg (fun q => hne (by rw [q]; rfl))] at h2
              simp at h2
          have e2 : fX5_has D 1 = b01 (bt D 1) := by
            have := has_eq D 1 (by omega)
            exact this
          rw [e2, e]
          cases bt D 1 <;> rfl
        · rw [if_neg hz]
          have hany : anyu (fun q => decide (inp q = 0)) n = false := by
            cases hx : anyu (fun q => decide (inp q = 0)) n
            · rfl
            · exact absurd (hau.mpr hx) hz
          have e2 : (fX5_has D 0 = 0) ↔ bt D 0 = false := has_0 D 0 (by omega)
          have hc := cp_le (fun p => !sd cr ro R p) n
          have e : anyf (strB alg n cr ro R inp km dm im) 0 n = (bt D 0 && decide (cp (fun p => !sd cr ro R p) n = 0)) := by
            apply anyf_is
            rw [Bool.and_eq_true, b0, decide_eq_true_eq]
            constructor
            · rintro ⟨⟨p, a, b, c⟩, hf⟩
              refine ⟨p, a, ?_⟩
              unfold strB
              rw [if_neg h4, if_pos h5, (hA p a).2.2.2.1.1, decide_eq_false b, if_neg (by rw [c]; decide), hany, decide_eq_true hf]; rfl
            · rintro ⟨p, a, b⟩
              unfold strB at b
              rw [if_neg h4, if_pos h5, (hA p a).2.2.2.1.1, hany, Bool.and_eq_true] at b
              have hz2 : ¬ di p = 0 := by simpa using b.1
              have h2 := b.2
              rcases h01 p a hz2 with e0 | e1
              · rw [if_neg (by rw [e0]; decide)] at h2
                exact ⟨⟨p, a, hz2, e0⟩, by simpa using h2⟩
              · rw [if_pos e1] at h2
                cases h2
          rw [e]
          cases hb : bt D 0
          · rw [if_pos (e2.mpr hb)]; rfl
          · rw [if_neg (fun q => by rw [e2.mp q] at hb; cases hb)]
            by_cases hf : cp (fun p => !sd cr ro R p) n = 0
            · rw [hf]; rfl
            · rw [if_neg (nI_ne0 (by omega) (by omega)), decide_eq_false hf]; rfl
      rw [hcw, Option.bind_some]
      cases anyf (strB alg n cr ro R inp km dm im) 0 n <;> rfl
    · rw [if_neg h5, asBits_eq, Option.bind_some]
      have hx : (D &&& (asb inp (fX2_everyone (nI n)) 8 ^^^ (-1)) = 0) ↔ ¬ ∃ p, p < n ∧ strB alg n cr ro R inp km dm im p = true := by
        have hin : ∀ j, j < 32 → (bt (asb inp (fX2_everyone (nI n)) 8) j = true ↔ ∃ q, q < n ∧ inp q = nI j) := by
          intro j hj
          rw [asb_bt hI _ hj 8 (by omega)]
          constructor
          · rintro ⟨i, a, b, c⟩
            rw [ev_bt hn, decide_eq_true_eq] at b
            exact ⟨i, b, c⟩
          · rintro ⟨i, a, c⟩
            exact ⟨i, by omega, by rw [ev_bt hn, decide_eq_true a], c⟩
        have hst : ∀ p, strB alg n cr ro R inp km dm im p = (!decide (im p = 0) && !anyu (fun q => decide (inp q = dm p)) n) := fun p => by unfold strB; rw [if_neg h4, if_neg h5]
        constructor
        · rintro hz ⟨p, a, b⟩
          rw [hst p, Bool.and_eq_true, (hA p a).2.2.2.1.1] at b
          have hz2 : ¬ di p = 0 := by simpa using b.1
          obtain ⟨w, hw, e⟩ := decV_16 (alg := alg) hn hI (hok p a hz2)
          have hdm : dm p = nI w := ((hA p a).2.2.2.2.2 hz2).2.trans e
          have : bt (D &&& (asb inp (fX2_everyone (nI n)) 8 ^^^ (-1))) w = true := by
            rw [b_and, (hbt w (by omega)).mpr ⟨p, a, hz2, hdm⟩, b_not _ (by omega), Bool.true_and]
            cases hb : bt (asb inp (fX2_everyone (nI n)) 8) w
            · rfl
            · obtain ⟨q, c1, c2⟩ := (hin w (by omega)).mp hb
              have : anyu (fun q => decide (inp q = dm p)) n = true := (anyu_iff _ n).mpr ⟨q, c1, by rw [hdm]; exact decide_eq_true c2⟩
              rw [this] at b
              cases b.2
          rw [hz, b_0] at this
          cases this
        · intro hno
          apply b_ext
          intro j hj
          rw [b_and, b_not _ hj, b_0]
          cases hb : bt D j
          · rfl
          · obtain ⟨p, a, b, c⟩ := (hbt j hj).mp hb
            cases hc : bt (asb inp (fX2_everyone (nI n)) 8) j
            · exfalso
              apply hno
              refine ⟨p, a, ?_⟩
              rw [hst p, (hA p a).2.2.2.1.1, decide_eq_false b]
              cases hu : anyu (fun q => decide (inp q = dm p)) n
              · rfl
              · obtain ⟨q, d1, d2⟩ := (anyu_iff _ n).mp hu
                have := (hin j hj).mpr ⟨q, d1, (of_decide_eq_true d2).trans c⟩
                rw [hc] at this
                cases this
            · rfl
      cases hany : anyf (strB alg n cr ro R inp km dm im) 0 n
      · rw [if_pos (hx.mpr (fun ⟨p, a, b⟩ => by
          have := (anyf_iff (strB alg n cr ro R inp km dm im) n 0).mpr ⟨p, by omega, by omega, b⟩
          rw [hany] at this
          cases this))]; rfl
      · rw [if_neg (fun q => hx.mp q (by
          obtain ⟨p, _, a, b⟩ := (anyf_iff (strB alg n cr ro R inp km dm im) n 0).mp hany
          exact ⟨p, by omega, b⟩))]; rfl
/-- both sides find the same breach -/
theorem breach_pair {n : Nat} (hn : n ≤ 8) (hn0 : 0 < n) {alg cr R g mde : Int32} {inp ro rch crs mrc kn he di df km hm dm im : Nat → Int32} (hI : IR inp) (hP : PL n cr ro rch crs mrc) (hA : RA alg n inp kn he di df km hm dm im) (hg : mde = if alg = 3 then g else 1) :
    ∃ b : Int32, fX3_firstBreach alg (nI n) mde R inp cr ro kn di df = some b ∧ fX6_breachNow alg (nI n) g R inp crs km dm im = some b ∧ (b = 0 ∨ b = 1 ∨ b = 2 ∨ b = 3) := by
  have hr : ∀ q, q < n → ∃ d, d ≤ 100 ∧ im q = nI d := fun q hq => by
    obtain ⟨_, _, _, ⟨e, d, h1, h2⟩, _⟩ := hA q hq
    exact ⟨d, h1, e.trans h2⟩
  have hok : ∀ p, p < n → ¬ di p = 0 → okS n (df p) := fun p hp h => ((hA p hp).2.2.2.2.2 h).1
  obtain ⟨D, hD⟩ : ∃ D, fX3_decisionsOf alg (nI n) inp di df (fX2_everyone (nI n)) = some D := ⟨_, decOf_eq hn hok⟩
  obtain ⟨E, hE⟩ : ∃ E, fX3_decisionsOf alg (nI n) inp di df (SS n cr ro R) = some E := ⟨_, decOf_eq hn hok⟩
  have hun := unfounded_pair (R := R) hn hn0 hI hP hA D hD
  have hla := late_eq (alg := alg) (R := R) hn hP di
  have h11 := mstrays_L (alg := alg) (R := R) (inp := inp) (km := km) (dm := dm) hn hP hr (fX6_breachNow_L37 alg (nI n) R crs im (some (0 : Int32)) 1000 (0 : Int32)) n 0 1000 (by omega) (by omega)
  have h37 := mlate_L (alg := alg) (R := R) hn hP im (some (0 : Int32)) n 0 1000 (by omega) (by omega)
  rw [nI_0] at h11 h37
  have hlt : anyf (ltB cr ro R (bnd alg (cp (fun p => !sd cr ro R p) n) R) im) 0 n = anyf (ltB cr ro R (bnd alg (cp (fun p => !sd cr ro R p) n) R) di) 0 n := by
    apply anyf_eq
    have : ∀ p, p < n → ltB cr ro R (bnd alg (cp (fun p => !sd cr ro R p) n) R) im p = ltB cr ro R (bnd alg (cp (fun p => !sd cr ro R p) n) R) di p := fun p hp => by
      unfold ltB; rw [(hA p hp).2.2.2.1.1]
    exact ⟨fun ⟨p, a, b⟩ => ⟨p, a, by rw [← this p a]; exact b⟩, fun ⟨p, a, b⟩ => ⟨p, a, by rw [this p a]; exact b⟩⟩
  rw [hlt] at h37
  generalize hX : anyf (strB alg n cr ro R inp km dm im) 0 n = X at hun h11
  generalize hY : anyf (ltB cr ro R (bnd alg (cp (fun p => !sd cr ro R p) n) R) di) 0 n = Y at hla h37
  obtain ⟨b1, hd1, hd2⟩ := disagree_pair (R := R) hn hI hP hA hg (if alg = 2 then fX2_everyone (nI n) else SS n cr ro R) (if alg = 2 then D else E) rfl (by by_cases h2 : alg = 2 <;> simp only [h2, if_true, if_false] <;> first | (rw [h2] at hD; exact hD) | exact hE)
  refine ⟨if b1 = true then 1 else if X = true then 2 else if Y = true then 3 else 0, ?_, ?_, ?_⟩
  · unfold fX3_firstBreach
    rw [sound_eq, Option.bind_some, hD, Option.bind_some, hE]
    by_cases h2 : alg = 2
    · rw [if_pos h2]
      rw [if_pos h2] at hd1
      rw [hd1, Option.bind_some, hun, Option.bind_some, hla, Option.bind_some]
      cases b1 <;> cases X <;> cases Y <;> rfl
    · rw [if_neg h2, Option.bind_some]
      rw [if_neg h2] at hd1
      rw [hd1, Option.bind_some, hun, Option.bind_some, hla, Option.bind_some]
      cases b1 <;> cases X <;> cases Y <;> rfl
  · unfold fX6_breachNow
    rw [hd2, Option.bind_some]
    generalize fX6_breachNow_L37 alg (nI n) R crs im (some (0 : Int32)) 1000 (0 : Int32) = Z at h37 h11 ⊢
    generalize fX6_breachNow_L11 = F at h11 ⊢
    rw [h11, h37]
    cases b1 <;> cases X <;> cases Y <;> rfl
  · cases b1 <;> cases X <;> cases Y <;> simp
