/-! ===== own rows: if all decided from the same set, one try tells ===== -/
theorem frs_same (P : Nat → Bool) (v : Nat → Int32) : ∀ n, (cp (frs P v) n = 0 → ∀ p, p < n → P p = false) ∧ (cp (frs P v) n ≤ 1 → ∀ p q, p < n → q < n → P p = true → P q = true → v p = v q)
  | 0 => ⟨fun _ p hp => absurd hp (by omega), fun _ p q hp => absurd hp (by omega)⟩
  | n + 1 => by
    obtain ⟨ih0, ih1⟩ := frs_same P v n
    have hf : frs P v n = (P n && !anyf (fun q => P q && decide (v q = v n)) 0 n) := rfl
    rw [cp]
    by_cases hc : frs P v n = true
    · rw [if_pos hc]
      refine ⟨fun h => absurd h (by omega), fun h p q hp hq h1 h2 => ?_⟩
      have h0 := ih0 (by omega)
      have hpn : p = n := by
        rcases Nat.lt_or_ge p n with h' | h'
        · rw [h0 p h'] at h1; cases h1
        · omega
      have hqn : q = n := by
        rcases Nat.lt_or_ge q n with h' | h'
        · rw [h0 q h'] at h2; cases h2
        · omega
      rw [hpn, hqn]
    · rw [if_neg hc]
      have hn0 : P n = true → ∃ q, q < n ∧ P q = true ∧ v q = v n := by
        intro hp
        rw [hf, hp, Bool.true_and] at hc
        have ha : anyf (fun q => P q && decide (v q = v n)) 0 n = true := by
          cases hx : anyf (fun q => P q && decide (v q = v n)) 0 n
          · rw [hx] at hc; exact absurd rfl hc
          · rfl
        obtain ⟨q, _, h2, h3⟩ := (anyf_iff _ n 0).mp ha
        rw [Bool.and_eq_true, decide_eq_true_eq] at h3
        exact ⟨q, by omega, h3⟩
      refine ⟨fun h p hp => ?_, fun h p q hp hq h1 h2 => ?_⟩
      · have h0 := ih0 (by omega)
        rcases Nat.lt_or_ge p n with h' | h'
        · exact h0 p h'
        · obtain rfl : p = n := by omega
          cases hx : P p
          · rfl
          · obtain ⟨q, a, b, _⟩ := hn0 hx
            rw [h0 q a] at b; cases b
      · have hI := ih1 (by omega)
        rcases Nat.lt_or_ge p n with h' | h' <;> rcases Nat.lt_or_ge q n with h'' | h''
        · exact hI p q h' h'' h1 h2
        · obtain rfl : q = n := by omega
          obtain ⟨z, a, b, c⟩ := hn0 h2
          rw [← c]; exact hI p z h' a h1 b
        · obtain rfl : p = n := by omega
          obtain ⟨z, a, b, c⟩ := hn0 h1
          rw [← c]; exact hI z q a h'' b h2
        · have e1 : p = n := by omega
          have e2 : q = n := by omega
          rw [e1, e2]
theorem same_frs (P : Nat → Bool) (v : Nat → Int32) : ∀ n, (∀ p q, p < n → q < n → P p = true → P q = true → v p = v q) → cp (frs P v) n ≤ 1
  | 0, _ => by rw [cp]; omega
  | n + 1, h => by
    have ih := same_frs P v n (fun p q hp hq => h p q (by omega) (by omega))
    rw [cp]
    by_cases hc : frs P v n = true
    · rw [if_pos hc]
      have hf : frs P v n = (P n && !anyf (fun q => P q && decide (v q = v n)) 0 n) := rfl
      rw [hf, Bool.and_eq_true] at hc
      have hno : ∀ q, q < n → P q = false := by
        intro q hq
        cases hx : P q
        · rfl
        · have ha : anyf (fun q => P q && decide (v q = v n)) 0 n = true := (anyf_iff _ n 0).mpr ⟨q, by omega, by omega, by rw [Bool.and_eq_true, decide_eq_true_eq]; exact ⟨hx, h q n (by omega) (by omega) hx hc.1⟩⟩
          rw [ha] at hc
          exact absurd hc.2 (by decide)
      have h0 : cp (frs P v) n = 0 := by
        have z : ∀ j, j ≤ n → cp (frs P v) j = 0 := by
          intro j
          induction j with
          | zero => intro _; rfl
          | succ j ihj => intro hj; rw [cp, ihj (by omega), if_neg (by unfold frs; rw [hno j (by omega)]; simp)]
        exact z n (Nat.le_refl _)
      omega
    · rw [if_neg hc]; omega
theorem alldec_L {n : Nat} (hn : n ≤ 8) (di : Nat → Int32) (k : Int32 → Option Int32) :
    ∀ (m i fuel : Nat), i + m = n → m < fuel → fX3_allDecidedFromSame_L4 (nI n) di k fuel (mk (fun p => !decide (di p = 0)) i) (nI i) = k (mk (fun p => !decide (di p = 0)) n) := by
  intro m
  induction m with
  | zero =>
    intro i fuel hi hf
    obtain ⟨f, rfl⟩ : ∃ f, fuel = f + 1 := ⟨fuel - 1, by omega⟩
    obtain rfl : i = n := by omega
    rw [fX3_allDecidedFromSame_L4, if_pos ((leN hn hn).mpr (Nat.le_refl _))]
  | succ m ih =>
    intro i fuel hi hf
    obtain ⟨f, rfl⟩ : ∃ f, fuel = f + 1 := ⟨fuel - 1, by omega⟩
    have h := ih (i + 1) f (by omega) (by omega)
    rw [fX3_allDecidedFromSame_L4, if_neg (fun e => absurd ((leN hn (by omega)).mp e) (by omega)), if_pos (inb8 (by omega)), cl8 (by omega), nI_1]
    rw [mk] at h
    by_cases hz : di i = 0
    · rw [if_pos hz]
      rw [if_neg (by simp [hz])] at h
      exact h
    · rw [if_neg hz]
      rw [if_pos (by simp [hz])] at h
      exact h
theorem alldec_eq {n : Nat} (hn : n ≤ 8) {di df : Nat → Int32} (hok : ∀ p, p < n → ¬ di p = 0 → okS n (df p)) : fX3_allDecidedFromSame (nI n) di df = some (b01 (decide (cp (frs (fun p => !decide (di p = 0)) df) n ≤ 1))) := by
  unfold fX3_allDecidedFromSame
  have h := alldec_L hn di (fun x1_4 => (Option.bind (fX3_isSameFor (nI n) df x1_4) (fun a2 => (if a2 = 0 ∨ a2 = 1 then some a2 else none)))) n 0 1000 (by omega) (by omega)
  rw [mk, nI_0] at h
  generalize fX3_allDecidedFromSame_L4 = F at h ⊢
  rw [h, same_eq hn (P := fun p => !decide (di p = 0)) (fun p hp => by rw [mk_bt _ n (by omega) p (by omega), decide_eq_true hp, Bool.true_and]) (fun p hp hd e => by
    obtain ⟨j, _, hj⟩ := (hok p hp (by simpa using hd)).2
    rw [e, b_0] at hj; cases hj), Option.bind_some]
  cases decide (cp (frs (fun p => !decide (di p = 0)) df) n ≤ 1) <;> rfl
theorem once4 {n : Nat} (hn : n ≤ 8) {alg cr R mde : Int32} {ro rch crs mrc inp kn di df : Nat → Int32} (h4 : ¬ alg = 4) (hI : IR inp) (hP : PL n cr ro rch crs mrc) (hok : ∀ p, p < n → ¬ di p = 0 → okS n (df p)) (hmd : 1 ≤ mde)
    (hcom : alg = 5 → cp (fun p => !sd cr ro R p) n = 0 → ∀ p, p < n → ¬ di p = 0 → df p = fX2_everyone (nI n)) (hs : cp (frs (fun p => !decide (di p = 0)) df) n ≤ 1) :
    fX3_firstBreach alg (nI n) mde R inp cr ro kn di df = Option.bind (fX3_isLate alg (nI n) R di (SS n cr ro R)) (fun a5 => if a5 = 0 then some (0 : Int32) else some (3 : Int32)) := by
  have hsame := (frs_same (fun p => !decide (di p = 0)) df n).2 hs
  have hv : ∀ who : Int32, ∀ p, p < n → (bt who p && !decide (di p = 0)) = true → ∃ w, w < 16 ∧ decV alg n inp (df p) = nI w := fun who p hp h => by
    rw [Bool.and_eq_true] at h
    exact decV_16 hn hI (hok p hp (by simpa using h.2))
  have hdis : ∀ who : Int32, fX3_disagrees alg (nI n) mde kn (SS n cr ro R) (DS (fun p => bt who p && !decide (di p = 0)) (fun p => decV alg n inp (df p)) n) = some 0 := by
    intro who
    unfold fX3_disagrees
    rw [if_neg h4, bc16_eq (DS_lo16 (hv who)), cnt_DS (hv who) n (Nat.le_refl _), if_pos]
    have hc := same_frs (fun p => bt who p && !decide (di p = 0)) (fun p => decV alg n inp (df p)) n (fun p q hp hq h1 h2 => by
      rw [Bool.and_eq_true] at h1 h2
      show decV alg n inp (df p) = decV alg n inp (df q)
      rw [hsame p q hp hq h1.2 h2.2])
    have h1 : nI (cp (frs (fun p => bt who p && !decide (di p = 0)) (fun p => decV alg n inp (df p))) n) ≤ 1 := (nI_leI (b := 1) (by omega) (by omega)).mpr hc
    exact i_le_trans h1 hmd
  have hbt : ∀ j, j < 32 → bt (DS (fun p => bt (fX2_everyone (nI n)) p && !decide (di p = 0)) (fun p => decV alg n inp (df p)) n) j = true → ∃ p, p < n ∧ ¬ di p = 0 ∧ decV alg n inp (df p) = nI j := by
    intro j hj h
    obtain ⟨p, a, b, c⟩ := (DS_bt (hv _) hj n (Nat.le_refl _)).mp h
    rw [Bool.and_eq_true] at b
    exact ⟨p, a, by simpa using b.2, c⟩
  have hun : fX3_isUnfounded alg (nI n) inp kn (SS n cr ro R) (DS (fun p => bt (fX2_everyone (nI n)) p && !decide (di p = 0)) (fun p => decV alg n inp (df p)) n) = some 0 := by
    generalize DS (fun p => bt (fX2_everyone (nI n)) p && !decide (di p = 0)) (fun p => decV alg n inp (df p)) n = D at hbt
    unfold fX3_isUnfounded
    rw [if_neg h4]
    by_cases h5 : alg = 5
    · rw [if_pos h5]
      have hdec : ∀ p, decV alg n inp (df p) = if df p = fX2_everyone (nI n) ∧ ¬ lst inp (df p) 8 = 0 then 1 else 0 := fun p => by
        unfold decV; rw [if_neg h4, if_pos h5]
      have hc : fX3_commitsWrongly (nI n) inp (SS n cr ro R) D = some 0 := by
        unfold fX3_commitsWrongly
        rw [least_eq, Option.bind_some]
        by_cases hz : lst inp (fX2_everyone (nI n)) 8 = 0
        · rw [if_pos hz]
          have hb1 : fX5_has D 1 = 0 := by
            refine (has_0 D 1 (by omega)).mpr ?_
            cases hx : bt D 1
            · rfl
            · obtain ⟨p, a, b, c⟩ := hbt 1 (by omega) hx
              rw [hdec p] at c
              by_cases hq : df p = fX2_everyone (nI n) ∧ ¬ lst inp (df p) 8 = 0
              · rw [hq.1] at hq; exact absurd hz hq.2
              · rw [if_neg hq] at c; exact absurd c (by decide)
          rw [hb1]; rfl
        · rw [if_neg hz]
          by_cases hb0 : fX5_has D 0 = 0
          · rw [if_pos hb0]
          · rw [if_neg hb0, faults_eq hn hP]
            have hF := cp_le (fun p => !sd cr ro R p) n
            rw [if_neg]
            intro e
            have hF0 : cp (fun p => !sd cr ro R p) n = 0 := (nI_eq (a := cp (fun p => !sd cr ro R p) n) (b := 0) (by omega) (by omega)).mp e
            have hx : bt D 0 = true := by
              cases hx : bt D 0
              · exact absurd ((has_0 D 0 (by omega)).mpr hx) hb0
              · rfl
            obtain ⟨p, a, b, c⟩ := hbt 0 (by omega) hx
            have hev := hcom h5 hF0 p a b
            rw [hdec p, hev, if_pos ⟨rfl, hz⟩] at c
            exact absurd c (by decide)
      rw [hc]; rfl
    · rw [if_neg h5, asBits_eq, Option.bind_some, if_pos]
      apply b_ext
      intro j hj
      rw [b_and, b_not _ hj, b_0]
      cases hx : bt D j
      · rfl
      · obtain ⟨p, a, b, c⟩ := hbt j hj hx
        have hdec : decV alg n inp (df p) = lst inp (df p) 8 := by unfold decV; rw [if_neg h4, if_neg h5]
        rw [hdec] at c
        obtain ⟨i0, h1, h2⟩ := (hok p a b).2
        obtain ⟨i, w, hi, hb, hw, e1, e2⟩ := lst_mem hI (s := df p) (i0 := i0) (by omega) h2
        have hin : i < n := by
          rcases Nat.lt_or_ge i n with h | h
          · exact h
          · rw [(hok p a b).1 i h] at hb; cases hb
        have ha : bt (asb inp (fX2_everyone (nI n)) 8) j = true := (asb_bt hI _ hj 8 (by omega)).mpr ⟨i, hi, by rw [ev_bt hn, decide_eq_true hin], by rw [e1, ← e2, c]⟩
        rw [ha]; rfl
  unfold fX3_firstBreach
  rw [sound_eq, Option.bind_some, decOf_eq hn hok, Option.bind_some]
  by_cases h2 : alg = 2
  · rw [if_pos h2, hdis, Option.bind_some, if_pos rfl, hun, Option.bind_some, if_pos rfl]
  · rw [if_neg h2, decOf_eq hn hok, Option.bind_some, hdis, Option.bind_some, if_pos rfl, hun, Option.bind_some, if_pos rfl]
theorem once {n : Nat} (hn : n ≤ 8) {alg cr R mde : Int32} {ro rch crs mrc inp0 inp kn di df : Nat → Int32} (hI0 : IR inp0) (hI : IR inp) (hP : PL n cr ro rch crs mrc) (hok : ∀ p, p < n → ¬ di p = 0 → okS n (df p)) (hmd : 1 ≤ mde)
    (hcom : alg = 5 → cp (fun p => !sd cr ro R p) n = 0 → ∀ p, p < n → ¬ di p = 0 → df p = fX2_everyone (nI n)) (hs : cp (frs (fun p => !decide (di p = 0)) df) n ≤ 1) :
    fX3_firstBreach alg (nI n) mde R inp cr ro kn di df = fX3_firstBreach alg (nI n) mde R inp0 cr ro kn di df := by
  by_cases h4 : alg = 4
  · have h2 : ¬ alg = 2 := by rw [h4]; decide
    unfold fX3_firstBreach fX3_disagrees fX3_isUnfounded
    simp only [if_pos h4, if_neg h2, decOf_eq hn hok, Option.bind_some]
  · rw [once4 hn h4 hI hP hok hmd hcom hs, once4 hn h4 hI0 hP hok hmd hcom hs]
