/-! ===== own rows: the calls that only ask, both sides ===== -/
theorem isP_eq (n p : Int32) : fX6_isProcess n p = fX2_isProcess n p := rfl
theorem isP_cases {n : Nat} (hn : n ≤ 8) (p : Int32) : fX2_isProcess (nI n) p = 0 ∨ (fX2_isProcess (nI n) p = 1 ∧ ∃ i, i < n ∧ p = nI i) := by
  unfold fX2_isProcess
  by_cases h : p < 0
  · rw [if_pos h]; exact Or.inl rfl
  · rw [if_neg h]
    by_cases h2 : nI n ≤ p
    · rw [if_pos h2]; exact Or.inl rfl
    · rw [if_neg h2]
      obtain ⟨j, hj, rfl⟩ := nI_of h
      refine Or.inr ⟨rfl, j, ?_, rfl⟩
      exact Nat.lt_of_not_le (fun q => h2 (nI_le q hj))
theorem q_decided {n : Nat} (hn : n ≤ 8) {al : Int32} {inp kn he di df km hm dm im : Nat → Int32} (hA : RA al n inp kn he di df km hm dm im) (p : Int32) : ∃ r, fX5_decided al (nI n) inp di df p = some r ∧ fX6_decided (nI n) dm p = some r := by
  unfold fX5_decided fX6_decided
  rw [isP_eq]
  rcases isP_cases hn p with h | ⟨h, i, hi, rfl⟩
  · rw [if_pos h, if_pos h]; exact ⟨_, rfl, rfl⟩
  · have h0 : ¬ fX2_isProcess (nI n) (nI i) = 0 := by rw [h]; decide
    rw [if_neg h0, if_neg h0, if_pos (inb8 (by omega)), if_pos (inb8 (by omega)), cl8 (by omega)]
    obtain ⟨_, _, _, _, h1, h2⟩ := hA i hi
    by_cases hz : di i = 0
    · rw [if_pos hz]; exact ⟨_, rfl, by rw [h1 hz]⟩
    · rw [if_neg hz, decisionFrom_eq al n inp (okS_lo8 hn (h2 hz).1), Option.bind_some]
      exact ⟨_, rfl, by rw [(h2 hz).2]⟩
theorem q_decidedIn {n : Nat} (hn : n ≤ 8) {al : Int32} {inp kn he di df km hm dm im : Nat → Int32} (hA : RA al n inp kn he di df km hm dm im) (p : Int32) : ∃ r, fX5_decidedIn (nI n) di p = some r ∧ fX6_decidedIn (nI n) im p = some r := by
  unfold fX5_decidedIn fX6_decidedIn
  rw [isP_eq]
  rcases isP_cases hn p with h | ⟨h, i, hi, rfl⟩
  · rw [if_pos h, if_pos h]; exact ⟨_, rfl, rfl⟩
  · have h0 : ¬ fX2_isProcess (nI n) (nI i) = 0 := by rw [h]; decide
    rw [if_neg h0, if_neg h0, if_pos (inb8 (by omega)), if_pos (inb8 (by omega)), cl8 (by omega)]
    exact ⟨_, rfl, by rw [(hA i hi).2.2.2.1.1]⟩
theorem q_heard {n : Nat} (hn : n ≤ 8) {al : Int32} {inp kn he di df km hm dm im : Nat → Int32} (hA : RA al n inp kn he di df km hm dm im) (p : Int32) : ∃ r, fX5_heard (nI n) he p = some r ∧ fX6_heard (nI n) hm p = some r := by
  unfold fX5_heard fX6_heard
  rw [isP_eq]
  rcases isP_cases hn p with h | ⟨h, i, hi, rfl⟩
  · rw [if_pos h, if_pos h]; exact ⟨_, rfl, rfl⟩
  · have h0 : ¬ fX2_isProcess (nI n) (nI i) = 0 := by rw [h]; decide
    rw [if_neg h0, if_neg h0, if_pos (inb8 (by omega)), if_pos (inb8 (by omega)), cl8 (by omega)]
    exact ⟨_, rfl, by rw [(hA i hi).2.2.1]⟩
theorem q_knows {n : Nat} (hn : n ≤ 8) {al : Int32} {inp kn he di df km hm dm im : Nat → Int32} (hA : RA al n inp kn he di df km hm dm im) (p : Int32) : ∃ r, fX5_knows al (nI n) inp kn p = some r ∧ fX6_knows (nI n) km p = some r := by
  unfold fX5_knows fX6_knows
  rw [isP_eq]
  rcases isP_cases hn p with h | ⟨h, i, hi, rfl⟩
  · rw [if_pos h, if_pos h]; exact ⟨_, rfl, rfl⟩
  · have h0 : ¬ fX2_isProcess (nI n) (nI i) = 0 := by rw [h]; decide
    rw [if_neg h0, if_neg h0, if_pos (inb8 (by omega)), if_pos (inb8 (by omega)), cl8 (by omega)]
    refine ⟨valK al inp (kn i), ?_, by rw [(hA i hi).2.1]⟩
    unfold valK
    rw [asBits_eq, least_eq, Option.bind_some, Option.bind_some]
    by_cases a0 : al = 0
    · rw [if_pos a0, if_pos a0]
    · rw [if_neg a0, if_neg a0]
      by_cases a4 : al = 4
      · rw [if_pos a4, if_pos (Or.inl a4)]
      · rw [if_neg a4]
        by_cases a5 : al = 5
        · rw [if_pos a5, if_pos (Or.inr a5)]
        · rw [if_neg a5, if_neg (fun q => q.elim a4 a5)]
theorem q_vector {n : Nat} (hn : n ≤ 8) {al : Int32} {inp kn he di df km hm dm im : Nat → Int32} (hA : RA al n inp kn he di df km hm dm im) (p q : Int32) : ∃ r, fX5_vector al (nI n) inp kn p q = some r ∧ fX6_vector al (nI n) inp km p q = some r := by
  unfold fX5_vector fX6_vector
  rw [isP_eq, isP_eq]
  by_cases h45 : al = 4 ∨ al = 5
  · rcases isP_cases hn p with h | ⟨h, i, hi, rfl⟩
    · simp only [if_pos h]
      rcases h45 with a | a
      · rw [if_pos a]; exact ⟨_, rfl, rfl⟩
      · rw [if_neg (by rw [a]; decide), if_pos a]; exact ⟨_, rfl, rfl⟩
    · have h0 : ¬ fX2_isProcess (nI n) (nI i) = 0 := by rw [h]; decide
      simp only [if_neg h0]
      rcases isP_cases hn q with h' | ⟨h', j, hj, rfl⟩
      · simp only [if_pos h']
        rcases h45 with a | a
        · rw [if_pos a]; exact ⟨_, rfl, rfl⟩
        · rw [if_neg (by rw [a]; decide), if_pos a]; exact ⟨_, rfl, rfl⟩
      · have h1 : ¬ fX2_isProcess (nI n) (nI j) = 0 := by rw [h']; decide
        have hk : km i = kn i := by
          rw [(hA i hi).2.1]; unfold valK
          rw [if_neg (by rcases h45 with a | a <;> rw [a] <;> decide), if_pos h45]
        simp only [if_neg h1, if_pos (inb8 (show i < 8 by omega)), if_pos (inb8 (show j < 8 by omega)), cl8 (show i < 8 by omega), cl8 (show j < 8 by omega), hk, has_0 (kn i) j (by omega : j < 32), hs_1 (kn i) j (by omega : j < 32)]
        have key : ∃ r, (if bt (kn i) j = false then some (-2 : Int32) else some (inp j)) = some r ∧ (if bt (kn i) j = true then some (inp j) else some (-2 : Int32)) = some r := by
          cases bt (kn i) j <;> exact ⟨_, rfl, rfl⟩
        rcases h45 with a | a
        · rw [if_pos a, if_pos a]; exact key
        · have h4 : ¬ al = 4 := by rw [a]; decide
          rw [if_neg h4, if_pos a, if_neg h4, if_pos a]; exact key
  · have h4 : ¬ al = 4 := fun e => h45 (Or.inl e)
    have h5 : ¬ al = 5 := fun e => h45 (Or.inr e)
    rw [if_neg h4, if_neg h5, if_neg h4, if_neg h5]
    refine ⟨-1, rfl, ?_⟩
    by_cases h : fX2_isProcess (nI n) p = 0
    · rw [if_pos h]
    · rw [if_neg h]
      by_cases h' : fX2_isProcess (nI n) q = 0
      · rw [if_pos h']
      · rw [if_neg h']
theorem q_count {n : Nat} (hn : n ≤ 8) {al R t made letters up mkd cr : Int32} {ro rch crs mrc : Nat → Int32} (hP : PL n cr ro rch crs mrc) (w : Int32) : ∃ r, fX5_count al (nI n) t R made letters up mkd cr ro w = some r ∧ fX6_count al (nI n) t R made letters up mkd crs w = some r := by
  unfold fX5_count fX6_count
  rw [sound_eq, others_eq hn hP, mbound_eq hn hP]
  simp only [Option.bind_some]
  rw [faults_eq hn hP, bound_eq hn hP]
  by_cases h0 : w = 0
  · rw [if_pos h0]; exact ⟨_, rfl, rfl⟩
  · rw [if_neg h0]
    by_cases h1 : w = 1
    · rw [if_pos h1]; exact ⟨_, rfl, rfl⟩
    · rw [if_neg h1]
      by_cases h2 : w = 2
      · rw [if_pos h2]; exact ⟨_, rfl, rfl⟩
      · rw [if_neg h2]
        by_cases h3 : w = 3
        · rw [if_pos h3]; exact ⟨_, rfl, rfl⟩
        · rw [if_neg h3]
          by_cases h4 : w = 4
          · rw [if_pos h4]; exact ⟨_, rfl, rfl⟩
          · rw [if_neg h4]
            by_cases h5 : w = 5
            · rw [if_pos h5]; exact ⟨_, rfl, rfl⟩
            · rw [if_neg h5]
              by_cases h6 : w = 6
              · rw [if_pos h6]; exact ⟨_, rfl, rfl⟩
              · rw [if_neg h6]
                by_cases h7 : w = 7
                · rw [if_pos h7]; exact ⟨_, rfl, rfl⟩
                · rw [if_neg h7]
                  by_cases h8 : w = 8
                  · rw [if_pos h8]; exact ⟨_, rfl, rfl⟩
                  · rw [if_neg h8]; exact ⟨_, rfl, rfl⟩
theorem q_breach {n mm RR : Nat} (hn : n ≤ 8) (hn0 : 0 < n) (hm : mm ≤ 100) (hR : RR ≤ 100) {al cr g mde : Int32} {inp ro rch crs mrc kn he di df km hm_ dm im : Nat → Int32} (hI : IR inp) (hP : PL n cr ro rch crs mrc) (hA : RA al n inp kn he di df km hm_ dm im) (hg : mde = if al = 3 then g else 1) :
    ∃ r, fX5_breach al (nI n) mde (nI RR) (nI mm) inp cr ro kn di df = some r ∧ fX6_breach al (nI n) g (nI RR) (nI mm) inp crs km dm im = some r := by
  unfold fX5_breach fX6_breach
  rw [over_eq]
  obtain ⟨b, h1, h2, _⟩ := breach_pair (R := nI RR) hn hn0 hI hP hA hg
  rw [h1, h2, Option.bind_some]
  by_cases h : nI RR ≤ nI mm
  · rw [decide_eq_true h, if_neg (show ¬ b01 true = 0 by decide), if_pos h]; exact ⟨_, rfl, rfl⟩
  · rw [decide_eq_false h, if_pos (show b01 false = 0 from rfl), if_neg h]; exact ⟨_, rfl, rfl⟩
