/-! ===== own rows: crash and spare, both sides ===== -/
theorem cnt_n {n : Nat} (hn : n ≤ 8) {cr : Int32} (h : ∀ p, n ≤ p → bt cr p = false) : cnt cr 8 = cp (fun p => bt cr p) n := by
  rw [cnt_cp, cp_congr (Q := fun i => decide (i < n) && bt cr i) 8 (fun i _ => by
    by_cases e : i < n
    · simp [e]
    · simp [e, h i (by omega)])]
  have := cp_cut (fun p => bt cr p) n (8 - n)
  rw [show n + (8 - n) = 8 by omega] at this
  exact this
theorem crashing_L {n : Nat} (hn : n ≤ 8) {cr : Int32} {ro rch crs mrc : Nat → Int32} (hP : PL n cr ro rch crs mrc) (k : Int32 → Option Int32) :
    ∀ (m i fuel : Nat), i + m = n → m < fuel → fX6_crashing_L4 (nI n) crs k fuel (nI (cp (fun p => bt cr p) i)) (nI i) = k (nI (cp (fun p => bt cr p) n)) := by
  intro m
  induction m with
  | zero =>
    intro i fuel hi hf
    obtain ⟨f, rfl⟩ : ∃ f, fuel = f + 1 := ⟨fuel - 1, by omega⟩
    obtain rfl : i = n := by omega
    rw [fX6_crashing_L4, if_pos ((leN hn hn).mpr (Nat.le_refl _))]
  | succ m ih =>
    intro i fuel hi hf
    obtain ⟨f, rfl⟩ : ∃ f, fuel = f + 1 := ⟨fuel - 1, by omega⟩
    have h := ih (i + 1) f (by omega) (by omega)
    rw [fX6_crashing_L4, if_neg (fun e => absurd ((leN hn (by omega)).mp e) (by omega)), if_pos (inb8 (by omega)), cl8 (by omega), nI_1]
    rw [cp] at h
    cases hc : bt cr i
    · rw [hc] at h
      rw [if_pos (by rw [hP.2.2 i (by omega) hc]; exact i_le_refl _)]
      have e : nI (cp (fun p => bt cr p) i) + 0 = nI (cp (fun p => bt cr p) i + 0) := by rw [Nat.add_zero]; simp
      rw [e]
      exact h
    · rw [hc] at h
      obtain ⟨⟨r, h1, h2, h3⟩, h4, _⟩ := hP.2.1 i (by omega) hc
      rw [if_neg (by rw [h4, h3, ← nI_0, nI_leI (by omega) (by omega)]; omega), nI_1]
      exact h
theorem crashing_eq {n : Nat} (hn : n ≤ 8) {cr : Int32} {ro rch crs mrc : Nat → Int32} (hP : PL n cr ro rch crs mrc) : fX6_crashing (nI n) crs = some (nI (cnt cr 8)) := by
  unfold fX6_crashing
  have h := crashing_L hn hP (fun x1_4 => some x1_4) n 0 1000 (by omega) (by omega)
  rw [cp, nI_0] at h
  rw [cnt_n hn hP.1]
  generalize fX6_crashing_L4 = F at h ⊢
  exact h
theorem PL_lo8 {n : Nat} (hn : n ≤ 8) {cr : Int32} {ro rch crs mrc : Nat → Int32} (hP : PL n cr ro rch crs mrc) : lo8 cr := fun i hi => hP.1 i (by omega)
theorem PL_put {n : Nat} (hn : n ≤ 8) {cr : Int32} {ro rch crs mrc : Nat → Int32} (hP : PL n cr ro rch crs mrc) {i r : Nat} (hi : i < n) (hr : 1 ≤ r) (hr2 : r ≤ 20) {x : Int32} (hx : ∀ j, n ≤ j → bt x j = false) :
    PL n (cr ||| ((1 : Int32) <<< (nI i &&& 31))) (upd ro i (nI r)) (upd rch i (x &&& (((1 : Int32) <<< (nI i &&& 31)) ^^^ (-1)))) (upd crs i (nI r)) (upd mrc i (x &&& (((1 : Int32) <<< (nI i &&& 31)) ^^^ (-1)))) := by
  have hbit : ∀ p, p < n → p ≠ i → bt (cr ||| ((1 : Int32) <<< (nI i &&& 31))) p = bt cr p := fun p hp hne => by
    rw [b_or, b_one i (by omega) (by omega), decide_eq_false hne, Bool.or_false]
  refine ⟨fun p hp => ?_, fun p hp hb => ?_, fun p hp hb => ?_⟩
  · rw [b_or, hP.1 p hp, Bool.false_or]
    rcases Nat.lt_or_ge p 32 with q | q
    · rw [b_one i (by omega) q, decide_eq_false (by omega)]
    · exact b_big q
  · by_cases e : p = i
    · subst e
      rw [upd_same, upd_same, upd_same, upd_same]
      refine ⟨⟨r, hr, hr2, rfl⟩, rfl, rfl, fun j hj => by rw [b_and, hx j hj, Bool.false_and], ?_⟩
      rw [b_and, b_not _ (by omega), b_one p (by omega) (by omega)]; simp
    · rw [upd_ne _ _ e, upd_ne _ _ e, upd_ne _ _ e, upd_ne _ _ e]
      rw [hbit p hp e] at hb
      exact hP.2.1 p hp hb
  · by_cases e : p = i
    · subst e
      rw [b_or, b_one p (by omega) (by omega)] at hb
      simp at hb
    · rw [upd_ne _ _ e]
      rw [hbit p hp e] at hb
      exact hP.2.2 p hp hb
theorem PL_drop {n : Nat} (hn : n ≤ 8) {cr : Int32} {ro rch crs mrc : Nat → Int32} (hP : PL n cr ro rch crs mrc) {i : Nat} (hi : i < n) :
    PL n (cr &&& (((1 : Int32) <<< (nI i &&& 31)) ^^^ (-1))) ro rch (upd crs i 0) (upd mrc i 0) := by
  have hbit : ∀ p, p < n → p ≠ i → bt (cr &&& (((1 : Int32) <<< (nI i &&& 31)) ^^^ (-1))) p = bt cr p := fun p hp hne => by
    rw [b_and, b_not _ (by omega), b_one i (by omega) (by omega), decide_eq_false hne]; simp
  refine ⟨fun p hp => by rw [b_and, hP.1 p hp, Bool.false_and], fun p hp hb => ?_, fun p hp hb => ?_⟩
  · by_cases e : p = i
    · subst e
      rw [b_and, b_not _ (by omega), b_one p (by omega) (by omega)] at hb
      simp at hb
    · rw [upd_ne _ _ e, upd_ne _ _ e]
      rw [hbit p hp e] at hb
      exact hP.2.1 p hp hb
  · by_cases e : p = i
    · subst e; rw [upd_same]
    · rw [upd_ne _ _ e]
      rw [hbit p hp e] at hb
      exact hP.2.2 p hp hb
theorem cnt_and (x y : Int32) : ∀ m, cnt (x &&& y) m ≤ cnt x m
  | 0 => Nat.le_refl _
  | m + 1 => by
    have h := cnt_and x y m
    rw [cnt, cnt, b_and]
    cases bt x m
    · rw [Bool.false_and, if_neg (by simp)]; omega
    · rw [Bool.true_and, if_pos (rfl : true = true)]
      by_cases hq : bt y m = true
      · rw [if_pos hq]; omega
      · rw [if_neg hq]; omega
theorem cnt_drop (x : Int32) {i : Nat} (_ : i < 8) : cnt (x &&& (((1 : Int32) <<< (nI i &&& 31)) ^^^ (-1))) 8 ≤ cnt x 8 := cnt_and x _ 8
theorem ev_nI : ∀ n, n < 9 → fX2_everyone (nI n) = nI (2 ^ n - 1) := by decide +kernel
theorem below_ev {n : Nat} (hn : n ≤ 8) {x : Int32} (h0 : ¬ x < 0) (h1 : ¬ fX2_everyone (nI n) < x) : ∀ j, n ≤ j → bt x j = false := by
  intro j hj
  obtain ⟨k, hk, rfl⟩ := nI_of h0
  rcases Nat.lt_or_ge j 32 with q | q
  · rw [nI_bt k j q]
    rw [ev_nI n (by omega)] at h1
    have hpw : 2 ^ n ≤ 2 ^ 8 := Nat.pow_le_pow_right (by omega) hn
    have hpos : 0 < 2 ^ n := Nat.pow_pos (by omega)
    have hkn : k ≤ 2 ^ n - 1 := (nI_leI (by omega) (by omega)).mp (Int32.not_lt.mp h1)
    have hpj : 2 ^ n ≤ 2 ^ j := Nat.pow_le_pow_right (by omega) hj
    exact Nat.testBit_lt_two_pow (by omega)
  · exact b_big q
theorem s_crash {al : Int32} {n t RR : Nat} (hn : n ≤ 8) (ht : t ≤ 3) (hR : RR ≤ 100) {inp ro rch kn he di df crs mrc km hm dm im : Nat → Int32} {cr made letters up mkd : Int32} (h : GC al n t RR inp cr ro rch kn he di df made letters up mkd crs mrc km hm dm im) (p r x : Int32) :
    ∃ (ans cr' : Int32) (ro' rch' crs' mrc' : Nat → Int32), fX5_crash (nI n) (nI t) made cr ro rch p r x = some (ans, cr', ro', rch') ∧ fX6_crash (nI n) (nI t) made crs mrc p r x = some (ans, crs', mrc') ∧ GC al n t RR inp cr' ro' rch' kn he di df made letters up mkd crs' mrc' km hm dm im := by
  have h9 := h
  obtain ⟨hI, hP, hc, hA, hu, mm, hmR, rfl, h0⟩ := h
  have hz : (nI mm ≤ 0) ↔ mm = 0 := by rw [← nI_0, nI_leI (by omega) (by omega)]; omega
  have hz2 : (nI mm = 0) ↔ mm = 0 := by rw [← nI_0, nI_eq (by omega) (by omega)]
  unfold fX5_crash fX6_crash fX5_isOpenTo
  rw [isP_eq, in_w, all_ev]
  rcases isP_cases hn p with hp | ⟨hp, i, hi, rfl⟩
  · simp only [if_pos hp]
    exact ⟨_, _, _, _, _, _, rfl, rfl, h9⟩
  · have hp0 : ¬ fX2_isProcess (nI n) (nI i) = 0 := by rw [hp]; decide
    simp only [if_neg hp0]
    by_cases hm0 : mm = 0
    · rw [if_pos (hz2.mpr hm0), if_neg (by decide), if_pos (hz.mpr hm0)]
      by_cases hw : fX5_isWithin r 1 20 = 0
      · rw [if_pos hw, if_pos hw]; exact ⟨_, _, _, _, _, _, rfl, rfl, h9⟩
      · rw [if_neg hw, if_neg hw]
        have hin : 1 ≤ r ∧ r ≤ 20 := by
          apply Classical.byContradiction
          intro q
          exact hw ((within_0 r 1 20).mpr q)
        obtain ⟨rr, hrr, hre⟩ := nI_of2 (M := 20) (n := 20) rfl (Int32.not_lt.mpr (i_le_trans (by decide) hin.1)) hin.2
        have hr1 : 1 ≤ rr := by
          have := hin.1
          rw [hre] at this
          exact (nI_leI (a := 1) (by omega) (by omega)).mp this
        by_cases hx0 : x < 0
        · rw [if_pos hx0, if_pos ((within_0 _ _ _).mpr (fun q => absurd q.1 (Int32.not_le.mpr hx0)))]; exact ⟨_, _, _, _, _, _, rfl, rfl, h9⟩
        · rw [if_neg hx0]
          by_cases hx1 : fX2_everyone (nI n) < x
          · rw [if_pos hx1, if_pos ((within_0 _ _ _).mpr (fun q => absurd q.2 (Int32.not_le.mpr hx1)))]; exact ⟨_, _, _, _, _, _, rfl, rfl, h9⟩
          · rw [if_neg hx1, if_neg (fun q => absurd ⟨Int32.not_lt.mp hx0, Int32.not_lt.mp hx1⟩ ((within_0 _ _ _).mp q)), if_pos (inb8 (by omega)), cl8 (by omega), crashing_eq hn hP, Option.bind_some]
            have hput := PL_put hn hP hi hr1 hrr (below_ev hn hx0 hx1)
            have hsz : fX1_size cr = nI (cnt cr 8) := bc_eq (PL_lo8 hn hP)
            have hsz' : fX1_size (cr ||| ((1 : Int32) <<< (nI i &&& 31))) = nI (cnt (cr ||| ((1 : Int32) <<< (nI i &&& 31))) 8) := bc_eq (PL_lo8 hn hput)
            have hcr' : fX6_crashing (nI n) (upd crs i r) = some (nI (cnt (cr ||| ((1 : Int32) <<< (nI i &&& 31))) 8)) := by rw [hre]; exact crashing_eq hn hput
            have hcnt := cnt_or_one (x := cr) (w := i) (m := 8) (by omega) (by omega)
            have hput' : fX1_put cr ro rch (nI i) r x = some ((cr ||| ((1 : Int32) <<< (nI i &&& 31))), upd ro i r, upd rch i (x &&& (((1 : Int32) <<< (nI i &&& 31)) ^^^ (-1)))) := by
              unfold fX1_put
              rw [if_pos (inb8 (by omega)), cl8 (by omega)]
            rw [hput', Option.bind_some, hcr', Option.bind_some, hsz, hsz']
            rw [← hre] at hput
            cases hb : bt cr i
            · rw [hb, if_neg (by simp)] at hcnt
              rw [if_pos ((has_0 cr i (by omega)).mpr hb), if_pos (hP.2.2 i hi hb)]
              by_cases hf : cnt cr 8 = t
              · rw [if_neg (by rw [hf]; exact fun q => absurd q (Int32.not_lt.mpr (i_le_refl _))), if_pos (by rw [hf])]
                exact ⟨_, _, _, _, _, _, rfl, rfl, h9⟩
              · rw [if_pos ((nI_ltI (by omega) (by omega)).mpr (by omega)), if_neg (fun q => hf ((nI_eq (by omega) (by omega)).mp q))]
                exact ⟨nI (cnt (cr ||| ((1 : Int32) <<< (nI i &&& 31))) 8), cr ||| ((1 : Int32) <<< (nI i &&& 31)), upd ro i r, upd rch i (x &&& (((1 : Int32) <<< (nI i &&& 31)) ^^^ (-1))), upd crs i r, upd mrc i (x &&& (((1 : Int32) <<< (nI i &&& 31)) ^^^ (-1))), rfl, rfl, hI, hput, by omega, hA, hu, mm, hmR, rfl, h0⟩
            · rw [hb, if_pos rfl] at hcnt
              obtain ⟨⟨r0, g1, g2, g3⟩, g4, _⟩ := hP.2.1 i hi hb
              rw [if_neg (fun e => by rw [(has_0 cr i (by omega)).mp e] at hb; cases hb), if_neg (by rw [g4, g3]; exact nI_ne0 (by omega) (by omega))]
              exact ⟨nI (cnt (cr ||| ((1 : Int32) <<< (nI i &&& 31))) 8), cr ||| ((1 : Int32) <<< (nI i &&& 31)), upd ro i r, upd rch i (x &&& (((1 : Int32) <<< (nI i &&& 31)) ^^^ (-1))), upd crs i r, upd mrc i (x &&& (((1 : Int32) <<< (nI i &&& 31)) ^^^ (-1))), rfl, rfl, hI, hput, by omega, hA, hu, mm, hmR, rfl, h0⟩
    · rw [if_neg (fun q => hm0 (hz2.mp q)), if_pos rfl, if_neg (fun q => hm0 (hz.mp q))]
      refine ⟨_, _, _, _, _, _, rfl, ?_, h9⟩
      split
      · rfl
      · split
        · rfl
        · split <;> rfl
theorem s_spare {al : Int32} {n t RR : Nat} (hn : n ≤ 8) (hR : RR ≤ 100) {inp ro rch kn he di df crs mrc km hm dm im : Nat → Int32} {cr made letters up mkd : Int32} (h : GC al n t RR inp cr ro rch kn he di df made letters up mkd crs mrc km hm dm im) (p : Int32) :
    ∃ (ans cr' : Int32) (crs' mrc' : Nat → Int32), fX5_spare (nI n) made cr p = (ans, cr') ∧ fX6_spare (nI n) made crs mrc p = some (ans, crs', mrc') ∧ GC al n t RR inp cr' ro rch kn he di df made letters up mkd crs' mrc' km hm dm im := by
  have h9 := h
  obtain ⟨hI, hP, hc, hA, hu, mm, hmR, rfl, h0⟩ := h
  have hz : (nI mm ≤ 0) ↔ mm = 0 := by rw [← nI_0, nI_leI (by omega) (by omega)]; omega
  have hz2 : (nI mm = 0) ↔ mm = 0 := by rw [← nI_0, nI_eq (by omega) (by omega)]
  unfold fX5_spare fX6_spare fX5_isOpenTo
  rw [isP_eq]
  rcases isP_cases hn p with hp | ⟨hp, i, hi, rfl⟩
  · simp only [if_pos hp]
    exact ⟨_, _, _, _, rfl, rfl, h9⟩
  · have hp0 : ¬ fX2_isProcess (nI n) (nI i) = 0 := by rw [hp]; decide
    simp only [if_neg hp0]
    by_cases hm0 : mm = 0
    · rw [if_pos (hz2.mpr hm0), if_neg (by decide), if_pos (hz.mpr hm0), if_pos (inb8 (by omega)), cl8 (by omega)]
      have hG := PL_drop hn hP hi
      have hcd := cnt_drop cr (show i < 8 by omega)
      cases hb : bt cr i
      · rw [if_pos ((has_0 cr i (by omega)).mpr hb), if_pos (by rw [hP.2.2 i hi hb]; exact i_le_refl _)]
        exact ⟨_, _, _, _, rfl, rfl, hI, hG, by omega, hA, hu, mm, hmR, rfl, h0⟩
      · obtain ⟨⟨r0, g1, g2, g3⟩, g4, _⟩ := hP.2.1 i hi hb
        rw [if_neg (fun e => by rw [(has_0 cr i (by omega)).mp e] at hb; cases hb), if_neg (by rw [g4, g3, ← nI_0, nI_leI (by omega) (by omega)]; omega)]
        exact ⟨_, _, _, _, rfl, rfl, hI, hG, by omega, hA, hu, mm, hmR, rfl, h0⟩
    · rw [if_neg (fun q => hm0 (hz2.mp q)), if_pos rfl, if_neg (fun q => hm0 (hz.mp q))]
      exact ⟨_, _, _, _, rfl, rfl, h9⟩
