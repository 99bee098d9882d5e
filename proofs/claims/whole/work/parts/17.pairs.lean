/-! ===== own rows: both sides' letters, one beside the other ===== -/
def cp (P : Nat → Bool) : Nat → Nat
  | 0 => 0
  | i + 1 => cp P i + (if P i = true then 1 else 0)
theorem cnt_cp (x : Int32) : ∀ m, cnt x m = cp (fun i => bt x i) m
  | 0 => rfl
  | m + 1 => by rw [cnt, cp, cnt_cp x m]
theorem cp_congr {P Q : Nat → Bool} : ∀ m, (∀ i, i < m → P i = Q i) → cp P m = cp Q m
  | 0, _ => rfl
  | m + 1, h => by rw [cp, cp, cp_congr m (fun i hi => h i (by omega)), h m (by omega)]
theorem cp_cut (P : Nat → Bool) (n : Nat) : ∀ d, cp (fun i => decide (i < n) && P i) (n + d) = cp P n
  | 0 => cp_congr n (fun i hi => by simp [hi])
  | d + 1 => by
    rw [Nat.add_succ, cp, cp_cut P n d, if_neg (by rw [decide_eq_false (by omega)]; simp)]; rfl
theorem cnt_mk (P : Nat → Bool) {n : Nat} (hn : n ≤ 8) : cnt (mk P n) 8 = cp P n := by
  rw [cnt_cp, cp_congr (Q := fun i => decide (i < n) && P i) 8 (fun i hi => mk_bt P n (by omega) i (by omega))]
  have := cp_cut P n (8 - n)
  rw [show n + (8 - n) = 8 by omega] at this
  exact this
theorem cp_pair {n p : Nat} {rd sn : Nat → Int32} (hq : ∀ q, q < n → q ≠ p → bt (rd q) p = bt (sn q) p) (hp0 : bt (sn p) p = false) :
    ∀ i, i ≤ n → cp (fun q => bt (rd q) p) i = csm p sn i + (if p < i ∧ bt (rd p) p = true then 1 else 0)
  | 0, _ => by rw [cp, csm, if_neg (fun h => absurd h.1 (by omega))]
  | i + 1, hi => by
    rw [cp, csm, cp_pair hq hp0 i (by omega)]
    by_cases e : i = p
    · subst e
      rw [hp0, if_neg (show ¬ (i < i ∧ _) from fun h => absurd h.1 (by omega))]
      by_cases h : bt (rd i) i = true
      · rw [if_pos h, if_neg (by simp), if_pos ⟨by omega, h⟩]
      · rw [if_neg h, if_neg (by simp), if_neg (fun q => h q.2)]
    · rw [hq i (by omega) e]
      have e2 : (p < i + 1 ∧ bt (rd p) p = true) ↔ (p < i ∧ bt (rd p) p = true) := ⟨fun h => ⟨by omega, h.2⟩, fun h => ⟨by omega, h.2⟩⟩
      simp only [e2]
      omega
theorem or_comm3 (a b c : Int32) : (a ||| b) ||| c = (a ||| c) ||| b := by
  apply b_ext; intro i _; simp only [b_or]; cases bt a i <;> cases bt b i <;> cases bt c i <;> rfl
theorem or_same3 (a b : Int32) : (a ||| b) ||| b = a ||| b := by
  apply b_ext; intro i _; simp only [b_or]; cases bt a i <;> cases bt b i <;> rfl
theorem or_0 (a : Int32) : 0 ||| a = a := by
  apply b_ext; intro i _; simp only [b_or, b_0]; cases bt a i <;> rfl
theorem kw_pair {alg : Int32} {inp : Nat → Int32} {n p : Nat} {rd sn lt bf : Nat → Int32} {kp : Int32} (h6 : ¬ alg = 6) (hq : ∀ q, q < n → q ≠ p → bt (rd q) p = bt (sn q) p) (hp0 : bt (sn p) p = false) (hb : ∀ q, q < n → bf q = valK alg inp (lt q)) (hl : lt p = kp) :
    ∀ i, i ≤ n → kwm alg p sn bf (valK alg inp kp) i = valK alg inp (orl p rd lt i ||| kp)
  | 0, _ => by rw [kwm, orl, or_0]
  | i + 1, hi => by
    have ih := kw_pair h6 hq hp0 hb hl i (by omega)
    rw [kwm, orl, ih]
    by_cases e : i = p
    · subst e
      rw [hp0, if_neg (by simp)]
      by_cases h : bt (rd i) i = true
      · rw [if_pos h, hl, or_same3]
      · rw [if_neg h]
    · rw [hq i (by omega) e]
      by_cases h : bt (sn i) p = true
      · rw [if_pos h, if_pos h, hb i (by omega), joined_val alg inp _ _ h6, or_comm3]
      · rw [if_neg h, if_neg h]
theorem mk_0 (P : Nat → Bool) {n : Nat} (hn : n ≤ 8) : mk P n = 0 ↔ ∀ q, q < n → P q = false := by
  constructor
  · intro h q hq
    have := mk_bt P n (by omega) q (by omega)
    rw [h, b_0, decide_eq_true hq] at this
    simpa using this.symm
  · intro h
    apply b_ext
    intro i hi
    rw [mk_bt P n (by omega) i hi, b_0]
    by_cases e : i < n
    · rw [h i e, Bool.and_false]
    · rw [decide_eq_false e, Bool.false_and]
/-- ROTOR: at most one letter -/
theorem kw_pair6 {alg : Int32} {inp : Nat → Int32} {n p : Nat} {rd sn lt bf : Nat → Int32} {kp : Int32} (h6 : alg = 6) (hn : n ≤ 8) (hq : ∀ q, q < n → q ≠ p → bt (rd q) p = bt (sn q) p) (hp0 : bt (sn p) p = false) (hb : ∀ q, q < n → bf q = valK alg inp (lt q)) (hl : lt p = kp) (h1 : ∀ q q', q < n → q' < n → bt (rd q) p = true → bt (rd q') p = true → q = q') :
    ∀ i, i ≤ n → ((∀ q, q < i → bt (rd q) p = false) ∧ orl p rd lt i = 0 ∧ kwm alg p sn bf (valK alg inp kp) i = valK alg inp kp) ∨ ((∃ q, q < i ∧ bt (rd q) p = true ∧ orl p rd lt i = lt q) ∧ kwm alg p sn bf (valK alg inp kp) i = valK alg inp (orl p rd lt i))
  | 0, _ => Or.inl ⟨fun q h => absurd h (by omega), rfl, rfl⟩
  | i + 1, hi => by
    rcases kw_pair6 h6 hn hq hp0 hb hl h1 i (by omega) with ⟨a1, a2, a3⟩ | ⟨⟨q, b1, b2, b3⟩, b4⟩
    · by_cases h : bt (rd i) p = true
      · refine Or.inr ⟨⟨i, by omega, h, ?_⟩, ?_⟩
        · rw [orl, if_pos h, a2, or_0]
        · rw [orl, if_pos h, a2, or_0, kwm, a3]
          by_cases e : i = p
          · subst e; rw [hp0, if_neg (by simp), hl]
          · rw [← hq i (by omega) e, if_pos h, joined_6 _ _ _ h6, hb i (by omega)]
      · refine Or.inl ⟨fun q hq2 => ?_, ?_, ?_⟩
        · by_cases e : q = i
          · subst e; simpa using h
          · exact a1 q (by omega)
        · rw [orl, if_neg h, a2]
        · rw [kwm, a3]
          by_cases e : i = p
          · subst e; rw [hp0, if_neg (by simp)]
          · rw [← hq i (by omega) e, if_neg h]
    · have hi0 : bt (rd i) p = false := by
        cases hh : bt (rd i) p
        · rfl
        · exact absurd (h1 q i (by omega) (by omega) b2 hh) (by omega)
      refine Or.inr ⟨⟨q, by omega, b2, ?_⟩, ?_⟩
      · rw [orl, hi0, if_neg (by simp), b3]
      · rw [orl, hi0, if_neg (show ¬ (false = true) by simp), kwm, b4]
        by_cases e : i = p
        · subst e; rw [hp0, if_neg (by simp)]
        · rw [← hq i (by omega) e, hi0, if_neg (by simp)]
theorem gm_iff {p : Nat} {sn : Nat → Int32} {mkd : Int32} : ∀ i, gmm p sn mkd i = true ↔ ∃ q, q < i ∧ bt (sn q) p = true ∧ bt mkd q = true
  | 0 => by simp [gmm]
  | i + 1 => by
    rw [gmm]
    by_cases h : bt (sn i) p = true
    · rw [if_pos h, Bool.or_eq_true, gm_iff i]
      constructor
      · rintro (⟨q, a, b, c⟩ | hm)
        · exact ⟨q, by omega, b, c⟩
        · exact ⟨i, by omega, h, hm⟩
      · rintro ⟨q, a, b, c⟩
        by_cases e : q = i
        · subst e; exact Or.inr c
        · exact Or.inl ⟨q, by omega, b, c⟩
    · rw [if_neg h, gm_iff i]
      constructor
      · rintro ⟨q, a, b, c⟩; exact ⟨q, by omega, b, c⟩
      · rintro ⟨q, a, b, c⟩
        by_cases e : q = i
        · subst e; exact absurd b h
        · exact ⟨q, by omega, b, c⟩
theorem and_mk0 (P : Nat → Bool) {n : Nat} (hn : n ≤ 8) (y : Int32) : mk P n &&& y = 0 ↔ ∀ q, q < n → ¬ (P q = true ∧ bt y q = true) := by
  constructor
  · intro h q hq ⟨h1, h2⟩
    have : bt (mk P n &&& y) q = true := by rw [b_and, mk_bt P n (by omega) q (by omega), decide_eq_true hq, h1, h2]; rfl
    rw [h, b_0] at this
    cases this
  · intro h
    apply b_ext
    intro i hi
    rw [b_and, mk_bt P n (by omega) i hi, b_0]
    by_cases e : i < n
    · have := h i e
      cases h1 : P i <;> cases h2 : bt y i <;> simp_all
    · rw [decide_eq_false e, Bool.false_and, Bool.false_and]
