/-! ===== own rows: one process's end of a round, both sides ===== -/
theorem readLetters_eq (made mkd mkl alg R : Int32) (kn he di df lt rd : Nat → Int32) {n p : Nat} (hp : p < 8) (hn : n ≤ 8) (S kp hp' : Int32) (ham : Bool)
    (hS : S = mk (fun q => bt (rd q) p) n) (hk : kp = if S = 0 then kn p else orl p rd lt n) (hh : hp' = nI (cnt S 8)) (hham : ham = decide (hp' = he p)) :
    fX3_readLetters made mkd mkl alg (nI n) R kn he di df lt rd (nI p) = some ((if alg = 2 ∧ (ham = true ∨ ¬ (S &&& mkl) = 0) then mkd ||| ((1 : Int32) <<< (nI p &&& 31)) else mkd), upd kn p kp, upd he p hp',
      (apD made di df p (dfo alg ham (decide (R ≤ made)) (bt mkl p) kp (lt p))).1, (apD made di df p (dfo alg ham (decide (R ≤ made)) (bt mkl p) kp (lt p))).2) := by
  have hlo : lo8 S := by
    rw [hS]
    intro i hi
    rcases Nat.lt_or_ge i 32 with h | h
    · rw [mk_bt _ n (by omega) i h, decide_eq_false (by omega)]; rfl
    · exact b_big h
  unfold fX3_readLetters
  have h := readL p n hp hn lt rd (fun x2_7 x3_7 => (if x2_7 = 0 then (if inb (nI p) 8 = true then (if ((upd he (nI p).toNatClampNeg (fJ6_bitCount_0f7a4 x2_7)) (nI p).toNatClampNeg) = (he (nI p).toNatClampNeg) then (Option.bind (fX3_conclude made mkd mkl alg R kn di df lt (nI p) (1 : Int32) x2_7) (fun a3 => some (a3.1, kn, (upd he (nI p).toNatClampNeg (fJ6_bitCount_0f7a4 x2_7)), a3.2.1, a3.2.2))) else (Option.bind (fX3_conclude made mkd mkl alg R kn di df lt (nI p) (0 : Int32) x2_7) (fun a4 => some (a4.1, kn, (upd he (nI p).toNatClampNeg (fJ6_bitCount_0f7a4 x2_7)), a4.2.1, a4.2.2)))) else none) else (if inb (nI p) 8 = true then (if ((upd he (nI p).toNatClampNeg (fJ6_bitCount_0f7a4 x2_7)) (nI p).toNatClampNeg) = (he (nI p).toNatClampNeg) then (Option.bind (fX3_conclude made mkd mkl alg R (upd kn (nI p).toNatClampNeg x3_7) di df lt (nI p) (1 : Int32) x2_7) (fun a6 => some (a6.1, (upd kn (nI p).toNatClampNeg x3_7), (upd he (nI p).toNatClampNeg (fJ6_bitCount_0f7a4 x2_7)), a6.2.1, a6.2.2))) else (Option.bind (fX3_conclude made mkd mkl alg R (upd kn (nI p).toNatClampNeg x3_7) di df lt (nI p) (0 : Int32) x2_7) (fun a7 => some (a7.1, (upd kn (nI p).toNatClampNeg x3_7), (upd he (nI p).toNatClampNeg (fJ6_bitCount_0f7a4 x2_7)), a7.2.1, a7.2.2)))) else none))) n 0 1000 (by omega) (by omega)
  rw [mk, orl, nI_0] at h
  refine h.trans ?_
  rw [← hS]
  simp only [cl8 hp, if_pos (inb8 hp), upd_same, bc_eq hlo, ← hh]
  have c1 := fun kn' => conclude_eq made mkd mkl alg R kn' di df lt hp true S
  have c0 := fun kn' => conclude_eq made mkd mkl alg R kn' di df lt hp false S
  simp only [show b01 true = 1 from rfl, show b01 false = 0 from rfl] at c1 c0
  by_cases hz : S = 0
  · rw [if_pos hz] at hk
    rw [if_pos hz]
    by_cases hm : hp' = he p
    · rw [decide_eq_true hm] at hham
      subst hham
      rw [if_pos hm, c1]
      simp only [Option.bind_some]
      rw [hk, upd_self]
    · rw [decide_eq_false hm] at hham
      subst hham
      rw [if_neg hm, c0]
      simp only [Option.bind_some]
      rw [hk, upd_self]
  · rw [if_neg hz] at hk
    rw [if_neg hz]
    by_cases hm : hp' = he p
    · rw [decide_eq_true hm] at hham
      subst hham
      rw [if_pos hm, c1]
      simp only [Option.bind_some, upd_same]
      rw [hk]
    · rw [decide_eq_false hm] at hham
      subst hham
      rw [if_neg hm, c0]
      simp only [Option.bind_some, upd_same]
      rw [hk]
/-- a set of processes that there are, not empty -/
def okS (n : Nat) (s : Int32) : Prop := (∀ i, n ≤ i → bt s i = false) ∧ ∃ i, i < n ∧ bt s i = true
theorem okS_lo8 {n : Nat} (hn : n ≤ 8) {s : Int32} (h : okS n s) : lo8 s := fun i hi => h.1 i (by omega)
theorem okS_or {n : Nat} {a b : Int32} (ha : okS n a) (hb : okS n b) : okS n (a ||| b) := ⟨fun i hi => by rw [b_or, ha.1 i hi, hb.1 i hi]; rfl, by
  obtain ⟨i, h1, h2⟩ := ha.2
  exact ⟨i, h1, by rw [b_or, h2]; rfl⟩⟩
/-- one process, both sides -/
def RP (alg : Int32) (n : Nat) (inp : Nat → Int32) (kc hc dc fc km hm dm im : Int32) : Prop :=
  okS n kc ∧ km = valK alg inp kc ∧ hm = hc ∧ (im = dc ∧ ∃ d, d ≤ 100 ∧ dc = nI d) ∧ (dc = 0 → dm = -2) ∧ (¬ dc = 0 → okS n fc ∧ dm = decV alg n inp fc)
/-- the letters of a round, both sides, as p reads them -/
def LT (alg made : Int32) (n : Nat) (inp lt bf rd sn : Nat → Int32) : Prop :=
  (∀ q, q < n → okS n (lt q) ∧ bf q = valK alg inp (lt q)) ∧ (∀ q, q < n → (rd q = 0 ∧ sn q = 0) ∨ (rd q = sn q ||| ((1 : Int32) <<< (nI q &&& 31)) ∧ bt (sn q) q = false)) ∧ (alg = 6 → ∀ q, q < n → ¬ rd q = 0 → nI q = made - 1)
def DR (alg : Int32) (n : Nat) (inp : Nat → Int32) (dc fc dm im : Int32) : Prop := (im = dc ∧ ∃ d, d ≤ 100 ∧ dc = nI d) ∧ (dc = 0 → dm = -2) ∧ (¬ dc = 0 → okS n fc ∧ dm = decV alg n inp fc)
theorem ap_pair {alg made : Int32} {n : Nat} {inp : Nat → Int32} (hm : ¬ made = 0) (hmr : ∃ d, d ≤ 100 ∧ made = nI d) {di df dm im : Nat → Int32} {p : Nat} (h : DR alg n inp (di p) (df p) (dm p) (im p)) {s v : Int32} (hs : okS n s) (hv : v = decV alg n inp s) :
    (DR alg n inp ((apD made di df p (some s)).1 p) ((apD made di df p (some s)).2 p) ((apM made (dm, im) p (some v)).1 p) ((apM made (dm, im) p (some v)).2 p) ∧ ¬ (apM made (dm, im) p (some v)).2 p = 0) ∧ (∀ q, q ≠ p → (apD made di df p (some s)).1 q = di q ∧ (apD made di df p (some s)).2 q = df q ∧ (apM made (dm, im) p (some v)).1 q = dm q ∧ (apM made (dm, im) p (some v)).2 q = im q) := by
  obtain ⟨⟨h1, h1r⟩, h2, h3⟩ := h
  unfold apD apM
  simp only [h1]
  by_cases hz : di p = 0
  · simp only [if_pos hz, upd_same]
    refine ⟨⟨⟨⟨rfl, hmr⟩, fun e => absurd e hm, fun _ => ⟨hs, hv⟩⟩, hm⟩, fun q hq => ?_⟩
    simp only [upd_ne _ _ hq, and_self]
  · simp only [if_neg hz]
    refine ⟨⟨⟨⟨h1, h1r⟩, fun e => absurd e hz, h3⟩, by rw [h1]; exact hz⟩, fun q _ => ?_⟩
    simp
theorem apM_done {made : Int32} {d : (Nat → Int32) × (Nat → Int32)} {p : Nat} (h : ¬ d.2 p = 0) (o : Option Int32) : apM made d p o = d := by
  unfold apM
  cases o with
  | none => rfl
  | some v => simp only [if_neg h]
theorem val_dec {alg : Int32} {n : Nat} {inp : Nat → Int32} {s : Int32} (h : alg = 1 ∨ alg = 2) : valK alg inp s = decV alg n inp s := by
  unfold valK decV
  rcases h with rfl | rfl <;> rfl
theorem dec_pair {alg made : Int32} {n : Nat} {inp : Nat → Int32} (hm : ¬ made = 0) (hmr : ∃ d, d ≤ 100 ∧ made = nI d) {di df dm im : Nat → Int32} {p : Nat} (h : DR alg n inp (di p) (df p) (dm p) (im p)) {kp lp : Int32} (hk : okS n kp) (hl : okS n lp) (ham over mkp : Bool) (o2 : Option Int32) (ho2 : o2 = if over = true then some (decV alg n inp kp) else none) (D : (Nat → Int32) × (Nat → Int32)) (M : (Nat → Int32) × (Nat → Int32))
    (hD : D = apD made di df p (dfo alg ham over mkp kp lp)) (hM : M = apM made (apM made (dm, im) p (mfo alg (ham || over) mkp (valK alg inp kp) (valK alg inp lp))) p o2) :
    DR alg n inp (D.1 p) (D.2 p) (M.1 p) (M.2 p) ∧ (∀ q, q ≠ p → D.1 q = di q ∧ D.2 q = df q ∧ M.1 q = dm q ∧ M.2 q = im q) := by
  have hnone : apD made di df p none = (di, df) := rfl
  have hnoneM : ∀ d, apM made d p none = d := fun _ => rfl
  by_cases h1 : alg = 1
  · have e1 : dfo alg ham over mkp kp lp = if (ham || over) = true then some kp else none := by unfold dfo; rw [if_pos h1]
    have e2 : mfo alg (ham || over) mkp (valK alg inp kp) (valK alg inp lp) = if (ham || over) = true then some (valK alg inp kp) else none := by unfold mfo; rw [if_pos h1]
    rw [e1] at hD
    rw [e2] at hM
    by_cases hc : (ham || over) = true
    · rw [if_pos hc] at hD hM
      obtain ⟨⟨a1, a2⟩, a3⟩ := ap_pair hm hmr h hk (val_dec (n := n) (Or.inl h1))
      rw [apM_done a2] at hM
      subst hD; subst hM
      exact ⟨a1, a3⟩
    · rw [if_neg hc] at hD hM
      have hov : over = false := by cases over <;> simp_all
      rw [hov, if_neg (by simp)] at ho2
      rw [hnone] at hD
      rw [hnoneM, ho2, hnoneM] at hM
      subst hD; subst hM
      exact ⟨h, fun q _ => ⟨rfl, rfl, rfl, rfl⟩⟩
  · by_cases h2 : alg = 2
    · have e1 : dfo alg ham over mkp kp lp = if mkp = true then some lp else if over = true then some kp else none := by unfold dfo; rw [if_neg h1, if_pos h2]
      have e2 : mfo alg (ham || over) mkp (valK alg inp kp) (valK alg inp lp) = if mkp = true then some (valK alg inp lp) else none := by unfold mfo; rw [if_neg h1, if_pos h2]
      rw [e1] at hD
      rw [e2] at hM
      by_cases hc : mkp = true
      · rw [if_pos hc] at hD hM
        obtain ⟨⟨a1, a2⟩, a3⟩ := ap_pair hm hmr h hl (val_dec (n := n) (Or.inr h2))
        rw [apM_done a2] at hM
        subst hD; subst hM
        exact ⟨a1, a3⟩
      · rw [if_neg hc] at hD hM
        rw [hnoneM, ho2] at hM
        by_cases hov : over = true
        · rw [if_pos hov] at hD hM
          obtain ⟨⟨a1, a2⟩, a3⟩ := ap_pair hm hmr h hk (rfl : decV alg n inp kp = _)
          subst hD; subst hM
          exact ⟨a1, a3⟩
        · rw [if_neg hov] at hD hM
          rw [hnone] at hD
          rw [hnoneM] at hM
          subst hD; subst hM
          exact ⟨h, fun q _ => ⟨rfl, rfl, rfl, rfl⟩⟩
    · have e1 : dfo alg ham over mkp kp lp = if over = true then some kp else none := by unfold dfo; rw [if_neg h1, if_neg h2]
      have e2 : mfo alg (ham || over) mkp (valK alg inp kp) (valK alg inp lp) = none := by unfold mfo; rw [if_neg h1, if_neg h2]
      rw [e1] at hD
      rw [e2, hnoneM, ho2] at hM
      by_cases hov : over = true
      · rw [if_pos hov] at hD hM
        obtain ⟨⟨a1, a2⟩, a3⟩ := ap_pair hm hmr h hk (rfl : decV alg n inp kp = _)
        subst hD; subst hM
        exact ⟨a1, a3⟩
      · rw [if_neg hov] at hD hM
        rw [hnone] at hD
        rw [hnoneM] at hM
        subst hD; subst hM
        exact ⟨h, fun q _ => ⟨rfl, rfl, rfl, rfl⟩⟩
theorem orl_sup {n p : Nat} {rd lt : Nat → Int32} {q : Nat} (hq : bt (rd q) p = true) : ∀ i, q < i → orl p rd lt i ||| lt q = orl p rd lt i
  | 0, h => absurd h (by omega)
  | i + 1, h => by
    rw [orl]
    by_cases e : q = i
    · subst e; rw [if_pos hq, or_same3]
    · have ih := orl_sup (n := n) (rd := rd) (lt := lt) hq i (by omega)
      by_cases hi : bt (rd i) p = true
      · rw [if_pos hi, or_comm3, ih]
      · rw [if_neg hi, ih]
theorem orl_ok {n p : Nat} {rd lt : Nat → Int32} (hl : ∀ q, q < n → okS n (lt q)) : ∀ i, i ≤ n → (∀ j, n ≤ j → bt (orl p rd lt i) j = false) ∧ ((∃ q, q < i ∧ bt (rd q) p = true) → okS n (orl p rd lt i))
  | 0, _ => ⟨fun j _ => by rw [orl, b_0], fun ⟨q, h, _⟩ => absurd h (by omega)⟩
  | i + 1, hi => by
    obtain ⟨a, b⟩ := orl_ok (p := p) (rd := rd) hl i (by omega)
    rw [orl]
    by_cases h : bt (rd i) p = true
    · rw [if_pos h]
      have hz : ∀ j, n ≤ j → bt (orl p rd lt i ||| lt i) j = false := fun j hj => by rw [b_or, a j hj, (hl i (by omega)).1 j hj]; rfl
      refine ⟨hz, fun _ => ⟨hz, ?_⟩⟩
      obtain ⟨q, h1, h2⟩ := (hl i (by omega)).2
      exact ⟨q, h1, by rw [b_or, h2, Bool.or_true]⟩
    · rw [if_neg h]
      refine ⟨a, fun ⟨q, h1, h2⟩ => b ⟨q, ?_, h2⟩⟩
      by_cases e : q = i
      · subst e; exact absurd h2 h
      · omega
