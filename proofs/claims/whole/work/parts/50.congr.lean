/-! ===== own rows: what depends on inputs and plans below their ends alone ===== -/
theorem lst_congr {inp inp' : Nat → Int32} (s : Int32) : ∀ m, (∀ p, p < m → inp p = inp' p) → lst inp s m = lst inp' s m
  | 0, _ => rfl
  | m + 1, h => by rw [lst, lst, lst_congr s m (fun p hp => h p (by omega)), h m (by omega)]
theorem asb_congr {inp inp' : Nat → Int32} (s : Int32) : ∀ m, (∀ p, p < m → inp p = inp' p) → asb inp s m = asb inp' s m
  | 0, _ => rfl
  | m + 1, h => by rw [asb, asb, asb_congr s m (fun p hp => h p (by omega)), h m (by omega)]
theorem decV_congr {alg : Int32} {n : Nat} {inp inp' : Nat → Int32} {s : Int32} (h : ∀ p, p < 8 → inp p = inp' p) : decV alg n inp s = decV alg n inp' s := by
  unfold decV; rw [lst_congr s 8 h]
theorem FB_congr {n : Nat} (hn : n ≤ 8) {alg mde R cr : Int32} {ro kn di df inp inp' : Nat → Int32} (hok : ∀ p, p < n → ¬ di p = 0 → okS n (df p)) (h : ∀ p, p < 8 → inp p = inp' p) : fX3_firstBreach alg (nI n) mde R inp cr ro kn di df = fX3_firstBreach alg (nI n) mde R inp' cr ro kn di df := by
  have hd : ∀ who, fX3_decisionsOf alg (nI n) inp di df who = fX3_decisionsOf alg (nI n) inp' di df who := fun who => by
    rw [decOf_eq hn hok, decOf_eq hn hok]
    have e : (fun p => decV alg n inp (df p)) = (fun p => decV alg n inp' (df p)) := funext (fun p => decV_congr h)
    rw [e]
  have hu : ∀ a D, fX3_isUnfounded alg (nI n) inp kn a D = fX3_isUnfounded alg (nI n) inp' kn a D := fun a D => by
    unfold fX3_isUnfounded fX3_commitsWrongly
    rw [least_eq (inp := inp), least_eq (inp := inp'), asBits_eq (inp := inp), asBits_eq (inp := inp'), lst_congr (inp := inp) (inp' := inp') _ 8 h, asb_congr (inp := inp) (inp' := inp') _ 8 h]
  unfold fX3_firstBreach
  simp only [hd, hu]
theorem PL_congr {n : Nat} {cr : Int32} {ro rch crs mrc crs' mrc' : Nat → Int32} (h : ∀ p, p < n → crs' p = crs p ∧ mrc' p = mrc p) (hP : PL n cr ro rch crs mrc) : PL n cr ro rch crs' mrc' := by
  refine ⟨hP.1, fun p hp hb => ?_, fun p hp hb => ?_⟩
  · rw [(h p hp).1, (h p hp).2]; exact hP.2.1 p hp hb
  · rw [(h p hp).1]; exact hP.2.2 p hp hb
theorem RA_congr {al : Int32} {n : Nat} {inp kn he di df km hm dm im km' hm' dm' im' : Nat → Int32} (h : ∀ p, p < n → km' p = km p ∧ hm' p = hm p ∧ dm' p = dm p ∧ im' p = im p) (hA : RA al n inp kn he di df km hm dm im) : RA al n inp kn he di df km' hm' dm' im' := by
  intro p hp
  obtain ⟨h1, h2, h3, h4⟩ := h p hp
  rw [h1, h2, h3, h4]
  exact hA p hp
/-! ===== a run without crashes of COMMIT: all know all ===== -/
theorem apD_full {made EV : Int32} {di df : Nat → Int32} {n i : Nat} (h : ∀ q, q < n → ¬ di q = 0 → df q = EV) (o : Option Int32) (ho : o = none ∨ o = some EV) : ∀ q, q < n → ¬ (apD made di df i o).1 q = 0 → (apD made di df i o).2 q = EV := by
  intro q hq
  rcases ho with rfl | rfl
  · exact h q hq
  · unfold apD
    by_cases hz : di i = 0
    · simp only [if_pos hz]
      by_cases e : q = i
      · subst e; intro _; rw [upd_same]
      · rw [upd_ne _ _ e, upd_ne _ _ e]; exact h q hq
    · simp only [if_neg hz]; exact h q hq
theorem dfo5 (ham over mkp : Bool) (x y : Int32) : dfo 5 ham over mkp x y = none ∨ dfo 5 ham over mkp x y = some x := by
  unfold dfo
  rw [if_neg (by decide), if_neg (by decide)]
  cases over
  · left; rfl
  · right; rfl
theorem full_L {mm RR n : Nat} {mkl up : Int32} {lt rd : Nat → Int32} (hn : n ≤ 8) (hup : ∀ p, p < n → bt up p = true) (hS : ∀ p, p < n → ¬ mk (fun q => bt (rd q) p) n = 0) (ho : ∀ p, p < n → orl p rd lt n = fX2_everyone (nI n))
    (k : (Nat → Int32) → (Nat → Int32) → (Nat → Int32) → (Nat → Int32) → Int32 → Option (Int32 × Int32 × Int32 × Int32 × Int32 × (Nat → Int32) × (Nat → Int32) × (Nat → Int32) × (Nat → Int32) × (Nat → Int32) × (Nat → Int32))) :
    ∀ (m i fuel : Nat), i + m = n → m < fuel → ∀ (kn he di df : Nat → Int32) (mkd : Int32), (∀ q, q < i → kn q = fX2_everyone (nI n)) → (∀ q, q < n → ¬ di q = 0 → df q = fX2_everyone (nI n)) →
      ∃ (kn' he' di' df' : Nat → Int32) (mkd' : Int32), fX3_makeRound_L45 (nI mm) up mkl 5 (nI n) (nI RR) lt rd k fuel (nI i) df di he kn mkd = k df' di' he' kn' mkd' ∧ (∀ q, q < n → kn' q = fX2_everyone (nI n)) ∧ (∀ q, q < n → ¬ di' q = 0 → df' q = fX2_everyone (nI n)) := by
  intro m
  induction m with
  | zero =>
    intro i fuel hi hf kn he di df mkd h1 h2
    obtain ⟨f, rfl⟩ : ∃ f, fuel = f + 1 := ⟨fuel - 1, by omega⟩
    obtain rfl : i = n := by omega
    refine ⟨kn, he, di, df, mkd, ?_, h1, h2⟩
    rw [fX3_makeRound_L45, if_pos ((leN hn hn).mpr (Nat.le_refl _))]
  | succ m ih =>
    intro i fuel hi hf kn he di df mkd h1 h2
    obtain ⟨f, rfl⟩ : ∃ f, fuel = f + 1 := ⟨fuel - 1, by omega⟩
    have hin : i < n := by omega
    rw [fX3_makeRound_L45, if_neg (fun e => absurd ((leN hn (by omega)).mp e) (by omega)), nI_1, if_neg (fun e => by
      have := (has_0 up i (by omega)).mp e
      rw [hup i hin] at this; cases this),
      readLetters_eq (nI mm) mkd mkl 5 (nI RR) kn he di df lt rd (n := n) (p := i) (by omega) hn _ (fX2_everyone (nI n)) _ _ rfl (by rw [if_neg (hS i hin), ho i hin]) rfl rfl]
    simp only [Option.bind_some]
    refine ih (i + 1) f (by omega) (by omega) _ _ _ _ _ ?_ (apD_full h2 _ (dfo5 _ _ _ _ _))
    intro q hq
    by_cases e : q = i
    · subst e; rw [upd_same]
    · rw [upd_ne _ _ e]; exact h1 q (by omega)
theorem orl_all {n p : Nat} {rd lt : Nat → Int32} (h : ∀ q, q < n → bt (rd q) p = true) (j : Nat) : ∀ i, i ≤ n → (bt (orl p rd lt i) j = true ↔ ∃ q, q < i ∧ bt (lt q) j = true)
  | 0, _ => by rw [orl, b_0]; simp
  | i + 1, hi => by
    rw [orl, if_pos (h i (by omega)), b_or, Bool.or_eq_true, orl_all h j i (by omega)]
    constructor
    · rintro (⟨q, a, b⟩ | b)
      · exact ⟨q, by omega, b⟩
      · exact ⟨i, by omega, b⟩
    · rintro ⟨q, a, b⟩
      by_cases e : q = i
      · subst e; exact Or.inr b
      · exact Or.inl ⟨q, by omega, b⟩
theorem full_round {n m0 RR : Nat} {letters mkd : Int32} (hn : n ≤ 8) (ro rch kn he di df lt rd : Nat → Int32) (hk : ∀ p, p < n → bt (kn p) p = true ∧ ∀ i, n ≤ i → bt (kn p) i = false) (hd : ∀ q, q < n → ¬ di q = 0 → df q = fX2_everyone (nI n)) :
    ∃ (letters' mkd' mkl' : Int32) (kn' he' di' df' lt' rd' : Nat → Int32), fX3_makeRound (nI m0) letters (fX2_everyone (nI n)) mkd 5 (nI n) (nI RR) 0 ro rch kn he di df lt rd = some (nI (m0 + 1), letters', fX2_everyone (nI n), mkd', mkl', kn', he', di', df', lt', rd') ∧ (∀ q, q < n → kn' q = fX2_everyone (nI n)) ∧ (∀ q, q < n → ¬ di' q = 0 → df' q = fX2_everyone (nI n)) := by
  have hCN : mk (fun p => bt 0 p && decide (nI (m0 + 1) ≤ ro p ∧ ro p ≤ nI (m0 + 1))) 8 = 0 := (mk_0 _ (Nat.le_refl _)).mpr (fun q _ => by rw [b_0, Bool.false_and])
  have hup : fX2_everyone (nI n) &&& ((0 : Int32) ^^^ (-1)) = fX2_everyone (nI n) := by
    apply b_ext; intro i hi; rw [b_and, b_not _ hi, b_0]; simp
  have hrd : ∀ q p, q < n → p < n → bt (pf n (rdv 5 (nI (m0 + 1)) (fX2_everyone (nI n)) n 0 rch) rd q) p = true := by
    intro q p hq hp
    rw [pf_lt _ _ hq]
    unfold rdv
    have hs : spk 5 (nI (m0 + 1)) (fX2_everyone (nI n)) q = true := by
      unfold spk
      rw [ev_bt hn, decide_eq_true hq, decide_eq_true (show ¬ (5 : Int32) = 6 by decide)]; rfl
    rw [if_pos hs, b_or, b_one q (by omega) (show p < 32 by omega)]
    unfold oth
    rw [if_neg (by rw [b_0]; decide), b_and, ev_bt hn, decide_eq_true hp, b_not _ (show p < 32 by omega), b_one q (by omega) (show p < 32 by omega)]
    by_cases e : p = q <;> simp [e]
  obtain ⟨kn', he', di', df', mkd', c1, c2, c3⟩ := full_L (mm := m0 + 1) (RR := RR) (mkl := mkd) (up := fX2_everyone (nI n)) (lt := pf n kn lt) (rd := pf n (rdv 5 (nI (m0 + 1)) (fX2_everyone (nI n)) n 0 rch) rd) hn
    (fun p hp => by rw [ev_bt hn, decide_eq_true hp])
    (fun p hp e => by
      have := (mk_0 _ hn).mp e p hp
      rw [hrd p p hp hp] at this; cases this)
    (fun p hp => by
      apply b_ext
      intro j hj
      have h1 := orl_all (lt := pf n kn lt) (fun q hq => hrd q p hq hp) j n (Nat.le_refl _)
      rw [ev_bt hn]
      by_cases hjn : j < n
      · rw [decide_eq_true hjn]
        exact h1.mpr ⟨j, hjn, by rw [pf_lt _ _ hjn]; exact (hk j hjn).1⟩
      · rw [decide_eq_false hjn]
        cases hb : bt (orl p (pf n (rdv 5 (nI (m0 + 1)) (fX2_everyone (nI n)) n 0 rch) rd) (pf n kn lt) n) j
        · rfl
        · obtain ⟨q, a, b⟩ := h1.mp hb
          rw [pf_lt _ _ a, (hk q a).2 j (by omega)] at b; cases b)
    (fun v_decidedFrom_45 v_decidedIn_45 v_heardFrom_45 v_known_45 v_marked_45 => some (nI (m0 + 1), lsm 5 (nI (m0 + 1)) (fX2_everyone (nI n)) n 0 rch letters n, fX2_everyone (nI n), v_marked_45, mkd, v_known_45, v_heardFrom_45, v_decidedIn_45, v_decidedFrom_45, pf n kn lt, pf n (rdv 5 (nI (m0 + 1)) (fX2_everyone (nI n)) n 0 rch) rd))
    n 0 1000 (by omega) (by omega) kn he di df mkd (fun q hq => absurd hq (by omega)) hd
  rw [nI_0] at c1
  refine ⟨lsm 5 (nI (m0 + 1)) (fX2_everyone (nI n)) n 0 rch letters n, mkd', mkd, kn', he', di', df', pf n kn lt, pf n (rdv 5 (nI (m0 + 1)) (fX2_everyone (nI n)) n 0 rch) rd, ?_, c2, c3⟩
  unfold fX3_makeRound
  generalize fX3_makeRound_L45 = F at c1 ⊢
  rw [nI_1, crashingIn_eq, hCN, Option.bind_some, send_eq 5 (nI (m0 + 1)) (fX2_everyone (nI n)) mkd 0 hn rch kn lt rd letters (fun p _ h => by rw [b_0] at h; cases h), Option.bind_some, hup]
  exact c1
theorem full_run {n RR : Nat} (hn : n ≤ 8) (hRR : RR ≤ 100) (ro rch : Nat → Int32)
    (k : (Nat → Int32) → (Nat → Int32) → (Nat → Int32) → (Nat → Int32) → (Nat → Int32) → (Nat → Int32) → Int32 → Int32 → Int32 → Int32 → Int32 → Option (Int32 × Int32 × Int32 × Int32 × Int32 × (Nat → Int32) × (Nat → Int32) × (Nat → Int32) × (Nat → Int32) × (Nat → Int32) × (Nat → Int32))) :
    ∀ (m i fuel : Nat), i + m = RR → m < fuel → ∀ (kn he di df lt rd : Nat → Int32) (letters mkd mkl : Int32), (∀ p, p < n → bt (kn p) p = true ∧ ∀ i, n ≤ i → bt (kn p) i = false) → (∀ q, q < n → ¬ di q = 0 → df q = fX2_everyone (nI n)) →
      ∃ (kn' he' di' df' lt' rd' : Nat → Int32) (letters' mkd' mkl' : Int32), fX3_makeAllRounds_L5 5 (nI n) (nI RR) 0 ro rch k fuel (nI i) df di he kn lt rd (nI i) letters (fX2_everyone (nI n)) mkd mkl = k df' di' he' kn' lt' rd' (nI RR) letters' (fX2_everyone (nI n)) mkd' mkl' ∧ (∀ q, q < n → ¬ di' q = 0 → df' q = fX2_everyone (nI n)) := by
  intro m
  induction m with
  | zero =>
    intro i fuel hi hf kn he di df lt rd letters mkd mkl hk hd
    obtain ⟨f, rfl⟩ : ∃ f, fuel = f + 1 := ⟨fuel - 1, by omega⟩
    obtain rfl : i = RR := by omega
    refine ⟨kn, he, di, df, lt, rd, letters, mkd, mkl, ?_, hd⟩
    rw [fX3_makeAllRounds_L5, if_pos ((leR (by omega) (by omega)).mpr (Nat.le_refl _))]
  | succ m ih =>
    intro i fuel hi hf kn he di df lt rd letters mkd mkl hk hd
    obtain ⟨f, rfl⟩ : ∃ f, fuel = f + 1 := ⟨fuel - 1, by omega⟩
    obtain ⟨l1, mk1, ml1, kn1, he1, di1, df1, lt1, rd1, c1, c2, c3⟩ := full_round (m0 := i) (RR := RR) (letters := letters) (mkd := mkd) hn ro rch kn he di df lt rd hk hd
    obtain ⟨kn2, he2, di2, df2, lt2, rd2, l2, mk2, ml2, d1, d2⟩ := ih (i + 1) f (by omega) (by omega) kn1 he1 di1 df1 lt1 rd1 l1 mk1 ml1 (fun p hp => by
      rw [c2 p hp]
      exact ⟨by rw [ev_bt hn, decide_eq_true hp], fun j hj => by rw [ev_bt hn, decide_eq_false (by omega)]⟩) c3
    refine ⟨kn2, he2, di2, df2, lt2, rd2, l2, mk2, ml2, ?_, d2⟩
    rw [fX3_makeAllRounds_L5, if_neg (fun e => absurd ((leR (by omega) (by omega)).mp e) (by omega)), c1, Option.bind_some, nI_1]
    exact d1
theorem full_eq {n RR : Nat} (hn : n ≤ 8) (hRR : RR ≤ 100) (ro rch kn he di df lt rd : Nat → Int32) (letters mkd mkl : Int32) (hk : ∀ p, p < n → bt (kn p) p = true ∧ ∀ i, n ≤ i → bt (kn p) i = false) (hd : ∀ q, q < n → ¬ di q = 0 → df q = fX2_everyone (nI n))
    {m' l' u' k' o' : Int32} {kn' he' di' df' lt' rd' : Nat → Int32} (h : fX3_makeAllRounds 0 letters (fX2_everyone (nI n)) mkd mkl 5 (nI n) (nI RR) 0 ro rch kn he di df lt rd = some (m', l', u', k', o', kn', he', di', df', lt', rd')) :
    ∀ q, q < n → ¬ di' q = 0 → df' q = fX2_everyone (nI n) := by
  obtain ⟨kn2, he2, di2, df2, lt2, rd2, l2, mk2, ml2, d1, d2⟩ := full_run hn hRR ro rch (fun v_decidedFrom_5 v_decidedIn_5 v_heardFrom_5 v_known_5 v_letter_5 v_readers_5 v_made_5 v_letters_5 v_up_5 v_marked_5 v_markedLetters_5 => some (v_made_5, v_letters_5, v_up_5, v_marked_5, v_markedLetters_5, v_known_5, v_heardFrom_5, v_decidedIn_5, v_decidedFrom_5, v_letter_5, v_readers_5)) RR 0 1000 (by omega) (by omega) kn he di df lt rd letters mkd mkl hk hd
  unfold fX3_makeAllRounds at h
  rw [nI_0] at d1
  generalize fX3_makeAllRounds_L5 = F at d1 h
  rw [d1] at h
  simp only [Option.some.injEq, Prod.mk.injEq] at h
  obtain ⟨_, _, _, _, _, _, _, h8, h9, _, _⟩ := h
  rw [← h8, ← h9]
  exact d2
