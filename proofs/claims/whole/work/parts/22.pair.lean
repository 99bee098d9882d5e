/-! ===== own rows: the step of one process, both sides at once ===== -/
theorem lt_pair {alg made : Int32} {n : Nat} {inp lt bf rd sn : Nat → Int32} (hL : LT alg made n inp lt bf rd sn) {p : Nat} (hp : p < n) (hn : n ≤ 8) : (∀ q, q < n → q ≠ p → bt (rd q) p = bt (sn q) p) ∧ bt (sn p) p = false := by
  refine ⟨fun q hq hne => ?_, ?_⟩
  · rcases hL.2.1 q hq with ⟨a, b⟩ | ⟨a, b⟩
    · rw [a, b]
    · rw [a, b_or, b_one q (by omega) (by omega), decide_eq_false (fun e => hne e.symm), Bool.or_false]
  · rcases hL.2.1 p hp with ⟨a, b⟩ | ⟨a, b⟩
    · rw [b, b_0]
    · exact b
theorem or_one_same {x : Int32} {p : Nat} (hp : p < 32) (h : bt x p = true) : x ||| ((1 : Int32) <<< (nI p &&& 31)) = x := by
  apply b_ext
  intro i hi
  rw [b_or, b_one p hp hi]
  by_cases e : i = p
  · subst e; rw [h]; rfl
  · rw [decide_eq_false e, Bool.or_false]
theorem step_pair {alg mkd mkl : Int32} {n p mm RR : Nat} {inp kn he di df km hm dm im lt bf rd sn : Nat → Int32} (hI : IR inp) (hn : n ≤ 8) (hn2 : 0 < n) (hp : p < n) (hmm : 1 ≤ mm) (hmn : mm ≤ n) (hmR : mm ≤ RR) (hRR : RR ≤ 100)
    (hL : LT alg (nI mm) n inp lt bf rd sn) (hspk : bt (rd p) p = true ↔ (alg = 6 → nI mm - 1 = nI p)) (hlp : lt p = kn p) (hRP : RP alg n inp (kn p) (he p) (di p) (df p) (km p) (hm p) (dm p) (im p)) (hsub : ∀ q, bt mkl q = true → bt mkd q = true) :
    ∃ (mkd' kp hp' : Int32) (D M : (Nat → Int32) × (Nat → Int32)), fX3_readLetters (nI mm) mkd mkl alg (nI n) (nI RR) kn he di df lt rd (nI p) = some (mkd', upd kn p kp, upd he p hp', D.1, D.2) ∧
      fX6_receive alg (nI n) (nI RR) (nI mm) mkd inp km hm dm im bf sn (nI p) mkl = some (mkd', upd km p (valK alg inp kp), upd hm p hp', M.1, M.2) ∧
      RP alg n inp kp hp' (D.1 p) (D.2 p) (valK alg inp kp) hp' (M.1 p) (M.2 p) ∧ (∀ q, q ≠ p → D.1 q = di q ∧ D.2 q = df q ∧ M.1 q = dm q ∧ M.2 q = im q) ∧ (∀ q, bt mkd q = true → bt mkd' q = true) := by
  obtain ⟨hk0, hkm, hhm, him, hd0, hd1⟩ := hRP
  obtain ⟨hq, hp0⟩ := lt_pair hL hp hn
  have hp8 : p < 8 := by omega
  have hmz : ¬ nI mm = 0 := nI_ne0 (by omega) (by omega)
  obtain ⟨S, hS⟩ : ∃ S, S = mk (fun q => bt (rd q) p) n := ⟨_, rfl⟩
  obtain ⟨kp, hkp⟩ : ∃ kp, kp = if S = 0 then kn p else orl p rd lt n := ⟨_, rfl⟩
  obtain ⟨hp', hhp⟩ : ∃ h, h = nI (cnt S 8) := ⟨_, rfl⟩
  obtain ⟨ham, hham⟩ : ∃ h, h = decide (hp' = he p) := ⟨_, rfl⟩
  have hS0 : S = 0 ↔ ∀ q, q < n → bt (rd q) p = false := by rw [hS]; exact mk_0 _ hn
  -- what is known then
  have hval : kwm alg p sn bf (km p) n = valK alg inp kp ∧ okS n kp := by
    rw [hkm]
    by_cases h6 : alg = 6
    · have h1 : ∀ q q', q < n → q' < n → bt (rd q) p = true → bt (rd q') p = true → q = q' := by
        intro q q' a b c d
        have e1 := hL.2.2 h6 q a (fun e => by rw [e, b_0] at c; cases c)
        have e2 := hL.2.2 h6 q' b (fun e => by rw [e, b_0] at d; cases d)
        exact (nI_eq (by omega) (by omega)).mp (e1.trans e2.symm)
      rcases kw_pair6 (inp := inp) (kp := kn p) h6 hn hq hp0 (fun q h => (hL.1 q h).2) hlp h1 n (Nat.le_refl _) with ⟨a1, a2, a3⟩ | ⟨⟨q, b1, b2, b3⟩, b4⟩
      · rw [if_pos (hS0.mpr a1)] at hkp
        rw [hkp]; exact ⟨a3, hk0⟩
      · have hz : ¬ S = 0 := fun e => by rw [hS0.mp e q b1] at b2; cases b2
        rw [if_neg hz] at hkp
        rw [hkp]; exact ⟨b4, by rw [b3]; exact (hL.1 q b1).1⟩
    · have hs : bt (rd p) p = true := hspk.mpr (fun e => absurd e h6)
      have hz : ¬ S = 0 := fun e => by rw [hS0.mp e p hp] at hs; cases hs
      rw [if_neg hz] at hkp
      rw [hkp, kw_pair (rd := rd) (kp := kn p) h6 hq hp0 (fun q h => (hL.1 q h).2) hlp n (Nat.le_refl _)]
      have := orl_sup (n := n) (rd := rd) (lt := lt) hs n hp
      rw [hlp] at this
      rw [this]
      exact ⟨rfl, (orl_ok (fun q h => (hL.1 q h).1) n (Nat.le_refl _)).2 ⟨p, hp, hs⟩⟩
  -- how many letters
  have hG : got0 alg (nI mm) n p + nI (csm p sn n) = hp' := by
    have hc : cnt S 8 = csm p sn n + (if p < n ∧ bt (rd p) p = true then 1 else 0) := by rw [hS, cnt_mk _ hn, cp_pair hq hp0 n (Nat.le_refl _)]
    have hg : got0 alg (nI mm) n p = nI (if p < n ∧ bt (rd p) p = true then 1 else 0) := by
      have e1 : nI mm - 1 = nI (mm - 1) := pk_sub (a := mm) (b := 1) (by omega)
      unfold got0
      by_cases h6 : alg = 6
      · rw [if_pos h6, e1, pk_rem (by omega) hn2 (by omega), Nat.mod_eq_of_lt (by omega)]
        by_cases hh : nI (mm - 1) = nI p
        · rw [if_pos hh, if_pos ⟨hp, hspk.mpr (fun _ => by rw [e1]; exact hh)⟩]; rfl
        · rw [if_neg hh, if_neg (fun q => hh (by rw [← e1]; exact hspk.mp q.2 h6))]; rfl
      · rw [if_neg h6, if_pos ⟨hp, hspk.mpr (fun e => absurd e h6)⟩]; rfl
    rw [hg, hhp, hc, nI_add, Nat.add_comm]
  have hov : decide (nI RR ≤ nI mm) = decide (nI mm = nI RR) := by
    rw [decide_eq_decide, nI_leI (by omega) (by omega), nI_eq (by omega) (by omega)]
    omega
  have hcl := readLetters_eq (nI mm) mkd mkl alg (nI RR) kn he di df lt rd hp8 hn S kp hp' ham hS hkp hhp hham
  have hmo := receive_eq alg (nI RR) (nI mm) mkd mkl inp km hm dm im bf sn hp8 hn hn2 (decV alg n inp kp) (valK alg inp kp) hp' hval.1.symm hG.symm (gmm p sn mkl n) rfl ham (by rw [hham, hhm]) (fun _ => by
    obtain ⟨i, h1, h2⟩ := hval.2.2
    exact lastWord_eq hI hn hn2 hp8 _ (okS_lo8 hn hval.2) (i0 := i) (by omega) h2 (upd_same _ _ _))
  obtain ⟨D, hD⟩ : ∃ D, D = apD (nI mm) di df p (dfo alg ham (decide (nI RR ≤ nI mm)) (bt mkl p) kp (lt p)) := ⟨_, rfl⟩
  obtain ⟨M, hM⟩ : ∃ M, M = apM (nI mm) (apM (nI mm) (dm, im) p (mfo alg (ham || decide (nI mm = nI RR)) (bt mkl p) (valK alg inp kp) (bf p))) p (if nI mm = nI RR then some (decV alg n inp kp) else none) := ⟨_, rfl⟩
  rw [← hD] at hcl
  rw [← hM] at hmo
  have hmk : (if alg = 2 ∧ (ham = true ∨ ¬ (S &&& mkl) = 0) then mkd ||| ((1 : Int32) <<< (nI p &&& 31)) else mkd) = (if alg = 2 ∧ (ham = true ∨ gmm p sn mkl n = true) then mkd ||| ((1 : Int32) <<< (nI p &&& 31)) else mkd) := by
    by_cases h2 : alg = 2
    · by_cases hh : ham = true
      · rw [if_pos ⟨h2, Or.inl hh⟩, if_pos ⟨h2, Or.inl hh⟩]
      · by_cases hg : gmm p sn mkl n = true
        · rw [if_pos (c := alg = 2 ∧ (ham = true ∨ gmm p sn mkl n = true)) ⟨h2, Or.inr hg⟩]
          obtain ⟨q, a, b, c⟩ := (gm_iff n).mp hg
          have hqp : q ≠ p := fun e => by rw [e, hp0] at b; cases b
          rw [if_pos ⟨h2, Or.inr (fun e => by
            rw [hS] at e
            exact (and_mk0 _ hn mkl).mp e q a ⟨by rw [hq q a hqp]; exact b, c⟩)⟩]
        · rw [if_neg (c := alg = 2 ∧ (ham = true ∨ gmm p sn mkl n = true)) (fun q => q.2.elim hh hg)]
          by_cases hz : S &&& mkl = 0
          · rw [if_neg (fun q => q.2.elim hh (fun q => q hz))]
          · rw [if_pos ⟨h2, Or.inr hz⟩]
            apply or_one_same (by omega)
            apply hsub
            apply Classical.byContradiction
            intro hno
            apply hz
            rw [hS]
            refine (and_mk0 _ hn mkl).mpr (fun q a ⟨b, c⟩ => ?_)
            by_cases e : q = p
            · subst e; exact hno c
            · exact hg ((gm_iff n).mpr ⟨q, a, by rw [← hq q a e]; exact b, c⟩)
    · rw [if_neg (fun q => h2 q.1), if_neg (fun q => h2 q.1)]
  rw [hmk] at hcl
  have hbf : bf p = valK alg inp (kn p) := by rw [(hL.1 p hp).2, hlp]
  have hdp := dec_pair (inp := inp) hmz ⟨mm, by omega, rfl⟩ (p := p) (di := di) (df := df) (dm := dm) (im := im) ⟨him, hd0, hd1⟩ hval.2 (lp := lt p) (by rw [hlp]; exact hk0) ham (decide (nI RR ≤ nI mm)) (bt mkl p) (if nI mm = nI RR then some (decV alg n inp kp) else none) (by rw [hov]; by_cases e : nI mm = nI RR <;> simp [e]) D M hD (by rw [hM, hov, (hL.1 p hp).2])
  refine ⟨_, kp, hp', D, M, hcl, hmo, ⟨hval.2, rfl, rfl, hdp.1.1, hdp.1.2.1, hdp.1.2.2⟩, hdp.2, fun q hq2 => ?_⟩
  by_cases hc : alg = 2 ∧ (ham = true ∨ gmm p sn mkl n = true)
  · rw [if_pos hc, b_or, hq2]; rfl
  · rw [if_neg hc]; exact hq2
