/-! ===== own rows: the law answers 1 (printed by wip/whole/src/gen58.py) ===== -/
theorem hsearch (L : Nat) (xs : (Nat → Int32)) : HSearch L xs := by
  intro again x3 v_x_current_known v_x_current_heardFrom v_x_current_decidedIn v_x_current_decidedFrom v_x_current_letter v_x_current_readers v_x_searcher_breachFound v_x_searcher_tried_made v_x_searcher_tried_letters v_x_searcher_tried_up v_x_searcher_tried_marked v_x_searcher_tried_markedLetters v_x_searcher_tried_inputs_of v_x_searcher_tried_plan_crashing v_x_searcher_tried_plan_rounds v_x_searcher_tried_plan_reaches v_x_searcher_tried_known v_x_searcher_tried_heardFrom v_x_searcher_tried_decidedIn v_x_searcher_tried_decidedFrom v_x_searcher_tried_letter v_x_searcher_tried_readers v_m_algorithm v_m_n v_m_t v_m_groups v_m_rounds v_m_made v_m_letters v_m_up v_m_marks v_m_foundBreach v_x_rules_algorithm v_x_rules_processes v_x_rules_mostCrashes v_x_rules_mostDecisions v_x_rules_rounds v_m_inputs v_m_crashes v_m_reaches v_m_knows v_m_heard v_m_decided v_m_decidedIn v_m_before v_m_sent v_x_current_made v_x_current_letters v_x_current_up v_x_current_marked v_x_current_markedLetters v_m_aside v_m_foundInputs v_m_foundCrashes v_m_foundReaches v_x_current_inputs_of v_x_current_plan_crashing v_x_current_plan_rounds v_x_current_plan_reaches h1 hR ha
  obtain ⟨n, t, RR, hn2, hn, ht, htn, hR1, hRt, hgr, e1, e2, e3, e4, e5, e6, e7, e8, e9, e10, e11, e12, e13, e14, hG, hF⟩ := hR
  subst e1 e2 e3 e4 e5 e6 e7 e8 e9 e10 e11 e12 e13 e14
  unfold fL_C478
  rw [if_pos h1]
  obtain ⟨r, b, m1, l1, u1, k1, o1, ti1, tcr1, tro1, trch1, kn1, he1, di1, df1, lt1, rd1, crs1, mrc1, km1, hm1, dm1, im1, bf1, sn1, asd1, finp1, fcrs1, frch1, c1, c2, c3, c4, hF2⟩ := s_search (al := v_m_algorithm) (g := v_m_groups) hn2 hn ht htn hR1 hRt hgr rfl (xs (x3 + (1 : Int32)).toNatClampNeg) v_m_foundBreach v_x_searcher_tried_made v_x_searcher_tried_letters v_x_searcher_tried_up v_x_searcher_tried_marked v_x_searcher_tried_markedLetters v_x_searcher_tried_inputs_of v_x_searcher_tried_plan_crashing v_x_searcher_tried_plan_rounds v_x_searcher_tried_plan_reaches v_x_searcher_tried_known v_x_searcher_tried_heardFrom v_x_searcher_tried_decidedIn v_x_searcher_tried_decidedFrom v_x_searcher_tried_letter v_x_searcher_tried_readers v_m_made v_m_letters v_m_up v_m_marks v_m_inputs v_m_crashes v_m_reaches v_m_knows v_m_heard v_m_decided v_m_decidedIn v_m_before v_m_sent v_m_aside v_m_foundInputs v_m_foundCrashes v_m_foundReaches hF
  rw [c1, Option.bind_some, c2, Option.bind_some, if_pos rfl]
  exact ha _ _ _ _ _ _ _ _ _ _ _ _ _ _ _ _ _ _ _ _ _ _ _ _ _ _ _ _ _ _ _ _ _ _ _ _ _ _ _ _ _ _ _ _ _ _ _ _ _ _ _ _ _ _ _ _ _ _ _ ⟨n, t, RR, hn2, hn, ht, htn, hR1, hRt, hgr, rfl, rfl, rfl, rfl, rfl, rfl, rfl, rfl, rfl, rfl, rfl, rfl, rfl, rfl, ⟨hG.1, PL_congr c3 hG.2.1, hG.2.2.1, RA_congr c4 hG.2.2.2.1, hG.2.2.2.2⟩, hF2⟩
theorem mstart_eq {a n t k l : Nat} (ha : a < 7) (ht : t < 4) (hk : k < 3) (hl : l < 3) (hn : n ≤ 8) (q1 : ¬ fX6_isIn (nI a) 0 6 = 0) (q2 : ¬ fX6_isIn (nI n) 2 8 = 0) (q3 : ¬ fX6_isIn (nI t) 0 3 = 0) (q4 : ¬ nI n ≤ nI t) (q5 : ¬ fX6_isIn (nI (k + 1)) 1 3 = 0) (q6 : ¬ fX6_isIn (nI l) 0 2 = 0) (mal mn mt mg mr mmade mletters mup mmk mbf : Int32) (minp crs mrc km hm_ dm im : (Nat → Int32)) :
    fX6_start mal mn mt mg mr mmade mletters mup mmk mbf minp crs mrc km hm_ dm im (nI a) (nI n) (nI t) (nI (k + 1)) (nI l) = some (nI (rnd a t (k + 1) l), nI a, nI n, nI t, nI (k + 1), nI (rnd a t (k + 1) l), 0, 0, fX2_everyone (nI n), 0, 0, pf 8 (fun _ => 0) minp, pf 8 (fun _ => 0) crs, pf 8 (fun _ => 0) mrc, pf 8 (kn0 (nI a) (pf 8 (fun _ => 0) minp)) km, pf 8 (fun _ => nI n) hm_, pf 8 (fun _ => -2) dm, pf 8 (fun _ => 0) im) := by
  have hm := mrnd_all a ha t ht k hk l hl
  have hL : ∀ e : Int32, fX6_start_L121 (fun v_crashes_121 v_inputs_121 v_reaches_121 => (Option.bind (fX6_begin (nI a) (nI n) v_inputs_121 km hm_ dm im) (fun a2 => some (e, nI a, nI n, nI t, nI (k + 1), e, a2.1, a2.2.1, a2.2.2.1, a2.2.2.2.1, (0 : Int32), v_inputs_121, v_crashes_121, v_reaches_121, a2.2.2.2.2.1, a2.2.2.2.2.2.1, a2.2.2.2.2.2.2.1, a2.2.2.2.2.2.2.2)))) 1000 (0 : Int32) crs minp mrc = some (e, nI a, nI n, nI t, nI (k + 1), e, 0, 0, fX2_everyone (nI n), 0, 0, pf 8 (fun _ => 0) minp, pf 8 (fun _ => 0) crs, pf 8 (fun _ => 0) mrc, pf 8 (kn0 (nI a) (pf 8 (fun _ => 0) minp)) km, pf 8 (fun _ => nI n) hm_, pf 8 (fun _ => -2) dm, pf 8 (fun _ => 0) im) := by
    intro e
    have h2 := mstart_L crs minp mrc (fun v_crashes_121 v_inputs_121 v_reaches_121 => (Option.bind (fX6_begin (nI a) (nI n) v_inputs_121 km hm_ dm im) (fun a2 => some (e, nI a, nI n, nI t, nI (k + 1), e, a2.1, a2.2.1, a2.2.2.1, a2.2.2.2.1, (0 : Int32), v_inputs_121, v_crashes_121, v_reaches_121, a2.2.2.2.2.1, a2.2.2.2.2.2.1, a2.2.2.2.2.2.2.1, a2.2.2.2.2.2.2.2)))) 8 0 1000 rfl (by omega)
    rw [pf_0, pf_0, pf_0, nI_0] at h2
    generalize fX6_start_L121 = F at h2 ⊢
    rw [h2, mbegin_eq, Option.bind_some]
    rfl
  unfold fX6_start
  rw [if_neg q1, if_neg q2, if_neg q3, if_neg q4, if_neg q5, if_neg q6]
  by_cases h3 : nI a = 3
  · rw [if_pos h3] at hm
    rw [if_pos h3, if_neg (nI_ne0 (n := k + 1) (by omega) (by omega))]
    by_cases c : (1 : Int32) ≤ ((nI t / nI (k + 1)) + 1) - nI l
    · rw [if_pos c] at hm
      rw [if_pos c, hL, hm]
    · rw [if_neg c] at hm
      rw [if_neg c, hL, hm]
  · rw [if_neg h3] at hm
    rw [if_neg h3]
    by_cases c : (1 : Int32) ≤ (nI t + 1) - nI l
    · rw [if_pos c] at hm
      rw [if_pos c, hL, hm]
    · rw [if_neg c] at hm
      rw [if_neg c, hL, hm]
theorem minit_eq : fX6_init = some (0, 4, 1, 1, 2, 0, 0, fX2_everyone 4, 0, 0, pf 8 (fun _ => 0) (fun _ => (0 : Int32)), pf 8 (fun _ => 0) (fun _ => (0 : Int32)), pf 8 (fun _ => 0) (fun _ => (0 : Int32)), pf 8 (kn0 0 (pf 8 (fun _ => 0) (fun _ => (0 : Int32)))) (fun _ => (0 : Int32)), pf 8 (fun _ => 4) (fun _ => (0 : Int32)), pf 8 (fun _ => -2) (fun _ => (0 : Int32)), pf 8 (fun _ => 0) (fun _ => (0 : Int32))) := by
  have h := mstart_eq (a := 0) (n := 4) (t := 1) (k := 0) (l := 0) (by omega) (by omega) (by omega) (by omega) (by omega) (by decide) (by decide) (by decide) (by decide) (by decide) (by decide) 0 0 0 0 0 0 0 0 0 0 (fun _ => (0 : Int32)) (fun _ => (0 : Int32)) (fun _ => (0 : Int32)) (fun _ => (0 : Int32)) (fun _ => (0 : Int32)) (fun _ => (0 : Int32)) (fun _ => (0 : Int32))
  have h2 : fX6_start (0 : Int32) (0 : Int32) (0 : Int32) (0 : Int32) (0 : Int32) (0 : Int32) (0 : Int32) (0 : Int32) (0 : Int32) (0 : Int32) (fun _ => (0 : Int32)) (fun _ => (0 : Int32)) (fun _ => (0 : Int32)) (fun _ => (0 : Int32)) (fun _ => (0 : Int32)) (fun _ => (0 : Int32)) (fun _ => (0 : Int32)) (0 : Int32) (4 : Int32) (1 : Int32) (1 : Int32) (0 : Int32) = some (2, 0, 4, 1, 1, 2, 0, 0, fX2_everyone 4, 0, 0, pf 8 (fun _ => 0) (fun _ => (0 : Int32)), pf 8 (fun _ => 0) (fun _ => (0 : Int32)), pf 8 (fun _ => 0) (fun _ => (0 : Int32)), pf 8 (kn0 0 (pf 8 (fun _ => 0) (fun _ => (0 : Int32)))) (fun _ => (0 : Int32)), pf 8 (fun _ => 4) (fun _ => (0 : Int32)), pf 8 (fun _ => -2) (fun _ => (0 : Int32)), pf 8 (fun _ => 0) (fun _ => (0 : Int32))) := h
  unfold fX6_init
  rw [h2]
  rfl
theorem law_pure (L : Nat) (xs : (Nat → Int32)) (hL : L ≤ 3072) : fL_law L xs = some 1 := by
  have hl := law_L (L := L) (xs := xs) hL (hsearch L xs) 99999 0
  unfold fL_law
  rw [xinit_eq, Option.bind_some, minit_eq, Option.bind_some]
  rw [nI_0] at hl
  generalize fL_law_L18 = F at hl ⊢
  refine hl _ _ _ _ _ _ _ _ _ _ _ _ _ _ _ _ _ _ _ _ _ _ _ _ _ _ _ _ _ _ _ _ _ _ _ _ _ _ _ _ _ _ _ _ _ _ _ _ _ _ _ _ _ _ _ _ _ _ _ (by omega) (by omega) ?_
  refine ⟨4, 1, 2, by omega, by omega, by omega, by omega, by omega, by omega, by decide, rfl, rfl, rfl, rfl, rfl, rfl, rfl, rfl, rfl, rfl, rfl, rfl, rfl, rfl, ?_, Or.inl rfl⟩
  exact GC_begin (al := 0) (n := 4) (t := 1) (RR := 2) (by omega) (IR_0 (fun _ => 0)) (PL_none (pf 8 (fun _ => 1) (fun _ => 0)) (pf 8 (fun _ => 0) (fun _ => 0)) (pf 8 (fun _ => 0) (fun _ => 0)) (pf 8 (fun _ => 0) (fun _ => 0)) (fun p hp => pf_lt _ _ (by omega))) (by decide) (fun _ => 0) (fun _ => 0) (fun _ => 0) (fun _ => 0) (fun _ => 0) (fun _ => 0) (fun _ => 0) (fun _ => 0)
