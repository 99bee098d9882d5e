theorem round_pair {alg mkd up letters : Int32} {n m0 RR : Nat} {inp kn he di df km hm dm im lt0 rd0 bf0 sn0 : Nat → Int32} {cr : Int32} {ro rch crs mrc : Nat → Int32} (hI : IR inp) (hn : n ≤ 8) (hn2 : 0 < n) (hm0 : m0 < RR) (hRn : RR ≤ n)
    (hP : PL n cr ro rch crs mrc) (hup : ∀ i, n ≤ i → bt up i = false) (hA : RA alg n inp kn he di df km hm dm im) :
    ∃ (kn' he' di' df' km' hm' dm' im' lt' rd' bf' sn' : Nat → Int32) (letters' up' mkd' : Int32), RA alg n inp kn' he' di' df' km' hm' dm' im' ∧ (∀ i, n ≤ i → bt up' i = false) ∧
      fX3_makeRound (nI m0) letters up mkd alg (nI n) (nI RR) cr ro rch kn he di df lt0 rd0 = some (nI (m0 + 1), letters', up', mkd', mkd, kn', he', di', df', lt', rd') ∧
      fX6_round alg (nI n) (nI RR) (nI m0) letters up mkd inp crs mrc km hm dm im bf0 sn0 = some (nI (m0 + 1), letters', up', mkd', km', hm', dm', im', bf', sn') := by
  obtain ⟨CN, hCN⟩ : ∃ CN, CN = mk (fun p => bt cr p && decide (nI (m0 + 1) ≤ ro p ∧ ro p ≤ nI (m0 + 1))) 8 := ⟨_, rfl⟩
  have hb : ∀ p, bt CN p = (bt cr p && decide (ro p = nI (m0 + 1))) := fun p => by rw [hCN]; exact CN_bt hn hP _ p
  have hrl : ∀ p, p < n → bt CN p = true → lo8 (rch p) := by
    intro p hp h
    rw [hb p, Bool.and_eq_true] at h
    exact fun i hi => (hP.2.1 p hp h.1).2.2.2.1 i (by omega)
  have hcc : ∀ p, p < n → (crs p = nI (m0 + 1) ↔ bt CN p = true) := by
    intro p hp
    rw [hb p, Bool.and_eq_true, decide_eq_true_eq]
    cases hc : bt cr p
    · rw [hP.2.2 p hp hc]
      exact ⟨fun e => absurd e.symm (nI_ne0 (by omega) (by omega)), fun e => absurd e.1 (by simp)⟩
    · rw [(hP.2.1 p hp hc).2.1]; simp
  have hmr : ∀ p, p < n → bt CN p = true → mrc p = rch p := by
    intro p hp h
    rw [hb p, Bool.and_eq_true] at h
    exact (hP.2.1 p hp h.1).2.2.1
  have hL : LT alg (nI (m0 + 1)) n inp (pf n kn lt0) (pf n km bf0) (pf n (rdv alg (nI (m0 + 1)) up n CN rch) rd0) (pf n (snv alg (nI (m0 + 1)) up n CN rch) sn0) := by
    refine ⟨fun q hq => ?_, fun q hq => ?_, fun h6 q hq hne => ?_⟩
    · rw [pf_lt _ _ hq, pf_lt _ _ hq]
      exact ⟨(hA q hq).1, (hA q hq).2.1⟩
    · rw [pf_lt _ _ hq, pf_lt _ _ hq]
      unfold rdv snv
      by_cases hs : spk alg (nI (m0 + 1)) up q = true
      · rw [if_pos hs, if_pos hs]
        refine Or.inr ⟨rfl, ?_⟩
        unfold oth
        by_cases hc : bt CN q = true
        · rw [if_pos hc]
          rw [hb q, Bool.and_eq_true] at hc
          exact (hP.2.1 q hq hc.1).2.2.2.2
        · rw [if_neg hc, b_and, b_not _ (by omega), b_one q (by omega) (by omega)]; simp
      · rw [if_neg hs, if_neg hs]; exact Or.inl ⟨rfl, rfl⟩
    · rw [pf_lt _ _ hq] at hne
      unfold rdv at hne
      by_cases hs : spk alg (nI (m0 + 1)) up q = true
      · unfold spk at hs
        rw [Bool.and_eq_true, Bool.or_eq_true, decide_eq_true_eq, decide_eq_true_eq] at hs
        rcases hs.2 with h | h
        · exact absurd h6 h
        · exact h
      · rw [if_neg hs] at hne; exact absurd rfl hne
  obtain ⟨up', hup'⟩ : ∃ u, u = up &&& (CN ^^^ (-1)) := ⟨_, rfl⟩
  have hsp : ∀ p, p < n → bt up' p = true → (bt (pf n (rdv alg (nI (m0 + 1)) up n CN rch) rd0 p) p = true ↔ (alg = 6 → nI (m0 + 1) - 1 = nI p)) := by
    intro p hp hu
    have hu2 : bt up p = true := by rw [hup', b_and, Bool.and_eq_true] at hu; exact hu.1
    rw [pf_lt _ _ hp]
    unfold rdv
    by_cases hs : spk alg (nI (m0 + 1)) up p = true
    · rw [if_pos hs, b_or, b_one p (by omega) (by omega)]
      unfold spk at hs
      rw [Bool.and_eq_true, Bool.or_eq_true, decide_eq_true_eq, decide_eq_true_eq] at hs
      simp only [decide_true, Bool.or_true, true_iff]
      intro h6
      rcases hs.2 with h | h
      · exact absurd h6 h
      · exact h.symm
    · rw [if_neg hs, b_0]
      simp only [Bool.false_eq_true, false_iff]
      intro hall
      apply hs
      unfold spk
      rw [hu2]
      by_cases h6 : alg = 6
      · simp [(hall h6).symm]
      · simp [h6]
  have hupm : upm crs (nI (m0 + 1)) up n = up' := by
    rw [hup']
    apply b_ext
    intro j hj
    rw [upm_bt crs _ up hj n (by omega), b_and, b_not _ hj]
    congr 2
    rcases Nat.lt_or_ge j n with h | h
    · rw [decide_eq_true h, Bool.true_and]
      have := hcc j h
      cases hh : bt CN j
      · rw [hh] at this; rw [decide_eq_false (fun e => by simpa using this.mp e)]
      · rw [hh] at this; rw [decide_eq_true (this.mpr rfl)]
    · rw [decide_eq_false (by omega), Bool.false_and, hb j, hP.1 j h, Bool.false_and]
  have e1 : nI m0 + 1 = nI (m0 + 1) := nI_1 m0
  have hms : fX6_sendLetters alg (nI n) letters up crs mrc km bf0 sn0 (nI (m0 + 1)) = some (lsm alg (nI (m0 + 1)) up n CN rch letters n, pf n km bf0, pf n (snv alg (nI (m0 + 1)) up n CN rch) sn0) := by
    unfold fX6_sendLetters
    have h := msend_L alg up CN (mm := m0 + 1) hn hn2 (by omega) (by omega) rch crs mrc km bf0 sn0 letters hrl hcc hmr (fun v_before_2 v_sent_2 v_letters_2 => some (v_letters_2, v_before_2, v_sent_2)) n 0 1000 (by omega) (by omega)
    rw [pf_0, pf_0, lsm] at h
    exact h
  obtain ⟨kn', he', di', df', km', hm', dm', im', mkd', hA', c1, c2⟩ := loop_pair (alg := alg) (mkl := mkd) (up := up') (mm := m0 + 1) (RR := RR) hI hn hn2 (by omega) (by omega) (by omega) (by omega) hL hsp
    (fun v_decidedFrom_45 v_decidedIn_45 v_heardFrom_45 v_known_45 v_marked_45 => some (nI (m0 + 1), lsm alg (nI (m0 + 1)) up n CN rch letters n, up', v_marked_45, mkd, v_known_45, v_heardFrom_45, v_decidedIn_45, v_decidedFrom_45, pf n kn lt0, pf n (rdv alg (nI (m0 + 1)) up n CN rch) rd0))
    (fun v_decided_71 v_decidedIn_71 v_heard_71 v_knows_71 v_marks_71 => some (nI (m0 + 1), lsm alg (nI (m0 + 1)) up n CN rch letters n, up', v_marks_71, v_knows_71, v_heard_71, v_decided_71, v_decidedIn_71, pf n km bf0, pf n (snv alg (nI (m0 + 1)) up n CN rch) sn0))
    n 0 1000 (by omega) (by omega) kn he di df km hm dm im mkd hA (fun q h1 _ => pf_lt _ _ h1) (fun q h => h)
  rw [nI_0] at c1 c2
  have hclass : fX3_makeRound (nI m0) letters up mkd alg (nI n) (nI RR) cr ro rch kn he di df lt0 rd0 = some (nI (m0 + 1), lsm alg (nI (m0 + 1)) up n CN rch letters n, up', mkd', mkd, kn', he', di', df', pf n kn lt0, pf n (rdv alg (nI (m0 + 1)) up n CN rch) rd0) := by
    unfold fX3_makeRound
    generalize fX3_makeRound_L45 = F at c1 ⊢
    rw [e1, crashingIn_eq, ← hCN, Option.bind_some, send_eq alg (nI (m0 + 1)) up mkd CN hn rch kn lt0 rd0 letters hrl, Option.bind_some, ← hup']
    exact c1
  have hmodel : fX6_round alg (nI n) (nI RR) (nI m0) letters up mkd inp crs mrc km hm dm im bf0 sn0 = some (nI (m0 + 1), lsm alg (nI (m0 + 1)) up n CN rch letters n, up', mkd', km', hm', dm', im', pf n km bf0, pf n (snv alg (nI (m0 + 1)) up n CN rch) sn0) := by
    have h := up_L (nI (m0 + 1)) up crs hn (fun v_up_19 => (fX6_round_L71 mkd alg (nI n) (nI RR) (nI (m0 + 1)) v_up_19 inp (pf n km bf0) (pf n (snv alg (nI (m0 + 1)) up n CN rch) sn0) (fun v_decided_71 v_decidedIn_71 v_heard_71 v_knows_71 v_marks_71 => some (nI (m0 + 1), lsm alg (nI (m0 + 1)) up n CN rch letters n, v_up_19, v_marks_71, v_knows_71, v_heard_71, v_decided_71, v_decidedIn_71, pf n km bf0, pf n (snv alg (nI (m0 + 1)) up n CN rch) sn0)) 1000 (0 : Int32) dm im hm km mkd)) n 0 1000 (by omega) (by omega)
    rw [upm, nI_0, hupm] at h
    unfold fX6_round
    rw [e1, hms, Option.bind_some]
    generalize fX6_round_L19 = G at h ⊢
    generalize fX6_round_L71 = F at h c2 ⊢
    exact h.trans c2
  refine ⟨kn', he', di', df', km', hm', dm', im', pf n kn lt0, pf n (rdv alg (nI (m0 + 1)) up n CN rch) rd0, pf n km bf0, pf n (snv alg (nI (m0 + 1)) up n CN rch) sn0, lsm alg (nI (m0 + 1)) up n CN rch letters n, up', mkd', hA', ?_, hclass, hmodel⟩
  intro i hi; rw [hup', b_and, hup i hi, Bool.false_and]
