/-! ===== own rows: found and replay, both sides ===== -/
def GF (n t : Nat) (bf tcr : Int32) (tinp tro trch finp fcrs frch : Nat → Int32) : Prop :=
  bf = 0 ∨ (IR tinp ∧ (∀ p, p < 8 → finp p = tinp p) ∧ PL n tcr tro trch fcrs frch ∧ cnt tcr 8 ≤ t)
theorem crs_pos {n : Nat} {cr : Int32} {ro rch crs mrc : Nat → Int32} (hP : PL n cr ro rch crs mrc) {p : Nat} (hp : p < n) : (crs p ≤ 0) ↔ bt cr p = false := by
  cases hb : bt cr p
  · rw [hP.2.2 p hp hb]; simp
  · obtain ⟨⟨r, g1, g2, g3⟩, g4, _⟩ := hP.2.1 p hp hb
    rw [g4, g3, ← nI_0, nI_leI (by omega) (by omega)]; simp; omega
theorem at_end {cr : Int32} (j : Int32) {n : Nat} (h : ∀ p, n ≤ p → bt cr p = false) (k : Option Int32) : ∀ (m i fuel : Nat) (c : Int32), i + m = 8 → n ≤ i → m < fuel → fX1_crashingAt_L4 j cr k fuel c (nI i) = k := by
  intro m
  induction m with
  | zero =>
    intro i fuel c hi hn hf
    obtain ⟨f, rfl⟩ : ∃ f, fuel = f + 1 := ⟨fuel - 1, by omega⟩
    obtain rfl : i = 8 := by omega
    rw [fX1_crashingAt_L4, if_pos ((le8 (by omega)).mpr (by omega))]
  | succ m ih =>
    intro i fuel c hi hn hf
    obtain ⟨f, rfl⟩ : ∃ f, fuel = f + 1 := ⟨fuel - 1, by omega⟩
    rw [fX1_crashingAt_L4, if_neg (fun e => absurd ((le8 (by omega)).mp e) (by omega)), if_pos ((has_0 cr i (by omega)).mpr (h i hn)), nI_1]
    exact ih (i + 1) f c (by omega) (by omega) (by omega)
theorem at_pair {n : Nat} (hn : n ≤ 8) {cr : Int32} {ro rch crs mrc : Nat → Int32} (hP : PL n cr ro rch crs mrc) (j : Int32) :
    ∀ (m i fuel : Nat) (c : Int32), i + m = n → 20 ≤ fuel + i → (fX1_crashingAt_L4 j cr (some (-2)) fuel c (nI i) = some (-2) ∧ fX6_foundCrash_L4 j (nI n) crs (some (-1)) fuel c (nI i) = some (-1)) ∨ ∃ p, p < n ∧ bt cr p = true ∧ fX1_crashingAt_L4 j cr (some (-2)) fuel c (nI i) = some (nI p) ∧ fX6_foundCrash_L4 j (nI n) crs (some (-1)) fuel c (nI i) = some (nI p) := by
  intro m
  induction m with
  | zero =>
    intro i fuel c hi hf
    obtain rfl : i = n := by omega
    left
    refine ⟨at_end j hP.1 _ (8 - i) i fuel c (by omega) (Nat.le_refl _) (by omega), ?_⟩
    obtain ⟨f, rfl⟩ : ∃ f, fuel = f + 1 := ⟨fuel - 1, by omega⟩
    rw [fX6_foundCrash_L4, if_pos ((leN hn hn).mpr (Nat.le_refl _))]
  | succ m ih =>
    intro i fuel c hi hf
    obtain ⟨f, rfl⟩ : ∃ f, fuel = f + 1 := ⟨fuel - 1, by omega⟩
    rw [fX1_crashingAt_L4, if_neg (fun e => absurd ((le8 (by omega)).mp e) (by omega)), fX6_foundCrash_L4, if_neg (fun e => absurd ((leN hn (by omega)).mp e) (by omega)), if_pos (inb8 (by omega)), cl8 (by omega), nI_1]
    cases hb : bt cr i
    · rw [if_pos ((has_0 cr i (by omega)).mpr hb), if_pos ((crs_pos hP (by omega)).mpr hb)]
      exact ih (i + 1) f c (by omega) (by omega)
    · rw [if_neg (show ¬ fX5_has cr (nI i) = 0 from fun e => by rw [(has_0 cr i (by omega)).mp e] at hb; cases hb), if_neg (show ¬ crs i ≤ 0 from fun e => by rw [(crs_pos hP (by omega)).mp e] at hb; cases hb)]
      by_cases hc : c = j
      · rw [if_pos hc, if_pos hc]; exact Or.inr ⟨i, by omega, hb, rfl, rfl⟩
      · rw [if_neg hc, if_neg hc]; exact ih (i + 1) f (c + 1) (by omega) (by omega)
theorem at_eq {n : Nat} (hn : n ≤ 8) {cr : Int32} {ro rch crs mrc : Nat → Int32} (hP : PL n cr ro rch crs mrc) (j : Int32) :
    (fX1_crashingAt cr j = some (-2) ∧ fX6_foundCrash (nI n) crs j = some (-1)) ∨ ∃ p, p < n ∧ bt cr p = true ∧ fX1_crashingAt cr j = some (nI p) ∧ fX6_foundCrash (nI n) crs j = some (nI p) := by
  have h := at_pair hn hP j n 0 1000 0 (by omega) (by omega)
  rw [nI_0] at h
  unfold fX1_crashingAt fX6_foundCrash
  generalize fX1_crashingAt_L4 = F at h ⊢
  generalize fX6_foundCrash_L4 = G at h ⊢
  exact h
theorem found_L {n : Nat} (hn : n ≤ 8) {cr : Int32} {ro rch crs mrc : Nat → Int32} (hP : PL n cr ro rch crs mrc) (k : Int32 → Option Int32) :
    ∀ (m i fuel : Nat), i + m = n → m < fuel → fX6_found_L67 (nI n) crs k fuel (nI (cp (fun p => bt cr p) i)) (nI i) = k (nI (cp (fun p => bt cr p) n)) := by
  intro m
  induction m with
  | zero =>
    intro i fuel hi hf
    obtain ⟨f, rfl⟩ : ∃ f, fuel = f + 1 := ⟨fuel - 1, by omega⟩
    obtain rfl : i = n := by omega
    rw [fX6_found_L67, if_pos ((leN hn hn).mpr (Nat.le_refl _))]
  | succ m ih =>
    intro i fuel hi hf
    obtain ⟨f, rfl⟩ : ∃ f, fuel = f + 1 := ⟨fuel - 1, by omega⟩
    have h := ih (i + 1) f (by omega) (by omega)
    rw [fX6_found_L67, if_neg (fun e => absurd ((leN hn (by omega)).mp e) (by omega)), if_pos (inb8 (by omega)), cl8 (by omega), nI_1]
    rw [cp] at h
    cases hc : bt cr i
    · rw [hc] at h
      rw [if_pos ((crs_pos hP (by omega)).mpr hc)]
      have e : nI (cp (fun p => bt cr p) i) + 0 = nI (cp (fun p => bt cr p) i + 0) := by rw [Nat.add_zero]; simp
      rw [e]
      exact h
    · rw [hc] at h
      rw [if_neg (fun q => by rw [(crs_pos hP (by omega)).mp q] at hc; cases hc), nI_1]
      exact h
theorem isP_nI {n i : Nat} (hn : n ≤ 8) (hi : i < n) : ¬ fX2_isProcess (nI n) (nI i) = 0 := by
  unfold fX2_isProcess
  rw [if_neg (nI_pos (by omega)), if_neg (fun q => absurd ((leN hn (by omega)).mp q) (by omega))]; decide
theorem isP_m2 {n : Nat} : fX2_isProcess (nI n) (-2) = 0 := by
  unfold fX2_isProcess; rw [if_pos (by decide)]
theorem s_found {n t : Nat} (hn : n ≤ 8) {bf tcr : Int32} {tinp tro trch finp fcrs frch : Nat → Int32} (h : GF n t bf tcr tinp tro trch finp fcrs frch) (w j : Int32) : ∃ r, fX5_found (nI n) bf tinp tcr tro trch w j = some r ∧ fX6_found (nI n) bf finp fcrs frch w j = some r := by
  unfold fX5_found fX6_found
  by_cases hb : bf = 0
  · rw [if_pos hb, if_pos hb]; exact ⟨_, rfl, rfl⟩
  · rw [if_neg hb, if_neg hb]
    obtain ⟨hI, hin, hP, hc⟩ := h.resolve_left hb
    have h67 := found_L hn hP (fun x4_67 => some x4_67) n 0 1000 (by omega) (by omega)
    rw [cp, nI_0] at h67
    have hsz : fX1_size tcr = nI (cp (fun p => bt tcr p) n) := by rw [← cnt_n hn hP.1]; exact bc_eq (PL_lo8 hn hP)
    have hfc : ∀ w, ∃ a1, fX6_foundCrash (nI n) fcrs j = some a1 ∧ ((a1 = -1 ∧ fX5_foundCrash (nI n) tcr tro trch w j = some (-1)) ∨ ∃ p, p < n ∧ bt tcr p = true ∧ a1 = nI p ∧ fX5_foundCrash (nI n) tcr tro trch w j = some (if w = 2 then nI p else if w = 3 then tro p else trch p)) := by
      intro w
      unfold fX5_foundCrash
      rcases at_eq hn hP j with ⟨e1, e2⟩ | ⟨p, hp, hbp, e1, e2⟩
      · rw [e1, e2, Option.bind_some, if_pos isP_m2]; exact ⟨_, rfl, Or.inl ⟨rfl, rfl⟩⟩
      · rw [e1, e2, Option.bind_some, if_neg (isP_nI hn hp), if_pos (inb8 (by omega)), if_pos (inb8 (by omega)), cl8 (by omega)]
        refine ⟨_, rfl, Or.inr ⟨p, hp, hbp, rfl, ?_⟩⟩
        by_cases c2 : w = 2
        · rw [if_pos c2, if_pos c2]
        · rw [if_neg c2, if_neg c2]
          by_cases c3 : w = 3
          · rw [if_pos c3, if_pos c3]
          · rw [if_neg c3, if_neg c3]
    obtain ⟨a1, ha1, hcase⟩ := hfc w
    rw [ha1, Option.bind_some]
    by_cases c0 : w = 0
    · rw [if_pos c0, if_pos c0]; exact ⟨_, rfl, rfl⟩
    · rw [if_neg c0, if_neg c0]
      by_cases c1 : w = 1
      · rw [if_pos c1, if_pos c1, hsz]
        generalize fX6_found_L67 = F at h67 ⊢
        rw [h67]; exact ⟨_, rfl, rfl⟩
      · rw [if_neg c1, if_neg c1]
        by_cases c2 : w = 2
        · rw [if_pos c2, if_pos c2]
          rcases hcase with ⟨e1, e2⟩ | ⟨p, hp, hbp, e1, e2⟩
          · rw [e2, Option.bind_some, e1]; exact ⟨_, rfl, rfl⟩
          · rw [e2, Option.bind_some, e1, if_pos c2]; exact ⟨_, rfl, rfl⟩
        · rw [if_neg c2, if_neg c2]
          by_cases c3 : w = 3
          · rw [if_pos c3, if_pos c3]
            rcases hcase with ⟨e1, e2⟩ | ⟨p, hp, hbp, e1, e2⟩
            · rw [e2, Option.bind_some, e1, if_neg (by decide)]; exact ⟨_, rfl, rfl⟩
            · rw [e2, Option.bind_some, e1, if_neg c2, if_pos c3, if_pos (nI_pos' (by omega)), if_pos (inb8 (by omega)), cl8 (by omega), (hP.2.1 p hp hbp).2.1]; exact ⟨_, rfl, rfl⟩
          · rw [if_neg c3, if_neg c3]
            by_cases c4 : w = 4
            · rw [if_pos c4, if_pos c4]
              rcases hcase with ⟨e1, e2⟩ | ⟨p, hp, hbp, e1, e2⟩
              · rw [e2, Option.bind_some, e1, if_neg (by decide)]; exact ⟨_, rfl, rfl⟩
              · rw [e2, Option.bind_some, e1, if_neg c2, if_neg c3, if_pos (nI_pos' (by omega)), if_pos (inb8 (by omega)), cl8 (by omega), (hP.2.1 p hp hbp).2.2.1]; exact ⟨_, rfl, rfl⟩
            · rw [if_neg c4, if_neg c4]
              by_cases c5 : w = 5
              · rw [if_pos c5, if_pos c5, isP_eq]
                rcases isP_cases hn j with hp | ⟨hp, i, hi, rfl⟩
                · rw [if_pos hp, if_pos hp]; exact ⟨_, rfl, rfl⟩
                · have hp0 : ¬ fX2_isProcess (nI n) (nI i) = 0 := by rw [hp]; decide
                  rw [if_neg hp0, if_neg hp0, if_pos (inb8 (by omega)), if_pos (inb8 (by omega)), cl8 (by omega), hin i (by omega)]; exact ⟨_, rfl, rfl⟩
              · rw [if_neg c5, if_neg c5]; exact ⟨_, rfl, rfl⟩
theorem cpy_pf (f g : Nat → Int32) : va_cpy f g (0 : Int32).toNatClampNeg (0 : Int32).toNatClampNeg (8 : Int32).toNatClampNeg = pf 8 f g := by
  funext j
  show (if 0 ≤ j ∧ j < 0 + 8 then f (0 + (j - 0)) else g j) = (if j < 8 then f j else g j)
  by_cases h : j < 8
  · rw [if_pos ⟨by omega, by omega⟩, if_pos h, Nat.zero_add, Nat.sub_zero]
  · rw [if_neg (fun q => h (by omega)), if_neg h]
theorem mreplay_L (finp fcrs frch crs inp mrc : Nat → Int32) (k : (Nat → Int32) → (Nat → Int32) → (Nat → Int32) → Option (Int32 × Int32 × Int32 × Int32 × Int32 × (Nat → Int32) × (Nat → Int32) × (Nat → Int32) × (Nat → Int32) × (Nat → Int32) × (Nat → Int32) × (Nat → Int32))) :
    ∀ (m i fuel : Nat), i + m = 8 → m < fuel → fX6_replay_L11 finp fcrs frch k fuel (nI i) (pf i fcrs crs) (pf i finp inp) (pf i frch mrc) = k (pf 8 fcrs crs) (pf 8 finp inp) (pf 8 frch mrc) := by
  intro m
  induction m with
  | zero =>
    intro i fuel hi hf
    obtain ⟨f, rfl⟩ : ∃ f, fuel = f + 1 := ⟨fuel - 1, by omega⟩
    obtain rfl : i = 8 := by omega
    rw [fX6_replay_L11, if_pos ((le8 (by omega)).mpr (by omega))]
  | succ m ih =>
    intro i fuel hi hf
    obtain ⟨f, rfl⟩ : ∃ f, fuel = f + 1 := ⟨fuel - 1, by omega⟩
    have h := ih (i + 1) f (by omega) (by omega)
    rw [fX6_replay_L11, if_neg (fun e => absurd ((le8 (by omega)).mp e) (by omega)), if_pos (inb8 (by omega)), cl8 (by omega), nI_1, pf_s, pf_s, pf_s]
    exact h
theorem s_replay {al : Int32} {n t RR : Nat} (hn : n ≤ 8) {inp ro rch kn he di df crs mrc km hm dm im : Nat → Int32} {cr made letters up mkd bf tcr : Int32} {tinp tro trch finp fcrs frch : Nat → Int32} (h : GC al n t RR inp cr ro rch kn he di df made letters up mkd crs mrc km hm dm im) (hF : GF n t bf tcr tinp tro trch finp fcrs frch) :
    ∃ (r made' letters' up' mkd' cr' : Int32) (inp' ro' rch' kn' he' di' df' crs' mrc' km' hm' dm' im' : Nat → Int32), fX5_replay (nI n) made letters up mkd inp cr ro rch kn he di df bf tinp tcr tro trch = some (r, made', letters', up', mkd', inp', cr', ro', rch', kn', he', di', df') ∧ fX6_replay al (nI n) made letters up mkd bf inp crs mrc km hm dm im finp fcrs frch = some (r, made', letters', up', mkd', inp', crs', mrc', km', hm', dm', im') ∧ GC al n t RR inp' cr' ro' rch' kn' he' di' df' made' letters' up' mkd' crs' mrc' km' hm' dm' im' := by
  unfold fX5_replay fX6_replay
  by_cases hb : bf = 0
  · rw [if_pos hb, if_pos hb]; exact ⟨_, _, _, _, _, _, _, _, _, _, _, _, _, _, _, _, _, _, _, rfl, rfl, h⟩
  · rw [if_neg hb, if_neg hb]
    obtain ⟨hI, hin, hP, hc⟩ := hF.resolve_left hb
    have h2 := mreplay_L finp fcrs frch crs inp mrc (fun v_crashes_11 v_inputs_11 v_reaches_11 => (Option.bind (fX6_begin al (nI n) v_inputs_11 km hm dm im) (fun a2 => some (bf, a2.1, a2.2.1, a2.2.2.1, a2.2.2.2.1, v_inputs_11, v_crashes_11, v_reaches_11, a2.2.2.2.2.1, a2.2.2.2.2.2.1, a2.2.2.2.2.2.2.1, a2.2.2.2.2.2.2.2)))) 8 0 1000 rfl (by omega)
    rw [pf_0, pf_0, pf_0, nI_0] at h2
    have e1 : pf 8 finp inp = pf 8 tinp inp := by
      funext q; unfold pf
      by_cases hq : q < 8
      · rw [if_pos hq, if_pos hq, hin q hq]
      · rw [if_neg hq, if_neg hq]
    have hI' : IR (pf 8 tinp inp) := fun i hi => by rw [pf_lt _ _ hi]; exact hI i hi
    have hP' : PL n tcr (pf 8 tro ro) (pf 8 trch rch) (pf 8 fcrs crs) (pf 8 frch mrc) := by
      refine ⟨hP.1, fun p hp hbp => ?_, fun p hp hbp => ?_⟩
      · rw [pf_lt _ _ (show p < 8 by omega), pf_lt _ _ (show p < 8 by omega), pf_lt _ _ (show p < 8 by omega), pf_lt _ _ (show p < 8 by omega)]
        exact hP.2.1 p hp hbp
      · rw [pf_lt _ _ (show p < 8 by omega)]
        exact hP.2.2 p hp hbp
    have c1 : fX0_copy inp tinp = pf 8 tinp inp := cpy_pf _ _
    have c2 : fX1_copy ro rch tcr tro trch = (tcr, pf 8 tro ro, pf 8 trch rch) := by unfold fX1_copy; rw [cpy_pf, cpy_pf]
    generalize fX6_replay_L11 = F at h2 ⊢
    rw [h2, mbegin_eq, Option.bind_some, e1, c1, c2, begin_eq]
    exact ⟨_, _, _, _, _, _, _, _, _, _, _, _, _, _, _, _, _, _, _, rfl, rfl, GC_begin hn hI' hP' hc kn he di df km hm dm im⟩
