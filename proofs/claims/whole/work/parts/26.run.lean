/-! ===== own rows: all rounds that are left, both sides ===== -/
theorem leR {a b : Nat} (ha : a ≤ 100) (hb : b ≤ 100) : (nI a ≤ nI b) ↔ a ≤ b := nI_leI (by omega) (by omega)
theorem run_L {alg : Int32} {n RR : Nat} {inp : Nat → Int32} {cr : Int32} {ro rch crs mrc : Nat → Int32} (hI : IR inp) (hn : n ≤ 8) (hn2 : 0 < n) (hRn : RR ≤ n) (hP : PL n cr ro rch crs mrc)
    (k : (Nat → Int32) → (Nat → Int32) → (Nat → Int32) → (Nat → Int32) → (Nat → Int32) → (Nat → Int32) → Int32 → Int32 → Int32 → Int32 → Int32 → Option (Int32 × Int32 × Int32 × Int32 × Int32 × (Nat → Int32) × (Nat → Int32) × (Nat → Int32) × (Nat → Int32) × (Nat → Int32) × (Nat → Int32)))
    (k2 : (Nat → Int32) → (Nat → Int32) → (Nat → Int32) → (Nat → Int32) → (Nat → Int32) → (Nat → Int32) → Int32 → Int32 → Int32 → Int32 → Option (Int32 × Int32 × Int32 × Int32 × Int32 × (Nat → Int32) × (Nat → Int32) × (Nat → Int32) × (Nat → Int32) × (Nat → Int32) × (Nat → Int32))) :
    ∀ (m i fuel : Nat), i + m = RR → m < fuel → ∀ (kn he di df km hm dm im lt rd bf sn : Nat → Int32) (letters up mkd mkl : Int32), RA alg n inp kn he di df km hm dm im → (∀ j, n ≤ j → bt up j = false) →
      ∃ (kn' he' di' df' km' hm' dm' im' lt' rd' bf' sn' : Nat → Int32) (letters' up' mkd' mkl' : Int32), RA alg n inp kn' he' di' df' km' hm' dm' im' ∧ (∀ j, n ≤ j → bt up' j = false) ∧
        fX3_makeAllRounds_L5 alg (nI n) (nI RR) cr ro rch k fuel (nI i) df di he kn lt rd (nI i) letters up mkd mkl = k df' di' he' kn' lt' rd' (nI RR) letters' up' mkd' mkl' ∧
        fX6_run_L0 alg (nI n) (nI RR) inp crs mrc k2 fuel bf dm im hm km sn (nI i) letters up mkd = k2 bf' dm' im' hm' km' sn' (nI RR) letters' up' mkd' := by
  intro m
  induction m with
  | zero =>
    intro i fuel hi hf kn he di df km hm dm im lt rd bf sn letters up mkd mkl hA hu
    obtain ⟨f, rfl⟩ : ∃ f, fuel = f + 1 := ⟨fuel - 1, by omega⟩
    obtain rfl : i = RR := by omega
    refine ⟨kn, he, di, df, km, hm, dm, im, lt, rd, bf, sn, letters, up, mkd, mkl, hA, hu, ?_, ?_⟩
    · rw [fX3_makeAllRounds_L5, if_pos ((leR (by omega) (by omega)).mpr (Nat.le_refl _))]
    · rw [fX6_run_L0, if_pos ((leR (by omega) (by omega)).mpr (Nat.le_refl _))]
  | succ m ih =>
    intro i fuel hi hf kn he di df km hm dm im lt rd bf sn letters up mkd mkl hA hu
    obtain ⟨f, rfl⟩ : ∃ f, fuel = f + 1 := ⟨fuel - 1, by omega⟩
    obtain ⟨kn1, he1, di1, df1, km1, hm1, dm1, im1, lt1, rd1, bf1, sn1, l1, up1, mk1, hA1, hu1, c1, c2⟩ := round_pair (mkd := mkd) (letters := letters) (lt0 := lt) (rd0 := rd) (bf0 := bf) (sn0 := sn) hI hn hn2 (by omega : i < RR) hRn hP hu hA
    obtain ⟨kn2, he2, di2, df2, km2, hm2, dm2, im2, lt2, rd2, bf2, sn2, l2, up2, mk2, ml2, hA2, hu2, d1, d2⟩ := ih (i + 1) f (by omega) (by omega) kn1 he1 di1 df1 km1 hm1 dm1 im1 lt1 rd1 bf1 sn1 l1 up1 mk1 mkd hA1 hu1
    refine ⟨kn2, he2, di2, df2, km2, hm2, dm2, im2, lt2, rd2, bf2, sn2, l2, up2, mk2, ml2, hA2, hu2, ?_, ?_⟩
    · rw [fX3_makeAllRounds_L5, if_neg (fun e => absurd ((leR (by omega) (by omega)).mp e) (by omega)), c1, Option.bind_some, nI_1]
      exact d1
    · rw [fX6_run_L0, if_neg (fun e => absurd ((leR (by omega) (by omega)).mp e) (by omega)), c2, Option.bind_some]
      exact d2
theorem run_pair {alg mkd mkl up letters : Int32} {n i RR : Nat} {inp kn he di df km hm dm im lt rd bf sn : Nat → Int32} {cr : Int32} {ro rch crs mrc : Nat → Int32} (hI : IR inp) (hn : n ≤ 8) (hn2 : 0 < n) (hi : i ≤ RR) (hRn : RR ≤ n)
    (hP : PL n cr ro rch crs mrc) (hup : ∀ j, n ≤ j → bt up j = false) (hA : RA alg n inp kn he di df km hm dm im) :
    ∃ (kn' he' di' df' km' hm' dm' im' lt' rd' bf' sn' : Nat → Int32) (letters' up' mkd' mkl' : Int32), RA alg n inp kn' he' di' df' km' hm' dm' im' ∧ (∀ j, n ≤ j → bt up' j = false) ∧
      fX3_makeAllRounds (nI i) letters up mkd mkl alg (nI n) (nI RR) cr ro rch kn he di df lt rd = some (nI RR, letters', up', mkd', mkl', kn', he', di', df', lt', rd') ∧
      fX6_run alg (nI n) (nI RR) (nI i) letters up mkd inp crs mrc km hm dm im bf sn = some (nI RR, nI RR, letters', up', mkd', km', hm', dm', im', bf', sn') := by
  obtain ⟨kn2, he2, di2, df2, km2, hm2, dm2, im2, lt2, rd2, bf2, sn2, l2, up2, mk2, ml2, hA2, hu2, d1, d2⟩ := run_L hI hn hn2 hRn hP
    (fun v_decidedFrom_5 v_decidedIn_5 v_heardFrom_5 v_known_5 v_letter_5 v_readers_5 v_made_5 v_letters_5 v_up_5 v_marked_5 v_markedLetters_5 => some (v_made_5, v_letters_5, v_up_5, v_marked_5, v_markedLetters_5, v_known_5, v_heardFrom_5, v_decidedIn_5, v_decidedFrom_5, v_letter_5, v_readers_5))
    (fun v_before_0 v_decided_0 v_decidedIn_0 v_heard_0 v_knows_0 v_sent_0 v_made_0 v_letters_0 v_up_0 v_marks_0 => some (nI RR, v_made_0, v_letters_0, v_up_0, v_marks_0, v_knows_0, v_heard_0, v_decided_0, v_decidedIn_0, v_before_0, v_sent_0))
    (RR - i) i 1000 (by omega) (by omega) kn he di df km hm dm im lt rd bf sn letters up mkd mkl hA hup
  refine ⟨kn2, he2, di2, df2, km2, hm2, dm2, im2, lt2, rd2, bf2, sn2, l2, up2, mk2, ml2, hA2, hu2, ?_, ?_⟩
  · unfold fX3_makeAllRounds
    generalize fX3_makeAllRounds_L5 = F at d1 ⊢
    exact d1
  · unfold fX6_run
    generalize fX6_run_L0 = F at d2 ⊢
    exact d2
/-! ===== beginning anew ===== -/
theorem mbegin_L (alg : Int32) (n : Int32) (inp : Nat → Int32) (k : (Nat → Int32) → (Nat → Int32) → (Nat → Int32) → (Nat → Int32) → Option (Int32 × Int32 × Int32 × Int32 × (Nat → Int32) × (Nat → Int32) × (Nat → Int32) × (Nat → Int32))) (dm im hm km : Nat → Int32) (g : Nat → Int32) (hg : ∀ p, g p = if alg = 0 then (1 : Int32) <<< (inp p &&& 31) else if alg = 4 ∨ alg = 5 then (1 : Int32) <<< (nI p &&& 31) else inp p) :
    ∀ (m i fuel : Nat), i + m = 8 → m < fuel → fX6_begin_L25 alg n inp k fuel (nI i) (pf i (fun _ => -2) dm) (pf i (fun _ => 0) im) (pf i (fun _ => n) hm) (pf i g km) = k (pf 8 (fun _ => -2) dm) (pf 8 (fun _ => 0) im) (pf 8 (fun _ => n) hm) (pf 8 g km) := by
  intro m
  induction m with
  | zero =>
    intro i fuel hi hf
    obtain ⟨f, rfl⟩ : ∃ f, fuel = f + 1 := ⟨fuel - 1, by omega⟩
    obtain rfl : i = 8 := by omega
    rw [fX6_begin_L25, if_pos ((le8 (by omega)).mpr (by omega))]
  | succ m ih =>
    intro i fuel hi hf
    obtain ⟨f, rfl⟩ : ∃ f, fuel = f + 1 := ⟨fuel - 1, by omega⟩
    have h := ih (i + 1) f (by omega) (by omega)
    rw [fX6_begin_L25, if_neg (fun e => absurd ((le8 (by omega)).mp e) (by omega)), if_pos (inb8 (by omega)), cl8 (by omega), nI_1, pf_s' (g := fun _ => -2) rfl, pf_s' (g := fun _ => 0) rfl, pf_s' (g := fun _ => n) rfl]
    have hgi := hg i
    by_cases h0 : alg = 0
    · rw [if_pos h0] at hgi
      rw [if_pos h0, pf_s' hgi.symm]
      exact h
    · rw [if_neg h0] at hgi
      rw [if_neg h0]
      by_cases h4 : alg = 4
      · rw [if_pos (Or.inl h4)] at hgi
        rw [if_pos h4, if_pos (inb8 (by omega)), pf_s' hgi.symm]
        exact h
      · rw [if_neg h4]
        by_cases h5 : alg = 5
        · rw [if_pos (Or.inr h5)] at hgi
          rw [if_pos h5, if_pos (inb8 (by omega)), pf_s' hgi.symm]
          exact h
        · rw [if_neg (fun q => q.elim h4 h5)] at hgi
          rw [if_neg h5, if_pos (inb8 (by omega)), pf_s' hgi.symm]
          exact h
def kn0 (alg : Int32) (inp : Nat → Int32) (p : Nat) : Int32 := if alg = 0 then (1 : Int32) <<< (inp p &&& 31) else if alg = 4 ∨ alg = 5 then (1 : Int32) <<< (nI p &&& 31) else inp p
theorem mbegin_eq (alg n : Int32) (inp km hm dm im : Nat → Int32) : fX6_begin alg n inp km hm dm im = some (0, 0, fX6_all n, 0, pf 8 (kn0 alg inp) km, pf 8 (fun _ => n) hm, pf 8 (fun _ => -2) dm, pf 8 (fun _ => 0) im) := by
  unfold fX6_begin
  have h := mbegin_L alg n inp (fun v_decided_25 v_decidedIn_25 v_heard_25 v_knows_25 => some ((0 : Int32), (0 : Int32), (fX6_all n), (0 : Int32), v_knows_25, v_heard_25, v_decided_25, v_decidedIn_25)) dm im hm km (kn0 alg inp) (fun _ => rfl) 8 0 1000 rfl (by omega)
  rw [pf_0, pf_0, pf_0, pf_0, nI_0] at h
  generalize fX6_begin_L25 = F at h ⊢
  exact h
theorem lst_one {inp : Nat → Int32} (hI : IR inp) {p : Nat} (hp : p < 8) : lst inp ((1 : Int32) <<< (nI p &&& 31)) 8 = inp p := by
  obtain ⟨i, w, h1, h2, h3, h4, h5⟩ := lst_mem hI (s := (1 : Int32) <<< (nI p &&& 31)) hp (by rw [b_one p (by omega) (by omega)]; simp)
  rw [b_one p (by omega) (by omega), decide_eq_true_eq] at h2
  rw [h5, ← h4, h2]
theorem asb_one {inp : Nat → Int32} (hI : IR inp) {p : Nat} (hp : p < 8) : asb inp ((1 : Int32) <<< (nI p &&& 31)) 8 = (1 : Int32) <<< (inp p &&& 31) := by
  obtain ⟨w, hw, e⟩ := hI p hp
  apply b_ext
  intro v hv
  rw [e, b_one w (by omega) hv]
  have h := asb_bt hI ((1 : Int32) <<< (nI p &&& 31)) hv 8 (by omega)
  by_cases ev : v = w
  · rw [decide_eq_true ev]
    exact h.mpr ⟨p, hp, by rw [b_one p (by omega) (by omega)]; simp, by rw [ev]; exact e⟩
  · rw [decide_eq_false ev]
    cases hb : bt (asb inp ((1 : Int32) <<< (nI p &&& 31)) 8) v
    · rfl
    · obtain ⟨i, a, b, c⟩ := h.mp hb
      rw [b_one p (by omega) (by omega), decide_eq_true_eq] at b
      rw [b, e] at c
      exact absurd ((nI_eq (by omega) (by omega)).mp c).symm ev
/-- where a run begins, both sides -/
theorem begin_RA {alg : Int32} {n : Nat} {inp : Nat → Int32} (hI : IR inp) (hn : n ≤ 8) (kn he di df km hm dm im : Nat → Int32) :
    RA alg n inp (pf 8 (fun p => (1 : Int32) <<< (nI p &&& 31)) kn) (pf 8 (fun _ => nI n) he) (pf 8 (fun _ => 0) di) (pf 8 (fun _ => 0) df) (pf 8 (kn0 alg inp) km) (pf 8 (fun _ => nI n) hm) (pf 8 (fun _ => -2) dm) (pf 8 (fun _ => 0) im) := by
  intro p hp
  have hp8 : p < 8 := by omega
  rw [pf_lt _ _ hp8, pf_lt _ _ hp8, pf_lt _ _ hp8, pf_lt _ _ hp8, pf_lt _ _ hp8, pf_lt _ _ hp8, pf_lt _ _ hp8, pf_lt _ _ hp8]
  refine ⟨⟨fun i hi => ?_, p, hp, by rw [b_one p (by omega) (by omega)]; simp⟩, ?_, rfl, ⟨rfl, 0, by omega, rfl⟩, fun _ => rfl, fun h => absurd rfl h⟩
  · rcases Nat.lt_or_ge i 32 with h | h
    · rw [b_one p (by omega) h, decide_eq_false (by omega)]
    · exact b_big h
  · unfold kn0 valK
    by_cases h0 : alg = 0
    · rw [if_pos h0, if_pos h0, asb_one hI hp8]
    · rw [if_neg h0, if_neg h0]
      by_cases h45 : alg = 4 ∨ alg = 5
      · rw [if_pos h45, if_pos h45]
      · rw [if_neg h45, if_neg h45, lst_one hI hp8]
