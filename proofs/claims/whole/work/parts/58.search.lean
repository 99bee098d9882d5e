/-! ===== own rows: search, both sides (printed by wip/whole/src/gen58.py) ===== -/
def KP (inp crs mrc km hm dm im : (Nat → Int32)) (i : Nat) (a : (Nat → Int32)) : Prop := ∀ p, p < i → a (p) = inp p ∧ a (8 + p) = crs p ∧ a (16 + p) = mrc p ∧ a (24 + p) = km p ∧ a (32 + p) = hm p ∧ a (40 + p) = dm p ∧ a (48 + p) = im p
theorem ix_all : ∀ i, i < 8 → inb (nI i) 60 = true ∧ inb ((8 : Int32) + nI i) 60 = true ∧ inb ((16 : Int32) + nI i) 60 = true ∧ inb ((24 : Int32) + nI i) 60 = true ∧ inb ((32 : Int32) + nI i) 60 = true ∧ inb ((40 : Int32) + nI i) 60 = true ∧ inb ((48 : Int32) + nI i) 60 = true ∧ ((8 : Int32) + nI i).toNatClampNeg = 8 + i ∧ ((16 : Int32) + nI i).toNatClampNeg = 16 + i ∧ ((24 : Int32) + nI i).toNatClampNeg = 24 + i ∧ ((32 : Int32) + nI i).toNatClampNeg = 32 + i ∧ ((40 : Int32) + nI i).toNatClampNeg = 40 + i ∧ ((48 : Int32) + nI i).toNatClampNeg = 48 + i := by decide +kernel
theorem KP_s {inp crs mrc km hm dm im a : (Nat → Int32)} {i : Nat} (hi : i < 8) (h : KP inp crs mrc km hm dm im i a) : KP inp crs mrc km hm dm im (i + 1) (upd (upd (upd (upd (upd (upd (upd a i (inp i)) (8 + i) (crs i)) (16 + i) (mrc i)) (24 + i) (km i)) (32 + i) (hm i)) (40 + i) (dm i)) (48 + i) (im i)) := by
  intro p hp
  by_cases e : p = i
  · subst e
    refine ⟨?_, ?_, ?_, ?_, ?_, ?_, ?_⟩
    · rw [upd_ne _ _ (by omega), upd_ne _ _ (by omega), upd_ne _ _ (by omega), upd_ne _ _ (by omega), upd_ne _ _ (by omega), upd_ne _ _ (by omega), upd_same]
    · rw [upd_ne _ _ (by omega), upd_ne _ _ (by omega), upd_ne _ _ (by omega), upd_ne _ _ (by omega), upd_ne _ _ (by omega), upd_same]
    · rw [upd_ne _ _ (by omega), upd_ne _ _ (by omega), upd_ne _ _ (by omega), upd_ne _ _ (by omega), upd_same]
    · rw [upd_ne _ _ (by omega), upd_ne _ _ (by omega), upd_ne _ _ (by omega), upd_same]
    · rw [upd_ne _ _ (by omega), upd_ne _ _ (by omega), upd_same]
    · rw [upd_ne _ _ (by omega), upd_same]
    · rw [upd_same]
  · obtain ⟨q1, q2, q3, q4, q5, q6, q7⟩ := h p (by omega)
    refine ⟨?_, ?_, ?_, ?_, ?_, ?_, ?_⟩
    · rw [upd_ne _ _ (by omega), upd_ne _ _ (by omega), upd_ne _ _ (by omega), upd_ne _ _ (by omega), upd_ne _ _ (by omega), upd_ne _ _ (by omega), upd_ne _ _ (by omega)]; exact q1
    · rw [upd_ne _ _ (by omega), upd_ne _ _ (by omega), upd_ne _ _ (by omega), upd_ne _ _ (by omega), upd_ne _ _ (by omega), upd_ne _ _ (by omega), upd_ne _ _ (by omega)]; exact q2
    · rw [upd_ne _ _ (by omega), upd_ne _ _ (by omega), upd_ne _ _ (by omega), upd_ne _ _ (by omega), upd_ne _ _ (by omega), upd_ne _ _ (by omega), upd_ne _ _ (by omega)]; exact q3
    · rw [upd_ne _ _ (by omega), upd_ne _ _ (by omega), upd_ne _ _ (by omega), upd_ne _ _ (by omega), upd_ne _ _ (by omega), upd_ne _ _ (by omega), upd_ne _ _ (by omega)]; exact q4
    · rw [upd_ne _ _ (by omega), upd_ne _ _ (by omega), upd_ne _ _ (by omega), upd_ne _ _ (by omega), upd_ne _ _ (by omega), upd_ne _ _ (by omega), upd_ne _ _ (by omega)]; exact q5
    · rw [upd_ne _ _ (by omega), upd_ne _ _ (by omega), upd_ne _ _ (by omega), upd_ne _ _ (by omega), upd_ne _ _ (by omega), upd_ne _ _ (by omega), upd_ne _ _ (by omega)]; exact q6
    · rw [upd_ne _ _ (by omega), upd_ne _ _ (by omega), upd_ne _ _ (by omega), upd_ne _ _ (by omega), upd_ne _ _ (by omega), upd_ne _ _ (by omega), upd_ne _ _ (by omega)]; exact q7
theorem keep_L (inp crs mrc km hm dm im : (Nat → Int32)) (k : (Nat → Int32) → Option (Nat → Int32)) :
    ∀ (m i fuel : Nat) (a : (Nat → Int32)), i + m = 8 → m < fuel → KP inp crs mrc km hm dm im i a → ∃ a', KP inp crs mrc km hm dm im 8 a' ∧ fX6_keep_L2 inp crs mrc km hm dm im k fuel (nI i) a = k a' := by
  intro m
  induction m with
  | zero =>
    intro i fuel a hi hf h
    obtain ⟨f, rfl⟩ : ∃ f, fuel = f + 1 := ⟨fuel - 1, by omega⟩
    obtain rfl : i = 8 := by omega
    refine ⟨a, h, ?_⟩
    rw [fX6_keep_L2, if_pos ((le8 (by omega)).mpr (by omega))]
  | succ m ih =>
    intro i fuel a hi hf h
    obtain ⟨f, rfl⟩ : ∃ f, fuel = f + 1 := ⟨fuel - 1, by omega⟩
    obtain ⟨x0, x1, x2, x3, x4, x5, x6, y1, y2, y3, y4, y5, y6⟩ := ix_all i (by omega)
    obtain ⟨a', h1, h2⟩ := ih (i + 1) f _ (by omega) (by omega) (KP_s (by omega) h)
    refine ⟨a', h1, ?_⟩
    rw [fX6_keep_L2, if_neg (fun e => absurd ((le8 (by omega)).mp e) (by omega)), if_pos (inb8 (by omega)), if_pos x0, if_pos x1, if_pos x2, if_pos x3, if_pos x4, if_pos x5, if_pos x6, cl8 (by omega), y1, y2, y3, y4, y5, y6, nI_1]
    exact h2
theorem keep_eq (made letters up mk_ : Int32) (inp crs mrc km hm dm im a : (Nat → Int32)) : ∃ a', KP inp crs mrc km hm dm im 8 a' ∧ a' 56 = made ∧ a' 57 = letters ∧ a' 58 = up ∧ a' 59 = mk_ ∧ fX6_keep made letters up mk_ inp crs mrc km hm dm im a = some a' := by
  obtain ⟨a', h1, h2⟩ := keep_L inp crs mrc km hm dm im (fun v_aside_2 => some (upd (upd (upd (upd v_aside_2 (56 : Int32).toNatClampNeg made) (57 : Int32).toNatClampNeg letters) (58 : Int32).toNatClampNeg up) (59 : Int32).toNatClampNeg mk_)) 8 0 1000 a (by omega) (by omega) (fun p hp => absurd hp (by omega))
  rw [nI_0] at h2
  refine ⟨upd (upd (upd (upd a' 56 made) 57 letters) 58 up) 59 mk_, ?_, ?_, ?_, ?_, ?_, ?_⟩
  · intro p hp
    obtain ⟨q1, q2, q3, q4, q5, q6, q7⟩ := h1 p hp
    refine ⟨?_, ?_, ?_, ?_, ?_, ?_, ?_⟩
    all_goals rw [upd_ne _ _ (by omega), upd_ne _ _ (by omega), upd_ne _ _ (by omega), upd_ne _ _ (by omega)]; assumption
  · rw [upd_ne _ _ (by omega), upd_ne _ _ (by omega), upd_ne _ _ (by omega), upd_same]
  · rw [upd_ne _ _ (by omega), upd_ne _ _ (by omega), upd_same]
  · rw [upd_ne _ _ (by omega), upd_same]
  · rw [upd_same]
  · unfold fX6_keep
    generalize fX6_keep_L2 = F at h2 ⊢
    exact h2
theorem back_L (a crs dm im hm inp km mrc : (Nat → Int32)) (k : (Nat → Int32) → (Nat → Int32) → (Nat → Int32) → (Nat → Int32) → (Nat → Int32) → (Nat → Int32) → (Nat → Int32) → Option (Int32 × Int32 × Int32 × Int32 × (Nat → Int32) × (Nat → Int32) × (Nat → Int32) × (Nat → Int32) × (Nat → Int32) × (Nat → Int32) × (Nat → Int32))) :
    ∀ (m i fuel : Nat), i + m = 8 → m < fuel → fX6_takeBack_L2 a k fuel (nI i) (pf i (fun p => a (8 + p)) crs) (pf i (fun p => a (40 + p)) dm) (pf i (fun p => a (48 + p)) im) (pf i (fun p => a (32 + p)) hm) (pf i (fun p => a (p)) inp) (pf i (fun p => a (24 + p)) km) (pf i (fun p => a (16 + p)) mrc) = k (pf 8 (fun p => a (8 + p)) crs) (pf 8 (fun p => a (40 + p)) dm) (pf 8 (fun p => a (48 + p)) im) (pf 8 (fun p => a (32 + p)) hm) (pf 8 (fun p => a (p)) inp) (pf 8 (fun p => a (24 + p)) km) (pf 8 (fun p => a (16 + p)) mrc) := by
  intro m
  induction m with
  | zero =>
    intro i fuel hi hf
    obtain ⟨f, rfl⟩ : ∃ f, fuel = f + 1 := ⟨fuel - 1, by omega⟩
    obtain rfl : i = 8 := by omega
    rw [fX6_takeBack_L2, if_pos ((le8 (by omega)).mpr (by omega))]
  | succ m ih =>
    intro i fuel hi hf
    obtain ⟨f, rfl⟩ : ∃ f, fuel = f + 1 := ⟨fuel - 1, by omega⟩
    obtain ⟨x0, x1, x2, x3, x4, x5, x6, y1, y2, y3, y4, y5, y6⟩ := ix_all i (by omega)
    rw [fX6_takeBack_L2, if_neg (fun e => absurd ((le8 (by omega)).mp e) (by omega)), if_pos x0, if_pos (inb8 (by omega)), if_pos x1, if_pos x2, if_pos x3, if_pos x4, if_pos x5, if_pos x6, cl8 (by omega), y1, y2, y3, y4, y5, y6, pf_s' rfl, pf_s' rfl, pf_s' rfl, pf_s' rfl, pf_s' rfl, pf_s' rfl, pf_s' rfl, nI_1]
    exact ih (i + 1) f (by omega) (by omega)
theorem back_eq (inp crs mrc km hm dm im a : (Nat → Int32)) : fX6_takeBack inp crs mrc km hm dm im a = some (a 56, a 57, a 58, a 59, (pf 8 (fun p => a (p)) inp), (pf 8 (fun p => a (8 + p)) crs), (pf 8 (fun p => a (16 + p)) mrc), (pf 8 (fun p => a (24 + p)) km), (pf 8 (fun p => a (32 + p)) hm), (pf 8 (fun p => a (40 + p)) dm), (pf 8 (fun p => a (48 + p)) im)) := by
  have h := back_L a crs dm im hm inp km mrc (fun v_crashes_2 v_decided_2 v_decidedIn_2 v_heard_2 v_inputs_2 v_knows_2 v_reaches_2 => some ((a (56 : Int32).toNatClampNeg), (a (57 : Int32).toNatClampNeg), (a (58 : Int32).toNatClampNeg), (a (59 : Int32).toNatClampNeg), v_inputs_2, v_crashes_2, v_reaches_2, v_knows_2, v_heard_2, v_decided_2, v_decidedIn_2)) 8 0 1000 (by omega) (by omega)
  rw [pf_0, pf_0, pf_0, pf_0, pf_0, pf_0, pf_0, nI_0] at h
  unfold fX6_takeBack
  generalize fX6_takeBack_L2 = F at h ⊢
  exact h
theorem fnd_L (inp crs mrc fcrs finp frch : (Nat → Int32)) (k : (Nat → Int32) → (Nat → Int32) → (Nat → Int32) → Option (Int32 × Int32 × Int32 × Int32 × Int32 × Int32 × (Nat → Int32) × (Nat → Int32) × (Nat → Int32) × (Nat → Int32) × (Nat → Int32) × (Nat → Int32) × (Nat → Int32) × (Nat → Int32) × (Nat → Int32) × (Nat → Int32) × (Nat → Int32) × (Nat → Int32) × (Nat → Int32))) :
    ∀ (m i fuel : Nat), i + m = 8 → m < fuel → fX6_search_L101 inp crs mrc k fuel (nI i) (pf i crs fcrs) (pf i inp finp) (pf i mrc frch) = k (pf 8 crs fcrs) (pf 8 inp finp) (pf 8 mrc frch) := by
  intro m
  induction m with
  | zero =>
    intro i fuel hi hf
    obtain ⟨f, rfl⟩ : ∃ f, fuel = f + 1 := ⟨fuel - 1, by omega⟩
    obtain rfl : i = 8 := by omega
    rw [fX6_search_L101, if_pos ((le8 (by omega)).mpr (by omega))]
  | succ m ih =>
    intro i fuel hi hf
    obtain ⟨f, rfl⟩ : ∃ f, fuel = f + 1 := ⟨fuel - 1, by omega⟩
    rw [fX6_search_L101, if_neg (fun e => absurd ((le8 (by omega)).mp e) (by omega)), if_pos (inb8 (by omega)), cl8 (by omega), pf_s, pf_s, pf_s, nI_1]
    exact ih (i + 1) f (by omega) (by omega)
theorem fin_eq (A2 finp fcrs frch : (Nat → Int32)) (bf crs dm im hm inp km mrc sn : (Nat → Int32)) (b : Int32) :
    fX6_search_L101 inp crs mrc (fun v_foundCrashes_101 v_foundInputs_101 v_foundReaches_101 => (Option.bind (fX6_takeBack inp crs mrc km hm dm im A2) (fun a6 => some (b, a6.1, a6.2.1, a6.2.2.1, a6.2.2.2.1, b, a6.2.2.2.2.1, a6.2.2.2.2.2.1, a6.2.2.2.2.2.2.1, a6.2.2.2.2.2.2.2.1, a6.2.2.2.2.2.2.2.2.1, a6.2.2.2.2.2.2.2.2.2.1, a6.2.2.2.2.2.2.2.2.2.2, bf, sn, A2, v_foundInputs_101, v_foundCrashes_101, v_foundReaches_101)))) 1000 (0 : Int32) fcrs finp frch = some (b, A2 56, A2 57, A2 58, A2 59, b, (pf 8 (fun p => A2 (p)) inp), (pf 8 (fun p => A2 (8 + p)) crs), (pf 8 (fun p => A2 (16 + p)) mrc), (pf 8 (fun p => A2 (24 + p)) km), (pf 8 (fun p => A2 (32 + p)) hm), (pf 8 (fun p => A2 (40 + p)) dm), (pf 8 (fun p => A2 (48 + p)) im), bf, sn, A2, pf 8 inp finp, pf 8 crs fcrs, pf 8 mrc frch) := by
  have h := fnd_L inp crs mrc fcrs finp frch (fun v_foundCrashes_101 v_foundInputs_101 v_foundReaches_101 => (Option.bind (fX6_takeBack inp crs mrc km hm dm im A2) (fun a6 => some (b, a6.1, a6.2.1, a6.2.2.1, a6.2.2.2.1, b, a6.2.2.2.2.1, a6.2.2.2.2.2.1, a6.2.2.2.2.2.2.1, a6.2.2.2.2.2.2.2.1, a6.2.2.2.2.2.2.2.2.1, a6.2.2.2.2.2.2.2.2.2.1, a6.2.2.2.2.2.2.2.2.2.2, bf, sn, A2, v_foundInputs_101, v_foundCrashes_101, v_foundReaches_101)))) 8 0 1000 (by omega) (by omega)
  rw [pf_0, pf_0, pf_0, nI_0] at h
  generalize fX6_search_L101 = F at h ⊢
  refine h.trans ?_
  show Option.bind (fX6_takeBack inp crs mrc km hm dm im A2) _ = _
  rw [back_eq, Option.bind_some]
theorem HD_0 {n q : Nat} : HD (fromM n (q + 1) 0) 0 := by
  intro s l' h
  obtain ⟨r, hr⟩ : ∃ r, 2 ^ n = r + 1 := ⟨2 ^ n - 1, by have : 0 < 2 ^ n := Nat.pow_pos (by omega); omega⟩
  rw [fromM, hr, filt, if_pos (show cnt (nI 0) 8 = 0 by decide), List.cons_append] at h
  injection h with h1 _
  rw [← h1]; rfl
theorem fromM_ne {n q : Nat} : ¬ fromM n (q + 1) 0 = [] := by
  intro h
  obtain ⟨r, hr⟩ : ∃ r, 2 ^ n = r + 1 := ⟨2 ^ n - 1, by have : 0 < 2 ^ n := Nat.pow_pos (by omega); omega⟩
  rw [fromM, hr, filt, if_pos (show cnt (nI 0) 8 = 0 by decide), List.cons_append] at h
  cases h
theorem seek_eq {al : Int32} {n t RR d P : Nat} {md : Int32} (hn : n ≤ 8) (hd : d ≤ 3) (hP : fX4_planCount (nI n) (nI t) (nI RR) = some (lN P)) (bf0 m0 l0 u0 k0 o0 : Int32) (ti : (Nat → Int32)) (tro trch kn he di df lt rd : (Nat → Int32)) :
    (fX4_seek bf0 al (nI n) (nI t) md (nI RR) m0 l0 u0 k0 o0 ti tro trch kn he di df lt rd (nI d)) = fX4_seek_L25 (nI d) (lN P) (lN (d ^ n)) al (nI n) md (nI RR) (fun v_breachFound_25 v_tried_made_25 v_tried_letters_25 v_tried_up_25 v_tried_marked_25 v_tried_markedLetters_25 v_tried_decidedFrom_25 v_tried_decidedIn_25 v_tried_heardFrom_25 v_tried_inputs_of_25 v_tried_known_25 v_tried_letter_25 v_tried_plan_crashing_25 v_tried_plan_reaches_25 v_tried_plan_rounds_25 v_tried_readers_25 => some ((0 : Int32), v_breachFound_25, v_tried_made_25, v_tried_letters_25, v_tried_up_25, v_tried_marked_25, v_tried_markedLetters_25, v_tried_inputs_of_25, v_tried_plan_crashing_25, v_tried_plan_rounds_25, v_tried_plan_reaches_25, v_tried_known_25, v_tried_heardFrom_25, v_tried_decidedIn_25, v_tried_decidedFrom_25, v_tried_letter_25, v_tried_readers_25)) 1000000 (lN 0) bf0 m0 l0 u0 k0 o0 df di he ti kn lt 0 (pf 8 (fun _ => 0) trch) (pf 8 (fun _ => 1) tro) rd := by
  unfold fX4_seek
  generalize fX4_seek_L25 = F
  rw [hP, Option.bind_some, ic_eq (by omega) hn, Option.bind_some, pclear_eq, Option.bind_some]
  rfl
theorem s_search {al g md : Int32} {n t RR : Nat} (hn2 : 2 ≤ n) (hn : n ≤ 8) (ht : t ≤ 3) (htn : t < n) (hR1 : 1 ≤ RR) (hRt : RR ≤ t + 1) (hgr : (1 : Int32) ≤ g) (hg : md = if al = 3 then g else 1) (p1 : Int32) (bf0 m0 l0 u0 k0 o0 : Int32) (ti : (Nat → Int32)) (tcr : Int32) (tro trch kn he di df lt rd : (Nat → Int32)) (made letters up mk_ : Int32) (inp crs mrc km hm dm im bf sn asd finp fcrs frch : (Nat → Int32)) (hF : GF n t bf0 tcr ti tro trch finp fcrs frch) :
    ∃ (r b m1 l1 u1 k1 o1 : Int32) (ti1 : (Nat → Int32)) (tcr1 : Int32) (tro1 trch1 kn1 he1 di1 df1 lt1 rd1 crs1 mrc1 km1 hm1 dm1 im1 bf1 sn1 asd1 finp1 fcrs1 frch1 : (Nat → Int32)), (fX5_search al (nI n) (nI t) md (nI RR) bf0 m0 l0 u0 k0 o0 ti tcr tro trch kn he di df lt rd p1) = some (r, b, m1, l1, u1, k1, o1, ti1, tcr1, tro1, trch1, kn1, he1, di1, df1, lt1, rd1) ∧
      (fX6_search al (nI n) (nI t) g (nI RR) made letters up mk_ bf0 inp crs mrc km hm dm im bf sn asd finp fcrs frch p1) = some (r, made, letters, up, mk_, b, inp, crs1, mrc1, km1, hm1, dm1, im1, bf1, sn1, asd1, finp1, fcrs1, frch1) ∧ (∀ p, p < n → crs1 p = crs p ∧ mrc1 p = mrc p) ∧ (∀ p, p < n → km1 p = km p ∧ hm1 p = hm p ∧ dm1 p = dm p ∧ im1 p = im p) ∧ GF n t b tcr1 ti1 tro1 trch1 finp1 fcrs1 frch1 := by
  have hmd : 1 ≤ md := by
    rw [hg]
    by_cases h : al = 3
    · rw [if_pos h]; exact hgr
    · rw [if_neg h]; decide
  by_cases hw : fX5_isWithin p1 1 3 = 0
  · refine ⟨-1, bf0, m0, l0, u0, k0, o0, ti, tcr, tro, trch, kn, he, di, df, lt, rd, crs, mrc, km, hm, dm, im, bf, sn, asd, finp, fcrs, frch, ?_, ?_, fun _ _ => ⟨rfl, rfl⟩, fun _ _ => ⟨rfl, rfl, rfl, rfl⟩, hF⟩
    · unfold fX5_search; rw [if_pos hw]
    · unfold fX6_search; rw [in_w, if_pos hw]
  · obtain ⟨d, hd3, rfl, hd1'⟩ := of_within (m := 3) rfl (by decide) hw
    have hd1 : 1 ≤ d := (nI_leI (a := 1) (by omega) (by omega)).mp hd1'
    have hpc := pc_all n (by omega) hn2 t (by omega) RR (by omega)
    have hbig := pw_big n (by omega) t (by omega) RR (by omega)
    have hro := runsOf_eq (d := d) hn (by omega) ht (show RR < 2 ^ 31 by omega) (by omega)
    have hws := ws_pw (n := n) (by omega) (RR * 2 ^ (n - 1)) (t + 1) 0 (by omega)
    obtain ⟨P, hPd⟩ : ∃ P, P = pw n (RR * 2 ^ (n - 1)) (t + 1) 0 := ⟨_, rfl⟩
    rw [← hPd] at hpc hbig hro hws
    have hD1 : 1 ≤ d ^ n := Nat.pow_pos hd1
    have hD3 : d ^ n ≤ 6561 := Nat.le_trans (Nat.pow_le_pow_left hd3 n) (Nat.le_trans (Nat.pow_le_pow_right (by omega) hn) (by decide))
    have hPD : P * d ^ n < 2 ^ 63 := Nat.lt_of_le_of_lt (Nat.mul_le_mul_left P hD3) (by omega)
    have hCS : (fX5_search al (nI n) (nI t) md (nI RR) bf0 m0 l0 u0 k0 o0 ti tcr tro trch kn he di df lt rd (nI d)) = (if lg_cmp (lN (P * d ^ n)) (60000 : Int64) ≤ 0 then (Option.bind (fX4_seek bf0 al (nI n) (nI t) md (nI RR) m0 l0 u0 k0 o0 ti tro trch kn he di df lt rd (nI d)) (fun a3 => some (a3.1, a3.2.1, a3.2.2.1, a3.2.2.2.1, a3.2.2.2.2.1, a3.2.2.2.2.2.1, a3.2.2.2.2.2.2.1, a3.2.2.2.2.2.2.2.1, a3.2.2.2.2.2.2.2.2.1, a3.2.2.2.2.2.2.2.2.2.1, a3.2.2.2.2.2.2.2.2.2.2.1, a3.2.2.2.2.2.2.2.2.2.2.2.1, a3.2.2.2.2.2.2.2.2.2.2.2.2.1, a3.2.2.2.2.2.2.2.2.2.2.2.2.2.1, a3.2.2.2.2.2.2.2.2.2.2.2.2.2.2.1, a3.2.2.2.2.2.2.2.2.2.2.2.2.2.2.2.1, a3.2.2.2.2.2.2.2.2.2.2.2.2.2.2.2.2))) else some (-3, bf0, m0, l0, u0, k0, o0, ti, tcr, tro, trch, kn, he, di, df, lt, rd)) := by
      unfold fX5_search
      rw [if_neg hw, hpc, Option.bind_some, ic_eq (by omega) hn, Option.bind_some, lN_mul]
    by_cases hB : P * d ^ n ≤ 60000
    · have hb0 := (big_iff hPD).mpr hB
      have hP6 : P ≤ 60000 := Nat.le_trans (Nat.le_mul_of_pos_right P hD1) hB
      obtain ⟨A2, q0, q1, q2, q3, q4, q5⟩ := keep_eq made letters up mk_ inp crs mrc km hm dm im asd
      have hMS : (fX6_search al (nI n) (nI t) g (nI RR) made letters up mk_ bf0 inp crs mrc km hm dm im bf sn asd finp fcrs frch (nI d)) = fX6_search_L37 (nI d) al (nI n) (nI t) g (nI RR) (fun v_before_37 v_crashes_37 v_decided_37 v_decidedIn_37 v_heard_37 v_inputs_37 v_knows_37 v_reaches_37 v_sent_37 v_made_37 v_letters_37 v_up_37 v_marks_37 v_foundBreach_37 => (fX6_search_L101 v_inputs_37 v_crashes_37 v_reaches_37 (fun v_foundCrashes_101 v_foundInputs_101 v_foundReaches_101 => (Option.bind (fX6_takeBack v_inputs_37 v_crashes_37 v_reaches_37 v_knows_37 v_heard_37 v_decided_37 v_decidedIn_37 A2) (fun a6 => some (v_foundBreach_37, a6.1, a6.2.1, a6.2.2.1, a6.2.2.2.1, v_foundBreach_37, a6.2.2.2.2.1, a6.2.2.2.2.2.1, a6.2.2.2.2.2.2.1, a6.2.2.2.2.2.2.2.1, a6.2.2.2.2.2.2.2.2.1, a6.2.2.2.2.2.2.2.2.2.1, a6.2.2.2.2.2.2.2.2.2.2, v_before_37, v_sent_37, A2, v_foundInputs_101, v_foundCrashes_101, v_foundReaches_101)))) 1000 (0 : Int32) fcrs finp frch)) 1000 (nI 0) bf crs dm im hm inp km mrc sn made letters up mk_ 0 := by
        unfold fX6_search
        generalize fX6_search_L37 = F
        rw [in_w, if_neg hw, hro, Option.bind_some, if_pos hb0, q5, Option.bind_some]
        rfl
      have S := sets37 (P := P) hn (by omega) (show RR ≤ n by omega) hR1 hd1 hd3 (by omega) (by omega) hg hmd (t := t) (by omega) (fun v_breachFound_25 v_tried_made_25 v_tried_letters_25 v_tried_up_25 v_tried_marked_25 v_tried_markedLetters_25 v_tried_decidedFrom_25 v_tried_decidedIn_25 v_tried_heardFrom_25 v_tried_inputs_of_25 v_tried_known_25 v_tried_letter_25 v_tried_plan_crashing_25 v_tried_plan_reaches_25 v_tried_plan_rounds_25 v_tried_readers_25 => some ((0 : Int32), v_breachFound_25, v_tried_made_25, v_tried_letters_25, v_tried_up_25, v_tried_marked_25, v_tried_markedLetters_25, v_tried_inputs_of_25, v_tried_plan_crashing_25, v_tried_plan_rounds_25, v_tried_plan_reaches_25, v_tried_known_25, v_tried_heardFrom_25, v_tried_decidedIn_25, v_tried_decidedFrom_25, v_tried_letter_25, v_tried_readers_25)) (fun v_before_37 v_crashes_37 v_decided_37 v_decidedIn_37 v_heard_37 v_inputs_37 v_knows_37 v_reaches_37 v_sent_37 v_made_37 v_letters_37 v_up_37 v_marks_37 v_foundBreach_37 => (fX6_search_L101 v_inputs_37 v_crashes_37 v_reaches_37 (fun v_foundCrashes_101 v_foundInputs_101 v_foundReaches_101 => (Option.bind (fX6_takeBack v_inputs_37 v_crashes_37 v_reaches_37 v_knows_37 v_heard_37 v_decided_37 v_decidedIn_37 A2) (fun a6 => some (v_foundBreach_37, a6.1, a6.2.1, a6.2.2.1, a6.2.2.2.1, v_foundBreach_37, a6.2.2.2.2.1, a6.2.2.2.2.2.1, a6.2.2.2.2.2.2.1, a6.2.2.2.2.2.2.2.1, a6.2.2.2.2.2.2.2.2.1, a6.2.2.2.2.2.2.2.2.2.1, a6.2.2.2.2.2.2.2.2.2.2, v_before_37, v_sent_37, A2, v_foundInputs_101, v_foundCrashes_101, v_foundReaches_101)))) 1000 (0 : Int32) fcrs finp frch)) (t + 1) 0 0 1000000 1000 (by omega) (by omega) (chk_all n (by omega) hn2 t (by omega) htn) (by omega) (by omega) 0 (pf 8 (fun _ => 1) tro) (pf 8 (fun _ => 0) trch) HD_0 (fun p hp => pf_lt _ _ hp) (fun p hp => pf_lt _ _ hp) bf0 m0 l0 u0 k0 o0 df di he ti kn lt rd bf crs dm im hm inp km mrc sn made letters up mk_
      have hinp : ∀ mi1 : (Nat → Int32), (∀ p, 8 ≤ p → mi1 p = inp p) → pf 8 (fun p => A2 p) mi1 = inp := by
        intro mi1 h
        funext p
        rcases Nat.lt_or_ge p 8 with hp | hp
        · rw [pf_lt _ _ hp]; exact (q0 p hp).1
        · rw [pf_ge _ _ hp, h p hp]
      have hsk := seek_eq (al := al) (md := md) (t := t) (RR := RR) hn hd3 hpc bf0 m0 l0 u0 k0 o0 ti tro trch kn he di df lt rd
      rw [hCS, if_pos hb0, hMS]
      clear hCS hMS
      rcases S with ⟨b, s, gg, ti1, mi1, ro1, rch1, crs1, mrc1, w1, w2, w3, w4, w5, ⟨m1, l1, u1, k1, o1, kn1, he1, di1, df1, lt1, rd1, w6⟩, m2, l2, u2, k2, km2, hm2, dm2, im2, bf2, sn2, w7⟩ | ⟨fr, cr1, bC1, m1, l1, u1, k1, o1, m2, l2, u2, k2, ti1, mi1, ro1, rch1, crs1, mrc1, kn1, he1, di1, df1, lt1, rd1, bf2, dm2, im2, hm2, km2, sn2, w1, w2, w3, w4, _, w6, w7, w8⟩
      · rw [fin_eq, hinp mi1 w3, q1, q2, q3, q4] at w7
        have hc := hsk.trans w6
        rw [hc, Option.bind_some]
        refine ⟨b, b, m1, l1, u1, k1, o1, ti1, s, ro1, rch1, kn1, he1, di1, df1, lt1, rd1, _, _, _, _, _, _, _, _, _, _, _, _, rfl, w7, fun p hp => ?_, fun p hp => ?_, Or.inr ⟨(IN_IR hd3 w2).1, fun p hp => ?_, PL_congr (fun p hp => ?_) w4, w5⟩⟩
        · obtain ⟨_, z2, z3, _⟩ := q0 p (by omega)
          rw [pf_lt _ _ (show p < 8 by omega), pf_lt _ _ (show p < 8 by omega)]; exact ⟨z2, z3⟩
        · obtain ⟨_, _, _, z4, z5, z6, z7⟩ := q0 p (by omega)
          rw [pf_lt _ _ (show p < 8 by omega), pf_lt _ _ (show p < 8 by omega), pf_lt _ _ (show p < 8 by omega), pf_lt _ _ (show p < 8 by omega)]; exact ⟨z4, z5, z6, z7⟩
        · rw [pf_lt _ _ hp]; exact (IN_eq w2 p hp).symm
        · rw [pf_lt _ _ (show p < 8 by omega), pf_lt _ _ (show p < 8 by omega)]; exact ⟨rfl, rfl⟩
      · rw [fin_eq, hinp mi1 w2, q1, q2, q3, q4] at w8
        obtain ⟨f', rfl⟩ : ∃ f', fr = f' + 1 := ⟨fr - 1, by omega⟩
        have hbC : bC1 = 0 := by
          rcases w6 with ⟨w, _⟩ | w
          · exact absurd w fromM_ne
          · exact w
        have hc := hsk.trans w7
        rw [fX4_seek_L25, if_pos (cmp_ge (by omega) (by omega) (by omega)), hbC] at hc
        rw [hc, Option.bind_some]
        refine ⟨0, 0, m1, l1, u1, k1, o1, ti1, cr1, ro1, rch1, kn1, he1, di1, df1, lt1, rd1, _, _, _, _, _, _, _, _, _, _, _, _, rfl, w8, fun p hp => ?_, fun p hp => ?_, Or.inl rfl⟩
        · obtain ⟨_, z2, z3, _⟩ := q0 p (by omega)
          rw [pf_lt _ _ (show p < 8 by omega), pf_lt _ _ (show p < 8 by omega)]; exact ⟨z2, z3⟩
        · obtain ⟨_, _, _, z4, z5, z6, z7⟩ := q0 p (by omega)
          rw [pf_lt _ _ (show p < 8 by omega), pf_lt _ _ (show p < 8 by omega), pf_lt _ _ (show p < 8 by omega), pf_lt _ _ (show p < 8 by omega)]; exact ⟨z4, z5, z6, z7⟩
    · have hb0 : ¬ lg_cmp (lN (P * d ^ n)) (60000 : Int64) ≤ 0 := fun e => hB ((big_iff hPD).mp e)
      refine ⟨-3, bf0, m0, l0, u0, k0, o0, ti, tcr, tro, trch, kn, he, di, df, lt, rd, crs, mrc, km, hm, dm, im, bf, sn, asd, finp, fcrs, frch, ?_, ?_, fun _ _ => ⟨rfl, rfl⟩, fun _ _ => ⟨rfl, rfl, rfl, rfl⟩, hF⟩
      · rw [hCS, if_neg hb0]
      · unfold fX6_search
        rw [in_w, if_neg hw, hro, Option.bind_some, if_neg hb0]
