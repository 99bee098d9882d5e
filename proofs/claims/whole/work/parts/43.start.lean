/-! ===== own rows: start, both sides ===== -/
theorem fill_L (x : Int32) (v : Nat → Int32) (k : (Nat → Int32) → Option (Nat → Int32)) :
    ∀ (m i fuel : Nat), i + m = 8 → m < fuel → fJ7_fill_53178_L5 x 8 k fuel (nI i) (pf i (fun _ => x) v) = k (pf 8 (fun _ => x) v) := by
  intro m
  induction m with
  | zero =>
    intro i fuel hi hf
    obtain ⟨f, rfl⟩ : ∃ f, fuel = f + 1 := ⟨fuel - 1, by omega⟩
    obtain rfl : i = 8 := by omega
    rw [fJ7_fill_53178_L5, if_pos ((le8 (by omega)).mpr (by omega))]
  | succ m ih =>
    intro i fuel hi hf
    obtain ⟨f, rfl⟩ : ∃ f, fuel = f + 1 := ⟨fuel - 1, by omega⟩
    have h := ih (i + 1) f (by omega) (by omega)
    rw [fJ7_fill_53178_L5, if_neg (fun e => absurd ((le8 (by omega)).mp e) (by omega)), if_pos (inb8 (by omega)), cl8 (by omega), nI_1, pf_s' (g := fun _ => x) rfl]
    exact h
theorem fill_eq (v : Nat → Int32) (x : Int32) : fJ7_fill_53178 v x = some (pf 8 (fun _ => x) v) := by
  unfold fJ7_fill_53178
  have h := fill_L x v (fun v_arr_5 => some v_arr_5) 8 0 1000 rfl (by omega)
  rw [pf_0, nI_0] at h
  generalize fJ7_fill_53178_L5 = F at h ⊢
  exact h
theorem clear_eq (v : Nat → Int32) : fX0_clear v = some (pf 8 (fun _ => 0) v) := by
  unfold fX0_clear; rw [fill_eq, Option.bind_some]
theorem atOnce_eq (ro rch : Nat → Int32) (s : Int32) : fX1_crashAtOnce ro rch s = some (s, pf 8 (fun _ => 1) ro, pf 8 (fun _ => 0) rch) := by
  unfold fX1_crashAtOnce; rw [fill_eq, Option.bind_some, fill_eq, Option.bind_some]
theorem pclear_eq (ro rch : Nat → Int32) : fX1_clear ro rch = some (0, pf 8 (fun _ => 1) ro, pf 8 (fun _ => 0) rch) := by
  unfold fX1_clear; rw [atOnce_eq, Option.bind_some]
theorem mstart_L (crs inp mrc : Nat → Int32) (k : (Nat → Int32) → (Nat → Int32) → (Nat → Int32) → Option (Int32 × Int32 × Int32 × Int32 × Int32 × Int32 × Int32 × Int32 × Int32 × Int32 × Int32 × (Nat → Int32) × (Nat → Int32) × (Nat → Int32) × (Nat → Int32) × (Nat → Int32) × (Nat → Int32) × (Nat → Int32))) :
    ∀ (m i fuel : Nat), i + m = 8 → m < fuel → fX6_start_L121 k fuel (nI i) (pf i (fun _ => 0) crs) (pf i (fun _ => 0) inp) (pf i (fun _ => 0) mrc) = k (pf 8 (fun _ => 0) crs) (pf 8 (fun _ => 0) inp) (pf 8 (fun _ => 0) mrc) := by
  intro m
  induction m with
  | zero =>
    intro i fuel hi hf
    obtain ⟨f, rfl⟩ : ∃ f, fuel = f + 1 := ⟨fuel - 1, by omega⟩
    obtain rfl : i = 8 := by omega
    rw [fX6_start_L121, if_pos ((le8 (by omega)).mpr (by omega))]
  | succ m ih =>
    intro i fuel hi hf
    obtain ⟨f, rfl⟩ : ∃ f, fuel = f + 1 := ⟨fuel - 1, by omega⟩
    have h := ih (i + 1) f (by omega) (by omega)
    rw [fX6_start_L121, if_neg (fun e => absurd ((le8 (by omega)).mp e) (by omega)), if_pos (inb8 (by omega)), cl8 (by omega), nI_1, pf_s' (g := fun _ => 0) rfl, pf_s' (g := fun _ => 0) rfl, pf_s' (g := fun _ => 0) rfl]
    exact h
def rnd (a t k l : Nat) : Nat := if (if a = 3 then t / k else t) + 1 - l < 1 then 1 else (if a = 3 then t / k else t) + 1 - l
theorem put_all : ∀ a, a < 7 → ∀ t, t < 4 → ∀ k, k < 3 → ∀ l, l < 3 → (if nI a = 3 then (if (1 : Int32) < ((nI t / nI (k + 1)) + 1) - nI l then ((nI t / nI (k + 1)) + 1) - nI l else 1) else (if (1 : Int32) < (nI t + 1) - nI l then (nI t + 1) - nI l else 1)) = nI (rnd a t (k + 1) l) := by decide +kernel
theorem put_eq {a t k l : Nat} (n : Int32) (ha : a < 7) (ht : t < 4) (hk : k < 3) (hl : l < 3) : fX2_put (nI a) n (nI t) (nI (k + 1)) (nI l) = some (nI a, n, nI t, (if nI a = 3 then nI (k + 1) else 1), nI (rnd a t (k + 1) l)) := by
  have h := put_all a ha t ht k hk l hl
  unfold fX2_put
  by_cases h3 : nI a = 3
  · simp only [if_pos h3] at h ⊢
    rw [if_neg (nI_nle (n := k + 1) (by omega) (by omega)), if_neg (nI_ne0 (n := k + 1) (by omega) (by omega)), h]
  · simp only [if_neg h3] at h ⊢
    rw [h]
theorem mrnd_all : ∀ a, a < 7 → ∀ t, t < 4 → ∀ k, k < 3 → ∀ l, l < 3 → (if nI a = 3 then (if (1 : Int32) ≤ ((nI t / nI (k + 1)) + 1) - nI l then ((nI t / nI (k + 1)) + 1) - nI l else 1) else (if (1 : Int32) ≤ (nI t + 1) - nI l then (nI t + 1) - nI l else 1)) = nI (rnd a t (k + 1) l) := by decide +kernel
theorem rnd_le (a t k l : Nat) : 1 ≤ rnd a t k l ∧ rnd a t k l ≤ t + 1 := by
  unfold rnd
  have : t / k ≤ t := Nat.div_le_self _ _
  by_cases h3 : a = 3
  · rw [if_pos h3]; split <;> omega
  · rw [if_neg h3]; split <;> omega
theorem PL_none {n : Nat} (ro rch crs mrc : Nat → Int32) (h : ∀ p, p < n → crs p = 0) : PL n 0 ro rch crs mrc := ⟨fun p _ => b_0 p, fun p _ hb => absurd hb (by rw [b_0]; simp), fun p hp _ => h p hp⟩
theorem IR_0 (inp : Nat → Int32) : IR (pf 8 (fun _ => 0) inp) := fun i hi => ⟨0, by omega, by rw [pf_lt _ _ hi]; rfl⟩
theorem of_within {v lo hi : Int32} {m : Nat} (hM : hi.toInt = m) (h0 : 0 ≤ lo) (h : ¬ fX5_isWithin v lo hi = 0) : ∃ w, w ≤ m ∧ v = nI w ∧ lo ≤ v := by
  have hin : lo ≤ v ∧ v ≤ hi := by
    apply Classical.byContradiction
    intro q
    exact h ((within_0 v lo hi).mpr q)
  obtain ⟨w, h1, h2⟩ := nI_of2 hM (Int32.not_lt.mpr (i_le_trans h0 hin.1)) hin.2
  exact ⟨w, h1, h2, hin.1⟩
/-- the arguments of start: bad on both sides, or as the document has them -/
theorem rules_cases (p1 p2 p3 p4 p5 : Int32) : (fX5_areRules p1 p2 p3 p4 p5 = 0 ∧ (fX6_isIn p1 0 6 = 0 ∨ fX6_isIn p2 2 8 = 0 ∨ fX6_isIn p3 0 3 = 0 ∨ p2 ≤ p3 ∨ fX6_isIn p4 1 3 = 0 ∨ fX6_isIn p5 0 2 = 0)) ∨
    (fX5_areRules p1 p2 p3 p4 p5 = 1 ∧ ¬ fX6_isIn p1 0 6 = 0 ∧ ¬ fX6_isIn p2 2 8 = 0 ∧ ¬ fX6_isIn p3 0 3 = 0 ∧ ¬ p2 ≤ p3 ∧ ¬ fX6_isIn p4 1 3 = 0 ∧ ¬ fX6_isIn p5 0 2 = 0 ∧ ∃ a n t k l, a < 7 ∧ 2 ≤ n ∧ n ≤ 8 ∧ t < 4 ∧ t < n ∧ k < 3 ∧ l < 3 ∧ p1 = nI a ∧ p2 = nI n ∧ p3 = nI t ∧ p4 = nI (k + 1) ∧ p5 = nI l) := by
  unfold fX5_areRules
  simp only [in_w]
  by_cases h1 : fX5_isWithin p1 0 6 = 0
  · rw [if_pos h1]; exact Or.inl ⟨rfl, Or.inl h1⟩
  · rw [if_neg h1]
    by_cases h2 : fX5_isWithin p2 2 8 = 0
    · rw [if_pos h2]; exact Or.inl ⟨rfl, Or.inr (Or.inl h2)⟩
    · rw [if_neg h2]
      obtain ⟨a, ha, ea, _⟩ := of_within (m := 6) rfl (by decide) h1
      obtain ⟨n, hn, en, en2⟩ := of_within (m := 8) rfl (by decide) h2
      have hn2 : 2 ≤ n := by rw [en] at en2; exact (nI_leI (a := 2) (by omega) (by omega)).mp en2
      have hmin : (if (p2 - 1) < (3 : Int32) then (p2 - 1) else (3 : Int32)) = nI (if n - 1 < 3 then n - 1 else 3) := by
        rw [en, show nI n - 1 = nI (n - 1) from pk_sub (a := n) (b := 1) (by omega)]
        have e : (nI (n - 1) < 3) ↔ n - 1 < 3 := nI_ltI (b := 3) (by omega) (by omega)
        by_cases q : n - 1 < 3
        · rw [if_pos (e.mpr q), if_pos q]
        · rw [if_neg (fun z => q (e.mp z)), if_neg q]; rfl
      rw [hmin]
      have h3iff : fX5_isWithin p3 0 (nI (if n - 1 < 3 then n - 1 else 3)) = 0 ↔ (fX5_isWithin p3 0 3 = 0 ∨ p2 ≤ p3) := by
        rw [within_0, within_0]
        constructor
        · intro hno
          apply Classical.byContradiction
          intro hq
          have q1 : 0 ≤ p3 ∧ p3 ≤ 3 := by
            apply Classical.byContradiction
            intro z; exact hq (Or.inl z)
          have q2 : ¬ p2 ≤ p3 := fun z => hq (Or.inr z)
          obtain ⟨t, ht, et⟩ := nI_of2 (M := 3) (n := 3) rfl (Int32.not_lt.mpr q1.1) q1.2
          rw [en, et, nI_leI (by omega) (by omega)] at q2
          apply hno
          refine ⟨q1.1, ?_⟩
          rw [et]
          exact (nI_leI (by omega) (by split <;> omega)).mpr (by split <;> omega)
        · rintro hq ⟨z1, z2⟩
          obtain ⟨t, htb, et⟩ := nI_of (Int32.not_lt.mpr z1)
          rw [et, nI_leI htb (by split <;> omega)] at z2
          rcases hq with hq | hq
          · apply hq
            refine ⟨z1, ?_⟩
            rw [et]
            exact (nI_leI (b := 3) htb (by omega)).mpr (by split at z2 <;> omega)
          · rw [en, et, nI_leI (by omega) htb] at hq
            split at z2 <;> omega
      by_cases h3 : fX5_isWithin p3 0 (nI (if n - 1 < 3 then n - 1 else 3)) = 0
      · rw [if_pos h3]
        rcases h3iff.mp h3 with q | q
        · exact Or.inl ⟨rfl, Or.inr (Or.inr (Or.inl q))⟩
        · exact Or.inl ⟨rfl, Or.inr (Or.inr (Or.inr (Or.inl q)))⟩
      · rw [if_neg h3]
        have h3a : ¬ fX5_isWithin p3 0 3 = 0 := fun q => h3 (h3iff.mpr (Or.inl q))
        have h3b : ¬ p2 ≤ p3 := fun q => h3 (h3iff.mpr (Or.inr q))
        by_cases h4 : fX5_isWithin p4 1 3 = 0
        · rw [if_pos h4]; exact Or.inl ⟨rfl, Or.inr (Or.inr (Or.inr (Or.inr (Or.inl h4))))⟩
        · rw [if_neg h4]
          by_cases h5 : fX5_isWithin p5 0 2 = 0
          · rw [if_pos h5]; exact Or.inl ⟨rfl, Or.inr (Or.inr (Or.inr (Or.inr (Or.inr h5))))⟩
          · rw [if_neg h5]
            obtain ⟨t, ht, et, _⟩ := of_within (m := 3) rfl (by decide) h3a
            obtain ⟨k, hk, ek, ek2⟩ := of_within (m := 3) rfl (by decide) h4
            obtain ⟨l, hl, el, _⟩ := of_within (m := 2) rfl (by decide) h5
            have hk1 : 1 ≤ k := by rw [ek] at ek2; exact (nI_leI (a := 1) (by omega) (by omega)).mp ek2
            have htn : t < n := by rw [en, et, nI_leI (by omega) (by omega)] at h3b; omega
            refine Or.inr ⟨rfl, h1, h2, h3a, h3b, h4, h5, a, n, t, k - 1, l, by omega, hn2, hn, by omega, htn, by omega, by omega, ea, en, et, ?_, el⟩
            rw [ek, show k - 1 + 1 = k by omega]
theorem s_start {al pr mc md rn mal mn mt mg mr bf mbf : Int32} {made letters up mkd mmade mletters mup mmk cr : Int32} (inp ro rch kn he di df minp crs mrc km hm_ dm im : Nat → Int32) (hin : minp = inp) (p1 p2 p3 p4 p5 : Int32) :
    (fX5_start al pr mc md rn made letters up mkd inp cr ro rch kn he di df bf p1 p2 p3 p4 p5 = some (-1, al, pr, mc, md, rn, made, letters, up, mkd, inp, cr, ro, rch, kn, he, di, df, bf) ∧ fX6_start mal mn mt mg mr mmade mletters mup mmk mbf minp crs mrc km hm_ dm im p1 p2 p3 p4 p5 = some (-1, mal, mn, mt, mg, mr, mmade, mletters, mup, mmk, mbf, minp, crs, mrc, km, hm_, dm, im)) ∨
    ∃ (al' g' : Int32) (n t RR : Nat) (inp' ro' rch' kn' he' di' df' crs' mrc' km' hm' dm' im' : Nat → Int32), 2 ≤ n ∧ n ≤ 8 ∧ t ≤ 3 ∧ t < n ∧ 1 ≤ RR ∧ RR ≤ t + 1 ∧ (1 : Int32) ≤ g' ∧
      fX5_start al pr mc md rn made letters up mkd inp cr ro rch kn he di df bf p1 p2 p3 p4 p5 = some (nI RR, al', nI n, nI t, (if al' = 3 then g' else 1), nI RR, 0, 0, fX2_everyone (nI n), 0, inp', 0, ro', rch', kn', he', di', df', 0) ∧
      fX6_start mal mn mt mg mr mmade mletters mup mmk mbf minp crs mrc km hm_ dm im p1 p2 p3 p4 p5 = some (nI RR, al', nI n, nI t, g', nI RR, 0, 0, fX2_everyone (nI n), 0, 0, inp', crs', mrc', km', hm', dm', im') ∧
      GC al' n t RR inp' 0 ro' rch' kn' he' di' df' 0 0 (fX2_everyone (nI n)) 0 crs' mrc' km' hm' dm' im' := by
  subst hin
  rcases rules_cases p1 p2 p3 p4 p5 with ⟨h, hb⟩ | ⟨h, q1, q2, q3, q4, q5, q6, a, n, t, k, l, ha, hn2, hn, ht, htn, hk, hl, rfl, rfl, rfl, rfl, rfl⟩
  · left
    constructor
    · unfold fX5_start; rw [if_pos h]
    · unfold fX6_start
      by_cases c1 : fX6_isIn p1 0 6 = 0
      · rw [if_pos c1]
      · rw [if_neg c1]
        by_cases c2 : fX6_isIn p2 2 8 = 0
        · rw [if_pos c2]
        · rw [if_neg c2]
          by_cases c3 : fX6_isIn p3 0 3 = 0
          · rw [if_pos c3]
          · rw [if_neg c3]
            by_cases c4 : p2 ≤ p3
            · rw [if_pos c4]
            · rw [if_neg c4]
              by_cases c5 : fX6_isIn p4 1 3 = 0
              · rw [if_pos c5]
              · rw [if_neg c5, if_pos]
                rcases hb with z | z | z | z | z | z
                · exact absurd z c1
                · exact absurd z c2
                · exact absurd z c3
                · exact absurd z c4
                · exact absurd z c5
                · exact z
  · right
    have hR := rnd_le a t (k + 1) l
    refine ⟨nI a, nI (k + 1), n, t, rnd a t (k + 1) l, _, _, _, _, _, _, _, _, _, _, _, _, _, hn2, hn, by omega, htn, hR.1, hR.2, nI_le (a := 1) (by omega) (by omega), ?_, ?_, GC_begin hn (IR_0 minp) (PL_none (pf 8 (fun _ => 1) ro) (pf 8 (fun _ => 0) rch) (pf 8 (fun _ => 0) crs) (pf 8 (fun _ => 0) mrc) (fun p hp => pf_lt _ _ (by omega))) (by show cnt 0 8 ≤ t; rw [show cnt 0 8 = 0 from rfl]; omega) kn he di df km hm_ dm im⟩
    · unfold fX5_start
      rw [if_neg (by rw [h]; decide)]
      unfold fX5_setUp
      rw [put_eq (nI n) ha ht hk hl, Option.bind_some, clear_eq, Option.bind_some, pclear_eq, Option.bind_some, begin_eq, Option.bind_some, Option.bind_some]
    · have hm := mrnd_all a ha t ht k hk l hl
      have hL : ∀ e : Int32, fX6_start_L121 (fun v_crashes_121 v_inputs_121 v_reaches_121 => (Option.bind (fX6_begin (nI a) (nI n) v_inputs_121 km hm_ dm im) (fun a2 => some (e, nI a, nI n, nI t, nI (k + 1), e, a2.1, a2.2.1, a2.2.2.1, a2.2.2.2.1, (0 : Int32), v_inputs_121, v_crashes_121, v_reaches_121, a2.2.2.2.2.1, a2.2.2.2.2.2.1, a2.2.2.2.2.2.2.1, a2.2.2.2.2.2.2.2)))) 1000 (0 : Int32) crs minp mrc = some (e, nI a, nI n, nI t, nI (k + 1), e, 0, 0, fX2_everyone (nI n), 0, 0, pf 8 (fun _ => 0) minp, pf 8 (fun _ => 0) crs, pf 8 (fun _ => 0) mrc, pf 8 (kn0 (nI a) (pf 8 (fun _ => 0) minp)) km, pf 8 (fun _ => nI n) hm_, pf 8 (fun _ => -2) dm, pf 8 (fun _ => 0) im) := by
        intro e
        have h2 := mstart_L crs minp mrc (fun v_crashes_121 v_inputs_121 v_reaches_121 => (Option.bind (fX6_begin (nI a) (nI n) v_inputs_121 km hm_ dm im) (fun a2 => some (e, nI a, nI n, nI t, nI (k + 1), e, a2.1, a2.2.1, a2.2.2.1, a2.2.2.2.1, (0 : Int32), v_inputs_121, v_crashes_121, v_reaches_121, a2.2.2.2.2.1, a2.2.2.2.2.2.1, a2.2.2.2.2.2.2.1, a2.2.2.2.2.2.2.2)))) 8 0 1000 rfl (by omega)
        rw [pf_0, pf_0, pf_0, nI_0] at h2
        generalize fX6_start_L121 = F at h2 ⊢
        rw [h2, mbegin_eq, Option.bind_some]
        rfl
      unfold fX6_start
      rw [if_neg q1, if_neg q2, if_neg q3, if_neg q4, if_neg q5, if_neg q6]
      by_cases h3 : nI a = 3
      · rw [if_pos h3] at hm
        rw [if_pos h3, if_neg (nI_ne0 (n := k + 1) (by omega) (by omega))]
        by_cases c : (1 : Int32) ≤ ((nI t / nI (k + 1)) + 1) - nI l
        · rw [if_pos c] at hm
          rw [if_pos c, hL, hm]
        · rw [if_neg c] at hm
          rw [if_neg c, hL, hm]
      · rw [if_neg h3] at hm
        rw [if_neg h3]
        by_cases c : (1 : Int32) ≤ (nI t + 1) - nI l
        · rw [if_pos c] at hm
          rw [if_pos c, hL, hm]
        · rw [if_neg c] at hm
          rw [if_neg c, hL, hm]
