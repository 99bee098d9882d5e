/-! ===== own rows: the next plan, both sides ===== -/
def sq (p x : Nat) : Nat := x / 2 ^ (p + 1) * 2 ^ p + x % 2 ^ p
def yn (p x : Nat) : Nat := ((x ||| 2 ^ p) + 1) &&& (511 ^^^ 2 ^ p)
theorem y_cls : ∀ p, p < 8 → ∀ x, x < 256 → (((nI x ||| ((1 : Int32) <<< (nI p &&& 31))) + (1 : Int32)) &&& (((1 : Int32) <<< (nI p &&& 31)) ^^^ (-1 : Int32))) = nI (yn p x) := by decide +kernel
theorem y_mod : ∀ p, p < 8 → ∀ x, x < 256 → x.testBit p = false → (if (((nI x + (1 : Int32)) >>> (nI p &&& 31)) &&& (1 : Int32)) = (1 : Int32) then (nI x + (1 : Int32)) + ((1 : Int32) <<< (nI p &&& 31)) else nI x + (1 : Int32)) = nI (yn p x) := by decide +kernel
theorem y_512 : ∀ p, p < 8 → ∀ x, x < 256 → yn p x < 512 := by decide +kernel
def tsq (n p x : Nat) : Bool := decide (x.testBit p = false → (2 ^ n ≤ yn p x ∧ sq p x + 1 = 2 ^ (n - 1)) ∨ (yn p x < 2 ^ n ∧ (yn p x).testBit p = false ∧ sq p (yn p x) = sq p x + 1))
theorem tsq_all : ∀ n, n < 9 → ∀ p, p < n → ∀ x, x < 2 ^ n → tsq n p x = true := by decide +kernel
theorem y_sq : ∀ n, n < 9 → ∀ p, p < n → ∀ x, x < 2 ^ n → x.testBit p = false → (2 ^ n ≤ yn p x ∧ sq p x + 1 = 2 ^ (n - 1)) ∨ (yn p x < 2 ^ n ∧ (yn p x).testBit p = false ∧ sq p (yn p x) = sq p x + 1) := fun n hn p hp x hx => of_decide_eq_true (tsq_all n hn p hp x hx)
theorem sq_0 (p : Nat) : sq p 0 = 0 := by unfold sq; rw [Nat.zero_div, Nat.zero_mod, Nat.zero_mul]
def dg (n p r x : Nat) : Nat := (r - 1) * 2 ^ (n - 1) + sq p x
theorem pow8 {n : Nat} (hn : n ≤ 8) : 2 ^ n ≤ 256 := Nat.pow_le_pow_right (by omega) hn
theorem one_pair {n p r x R : Nat} (hn : n ≤ 8) (hp : p < n) (hr1 : 1 ≤ r) (hrR : r ≤ R) (hR : R ≤ 100) (hx : x < 2 ^ n) (hxp : x.testBit p = false) {ro rch crs mrc : Nat → Int32} (e1 : ro p = nI r) (e2 : rch p = nI x) (e3 : crs p = nI r) (e4 : mrc p = nI x) :
    ∃ (b : Bool) (r' x' : Nat), fX1_advanceOne ro rch (nI p) (fX2_everyone (nI n)) (nI R) = some (b01 b, upd ro p (nI r'), upd rch p (nI x')) ∧ fX6_nextCrash (nI n) (nI R) crs mrc (nI p) = some (b01 b, upd crs p (nI r'), upd mrc p (nI x')) ∧ 1 ≤ r' ∧ r' ≤ R ∧ x' < 2 ^ n ∧ x'.testBit p = false ∧ (b = true → dg n p r' x' = dg n p r x + 1) ∧ (b = false → dg n p r x + 1 = R * 2 ^ (n - 1) ∧ dg n p r' x' = 0) := by
  have h256 := pow8 hn
  have hy := y_cls p (by omega) x (by omega)
  have hm := y_mod p (by omega) x (by omega) hxp
  have h512 := y_512 p (by omega) x (by omega)
  have hlt : (fX2_everyone (nI n) < nI (yn p x)) ↔ 2 ^ n ≤ yn p x := by
    rw [ev_nI n (by omega), nI_ltI (by omega) (by omega)]
    have : 0 < 2 ^ n := Nat.pow_pos (by omega)
    omega
  obtain ⟨r0, rfl⟩ : ∃ r0, r = r0 + 1 := ⟨r - 1, by omega⟩
  have hmodel : fX6_nextCrash (nI n) (nI R) crs mrc (nI p) = if fX2_everyone (nI n) < nI (yn p x) then (if nI R < nI (r0 + 1 + 1) then some (0, upd crs p 1, upd mrc p 0) else some (1, upd crs p (nI (r0 + 1 + 1)), upd mrc p 0)) else some (1, crs, upd mrc p (nI (yn p x))) := by
    unfold fX6_nextCrash
    rw [if_pos (inb8 (by omega)), cl8 (by omega)]
    simp only [upd_same, upd_upd, e3, e4, all_ev, nI_1 (r0 + 1)]
    by_cases hb : (((nI x + (1 : Int32)) >>> (nI p &&& 31)) &&& (1 : Int32)) = (1 : Int32)
    · rw [if_pos hb] at hm ⊢
      rw [hm]
    · rw [if_neg hb] at hm ⊢
      rw [hm]
  rw [hmodel]
  unfold fX1_advanceOne
  rw [if_pos (inb8 (by omega)), cl8 (by omega), nm, e2, hy, e1, nI_1]
  rcases y_sq n (by omega) p hp x hx hxp with ⟨hA, hq⟩ | ⟨hB, hBt, hq⟩
  · rw [if_pos (hlt.mpr hA), if_pos (hlt.mpr hA)]
    by_cases hc : R ≤ r0 + 1
    · rw [if_pos ((nI_leI (by omega) (by omega)).mpr hc), if_pos ((nI_ltI (by omega) (by omega)).mpr (by omega))]
      refine ⟨false, 1, 0, rfl, rfl, by omega, by omega, Nat.pow_pos (by omega), Nat.zero_testBit p, fun h => (by cases h), fun _ => ⟨?_, ?_⟩⟩
      · unfold dg
        have : R = r0 + 1 := by omega
        rw [this, Nat.add_sub_cancel, Nat.add_mul, Nat.one_mul]; omega
      · unfold dg; rw [sq_0]; omega
    · rw [if_neg (fun e => hc ((nI_leI (by omega) (by omega)).mp e)), if_neg (fun e => absurd ((nI_ltI (by omega) (by omega)).mp e) (by omega))]
      refine ⟨true, r0 + 1 + 1, 0, rfl, rfl, by omega, by omega, Nat.pow_pos (by omega), Nat.zero_testBit p, fun _ => ?_, fun h => (by cases h)⟩
      unfold dg
      rw [sq_0, Nat.add_sub_cancel, Nat.add_sub_cancel, Nat.add_mul, Nat.one_mul]; omega
  · have hnl : ¬ fX2_everyone (nI n) < nI (yn p x) := fun e => absurd (hlt.mp e) (by omega)
    rw [if_neg hnl, if_neg hnl]
    refine ⟨true, r0 + 1, yn p x, ?_, ?_, by omega, hrR, hB, hBt, fun _ => ?_, fun h => (by cases h)⟩
    · rw [← e1, upd_self]; rfl
    · rw [← e3, upd_self]; rfl
    · unfold dg; omega
def PV (n R : Nat) (s : Int32) (rr xx : Nat → Nat) (ro rch crs mrc : Nat → Int32) : Prop := ∀ p, p < n → bt s p = true → ro p = nI (rr p) ∧ rch p = nI (xx p) ∧ crs p = nI (rr p) ∧ mrc p = nI (xx p) ∧ 1 ≤ rr p ∧ rr p ≤ R ∧ xx p < 2 ^ n ∧ (xx p).testBit p = false
def V (n W : Nat) (s : Int32) (rr xx : Nat → Nat) : Nat → Nat
  | 0 => 0
  | i + 1 => if bt s i = true then V n W s rr xx i * W + dg n i (rr i) (xx i) else V n W s rr xx i
theorem V_congr {n W : Nat} {s : Int32} {rr xx rr' xx' : Nat → Nat} : ∀ i, (∀ p, p < i → rr p = rr' p ∧ xx p = xx' p) → V n W s rr xx i = V n W s rr' xx' i
  | 0, _ => rfl
  | i + 1, h => by rw [V, V, V_congr i (fun p hp => h p (by omega)), (h i (by omega)).1, (h i (by omega)).2]
theorem V_first {n W : Nat} {s : Int32} : ∀ i, V n W s (fun _ => 1) (fun _ => 0) i = 0
  | 0 => rfl
  | i + 1 => by
    rw [V, V_first i]
    unfold dg
    rw [sq_0]
    by_cases h : bt s i = true
    · rw [if_pos h]; omega
    · rw [if_neg h]
theorem nI_m1 (i : Nat) : nI (i + 1) + (-1 : Int32) = nI i := by rw [nI_succ, Int32.add_assoc, show (1 : Int32) + (-1) = 0 by decide, Int32.add_zero]
theorem pl_L {n R : Nat} {s : Int32} (hn : n ≤ 8) (hR : R ≤ 100) (k : (Nat → Int32) → (Nat → Int32) → Option (Int32 × (Nat → Int32) × (Nat → Int32))) (k2 : (Nat → Int32) → (Nat → Int32) → Option (Int32 × (Nat → Int32) × (Nat → Int32))) :
    ∀ (i fuel fuel2 : Nat), i ≤ n → i < fuel → i < fuel2 → ∀ (rr xx : Nat → Nat) (ro rch crs mrc : Nat → Int32), PV n R s rr xx ro rch crs mrc →
      ∃ (rr' xx' : Nat → Nat) (ro' rch' crs' mrc' : Nat → Int32), PV n R s rr' xx' ro' rch' crs' mrc' ∧ (∀ p, i ≤ p → rr' p = rr p ∧ xx' p = xx p) ∧ (∀ p, bt s p = false → crs' p = crs p) ∧
        ((V n (R * 2 ^ (n - 1)) s rr' xx' i = V n (R * 2 ^ (n - 1)) s rr xx i + 1 ∧ fX1_advance_L3 (fX2_everyone (nI n)) (nI R) s k fuel (nI i + (-1 : Int32)) rch ro = some (s, ro', rch') ∧ fX6_nextPlan_L7 s (nI n) (nI R) k2 fuel2 (nI i + (-1 : Int32)) crs mrc = some (1, crs', mrc')) ∨
         (V n (R * 2 ^ (n - 1)) s rr xx i + 1 = (R * 2 ^ (n - 1)) ^ cnt s i ∧ fX1_advance_L3 (fX2_everyone (nI n)) (nI R) s k fuel (nI i + (-1 : Int32)) rch ro = k rch' ro' ∧ fX6_nextPlan_L7 s (nI n) (nI R) k2 fuel2 (nI i + (-1 : Int32)) crs mrc = k2 crs' mrc')) := by
  intro i
  induction i with
  | zero =>
    intro fuel fuel2 hi hf hf2 rr xx ro rch crs mrc hV
    obtain ⟨f, rfl⟩ : ∃ f, fuel = f + 1 := ⟨fuel - 1, by omega⟩
    obtain ⟨f2, rfl⟩ : ∃ f, fuel2 = f + 1 := ⟨fuel2 - 1, by omega⟩
    refine ⟨rr, xx, ro, rch, crs, mrc, hV, fun _ _ => ⟨rfl, rfl⟩, fun _ _ => rfl, Or.inr ⟨rfl, ?_, ?_⟩⟩
    · rw [fX1_advance_L3, if_pos (by decide)]
    · rw [fX6_nextPlan_L7, if_pos (by decide)]
  | succ i ih =>
    intro fuel fuel2 hi hf hf2 rr xx ro rch crs mrc hV
    obtain ⟨f, rfl⟩ : ∃ f, fuel = f + 1 := ⟨fuel - 1, by omega⟩
    obtain ⟨f2, rfl⟩ : ∃ f, fuel2 = f + 1 := ⟨fuel2 - 1, by omega⟩
    rw [nI_m1, fX1_advance_L3, if_neg (nI_pos (by omega)), fX6_nextPlan_L7, if_neg (nI_pos (by omega))]
    by_cases hb : bt s i = true
    · rw [if_neg (fun e => by
        have := (has_0 s i (by omega)).mp e
        rw [hb] at this; cases this), if_pos ((hs_1 s i (by omega)).mpr hb)]
      obtain ⟨e1, e2, e3, e4, e5, e6, e7, e8⟩ := hV i (by omega) hb
      obtain ⟨b, r', x', c1, c2, c3, c4, c5, c6, c7, c8⟩ := one_pair hn (by omega : i < n) e5 e6 hR e7 e8 e1 e2 e3 e4
      have hV1 : PV n R s (fun p => if p = i then r' else rr p) (fun p => if p = i then x' else xx p) (upd ro i (nI r')) (upd rch i (nI x')) (upd crs i (nI r')) (upd mrc i (nI x')) := by
        intro p hp hbp
        by_cases e : p = i
        · subst e; simp only [upd_same, if_pos]; exact ⟨trivial, trivial, trivial, trivial, c3, c4, c5, c6⟩
        · simp only [upd_ne _ _ e, if_neg e]; exact hV p hp hbp
      have hVi : V n (R * 2 ^ (n - 1)) s (fun p => if p = i then r' else rr p) (fun p => if p = i then x' else xx p) i = V n (R * 2 ^ (n - 1)) s rr xx i := V_congr i (fun p hp => ⟨if_neg (by omega), if_neg (by omega)⟩)
      rw [c1, c2]
      simp only [Option.bind_some]
      cases b
      · rw [if_pos (show b01 false = 0 from rfl), if_pos (show b01 false = 0 from rfl)]
        obtain ⟨hd, hd0⟩ := c8 rfl
        obtain ⟨rr2, xx2, ro2, rch2, crs2, mrc2, d1, d2, d3, d4⟩ := ih f f2 (by omega) (by omega) (by omega) _ _ _ _ _ _ hV1
        have hi2 := d2 i (Nat.le_refl _)
        simp only [if_pos] at hi2
        refine ⟨rr2, xx2, ro2, rch2, crs2, mrc2, d1, fun p hp => ?_, fun p hp => ?_, ?_⟩
        · have := d2 p (by omega)
          rw [if_neg (by omega), if_neg (by omega)] at this; exact this
        · rw [d3 p hp, upd_ne _ _ (fun e => by rw [e, hb] at hp; cases hp)]
        · rcases d4 with ⟨a1, a2, a3⟩ | ⟨a1, a2, a3⟩
          · left
            refine ⟨?_, a2, a3⟩
            rw [V, V, if_pos hb, if_pos hb, a1, hVi, hi2.1, hi2.2, hd0, Nat.add_zero, Nat.add_mul, Nat.one_mul]; omega
          · right
            refine ⟨?_, a2, a3⟩
            rw [hVi] at a1
            rw [V, if_pos hb, cnt, if_pos hb, Nat.pow_succ, ← a1, Nat.add_mul, Nat.one_mul]; omega
      · rw [if_neg (show ¬ b01 true = 0 by decide), if_neg (show ¬ b01 true = 0 by decide)]
        refine ⟨_, _, _, _, _, _, hV1, fun p hp => ⟨if_neg (by omega), if_neg (by omega)⟩, fun p hp => upd_ne _ _ (fun e => by rw [e, hb] at hp; cases hp), Or.inl ⟨?_, rfl, rfl⟩⟩
        rw [V, V, if_pos hb, if_pos hb, hVi, if_pos rfl, if_pos rfl, c7 rfl]; omega
    · have hb' : bt s i = false := by cases h : bt s i; rfl; exact absurd h hb
      rw [if_pos ((has_0 s i (by omega)).mpr hb'), if_neg (fun e => hb ((hs_1 s i (by omega)).mp e))]
      obtain ⟨rr2, xx2, ro2, rch2, crs2, mrc2, d1, d2, d3, d4⟩ := ih f f2 (by omega) (by omega) (by omega) _ _ _ _ _ _ hV
      refine ⟨rr2, xx2, ro2, rch2, crs2, mrc2, d1, fun p hp => d2 p (by omega), d3, ?_⟩
      rw [V, V, if_neg hb, if_neg hb, cnt, if_neg hb, Nat.add_zero]
      exact d4
theorem skip_L {n : Nat} {s : Int32} (hs : ∀ p, n ≤ p → bt s p = false) (ev R : Int32) (k : (Nat → Int32) → (Nat → Int32) → Option (Int32 × (Nat → Int32) × (Nat → Int32))) (rch ro : Nat → Int32) :
    ∀ (m fuel : Nat), n + m ≤ 8 → fX1_advance_L3 ev R s k (fuel + m) (nI (n + m) + (-1 : Int32)) rch ro = fX1_advance_L3 ev R s k fuel (nI n + (-1 : Int32)) rch ro := by
  intro m
  induction m with
  | zero => intro fuel _; rfl
  | succ m ih =>
    intro fuel hm
    rw [show fuel + (m + 1) = (fuel + m) + 1 by omega, show n + (m + 1) = (n + m) + 1 by omega, nI_m1, fX1_advance_L3, if_neg (nI_pos (by omega)), if_pos ((has_0 s (n + m) (by omega)).mpr (hs _ (by omega)))]
    exact ih fuel (by omega)
theorem plan_pair {n R : Nat} {s s' : Int32} (hn : n ≤ 8) (hR : R ≤ 100) (hs : ∀ p, n ≤ p → bt s p = false) (hnx : fX1_nextCrashing s (fX2_everyone (nI n)) = some s') {rr xx : Nat → Nat} {ro rch crs mrc : Nat → Int32} (hV : PV n R s rr xx ro rch crs mrc) :
    (∃ (rr' xx' : Nat → Nat) (ro' rch' crs' mrc' : Nat → Int32), PV n R s rr' xx' ro' rch' crs' mrc' ∧ (∀ p, bt s p = false → crs' p = crs p) ∧ V n (R * 2 ^ (n - 1)) s rr' xx' n = V n (R * 2 ^ (n - 1)) s rr xx n + 1 ∧ fX1_advance s ro rch (fX2_everyone (nI n)) (nI R) = some (s, ro', rch') ∧ fX6_nextPlan (nI n) (nI R) crs mrc s = some (1, crs', mrc')) ∨
    (∃ (ro' rch' crs' mrc' : Nat → Int32), V n (R * 2 ^ (n - 1)) s rr xx n + 1 = (R * 2 ^ (n - 1)) ^ cnt s n ∧ fX1_advance s ro rch (fX2_everyone (nI n)) (nI R) = some (s', pf 8 (fun _ => 1) ro', pf 8 (fun _ => 0) rch') ∧ fX6_nextPlan (nI n) (nI R) crs mrc s = some (0, crs', mrc')) := by
  obtain ⟨k, hk⟩ : ∃ k : (Nat → Int32) → (Nat → Int32) → Option (Int32 × (Nat → Int32) × (Nat → Int32)), k = (fun v_reaches_3 v_rounds_3 => (Option.bind (fX1_nextCrashing s (fX2_everyone (nI n))) (fun a2 => (Option.bind (fX1_crashAtOnce v_rounds_3 v_reaches_3 a2) (fun a3 => some (a3.1, a3.2.1, a3.2.2)))))) := ⟨_, rfl⟩
  have hkv : ∀ a b, k a b = some (s', pf 8 (fun _ => 1) b, pf 8 (fun _ => 0) a) := by
    intro a b
    rw [hk]
    show Option.bind (fX1_nextCrashing s (fX2_everyone (nI n))) _ = _
    rw [hnx, Option.bind_some, atOnce_eq, Option.bind_some]
  have h1 := skip_L hs (fX2_everyone (nI n)) (nI R) k rch ro (8 - n) (1000 - (8 - n)) (by omega)
  rw [show 1000 - (8 - n) + (8 - n) = 1000 by omega, show n + (8 - n) = 8 by omega, show nI 8 + (-1 : Int32) = 7 by decide] at h1
  obtain ⟨rr', xx', ro', rch', crs', mrc', d1, d2, d3, d4⟩ := pl_L hn hR k (fun v_crashes_7 v_reaches_7 => some ((0 : Int32), v_crashes_7, v_reaches_7)) n (1000 - (8 - n)) 1000 (Nat.le_refl _) (by omega) (by omega) rr xx ro rch crs mrc hV
  rw [← h1] at d4
  have hsub : nI n - (1 : Int32) = nI n + (-1 : Int32) := Int32.sub_eq_add_neg (nI n) 1
  have ha : fX1_advance s ro rch (fX2_everyone (nI n)) (nI R) = fX1_advance_L3 (fX2_everyone (nI n)) (nI R) s k 1000 7 rch ro := by
    unfold fX1_advance
    generalize fX1_advance_L3 = F
    rw [hk]
  have hm : fX6_nextPlan (nI n) (nI R) crs mrc s = fX6_nextPlan_L7 s (nI n) (nI R) (fun v_crashes_7 v_reaches_7 => some ((0 : Int32), v_crashes_7, v_reaches_7)) 1000 (nI n + (-1 : Int32)) crs mrc := by
    unfold fX6_nextPlan
    generalize fX6_nextPlan_L7 = F
    rw [hsub]
  generalize fX1_advance_L3 = F at ha d4
  generalize fX6_nextPlan_L7 = G at hm d4
  rw [ha, hm]
  rcases d4 with ⟨a1, a2, a3⟩ | ⟨a1, a2, a3⟩
  · left
    exact ⟨rr', xx', ro', rch', crs', mrc', d1, d3, a1, a2, a3⟩
  · right
    refine ⟨ro', rch', crs', mrc', a1, ?_, ?_⟩
    · rw [a2, hkv]
    · rw [a3]
theorem PV_PL {n R : Nat} {s : Int32} (hn : n ≤ 8) (hR : R ≤ 20) (hs : ∀ p, n ≤ p → bt s p = false) {rr xx : Nat → Nat} {ro rch crs mrc : Nat → Int32} (hV : PV n R s rr xx ro rch crs mrc) (h0 : ∀ p, p < n → bt s p = false → crs p = 0) : PL n s ro rch crs mrc := by
  refine ⟨hs, fun p hp hb => ?_, h0⟩
  obtain ⟨e1, e2, e3, e4, e5, e6, e7, e8⟩ := hV p hp hb
  refine ⟨⟨rr p, e5, by omega, e1⟩, by rw [e3, e1], by rw [e4, e2], fun i hi => ?_, ?_⟩
  · rcases Nat.lt_or_ge i 32 with h | h
    · rw [e2, nI_bt _ i h]
      exact Nat.testBit_lt_two_pow (Nat.lt_of_lt_of_le e7 (Nat.pow_le_pow_right (by omega) hi))
    · exact b_big h
  · rw [e2, nI_bt _ p (by omega)]; exact e8
theorem PV_first {n R : Nat} {s : Int32} (hn : n ≤ 8) (hR : 1 ≤ R) {ro rch crs mrc : Nat → Int32} (h1 : ∀ p, p < 8 → ro p = 1) (h2 : ∀ p, p < 8 → rch p = 0) (h3 : ∀ p, p < n → bt s p = true → crs p = 1) (h4 : ∀ p, p < 8 → mrc p = 0) : PV n R s (fun _ => 1) (fun _ => 0) ro rch crs mrc :=
  fun p hp hb => ⟨h1 p (by omega), h2 p (by omega), h3 p hp hb, h4 p (by omega), Nat.le_refl _, hR, Nat.pow_pos (by omega), Nat.zero_testBit p⟩
