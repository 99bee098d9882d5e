/-! ===== own rows: sets by size, how many plans there are ===== -/
def filt (m : Nat) : Nat → Nat → List Nat
  | 0, _ => []
  | r + 1, i => if cnt (nI i) 8 = m then i :: filt m r (i + 1) else filt m r (i + 1)
def fromM (n : Nat) : Nat → Nat → List Nat
  | 0, _ => []
  | q + 1, m => filt m (2 ^ n) 0 ++ fromM n q (m + 1)
def ws (W : Nat) : List Nat → Nat
  | [] => 0
  | s :: l => W ^ cnt (nI s) 8 + ws W l
def chk (n : Nat) : List Nat → Bool
  | [] => true
  | s :: l => (match l with
    | [] => (fX1_nextCrashing (nI s) (fX2_everyone (nI n))).isSome
    | s' :: _ => decide (fX1_nextCrashing (nI s) (fX2_everyone (nI n)) = some (nI s'))) && chk n l
def bnm : Nat → Nat → Nat
  | _, 0 => 1
  | 0, _ + 1 => 0
  | n + 1, m + 1 => bnm n m + bnm n (m + 1)
def pw (n W : Nat) : Nat → Nat → Nat
  | 0, _ => 0
  | q + 1, m => bnm n m * W ^ m + pw n W q (m + 1)
def smf (f : Nat → Nat) : Nat → Nat → Nat
  | 0, _ => 0
  | r + 1, i => f i + smf f r (i + 1)
theorem chk_all : ∀ n, n < 9 → 2 ≤ n → ∀ t, t < 4 → t < n → chk n (fromM n (t + 1) 0) = true := by decide +kernel
theorem len_all : ∀ n, n < 9 → ∀ m, m < 4 → (filt m (2 ^ n) 0).length = bnm n m := by decide +kernel
theorem pc_all : ∀ n, n < 9 → 2 ≤ n → ∀ t, t < 4 → ∀ R, R < 5 → fX4_planCount (nI n) (nI t) (nI R) = some (lN (pw n (R * 2 ^ (n - 1)) (t + 1) 0)) := by decide +kernel
theorem pw_big : ∀ n, n < 9 → ∀ t, t < 4 → ∀ R, R < 5 → pw n (R * 2 ^ (n - 1)) (t + 1) 0 < 2 ^ 34 := by decide +kernel
theorem ws_app (W : Nat) (l l' : List Nat) : ws W (l ++ l') = ws W l + ws W l' := by
  induction l with
  | nil => rw [List.nil_append, ws, Nat.zero_add]
  | cons a l ih => rw [List.cons_append, ws, ws, ih, Nat.add_assoc]
theorem ws_len (W m : Nat) : ∀ r i, ws W (filt m r i) = (filt m r i).length * W ^ m
  | 0, _ => by rw [filt, ws, List.length_nil, Nat.zero_mul]
  | r + 1, i => by
    rw [filt]
    by_cases h : cnt (nI i) 8 = m
    · rw [if_pos h, ws, ws_len W m r (i + 1), h, List.length_cons, Nat.add_mul, Nat.one_mul, Nat.add_comm]
    · rw [if_neg h]; exact ws_len W m r (i + 1)
theorem ws_pw {n : Nat} (hn : n < 9) (W : Nat) : ∀ q m, m + q ≤ 4 → ws W (fromM n q m) = pw n W q m
  | 0, _, _ => rfl
  | q + 1, m, h => by rw [fromM, ws_app, pw, ws_len, len_all n hn m (by omega), ws_pw hn W q (m + 1) (by omega)]
theorem smf_add (f g : Nat → Nat) : ∀ r i, smf f r i + smf g r i = smf (fun j => f j + g j) r i
  | 0, _ => rfl
  | r + 1, i => by rw [smf, smf, smf, ← smf_add f g r (i + 1)]; omega
theorem smf_congr {f g : Nat → Nat} (h : ∀ j, f j = g j) (r i : Nat) : smf f r i = smf g r i := by rw [funext h]
theorem smf_0 : ∀ r i, smf (fun _ => 0) r i = 0
  | 0, _ => rfl
  | r + 1, i => by rw [smf, smf_0 r (i + 1)]
theorem ws_filt (W m : Nat) : ∀ r i, ws W (filt m r i) = smf (fun j => if cnt (nI j) 8 = m then W ^ cnt (nI j) 8 else 0) r i
  | 0, _ => rfl
  | r + 1, i => by
    rw [filt, smf]
    by_cases h : cnt (nI i) 8 = m
    · rw [if_pos h, if_pos h, ws, ws_filt W m r (i + 1)]
    · rw [if_neg h, if_neg h, Nat.zero_add]; exact ws_filt W m r (i + 1)
theorem ws_sum (n W : Nat) : ∀ q m, ws W (fromM n q m) = smf (fun j => if m ≤ cnt (nI j) 8 ∧ cnt (nI j) 8 < m + q then W ^ cnt (nI j) 8 else 0) (2 ^ n) 0
  | 0, m => by
    rw [fromM, ws, smf_congr (g := fun _ => 0) (fun j => if_neg (by omega)), smf_0]
  | q + 1, m => by
    rw [fromM, ws_app, ws_filt, ws_sum n W q (m + 1), smf_add]
    apply smf_congr
    intro j
    by_cases h1 : cnt (nI j) 8 = m
    · rw [if_pos h1, if_neg (by omega), if_pos (by omega), Nat.add_zero]
    · rw [if_neg h1, Nat.zero_add]
      by_cases h2 : m + 1 ≤ cnt (nI j) 8 ∧ cnt (nI j) 8 < m + 1 + q
      · rw [if_pos h2, if_pos (by omega)]
      · rw [if_neg h2, if_neg (by omega)]
theorem lo_n {n s : Nat} (hs : s < 2 ^ n) : ∀ p, n ≤ p → bt (nI s) p = false := by
  intro p hp
  rcases Nat.lt_or_ge p 32 with h | h
  · rw [nI_bt _ _ h]; exact Nat.testBit_lt_two_pow (Nat.lt_of_lt_of_le hs (Nat.pow_le_pow_right (by omega) hp))
  · exact b_big h
theorem cnt_le8 (x : Int32) : ∀ m, cnt x m ≤ m
  | 0 => Nat.le_refl _
  | m + 1 => by
    have := cnt_le8 x m
    rw [cnt]
    by_cases h : bt x m = true
    · rw [if_pos h]; omega
    · rw [if_neg h]; omega
theorem cnt_n8 {n s : Nat} (hn : n ≤ 8) (hs : s < 2 ^ n) : cnt (nI s) n = cnt (nI s) 8 := by
  rw [cnt_n hn (lo_n hs), cnt_cp]
/-! how many inputs there are: both sides -/
theorem ic_L (d n : Nat) (hd : d < 2 ^ 31) (hn : n ≤ 8) (k : Int64 → Option Int64) :
    ∀ (m i fuel : Nat), i + m = n → m < fuel → fX4_inputCount_L5 (nI d) (nI n) k fuel (lN (d ^ i)) (nI i) = k (lN (d ^ n)) := by
  intro m
  induction m with
  | zero =>
    intro i fuel hi hf
    obtain ⟨f, rfl⟩ : ∃ f, fuel = f + 1 := ⟨fuel - 1, by omega⟩
    obtain rfl : i = n := by omega
    rw [fX4_inputCount_L5, if_pos ((leN hn hn).mpr (Nat.le_refl _))]
  | succ m ih =>
    intro i fuel hi hf
    obtain ⟨f, rfl⟩ : ∃ f, fuel = f + 1 := ⟨fuel - 1, by omega⟩
    rw [fX4_inputCount_L5, if_neg (fun e => absurd ((leN hn (by omega)).mp e) (by omega)), nI_l hd, lN_mul, ← Nat.pow_succ, nI_1]
    exact ih (i + 1) f (by omega) (by omega)
theorem ic_eq {d n : Nat} (hd : d < 2 ^ 31) (hn : n ≤ 8) : fX4_inputCount (nI n) (nI d) = some (lN (d ^ n)) := by
  have h := ic_L d n hd hn (fun x2_5 => some x2_5) n 0 1000 (by omega) (by omega)
  rw [Nat.pow_zero, nI_0] at h
  unfold fX4_inputCount
  generalize fX4_inputCount_L5 = F at h ⊢
  exact h
theorem mic_L (d n : Nat) (hd : d < 2 ^ 31) (hn : n ≤ 8) (k : Int64 → Option Int64) :
    ∀ (m i fuel : Nat), i + m = n → m < fuel → fX6_runsOf_L5 (nI d) (nI n) k fuel (lN (d ^ i)) (nI i) = k (lN (d ^ n)) := by
  intro m
  induction m with
  | zero =>
    intro i fuel hi hf
    obtain ⟨f, rfl⟩ : ∃ f, fuel = f + 1 := ⟨fuel - 1, by omega⟩
    obtain rfl : i = n := by omega
    rw [fX6_runsOf_L5, if_pos ((leN hn hn).mpr (Nat.le_refl _))]
  | succ m ih =>
    intro i fuel hi hf
    obtain ⟨f, rfl⟩ : ∃ f, fuel = f + 1 := ⟨fuel - 1, by omega⟩
    rw [fX6_runsOf_L5, if_neg (fun e => absurd ((leN hn (by omega)).mp e) (by omega)), nI_l hd, lN_mul, ← Nat.pow_succ, nI_1]
    exact ih (i + 1) f (by omega) (by omega)
theorem shl_all : ∀ n, n < 9 → 1 ≤ n → ((1 : Int64) <<< ((nI n - (1 : Int32)).toInt64 &&& 63)) = lN (2 ^ (n - 1)) := by decide +kernel
theorem w_L {n RR : Nat} (hn : n ≤ 8) (hn1 : 1 ≤ n) (hR : RR < 2 ^ 31) {s : Nat} (hs : s < 2 ^ n) (k : Int64 → Option Int64) :
    ∀ (m i fuel : Nat), i + m = cnt (nI s) 8 → m < fuel → fX6_runsOf_L58 (nI s) (nI n) (nI RR) k fuel (lN ((RR * 2 ^ (n - 1)) ^ i)) (nI i) = k (lN ((RR * 2 ^ (n - 1)) ^ cnt (nI s) 8)) := by
  have hc := cnt_le8 (nI s) 8
  have hb : fX6_bits (nI s) = some (nI (cnt (nI s) 8)) := bits_eq (fun i hi => lo_n hs i (by omega))
  intro m
  induction m with
  | zero =>
    intro i fuel hi hf
    obtain ⟨f, rfl⟩ : ∃ f, fuel = f + 1 := ⟨fuel - 1, by omega⟩
    have hi : i = cnt (nI s) 8 := by omega
    rw [fX6_runsOf_L58, hb, Option.bind_some, if_pos ((nI_leI (by omega) (by omega)).mpr (by omega)), hi]
  | succ m ih =>
    intro i fuel hi hf
    obtain ⟨f, rfl⟩ : ∃ f, fuel = f + 1 := ⟨fuel - 1, by omega⟩
    rw [fX6_runsOf_L58, hb, Option.bind_some, if_neg (fun e => absurd ((nI_leI (by omega) (by omega)).mp e) (by omega)), nI_l hR, shl_all n (by omega) hn1, lN_mul, lN_mul, Nat.mul_assoc, ← Nat.pow_succ, nI_1]
    exact ih (i + 1) f (by omega) (by omega)
theorem mp_L {n t RR : Nat} (hn : n ≤ 8) (hn1 : 1 ≤ n) (ht : t ≤ 100) (hR : RR < 2 ^ 31) (k : Int64 → Option Int64) :
    ∀ (r i fuel a : Nat), i + r = 2 ^ n → r < fuel → fX6_runsOf_L31 (nI n) (nI t) (nI RR) k fuel (lN a) (nI i) = k (lN (a + smf (fun j => if cnt (nI j) 8 ≤ t then (RR * 2 ^ (n - 1)) ^ cnt (nI j) 8 else 0) r i)) := by
  have h256 := pow8 hn
  have hall : fX6_all (nI n) = nI (2 ^ n - 1) := by rw [all_ev, ev_nI n (by omega)]
  intro r
  induction r with
  | zero =>
    intro i fuel a hi hf
    obtain ⟨f, rfl⟩ : ∃ f, fuel = f + 1 := ⟨fuel - 1, by omega⟩
    have : 0 < 2 ^ n := Nat.pow_pos (by omega)
    rw [fX6_runsOf_L31, hall, if_pos ((nI_ltI (by omega) (by omega)).mpr (by omega)), smf, Nat.add_zero]
  | succ r ih =>
    intro i fuel a hi hf
    obtain ⟨f, rfl⟩ : ∃ f, fuel = f + 1 := ⟨fuel - 1, by omega⟩
    have hc := cnt_le8 (nI i) 8
    have hb : fX6_bits (nI i) = some (nI (cnt (nI i) 8)) := bits_eq (fun j hj => lo_n (n := n) (by omega) j (by omega))
    rw [fX6_runsOf_L31, hall, if_neg (fun e => absurd ((nI_ltI (by omega) (by omega)).mp e) (by omega)), hb, Option.bind_some, smf, nI_1]
    by_cases h : cnt (nI i) 8 ≤ t
    · have hw := w_L (s := i) hn hn1 hR (by omega) (fun x7_58 => (fX6_runsOf_L31 (nI n) (nI t) (nI RR) k f (lN a + x7_58) (nI (i + 1)))) (cnt (nI i) 8) 0 1000 (by omega) (by omega)
      rw [Nat.pow_zero, nI_0] at hw
      rw [if_neg (fun e => absurd ((nI_ltI (by omega) (by omega)).mp e) (by omega)), if_pos h]
      generalize fX6_runsOf_L58 = F at hw ⊢
      refine hw.trans ?_
      show fX6_runsOf_L31 (nI n) (nI t) (nI RR) k f (lN a + lN _) (nI (i + 1)) = _
      rw [lN_add, ih (i + 1) f _ (by omega) (by omega), Nat.add_assoc]
    · rw [if_pos ((nI_ltI (by omega) (by omega)).mpr (by omega)), if_neg h, Nat.zero_add]
      exact ih (i + 1) f a (by omega) (by omega)
theorem runsOf_eq {n t RR d : Nat} (hn : n ≤ 8) (hn1 : 1 ≤ n) (ht : t ≤ 3) (hR : RR < 2 ^ 31) (hd : d < 2 ^ 31) : fX6_runsOf (nI n) (nI t) (nI RR) (nI d) = some (lN (pw n (RR * 2 ^ (n - 1)) (t + 1) 0 * d ^ n)) := by
  have h1 := mic_L d n hd hn (fun x2_5 => (fX6_runsOf_L31 (nI n) (nI t) (nI RR) (fun x4_31 => some (x4_31 * x2_5)) 1000 (0 : Int64) (0 : Int32))) n 0 1000 (by omega) (by omega)
  have h2 := mp_L (t := t) hn hn1 (by omega) hR (fun x4_31 => some (x4_31 * lN (d ^ n))) (2 ^ n) 0 1000 0 (by omega) (by have := pow8 hn; omega)
  have h3 : 0 + smf (fun j => if cnt (nI j) 8 ≤ t then (RR * 2 ^ (n - 1)) ^ cnt (nI j) 8 else 0) (2 ^ n) 0 = pw n (RR * 2 ^ (n - 1)) (t + 1) 0 := by
    rw [Nat.zero_add, ← ws_pw (by omega) _ (t + 1) 0 (by omega), ws_sum]
    apply smf_congr
    intro j
    by_cases h : cnt (nI j) 8 ≤ t
    · rw [if_pos h, if_pos (by omega)]
    · rw [if_neg h, if_neg (by omega)]
  rw [h3] at h2
  unfold fX6_runsOf
  rw [Nat.pow_zero, nI_0] at h1
  generalize fX6_runsOf_L5 = F at h1 ⊢
  refine h1.trans ?_
  rw [nI_0] at h2
  show fX6_runsOf_L31 (nI n) (nI t) (nI RR) (fun x4_31 => some (x4_31 * lN (d ^ n))) 1000 (0 : Int64) (0 : Int32) = _
  generalize fX6_runsOf_L31 = G at h2 ⊢
  refine h2.trans ?_
  show some (lN _ * lN _) = _
  rw [lN_mul]
theorem big_iff {a : Nat} (ha : a < 2 ^ 63) : (lg_cmp (lN a) (60000 : Int64) ≤ 0) ↔ a ≤ 60000 := by
  have h6 : (60000 : Int64) = lN 60000 := rfl
  have e1 : (lN a).toInt = a := lg_ofNat_toInt ha
  have e2 : (lN 60000).toInt = ((60000 : Nat) : Int) := lg_ofNat_toInt (by omega)
  rw [lg_cmp_le, h6, Int64.le_iff_toInt_le, e1, e2]; omega
