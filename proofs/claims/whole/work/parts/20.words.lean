/-! ===== own rows: what is decided from a set, on both sides ===== -/
def decV (alg : Int32) (n : Nat) (inp : Nat → Int32) (s : Int32) : Int32 :=
  if alg = 4 then nI (cnt s 8) else if alg = 5 then (if s = fX2_everyone (nI n) ∧ ¬ lst inp s 8 = 0 then 1 else 0) else lst inp s 8
theorem decisionFrom_eq (alg : Int32) (n : Nat) (inp : Nat → Int32) {s : Int32} (hs : lo8 s) : fX3_decisionFrom alg (nI n) inp s = some (decV alg n inp s) := by
  unfold fX3_decisionFrom decV
  simp only [least_eq, Option.bind_some, bc_eq hs]
  by_cases h4 : alg = 4
  · simp only [if_pos h4]
  · simp only [if_neg h4]
    by_cases h5 : alg = 5
    · simp only [if_pos h5]
      by_cases he : s = fX2_everyone (nI n)
      · simp only [if_pos he]
        by_cases hz : lst inp s 8 = 0
        · rw [if_pos hz, if_neg (fun q => q.2 hz)]
        · rw [if_neg hz, if_pos ⟨he, hz⟩]
      · simp only [if_neg he]
        rw [if_neg (fun q => he q.1)]
    · simp only [if_neg h5]
/-- inputs are 0 .. 15 -/
def IR (inp : Nat → Int32) : Prop := ∀ i, i < 8 → ∃ v, v < 16 ∧ inp i = nI v
theorem asb_bt {inp : Nat → Int32} (hI : IR inp) (s : Int32) {v : Nat} (hv : v < 32) : ∀ m, m ≤ 8 → (bt (asb inp s m) v = true ↔ ∃ i, i < m ∧ bt s i = true ∧ inp i = nI v)
  | 0, _ => by rw [asb, b_0]; simp
  | m + 1, hm => by
    have ih := asb_bt hI s hv m (by omega)
    rw [asb]
    by_cases h : bt s m = true
    · obtain ⟨w, hw, e⟩ := hI m (by omega)
      rw [if_pos h, b_or, Bool.or_eq_true, ih, e, b_one w (by omega) hv, decide_eq_true_eq]
      constructor
      · rintro (⟨i, a, b, c⟩ | rfl)
        · exact ⟨i, by omega, b, c⟩
        · exact ⟨m, by omega, h, e⟩
      · rintro ⟨i, a, b, c⟩
        by_cases q : i = m
        · subst q
          exact Or.inr ((nI_eq (by omega) (by omega)).mp (c.symm.trans e))
        · exact Or.inl ⟨i, by omega, b, c⟩
    · rw [if_neg h, ih]
      constructor
      · rintro ⟨i, a, b, c⟩; exact ⟨i, by omega, b, c⟩
      · rintro ⟨i, a, b, c⟩
        by_cases q : i = m
        · subst q; exact absurd b h
        · exact ⟨i, by omega, b, c⟩
/-- the least input of a set that is not empty is one of it -/
theorem lst_mem {inp : Nat → Int32} (hI : IR inp) {s : Int32} {i0 : Nat} (h0 : i0 < 8) (hb : bt s i0 = true) : ∃ i w, i < 8 ∧ bt s i = true ∧ w < 16 ∧ inp i = nI w ∧ lst inp s 8 = nI w := by
  rcases lst_in inp s 8 with e | ⟨i, h1, h2, h3⟩
  · obtain ⟨w, hw, ew⟩ := hI i0 h0
    have hle := lst_le inp s 8 i0 h0 hb
    rw [e, ew] at hle
    have h15 : (15 : Nat) ≤ w := (nI_leI (a := 15) (by omega) (by omega)).mp hle
    have hw15 : w = 15 := by omega
    subst hw15
    exact ⟨i0, 15, h0, hb, by omega, ew, e⟩
  · obtain ⟨w, hw, ew⟩ := hI i h1
    exact ⟨i, w, h1, h2, hw, ew, h3.trans ew⟩
theorem low_L {p : Nat} (hp : p < 8) (kn : Nat → Int32) (k : Int32 → Option Int32) {w : Nat} (hw : w < 16) (h1 : bt (kn p) w = true) (h0 : ∀ j, j < w → bt (kn p) j = false) :
    ∀ (m i fuel : Nat), i + m = w → m < fuel → fX6_lastWord_L42 (nI p) kn k fuel (nI i) = k (nI w) := by
  intro m
  induction m with
  | zero =>
    intro i fuel hi hf
    obtain ⟨f, rfl⟩ : ∃ f, fuel = f + 1 := ⟨fuel - 1, by omega⟩
    obtain rfl : i = w := by omega
    rw [fX6_lastWord_L42, if_pos (inb8 hp), cl8 hp, if_neg (fun e => by rw [(hs_0 _ i (by omega)).mp e] at h1; cases h1)]
  | succ m ih =>
    intro i fuel hi hf
    obtain ⟨f, rfl⟩ : ∃ f, fuel = f + 1 := ⟨fuel - 1, by omega⟩
    rw [fX6_lastWord_L42, if_pos (inb8 hp), cl8 hp, if_pos ((hs_0 _ i (by omega)).mpr (h0 i (by omega))), nI_1]
    exact ih (i + 1) f (by omega) (by omega)
/-- all inputs are others than 0, with what stood before -/
def gdm (inp : Nat → Int32) (g : Bool) : Nat → Bool
  | 0 => g
  | i + 1 => gdm inp g i && !decide (inp i = 0)
theorem gd_L {n : Nat} (hn : n ≤ 8) (inp : Nat → Int32) (g : Bool) (k : Int32 → Option Int32) :
    ∀ (m i fuel : Nat), i + m = n → m < fuel → fX6_lastWord_L95 (nI n) inp k fuel (b01 (gdm inp g i)) (nI i) = k (b01 (gdm inp g n)) := by
  intro m
  induction m with
  | zero =>
    intro i fuel hi hf
    obtain ⟨f, rfl⟩ : ∃ f, fuel = f + 1 := ⟨fuel - 1, by omega⟩
    obtain rfl : i = n := by omega
    rw [fX6_lastWord_L95, if_pos ((leN hn hn).mpr (Nat.le_refl _))]
  | succ m ih =>
    intro i fuel hi hf
    obtain ⟨f, rfl⟩ : ∃ f, fuel = f + 1 := ⟨fuel - 1, by omega⟩
    have h := ih (i + 1) f (by omega) (by omega)
    rw [fX6_lastWord_L95, if_neg (fun e => absurd ((leN hn (by omega)).mp e) (by omega)), nI_1]
    rw [gdm] at h
    cases hg : gdm inp g i
    · rw [if_pos (show b01 false = 0 from rfl)]
      rw [hg, Bool.false_and] at h
      exact h
    · rw [if_neg (show ¬ b01 true = 0 by decide), if_pos (inb8 (by omega)), cl8 (by omega)]
      rw [hg, Bool.true_and] at h
      by_cases hz : inp i = 0
      · rw [if_pos hz]; rw [decide_eq_true hz] at h; exact h
      · rw [if_neg hz]; rw [decide_eq_false hz] at h; exact h
theorem gd_iff (inp : Nat → Int32) (g : Bool) : ∀ m, gdm inp g m = true ↔ (g = true ∧ ∀ i, i < m → ¬ inp i = 0)
  | 0 => by simp [gdm]
  | m + 1 => by
    rw [gdm, Bool.and_eq_true, gd_iff inp g m]
    constructor
    · rintro ⟨⟨a, b⟩, c⟩
      refine ⟨a, fun i hi => ?_⟩
      by_cases e : i = m
      · subst e; simpa using c
      · exact b i (by omega)
    · rintro ⟨a, b⟩
      exact ⟨⟨a, fun i hi => b i (by omega)⟩, by simpa using b m (by omega)⟩
theorem lst_ev0 {inp : Nat → Int32} (hI : IR inp) {n : Nat} (hn : n ≤ 8) (hn0 : 0 < n) : lst inp (fX2_everyone (nI n)) 8 = 0 ↔ ∃ i, i < n ∧ inp i = 0 := by
  constructor
  · intro h
    obtain ⟨i, w, h1, h2, h3, h4, h5⟩ := lst_mem hI (s := fX2_everyone (nI n)) (i0 := 0) (by omega) (by rw [ev_bt hn, decide_eq_true hn0])
    rw [ev_bt hn, decide_eq_true_eq] at h2
    exact ⟨i, h2, by rw [h4, ← h5, h]⟩
  · rintro ⟨i, hi, e⟩
    have hle := lst_le inp (fX2_everyone (nI n)) 8 i (by omega) (by rw [ev_bt hn, decide_eq_true hi])
    obtain ⟨_, w, _, _, h3, _, h5⟩ := lst_mem hI (s := fX2_everyone (nI n)) (i0 := 0) (by omega) (by rw [ev_bt hn, decide_eq_true hn0])
    rw [h5, e] at hle
    have : w ≤ 0 := (nI_leI (b := 0) (by omega) (by omega)).mp hle
    rw [h5, show w = 0 by omega]; rfl
theorem lastWord_eq {alg : Int32} {inp : Nat → Int32} (hI : IR inp) {n p : Nat} (hn : n ≤ 8) (hn0 : 0 < n) (hp : p < 8) (kn : Nat → Int32) {s : Int32} (hs : lo8 s) {i0 : Nat} (h0 : i0 < 8) (hb : bt s i0 = true) (hk : kn p = valK alg inp s) : fX6_lastWord alg (nI n) inp kn (nI p) = some (decV alg n inp s) := by
  unfold fX6_lastWord decV
  by_cases a0 : alg = 0
  · have h4 : ¬ alg = 4 := by rw [a0]; decide
    have h5 : ¬ alg = 5 := by rw [a0]; decide
    simp only [if_pos a0, if_neg h4, if_neg h5]
    obtain ⟨i, w, h1, h2, h3, h4', h5'⟩ := lst_mem hI h0 hb
    have hkp : kn p = asb inp s 8 := by rw [hk]; unfold valK; rw [if_pos a0]
    rw [h5']
    refine low_L hp kn _ h3 ?_ ?_ w 0 1000 (by omega) (by omega)
    · rw [hkp]; exact (asb_bt hI s (by omega) 8 (by omega)).mpr ⟨i, h1, h2, h4'⟩
    · intro j hj
      cases hc : bt (kn p) j
      · rfl
      · rw [hkp] at hc
        obtain ⟨i2, c1, c2, c3⟩ := (asb_bt hI s (by omega) 8 (by omega)).mp hc
        have hle := lst_le inp s 8 i2 c1 c2
        rw [h5', c3] at hle
        exact absurd ((nI_leI (by omega) (by omega)).mp hle) (by omega)
  · simp only [if_neg a0]
    by_cases a4 : alg = 4
    · have hkp : kn p = s := by rw [hk]; unfold valK; rw [if_neg a0, if_pos (Or.inl a4)]
      simp only [if_pos a4, if_pos (inb8 hp), cl8 hp, hkp, bits_eq hs, Option.bind_some]
    · simp only [if_neg a4]
      by_cases a5 : alg = 5
      · have hkp : kn p = s := by rw [hk]; unfold valK; rw [if_neg a0, if_pos (Or.inr a5)]
        simp only [if_pos a5, if_pos (inb8 hp), cl8 hp, hkp, all_ev]
        have hg : ∀ g : Bool, fX6_lastWord_L95 (nI n) inp (fun x3_95 => if x3_95 = 0 then some (0 : Int32) else some (1 : Int32)) 1000 (b01 g) 0 = some (b01 (gdm inp g n)) := by
          intro g
          have h := gd_L hn inp g (fun x3_95 => if x3_95 = 0 then some (0 : Int32) else some (1 : Int32)) n 0 1000 (by omega) (by omega)
          rw [gdm] at h
          refine h.trans ?_
          cases gdm inp g n <;> rfl
        by_cases he : s = fX2_everyone (nI n)
        · rw [if_pos he]
          refine (hg true).trans ?_
          congr 1
          by_cases hz : lst inp s 8 = 0
          · rw [if_neg (fun q => q.2 hz)]
            cases hgd : gdm inp true n
            · rfl
            · rw [he] at hz
              obtain ⟨i, c1, c2⟩ := (lst_ev0 hI hn hn0).mp hz
              exact absurd c2 (((gd_iff inp true n).mp hgd).2 i c1)
          · rw [if_pos ⟨he, hz⟩]
            cases hgd : gdm inp true n
            · exfalso
              apply hz
              rw [he]
              refine (lst_ev0 hI hn hn0).mpr ?_
              apply Classical.byContradiction
              intro hno
              have : gdm inp true n = true := (gd_iff inp true n).mpr ⟨rfl, fun i hi e => hno ⟨i, hi, e⟩⟩
              rw [hgd] at this
              cases this
            · rfl
        · rw [if_neg he]
          refine (hg false).trans ?_
          rw [if_neg (fun q => he q.1)]
          congr 1
          cases hgd : gdm inp false n
          · rfl
          · exact absurd ((gd_iff inp false n).mp hgd).1 (by simp)
      · simp only [if_neg a5, if_pos (inb8 hp), cl8 hp]
        rw [hk]; unfold valK
        rw [if_neg a0, if_neg (fun q => q.elim a4 a5)]
