/-! ===== own rows: differ and disagrees ===== -/
def cmpB (alg cr : Int32) (ro : Nat → Int32) (R : Int32) (im : Nat → Int32) (p : Nat) : Bool := !decide (im p = 0) && (decide (alg = 2) || sd cr ro R p)
theorem isCompared_eq {n : Nat} (hn : n ≤ 8) {alg cr R : Int32} {ro rch crs mrc im : Nat → Int32} (hP : PL n cr ro rch crs mrc) {p : Nat} (hp : p < n) (hr : ∃ d, d ≤ 100 ∧ im p = nI d) : fX6_isCompared alg R crs im (nI p) = some (b01 (cmpB alg cr ro R im p)) := by
  unfold fX6_isCompared cmpB
  rw [if_pos (inb8 (by omega)), cl8 (by omega), isSound_eq hn hP hp]
  obtain ⟨d, hd, e⟩ := hr
  have hz : (im p ≤ 0) ↔ im p = 0 := by
    rw [e, ← nI_0, nI_leI (by omega) (by omega), nI_eq (by omega) (by omega)]; omega
  by_cases h0 : im p = 0
  · rw [if_pos (hz.mpr h0), decide_eq_true h0]; rfl
  · rw [if_neg (fun q => h0 (hz.mp q)), decide_eq_false h0]
    by_cases h2 : alg = 2
    · rw [if_pos h2, decide_eq_true h2]; rfl
    · rw [if_neg h2, Option.bind_some, decide_eq_false h2]
      cases sd cr ro R p <;> rfl
def PB (alg cr : Int32) (ro : Nat → Int32) (R : Int32) (im : Nat → Int32) (p : Nat) : Bool := if alg = 4 then sd cr ro R p else cmpB alg cr ro R im p
def VB (alg : Int32) (km dm : Nat → Int32) (p : Nat) : Int32 := if alg = 4 then km p else dm p
theorem fresh_L {n : Nat} (hn : n ≤ 8) {alg cr R : Int32} {ro rch crs mrc im km dm : Nat → Int32} (hP : PL n cr ro rch crs mrc) {p : Nat} (hp : p < n) (hr : ∀ q, q < n → ∃ d, d ≤ 100 ∧ im q = nI d) (k : Int32 → Option Int32) :
    ∀ (m i fuel : Nat), i + m = p → m < fuel → fX6_differ_L40 (nI p) alg R crs km dm im k fuel 1 (nI i) = k (b01 (!anyf (fun q => PB alg cr ro R im q && decide (VB alg km dm q = VB alg km dm p)) i m)) := by
  intro m
  induction m with
  | zero =>
    intro i fuel hi hf
    obtain ⟨f, rfl⟩ : ∃ f, fuel = f + 1 := ⟨fuel - 1, by omega⟩
    obtain rfl : i = p := by omega
    rw [fX6_differ_L40, if_pos ((leN (by omega) (by omega)).mpr (Nat.le_refl _)), anyf]; rfl
  | succ m ih =>
    intro i fuel hi hf
    obtain ⟨f, rfl⟩ : ∃ f, fuel = f + 1 := ⟨fuel - 1, by omega⟩
    have h := ih (i + 1) f (by omega)
    have hstop : ∀ f', m < f' → fX6_differ_L40 (nI p) alg R crs km dm im k f' 0 (nI (i + 1)) = k (b01 false) := by
      intro f' hf'
      obtain ⟨g, rfl⟩ : ∃ g, f' = g + 1 := ⟨f' - 1, by omega⟩
      rw [fX6_differ_L40]
      by_cases hc : nI p ≤ nI (i + 1)
      · rw [if_pos hc]; rfl
      · rw [if_neg hc, if_pos rfl]; rfl
    rw [fX6_differ_L40, if_neg (fun e => absurd ((leN (by omega) (by omega)).mp e) (by omega)), if_neg (by decide), nI_1, anyf]
    unfold PB VB at h ⊢
    by_cases h4 : alg = 4
    · simp only [if_pos h4] at h ⊢
      rw [isSound_eq hn hP (by omega : i < n), Option.bind_some]
      cases hs : sd cr ro R i
      · rw [if_pos (show b01 false = 0 from rfl), h (by omega)]; simp
      · rw [if_neg (show ¬ b01 true = 0 by decide), if_pos (inb8 (by omega)), if_pos (inb8 (by omega)), cl8 (by omega), cl8 (by omega)]
        by_cases he : km i = km p
        · rw [if_pos he, hstop f (by omega)]; simp [he]
        · rw [if_neg he, h (by omega)]; simp [he]
    · simp only [if_neg h4] at h ⊢
      rw [isCompared_eq hn hP (by omega : i < n) (hr i (by omega)), Option.bind_some]
      cases hs : cmpB alg cr ro R im i
      · rw [if_pos (show b01 false = 0 from rfl), h (by omega)]; simp
      · rw [if_neg (show ¬ b01 true = 0 by decide), if_pos (inb8 (by omega)), if_pos (inb8 (by omega)), cl8 (by omega), cl8 (by omega)]
        by_cases he : dm i = dm p
        · rw [if_pos he, hstop f (by omega)]; simp [he]
        · rw [if_neg he, h (by omega)]; simp [he]
theorem fresh_eq {n : Nat} (hn : n ≤ 8) {alg cr R : Int32} {ro rch crs mrc im km dm : Nat → Int32} (hP : PL n cr ro rch crs mrc) {p : Nat} (hp : p < n) (hr : ∀ q, q < n → ∃ d, d ≤ 100 ∧ im q = nI d) (k : Int32 → Option Int32) :
    fX6_differ_L40 (nI p) alg R crs km dm im k 1000 (b01 (PB alg cr ro R im p)) 0 = k (b01 (frs (PB alg cr ro R im) (VB alg km dm) p)) := by
  unfold frs
  cases hb : PB alg cr ro R im p
  · rw [show (1000 : Nat) = 999 + 1 from rfl, fX6_differ_L40]
    by_cases hc : nI p ≤ 0
    · rw [if_pos hc]; rfl
    · rw [if_neg hc, if_pos (show b01 false = 0 from rfl)]; rfl
  · have h := fresh_L (km := km) (dm := dm) hn (alg := alg) (R := R) hP hp hr k p 0 1000 (by omega) (by omega)
    rw [nI_0] at h
    rw [show b01 true = 1 from rfl]
    generalize fX6_differ_L40 = F at h ⊢
    rw [h, Bool.true_and]
theorem differ_L {n : Nat} (hn : n ≤ 8) {alg cr R : Int32} {ro rch crs mrc im km dm : Nat → Int32} (hP : PL n cr ro rch crs mrc) (hr : ∀ q, q < n → ∃ d, d ≤ 100 ∧ im q = nI d) (k : Int32 → Option Int32) :
    ∀ (m i fuel : Nat), i + m = n → m < fuel → fX6_differ_L6 alg (nI n) R crs km dm im k fuel (nI (cp (frs (PB alg cr ro R im) (VB alg km dm)) i)) (nI (cp (frs (PB alg cr ro R im) (VB alg km dm)) i)) (nI i) = k (nI (cp (frs (PB alg cr ro R im) (VB alg km dm)) n)) := by
  intro m
  induction m with
  | zero =>
    intro i fuel hi hf
    obtain ⟨f, rfl⟩ : ∃ f, fuel = f + 1 := ⟨fuel - 1, by omega⟩
    obtain rfl : i = n := by omega
    rw [fX6_differ_L6, if_pos ((leN hn hn).mpr (Nat.le_refl _))]
  | succ m ih =>
    intro i fuel hi hf
    obtain ⟨f, rfl⟩ : ∃ f, fuel = f + 1 := ⟨fuel - 1, by omega⟩
    have h := ih (i + 1) f (by omega) (by omega)
    have hin : i < n := by omega
    rw [fX6_differ_L6, if_neg (fun e => absurd ((leN hn (by omega)).mp e) (by omega)), nI_1]
    have hcl : ∀ j, cp (frs (PB alg cr ro R im) (VB alg km dm)) j ≤ j := by
      intro j
      induction j with
      | zero => exact Nat.le_refl _
      | succ j ihj => rw [cp]; by_cases q : frs (PB alg cr ro R im) (VB alg km dm) j = true <;> simp [q] <;> omega
    have hci := hcl i
    have hx0 : nI (cp (frs (PB alg cr ro R im) (VB alg km dm)) i) + 0 = nI (cp (frs (PB alg cr ro R im) (VB alg km dm)) i) := by simp
    have key : ∀ fl : Bool, fl = frs (PB alg cr ro R im) (VB alg km dm) i → (if b01 fl = 0 then (if nI (cp (frs (PB alg cr ro R im) (VB alg km dm)) i) ≤ (nI (cp (frs (PB alg cr ro R im) (VB alg km dm)) i) + (0 : Int32)) then (fX6_differ_L6 alg (nI n) R crs km dm im k f (nI (cp (frs (PB alg cr ro R im) (VB alg km dm)) i) + (0 : Int32)) (nI (cp (frs (PB alg cr ro R im) (VB alg km dm)) i) + (0 : Int32)) (nI (i + 1))) else (fX6_differ_L6 alg (nI n) R crs km dm im k f (nI (cp (frs (PB alg cr ro R im) (VB alg km dm)) i)) (nI (cp (frs (PB alg cr ro R im) (VB alg km dm)) i) + (0 : Int32)) (nI (i + 1)))) else (if nI (cp (frs (PB alg cr ro R im) (VB alg km dm)) i) ≤ (nI (cp (frs (PB alg cr ro R im) (VB alg km dm)) i) + (1 : Int32)) then (fX6_differ_L6 alg (nI n) R crs km dm im k f (nI (cp (frs (PB alg cr ro R im) (VB alg km dm)) i) + (1 : Int32)) (nI (cp (frs (PB alg cr ro R im) (VB alg km dm)) i) + (1 : Int32)) (nI (i + 1))) else (fX6_differ_L6 alg (nI n) R crs km dm im k f (nI (cp (frs (PB alg cr ro R im) (VB alg km dm)) i)) (nI (cp (frs (PB alg cr ro R im) (VB alg km dm)) i) + (1 : Int32)) (nI (i + 1))))) = k (nI (cp (frs (PB alg cr ro R im) (VB alg km dm)) n)) := by
      intro fl hfl
      rw [cp] at h
      cases fl
      · rw [← hfl, if_neg (by simp), Nat.add_zero] at h
        rw [if_pos (show b01 false = 0 from rfl), hx0, if_pos (i_le_refl _)]
        exact h
      · rw [← hfl, if_pos rfl] at h
        rw [if_neg (show ¬ b01 true = 0 by decide), nI_1, if_pos ((nI_leI (by omega) (by omega)).mpr (by omega))]
        exact h
    by_cases h4 : alg = 4
    · rw [if_pos h4, isSound_eq hn hP hin, Option.bind_some]
      have hpb : sd cr ro R i = PB alg cr ro R im i := by unfold PB; rw [if_pos h4]
      rw [hpb]
      have hfr := fresh_eq hn (alg := alg) (R := R) (km := km) (dm := dm) hP hin hr
      generalize fX6_differ_L6 = F at h key ⊢
      rw [hfr]
      exact key _ rfl
    · rw [if_neg h4, isCompared_eq hn hP hin (hr i hin), Option.bind_some]
      have hpb : cmpB alg cr ro R im i = PB alg cr ro R im i := by unfold PB; rw [if_neg h4]
      rw [hpb]
      have hfr := fresh_eq hn (alg := alg) (R := R) (km := km) (dm := dm) hP hin hr
      generalize fX6_differ_L6 = F at h key ⊢
      rw [hfr]
      exact key _ rfl
theorem differ_eq {n : Nat} (hn : n ≤ 8) {alg cr R g : Int32} {ro rch crs mrc im km dm : Nat → Int32} (hP : PL n cr ro rch crs mrc) (hr : ∀ q, q < n → ∃ d, d ≤ 100 ∧ im q = nI d) :
    fX6_differ alg (nI n) g R crs km dm im = some (b01 (!decide (nI (cp (frs (PB alg cr ro R im) (VB alg km dm)) n) ≤ (if alg = 3 then g else 1)))) := by
  unfold fX6_differ
  have h := differ_L (km := km) (dm := dm) hn (alg := alg) (R := R) hP hr (fun x1_6 => (if alg = (3 : Int32) then (if x1_6 ≤ g then some (0 : Int32) else some (1 : Int32)) else (if x1_6 ≤ (1 : Int32) then some (0 : Int32) else some (1 : Int32)))) n 0 1000 (by omega) (by omega)
  rw [cp, nI_0] at h
  generalize fX6_differ_L6 = F at h ⊢
  rw [h]
  by_cases h3 : alg = 3
  · rw [if_pos h3, if_pos h3]
    by_cases hq : nI (cp (frs (PB alg cr ro R im) (VB alg km dm)) n) ≤ g
    · rw [if_pos hq, decide_eq_true hq]; rfl
    · rw [if_neg hq, decide_eq_false hq]; rfl
  · rw [if_neg h3, if_neg h3]
    by_cases hq : nI (cp (frs (PB alg cr ro R im) (VB alg km dm)) n) ≤ 1
    · rw [if_pos hq, decide_eq_true hq]; rfl
    · rw [if_neg hq, decide_eq_false hq]; rfl
