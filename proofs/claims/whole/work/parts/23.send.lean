/-! ===== own rows: sending the letters of a round, both sides ===== -/
def spk (alg made up : Int32) (p : Nat) : Bool := bt up p && (decide (¬ alg = 6) || decide (nI p = made - 1))
def oth (n : Nat) (CN : Int32) (rch : Nat → Int32) (p : Nat) : Int32 := if bt CN p = true then rch p else fX2_everyone (nI n) &&& (((1 : Int32) <<< (nI p &&& 31)) ^^^ (-1))
def rdv (alg made up : Int32) (n : Nat) (CN : Int32) (rch : Nat → Int32) (p : Nat) : Int32 := if spk alg made up p = true then oth n CN rch p ||| ((1 : Int32) <<< (nI p &&& 31)) else 0
def snv (alg made up : Int32) (n : Nat) (CN : Int32) (rch : Nat → Int32) (p : Nat) : Int32 := if spk alg made up p = true then oth n CN rch p else 0
def lsm (alg made up : Int32) (n : Nat) (CN : Int32) (rch : Nat → Int32) (l0 : Int32) : Nat → Int32
  | 0 => l0
  | i + 1 => lsm alg made up n CN rch l0 i + (if spk alg made up i = true then nI (cnt (oth n CN rch i) 8) else 0)
theorem oth_lo8 {n : Nat} (hn : n ≤ 8) {CN : Int32} {rch : Nat → Int32} {p : Nat} (h : bt CN p = true → lo8 (rch p)) : lo8 (oth n CN rch p) := by
  unfold oth
  by_cases hc : bt CN p = true
  · rw [if_pos hc]; exact h hc
  · rw [if_neg hc]; exact lo8_and (ev_lo8 hn)
theorem sendsNow_eq (made alg : Int32) (p : Nat) : fX3_sendsNow made alg (nI p) = b01 (decide (¬ alg = 6) || decide (nI p = made - 1)) := by
  unfold fX3_sendsNow b01
  by_cases h6 : alg = 6
  · rw [if_pos h6]
    by_cases h : nI p = made - 1
    · rw [if_pos h, if_pos (by simp [h])]
    · rw [if_neg h, if_neg (by simp [h6, h])]
  · rw [if_neg h6, if_pos (by simp [h6])]
theorem send_L (alg made up CN : Int32) {n : Nat} (hn : n ≤ 8) (rch kn lt rd : Nat → Int32) (l0 : Int32) (hr : ∀ p, p < n → bt CN p = true → lo8 (rch p)) (k : (Nat → Int32) → (Nat → Int32) → Int32 → Option (Int32 × Int32 × (Nat → Int32) × (Nat → Int32))) :
    ∀ (m i fuel : Nat), i + m = n → m < fuel → fX3_sendLetters_L10 CN made up alg (nI n) rch kn k fuel (nI i) (pf i kn lt) (pf i (rdv alg made up n CN rch) rd) (lsm alg made up n CN rch l0 i) = k (pf n kn lt) (pf n (rdv alg made up n CN rch) rd) (lsm alg made up n CN rch l0 n) := by
  intro m
  induction m with
  | zero =>
    intro i fuel hi hf
    obtain ⟨f, rfl⟩ : ∃ f, fuel = f + 1 := ⟨fuel - 1, by omega⟩
    obtain rfl : i = n := by omega
    rw [fX3_sendLetters_L10, if_pos ((leN hn hn).mpr (Nat.le_refl _))]
  | succ m ih =>
    intro i fuel hi hf
    obtain ⟨f, rfl⟩ : ∃ f, fuel = f + 1 := ⟨fuel - 1, by omega⟩
    have h := ih (i + 1) f (by omega) (by omega)
    rw [fX3_sendLetters_L10, if_neg (fun e => absurd ((leN hn (by omega)).mp e) (by omega)), if_pos (inb8 (by omega))]
    simp only [cl8 (show i < 8 by omega), nI_1, upd_upd, sendsNow_eq, b01_0, has_0 up i (by omega : i < 32), has_0 CN i (by omega : i < 32)]
    rw [pf_s' (g := kn) rfl]
    have hlo : bt CN i = true → lo8 (rch i) := hr i (by omega)
    have hoth := oth_lo8 (n := n) hn hlo
    rw [lsm] at h
    by_cases h1 : bt up i = false
    · rw [if_pos h1]
      have hs : spk alg made up i = false := by unfold spk; rw [h1]; rfl
      rw [hs, if_neg (by simp)] at h
      rw [pf_s' (g := rdv alg made up n CN rch) (by unfold rdv; rw [hs, if_neg (by simp)])]
      simpa using h
    · rw [if_neg h1]
      simp only [Bool.not_eq_false] at h1
      by_cases h2 : (decide (¬ alg = 6) || decide (nI i = made - 1)) = false
      · rw [if_pos h2]
        have hs : spk alg made up i = false := by unfold spk; rw [h1, h2]; rfl
        rw [hs, if_neg (by simp)] at h
        rw [pf_s' (g := rdv alg made up n CN rch) (by unfold rdv; rw [hs, if_neg (by simp)])]
        simpa using h
      · rw [if_neg h2]
        simp only [Bool.not_eq_false] at h2
        have hs : spk alg made up i = true := by unfold spk; rw [h1, h2]; rfl
        rw [hs, if_pos rfl] at h
        by_cases h3 : bt CN i = false
        · rw [if_pos h3]
          have e : oth n CN rch i = fX2_everyone (nI n) &&& (((1 : Int32) <<< (nI i &&& 31)) ^^^ (-1)) := by unfold oth; rw [h3, if_neg (by simp)]
          rw [pf_s' (g := rdv alg made up n CN rch) (by unfold rdv; rw [hs, if_pos rfl, e])]
          rw [← bc_eq hoth, e] at h
          exact h
        · rw [if_neg h3]
          simp only [Bool.not_eq_false] at h3
          have e : oth n CN rch i = rch i := by unfold oth; rw [h3, if_pos rfl]
          rw [pf_s' (g := rdv alg made up n CN rch) (by unfold rdv; rw [hs, if_pos rfl, e])]
          rw [← bc_eq hoth, e] at h
          exact h
theorem send_eq (alg made up mkd CN : Int32) {n : Nat} (hn : n ≤ 8) (rch kn lt rd : Nat → Int32) (l0 : Int32) (hr : ∀ p, p < n → bt CN p = true → lo8 (rch p)) :
    fX3_sendLetters made l0 up mkd alg (nI n) rch kn lt rd CN = some (lsm alg made up n CN rch l0 n, mkd, pf n kn lt, pf n (rdv alg made up n CN rch) rd) := by
  unfold fX3_sendLetters
  have h := send_L alg made up CN hn rch kn lt rd l0 hr (fun v_letter_10 v_readers_10 v_letters_10 => some (v_letters_10, mkd, v_letter_10, v_readers_10)) n 0 1000 (by omega) (by omega)
  rw [pf_0, pf_0, lsm] at h
  exact h
theorem bits_0 : fX6_bits 0 = some 0 := by decide +kernel
theorem msend_L (alg up CN : Int32) {n mm : Nat} (hn : n ≤ 8) (hn0 : 0 < n) (hm1 : 1 ≤ mm) (hmn : mm ≤ n) (rch crs mrc kn bf sn : Nat → Int32) (l0 : Int32) (hr : ∀ p, p < n → bt CN p = true → lo8 (rch p)) (hc : ∀ p, p < n → (crs p = nI mm ↔ bt CN p = true)) (hrc : ∀ p, p < n → bt CN p = true → mrc p = rch p) (k : (Nat → Int32) → (Nat → Int32) → Int32 → Option (Int32 × (Nat → Int32) × (Nat → Int32))) :
    ∀ (m i fuel : Nat), i + m = n → m < fuel → fX6_sendLetters_L2 (nI mm) alg (nI n) up crs mrc kn k fuel (nI i) (pf i kn bf) (pf i (snv alg (nI mm) up n CN rch) sn) (lsm alg (nI mm) up n CN rch l0 i) = k (pf n kn bf) (pf n (snv alg (nI mm) up n CN rch) sn) (lsm alg (nI mm) up n CN rch l0 n) := by
  have hnz : ¬ nI n = 0 := nI_ne0 hn0 (by omega)
  have e1 : nI mm - 1 = nI (mm - 1) := pk_sub (a := mm) (b := 1) (by omega)
  have hrem : ∀ i, ((nI mm - 1) - (nI mm - 1) / nI n * nI n = nI i) ↔ (nI i = nI mm - 1) := by
    intro i
    rw [e1, pk_rem (by omega) hn0 (by omega), Nat.mod_eq_of_lt (by omega)]
    exact ⟨fun q => q.symm, fun q => q.symm⟩
  intro m
  induction m with
  | zero =>
    intro i fuel hi hf
    obtain ⟨f, rfl⟩ : ∃ f, fuel = f + 1 := ⟨fuel - 1, by omega⟩
    obtain rfl : i = n := by omega
    rw [fX6_sendLetters_L2, if_pos ((leN hn hn).mpr (Nat.le_refl _))]
  | succ m ih =>
    intro i fuel hi hf
    obtain ⟨f, rfl⟩ : ∃ f, fuel = f + 1 := ⟨fuel - 1, by omega⟩
    have h := ih (i + 1) f (by omega) (by omega)
    rw [fX6_sendLetters_L2, if_neg (fun e => absurd ((leN hn (by omega)).mp e) (by omega)), if_pos (inb8 (by omega))]
    simp only [cl8 (show i < 8 by omega), nI_1, upd_same, isUp_0 up i (by omega : i < 32), hrem, if_neg hnz, hc i (by omega), bits_0, Option.bind_some, all_ev]
    rw [pf_s' (g := kn) rfl]
    have hlo : bt CN i = true → lo8 (rch i) := hr i (by omega)
    have hoth := oth_lo8 (n := n) hn hlo
    rw [lsm] at h
    have hno : spk alg (nI mm) up i = false → fX6_sendLetters_L2 (nI mm) alg (nI n) up crs mrc kn k f (nI (i + 1)) (pf (i + 1) kn bf) (upd (pf i (snv alg (nI mm) up n CN rch) sn) i 0) (lsm alg (nI mm) up n CN rch l0 i + 0) = k (pf n kn bf) (pf n (snv alg (nI mm) up n CN rch) sn) (lsm alg (nI mm) up n CN rch l0 n) := by
      intro hs
      rw [hs, if_neg (by simp)] at h
      rw [pf_s' (g := snv alg (nI mm) up n CN rch) (by unfold snv; rw [hs, if_neg (by simp)])]
      exact h
    have hyes : spk alg (nI mm) up i = true → (if bt CN i = true then Option.bind (fX6_bits (mrc i)) (fun a => fX6_sendLetters_L2 (nI mm) alg (nI n) up crs mrc kn k f (nI (i + 1)) (pf (i + 1) kn bf) (upd (pf i (snv alg (nI mm) up n CN rch) sn) i (mrc i)) (lsm alg (nI mm) up n CN rch l0 i + a)) else Option.bind (fX6_bits (fX2_everyone (nI n) &&& (((1 : Int32) <<< (nI i &&& 31)) ^^^ (-1)))) (fun a => fX6_sendLetters_L2 (nI mm) alg (nI n) up crs mrc kn k f (nI (i + 1)) (pf (i + 1) kn bf) (upd (pf i (snv alg (nI mm) up n CN rch) sn) i (fX2_everyone (nI n) &&& (((1 : Int32) <<< (nI i &&& 31)) ^^^ (-1)))) (lsm alg (nI mm) up n CN rch l0 i + a))) = k (pf n kn bf) (pf n (snv alg (nI mm) up n CN rch) sn) (lsm alg (nI mm) up n CN rch l0 n) := by
      intro hs
      rw [hs, if_pos rfl] at h
      by_cases h3 : bt CN i = true
      · have e : oth n CN rch i = mrc i := by unfold oth; rw [h3, if_pos rfl, hrc i (by omega) h3]
        rw [if_pos h3, ← e, bits_eq hoth, Option.bind_some, pf_s' (g := snv alg (nI mm) up n CN rch) (by unfold snv; rw [hs, if_pos rfl])]
        exact h
      · have e : oth n CN rch i = fX2_everyone (nI n) &&& (((1 : Int32) <<< (nI i &&& 31)) ^^^ (-1)) := by unfold oth; rw [if_neg h3]
        rw [if_neg h3, ← e, bits_eq hoth, Option.bind_some, pf_s' (g := snv alg (nI mm) up n CN rch) (by unfold snv; rw [hs, if_pos rfl])]
        exact h
    by_cases h1 : bt up i = false
    · rw [if_pos h1]
      exact hno (by unfold spk; rw [h1]; rfl)
    · rw [if_neg h1]
      simp only [Bool.not_eq_false] at h1
      by_cases h6 : alg = 6
      · rw [if_pos h6]
        by_cases h2 : nI i = nI mm - 1
        · rw [if_pos h2]
          exact hyes (by unfold spk; rw [h1, decide_eq_true h2]; simp)
        · rw [if_neg h2]
          exact hno (by unfold spk; rw [h1, decide_eq_false h2]; simp [h6])
      · rw [if_neg h6]
        exact hyes (by unfold spk; rw [h1]; simp [h6])
