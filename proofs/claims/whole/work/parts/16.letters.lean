/-! ===== own rows: reading the letters of a round ===== -/
/-- what comes out of the letters of the first i processes -/
def orl (p : Nat) (rd lt : Nat → Int32) : Nat → Int32
  | 0 => 0
  | i + 1 => if bt (rd i) p = true then orl p rd lt i ||| lt i else orl p rd lt i
theorem readL (p n : Nat) (hp : p < 8) (hn : n ≤ 8) (lt rd : Nat → Int32) (k : Int32 → Int32 → Option (Int32 × (Nat → Int32) × (Nat → Int32) × (Nat → Int32) × (Nat → Int32))) :
    ∀ (m i fuel : Nat), i + m = n → m < fuel → fX3_readLetters_L7 (nI p) (nI n) lt rd k fuel (mk (fun q => bt (rd q) p) i) (orl p rd lt i) (nI i) = k (mk (fun q => bt (rd q) p) n) (orl p rd lt n) := by
  intro m
  induction m with
  | zero =>
    intro i fuel hi hf
    obtain ⟨f, rfl⟩ : ∃ f, fuel = f + 1 := ⟨fuel - 1, by omega⟩
    obtain rfl : i = n := by omega
    rw [fX3_readLetters_L7, if_pos ((leN hn hn).mpr (Nat.le_refl _))]
  | succ m ih =>
    intro i fuel hi hf
    obtain ⟨f, rfl⟩ : ∃ f, fuel = f + 1 := ⟨fuel - 1, by omega⟩
    have h := ih (i + 1) f (by omega) (by omega)
    rw [fX3_readLetters_L7, if_neg (fun e => absurd ((leN hn (by omega)).mp e) (by omega)), if_pos (inb8 (by omega)), cl8 (by omega), nI_1]
    rw [mk, orl] at h
    by_cases h1 : bt (rd i) p = true
    · rw [if_neg (fun e => by rw [(has_0 _ p (by omega)).mp e] at h1; cases h1)]
      rw [if_pos h1, if_pos h1] at h
      exact h
    · rw [if_pos ((has_0 _ p (by omega)).mpr (by simpa using h1))]
      rw [if_neg h1, if_neg h1] at h
      exact h
/-- the reference's side: what is known, how many letters, whether a mark came -/
def kwm (alg : Int32) (p : Nat) (sn bf : Nat → Int32) (k0 : Int32) : Nat → Int32
  | 0 => k0
  | i + 1 => if bt (sn i) p = true then fX6_joined alg (kwm alg p sn bf k0 i) (bf i) else kwm alg p sn bf k0 i
def csm (p : Nat) (sn : Nat → Int32) : Nat → Nat
  | 0 => 0
  | i + 1 => csm p sn i + (if bt (sn i) p = true then 1 else 0)
def gmm (p : Nat) (sn : Nat → Int32) (mk_ : Int32) : Nat → Bool
  | 0 => false
  | i + 1 => if bt (sn i) p = true then (gmm p sn mk_ i || bt mk_ i) else gmm p sn mk_ i
def b01 (b : Bool) : Int32 := if b = true then 1 else 0
theorem upd_self (f : Nat → Int32) (k : Nat) : upd f k (f k) = f := by
  funext j; unfold upd; by_cases h : j = k
  · rw [if_pos h, h]
  · rw [if_neg h]
theorem nI_add1 (x : Int32) (a : Nat) : x + nI a + 1 = x + nI (a + 1) := by rw [Int32.add_assoc, nI_1]
theorem recvL (alg mkd : Int32) (p n : Nat) (hp : p < 8) (hn : n ≤ 8) (bf sn kn : Nat → Int32) (g0 : Int32) (k : Int32 → Int32 → (Nat → Int32) → Option (Int32 × (Nat → Int32) × (Nat → Int32) × (Nat → Int32) × (Nat → Int32))) :
    ∀ (m i fuel : Nat), i + m = n → m < fuel → fX6_receive_L36 (nI p) mkd alg (nI n) bf sn k fuel (g0 + nI (csm p sn i)) (b01 (gmm p sn mkd i)) (nI i) (upd kn p (kwm alg p sn bf (kn p) i)) = k (g0 + nI (csm p sn n)) (b01 (gmm p sn mkd n)) (upd kn p (kwm alg p sn bf (kn p) n)) := by
  intro m
  induction m with
  | zero =>
    intro i fuel hi hf
    obtain ⟨f, rfl⟩ : ∃ f, fuel = f + 1 := ⟨fuel - 1, by omega⟩
    obtain rfl : i = n := by omega
    rw [fX6_receive_L36, if_pos ((leN hn hn).mpr (Nat.le_refl _))]
  | succ m ih =>
    intro i fuel hi hf
    obtain ⟨f, rfl⟩ : ∃ f, fuel = f + 1 := ⟨fuel - 1, by omega⟩
    have h := ih (i + 1) f (by omega) (by omega)
    rw [fX6_receive_L36, if_neg (fun e => absurd ((leN hn (by omega)).mp e) (by omega)), if_pos (inb8 (by omega)), cl8 (by omega), cl8 hp, nI_1]
    rw [csm, gmm, kwm] at h
    by_cases h1 : bt (sn i) p = true
    · rw [if_pos ((hs_1 _ p (by omega)).mpr h1), if_pos (inb8 hp), upd_same, upd_upd, nI_add1]
      rw [if_pos h1, if_pos h1, if_pos h1] at h
      cases hg : gmm p sn mkd i
      · rw [hg] at h
        rw [if_pos (show b01 false = 0 from rfl)]
        cases hm : bt mkd i
        · rw [if_neg (fun e => by rw [(hs_1 _ i (by omega)).mp e] at hm; cases hm)]
          rw [hm] at h
          exact h
        · rw [if_pos ((hs_1 _ i (by omega)).mpr hm)]
          rw [hm] at h
          exact h
      · rw [hg] at h
        rw [if_neg (show ¬ b01 true = 0 by decide)]
        exact h
    · rw [if_neg (fun e => h1 ((hs_1 _ p (by omega)).mp e))]
      rw [if_neg h1, if_neg h1, if_neg h1, Nat.add_zero] at h
      exact h
