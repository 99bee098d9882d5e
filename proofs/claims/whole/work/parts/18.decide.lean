/-! ===== own rows: deciding ===== -/
/-- what one decides from, if it decides in this round -/
def dfo (alg : Int32) (ham over mkp : Bool) (knp ltp : Int32) : Option Int32 :=
  if alg = 1 then (if (ham || over) = true then some knp else none)
  else if alg = 2 then (if mkp = true then some ltp else if over = true then some knp else none)
  else if over = true then some knp else none
def apD (made : Int32) (di df : Nat → Int32) (p : Nat) (o : Option Int32) : (Nat → Int32) × (Nat → Int32) :=
  match o with
  | none => (di, df)
  | some s => if di p = 0 then (upd di p made, upd df p s) else (di, df)
theorem decide_eq (made : Int32) (di df : Nat → Int32) {p : Nat} (hp : p < 8) (s : Int32) : fX3_decide made di df (nI p) s = some (apD made di df p (some s)) := by
  unfold fX3_decide apD
  rw [if_pos (inb8 hp), cl8 hp]
  by_cases h : di p = 0
  · simp only [if_pos h]
  · simp only [if_neg h]
theorem over_eq (made R : Int32) : fX3_isOver made R = b01 (decide (R ≤ made)) := by
  unfold fX3_isOver b01
  by_cases h : made < R
  · rw [if_pos h, if_neg (by simp [Int32.not_le.mpr h])]
  · rw [if_neg h, if_pos (by simp [Int32.not_lt.mp h])]
theorem b01_0 (b : Bool) : b01 b = 0 ↔ b = false := by cases b <;> simp [b01]
theorem conclude_eq (made mkd mkl alg R : Int32) (kn di df lt : Nat → Int32) {p : Nat} (hp : p < 8) (ham : Bool) (snd : Int32) :
    fX3_conclude made mkd mkl alg R kn di df lt (nI p) (b01 ham) snd = some ((if alg = 2 ∧ (ham = true ∨ ¬ (snd &&& mkl) = 0) then mkd ||| ((1 : Int32) <<< (nI p &&& 31)) else mkd), (apD made di df p (dfo alg ham (decide (R ≤ made)) (bt mkl p) (kn p) (lt p))).1, (apD made di df p (dfo alg ham (decide (R ≤ made)) (bt mkl p) (kn p) (lt p))).2) := by
  unfold fX3_conclude
  simp only [over_eq, b01_0, if_pos (inb8 hp), cl8 hp, decide_eq made di df hp, has_0 mkl p (by omega : p < 32), Option.bind_some]
  generalize hov : decide (R ≤ made) = ov
  by_cases h1 : alg = 1
  · have h2 : ¬ alg = 2 := by rw [h1]; decide
    simp only [if_pos h1, dfo, h2, false_and, if_false]
    cases ham <;> cases ov <;> simp [apD]
  · simp only [if_neg h1, dfo]
    by_cases h2 : alg = 2
    · simp only [if_pos h2, h2, true_and]
      by_cases hs : snd &&& mkl = 0
      · simp only [if_pos hs, hs]
        cases ham <;> cases ov <;> cases bt mkl p <;> simp [apD]
      · simp only [if_neg hs, hs]
        cases ham <;> cases ov <;> cases bt mkl p <;> simp [apD]
    · simp only [if_neg h2, h2, false_and, if_false]
      cases ov <;> simp [apD]
