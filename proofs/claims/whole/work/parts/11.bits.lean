/-! ===== own rows: numbers and bits, for the pure functions (bt, b_ext .. s_l, b_shl, b_sshr begun from kit/laws/BITS.to-paste) ===== -/
def bt (x : Int32) (i : Nat) : Bool := x.toBitVec.getLsbD i
theorem b_ext {x y : Int32} (h : ∀ i, i < 32 → bt x i = bt y i) : x = y := Int32.toBitVec_inj.mp (BitVec.eq_of_getLsbD_eq (fun i hi => h i hi))
theorem b_or (x y : Int32) (i : Nat) : bt (x ||| y) i = (bt x i || bt y i) := by unfold bt; rw [Int32.toBitVec_or, BitVec.getLsbD_or]
theorem b_and (x y : Int32) (i : Nat) : bt (x &&& y) i = (bt x i && bt y i) := by unfold bt; rw [Int32.toBitVec_and, BitVec.getLsbD_and]
theorem b_xor (x y : Int32) (i : Nat) : bt (x ^^^ y) i = (bt x i ^^ bt y i) := by unfold bt; rw [Int32.toBitVec_xor, BitVec.getLsbD_xor]
theorem b_big {x : Int32} {i : Nat} (h : 32 ≤ i) : bt x i = false := BitVec.getLsbD_of_ge _ _ h
theorem b_m1 : ∀ i, i < 32 → bt (-1) i = true := by decide +kernel
theorem b_0 (i : Nat) : bt 0 i = false := BitVec.getLsbD_zero
theorem s_l : ∀ n, n < 32 → ((nI n &&& 31).toBitVec.smod 32).toNat = n := by decide +kernel
theorem b_shl (n : Nat) (hn : n < 32) (x : Int32) {i : Nat} (hi : i < 32) : bt (x <<< (nI n &&& 31)) i = (decide (n ≤ i) && bt x (i - n)) := by
  unfold bt
  rw [Int32.toBitVec_shiftLeft]
  show (x.toBitVec <<< ((nI n &&& 31).toBitVec.smod 32).toNat).getLsbD i = _
  rw [s_l n hn, BitVec.getLsbD_shiftLeft]
  rcases Nat.lt_or_ge i n with h | h
  · simp [h, Nat.not_le.mpr h]
  · simp [hi, h, Nat.not_lt.mpr h]
theorem b_sshr (n : Nat) (hn : n < 32) (x : Int32) {i : Nat} (hi : i < 32) : bt (x >>> (nI n &&& 31)) i = if n + i < 32 then bt x (n + i) else bt x 31 := by
  unfold bt
  rw [Int32.toBitVec_shiftRight]
  show (x.toBitVec.sshiftRight ((nI n &&& 31).toBitVec.smod 32).toNat).getLsbD i = _
  rw [s_l n hn, BitVec.getLsbD_sshiftRight, BitVec.msb_eq_getLsbD_last]
  simp [hi]
theorem b_1 : ∀ i, i < 32 → bt 1 i = decide (i = 0) := by decide +kernel
theorem b_not (x : Int32) {i : Nat} (hi : i < 32) : bt (x ^^^ (-1)) i = !bt x i := by rw [b_xor, b_m1 i hi]; cases bt x i <;> rfl
theorem b_one (p : Nat) (hp : p < 32) {i : Nat} (hi : i < 32) : bt ((1 : Int32) <<< (nI p &&& 31)) i = decide (i = p) := by
  rw [b_shl p hp _ hi, b_1 _ (by omega)]
  rcases Nat.lt_or_ge i p with h | h
  · rw [decide_eq_false (show ¬ p ≤ i by omega), Bool.false_and, decide_eq_false (show ¬ i = p by omega)]
  · rw [decide_eq_true h, Bool.true_and]; congr 1; exact propext ⟨fun _ => by omega, fun _ => by omega⟩
theorem and1_bit (x : Int32) (i : Nat) (hi : i < 32) : bt (x &&& 1) i = (decide (i = 0) && bt x 0) := by
  rw [b_and, b_1 i hi]
  by_cases h : i = 0
  · subst h; simp
  · simp [h]
theorem and1_0 (x : Int32) : x &&& 1 = 0 ↔ bt x 0 = false := by
  constructor
  · intro h
    have := and1_bit x 0 (by omega)
    rw [h, b_0] at this
    simpa using this.symm
  · intro h
    apply b_ext
    intro i hi
    rw [and1_bit x i hi, h, b_0, Bool.and_false]
theorem and1_1 (x : Int32) : x &&& 1 = 1 ↔ bt x 0 = true := by
  constructor
  · intro h
    have := and1_bit x 0 (by omega)
    rw [h] at this
    have e : bt 1 0 = true := by decide +kernel
    rw [e] at this
    simpa using this.symm
  · intro h
    apply b_ext
    intro i hi
    rw [and1_bit x i hi, h, b_1 i hi, Bool.and_true]
theorem shr_0 (x : Int32) (p : Nat) (hp : p < 32) : bt (x >>> (nI p &&& 31)) 0 = bt x p := by
  rw [b_sshr p hp x (by omega), if_pos (by omega)]; rfl
theorem hs_0 (x : Int32) (p : Nat) (hp : p < 32) : ((x >>> (nI p &&& 31)) &&& 1) = 0 ↔ bt x p = false := by rw [and1_0, shr_0 x p hp]
theorem hs_1 (x : Int32) (p : Nat) (hp : p < 32) : ((x >>> (nI p &&& 31)) &&& 1) = 1 ↔ bt x p = true := by rw [and1_1, shr_0 x p hp]
/-- sets of eight -/
def lo8 (x : Int32) : Prop := ∀ i, 8 ≤ i → bt x i = false
theorem nI_bt (k i : Nat) (hi : i < 32) : bt (nI k) i = k.testBit i := by
  unfold bt nI
  show (BitVec.ofNat 32 k).getLsbD i = _
  rw [BitVec.getLsbD_ofNat, decide_eq_true hi, Bool.true_and]
theorem lo8_nI {x : Int32} (h : lo8 x) : ∃ k, k < 256 ∧ x = nI k := by
  refine ⟨x.toBitVec.toNat, ?_, ?_⟩
  · apply Nat.lt_pow_two_of_testBit (n := 8)
    intro i hi
    have := h i hi
    unfold bt at this
    rw [BitVec.getLsbD] at this
    exact this
  · apply Int32.toBitVec_inj.1
    show x.toBitVec = BitVec.ofNat 32 x.toBitVec.toNat
    simp
theorem nI_lo8 {k : Nat} (h : k < 256) : lo8 (nI k) := by
  intro i hi
  rcases Nat.lt_or_ge i 32 with h32 | h32
  · rw [nI_bt k i h32]
    exact Nat.testBit_lt_two_pow (Nat.lt_of_lt_of_le h (by
      have : 2 ^ 8 ≤ 2 ^ i := Nat.pow_le_pow_right (by omega) hi
      omega))
  · exact b_big h32
/-- how many of the first m bits are there -/
def cnt (x : Int32) : Nat → Nat
  | 0 => 0
  | m + 1 => cnt x m + (if bt x m = true then 1 else 0)
