/-! ===== own rows: Integer.bitCount up to sixteen bits: over the natural numbers, then by trying all ===== -/
def cN (k : Nat) : Nat → Nat
  | 0 => 0
  | m + 1 => cN k m + (if k.testBit m = true then 1 else 0)
theorem cnt_cN {k : Nat} : ∀ m, m ≤ 32 → cnt (nI k) m = cN k m
  | 0, _ => rfl
  | m + 1, h => by rw [cnt, cN, cnt_cN m (by omega), nI_bt k m (by omega)]
def n1 (k : Nat) : Nat := k - ((k / 2) &&& 1431655765)
def n2 (y : Nat) : Nat := (y &&& 858993459) + ((y / 4) &&& 858993459)
def n3 (y : Nat) : Nat := (y + y / 16) &&& 252645135
def n4 (y : Nat) : Nat := y + y / 256
def n5 (y : Nat) : Nat := y + y / 65536
def bcN (k : Nat) : Nat := n5 (n4 (n3 (n2 (n1 k)))) &&& 63
theorem nx_and (a b : Nat) : nI a &&& nI b = nI (a &&& b) := by
  apply Int32.toBitVec_inj.1
  show BitVec.ofNat 32 a &&& BitVec.ofNat 32 b = BitVec.ofNat 32 (a &&& b)
  apply BitVec.eq_of_getLsbD_eq
  intro i hi
  simp [hi]
theorem bc_nat {k : Nat} (hk : k < 65536) : fJ6_bitCount_0f7a4 (nI k) = nI (bcN k) := by
  have u : ∀ (y : Nat) (s : Int32) (j : Nat), y < 2 ^ 32 → ((s.toUInt32 &&& Int32.toUInt32 31).toBitVec % 32).toNat = j → ((nI y).toUInt32 >>> (s.toUInt32 &&& Int32.toUInt32 31)).toInt32 = nI (y / 2 ^ j) := fun y s j h1 h2 => pk_ushrN h1 s j h2
  have a1 : n1 k ≤ k := Nat.sub_le _ _
  have a2 : n2 (n1 k) ≤ k + k / 4 := Nat.le_trans (Nat.add_le_add Nat.and_le_left Nat.and_le_left) (Nat.add_le_add a1 (Nat.div_le_div_right a1))
  have a3 : n3 (n2 (n1 k)) ≤ n2 (n1 k) + n2 (n1 k) / 16 := Nat.and_le_left
  have b3 : n3 (n2 (n1 k)) < 2 ^ 20 := by omega
  have b4 : n4 (n3 (n2 (n1 k))) < 2 ^ 21 := by unfold n4; omega
  unfold fJ6_bitCount_0f7a4
  simp only [nm]
  rw [u k 1 1 (by omega) (by decide +kernel), show (1431655765 : Int32) = nI 1431655765 from rfl, nx_and, pk_sub (Nat.le_trans Nat.and_le_left (by omega))]
  change _ = nI (n5 (n4 (n3 (n2 (n1 k)))) &&& 63)
  rw [show k - ((k / 2 ^ 1) &&& 1431655765) = n1 k from rfl]
  rw [u (n1 k) 2 2 (by omega) (by decide +kernel), show (858993459 : Int32) = nI 858993459 from rfl, nx_and, nx_and, nI_add]
  rw [show (n1 k &&& 858993459) + ((n1 k / 2 ^ 2) &&& 858993459) = n2 (n1 k) from rfl]
  rw [u (n2 (n1 k)) 4 4 (by omega) (by decide +kernel), nI_add, show (252645135 : Int32) = nI 252645135 from rfl, nx_and]
  rw [show (n2 (n1 k) + n2 (n1 k) / 2 ^ 4) &&& 252645135 = n3 (n2 (n1 k)) from rfl]
  rw [u (n3 (n2 (n1 k))) 8 8 (by omega) (by decide +kernel), nI_add]
  rw [show n3 (n2 (n1 k)) + n3 (n2 (n1 k)) / 2 ^ 8 = n4 (n3 (n2 (n1 k))) from rfl]
  rw [u (n4 (n3 (n2 (n1 k)))) 16 16 (by omega) (by decide +kernel), nI_add]
  rw [show n4 (n3 (n2 (n1 k))) + n4 (n3 (n2 (n1 k))) / 2 ^ 16 = n5 (n4 (n3 (n2 (n1 k)))) from rfl]
  rw [show (63 : Int32) = nI 63 from rfl, nx_and]
theorem bcN_0 : ∀ h, h < 32 → ∀ l, l < 256 → bcN ((0 + h) * 256 + l) = cN (0 + h) 8 + cN l 8 := by decide +kernel
theorem bcN_1 : ∀ h, h < 32 → ∀ l, l < 256 → bcN ((32 + h) * 256 + l) = cN (32 + h) 8 + cN l 8 := by decide +kernel
theorem bcN_2 : ∀ h, h < 32 → ∀ l, l < 256 → bcN ((64 + h) * 256 + l) = cN (64 + h) 8 + cN l 8 := by decide +kernel
theorem bcN_3 : ∀ h, h < 32 → ∀ l, l < 256 → bcN ((96 + h) * 256 + l) = cN (96 + h) 8 + cN l 8 := by decide +kernel
theorem bcN_4 : ∀ h, h < 32 → ∀ l, l < 256 → bcN ((128 + h) * 256 + l) = cN (128 + h) 8 + cN l 8 := by decide +kernel
theorem bcN_5 : ∀ h, h < 32 → ∀ l, l < 256 → bcN ((160 + h) * 256 + l) = cN (160 + h) 8 + cN l 8 := by decide +kernel
theorem bcN_6 : ∀ h, h < 32 → ∀ l, l < 256 → bcN ((192 + h) * 256 + l) = cN (192 + h) 8 + cN l 8 := by decide +kernel
theorem bcN_7 : ∀ h, h < 32 → ∀ l, l < 256 → bcN ((224 + h) * 256 + l) = cN (224 + h) 8 + cN l 8 := by decide +kernel
theorem bcN_all : ∀ h, h < 256 → ∀ l, l < 256 → bcN (h * 256 + l) = cN h 8 + cN l 8 := by
  intro h hh l hl
  have e : h = 32 * (h / 32) + h % 32 := by omega
  have hc : h / 32 < 8 := by omega
  have hm : h % 32 < 32 := by omega
  rw [e]
  generalize h / 32 = c at hc ⊢
  generalize h % 32 = d at hm ⊢
  match c, hc with
  | 0, _ => exact bcN_0 d hm l hl
  | 1, _ => exact bcN_1 d hm l hl
  | 2, _ => exact bcN_2 d hm l hl
  | 3, _ => exact bcN_3 d hm l hl
  | 4, _ => exact bcN_4 d hm l hl
  | 5, _ => exact bcN_5 d hm l hl
  | 6, _ => exact bcN_6 d hm l hl
  | 7, _ => exact bcN_7 d hm l hl
  | c + 8, hc => omega
theorem tb_lo {h l : Nat} (hl : l < 256) {i : Nat} (hi : i < 8) : (h * 256 + l).testBit i = l.testBit i := by
  have := Nat.testBit_two_pow_mul_add h (i := 8) (b := l) hl i
  rw [if_pos hi] at this
  rw [Nat.mul_comm]; exact this
theorem tb_hi {h l : Nat} (hl : l < 256) {i : Nat} : (h * 256 + l).testBit (8 + i) = h.testBit i := by
  have := Nat.testBit_two_pow_mul_add h (i := 8) (b := l) hl (8 + i)
  rw [if_neg (by omega), Nat.add_sub_cancel_left] at this
  rw [Nat.mul_comm]; exact this
theorem cN_lo {h l : Nat} (hl : l < 256) : ∀ m, m ≤ 8 → cN (h * 256 + l) m = cN l m
  | 0, _ => rfl
  | m + 1, hm => by rw [cN, cN, cN_lo hl m (by omega), tb_lo hl (by omega)]
theorem cN_hi {h l : Nat} (hl : l < 256) : ∀ m, cN (h * 256 + l) (8 + m) = cN l 8 + cN h m
  | 0 => by rw [Nat.add_zero, cN_lo hl 8 (Nat.le_refl _)]; rfl
  | m + 1 => by rw [show 8 + (m + 1) = (8 + m) + 1 from rfl, cN, cN_hi hl m, tb_hi hl, Nat.add_assoc]; rfl
def lo16 (x : Int32) : Prop := ∀ i, 16 ≤ i → bt x i = false
theorem lo16_nI {x : Int32} (h : lo16 x) : ∃ k, k < 65536 ∧ x = nI k := by
  refine ⟨x.toBitVec.toNat, ?_, ?_⟩
  · apply Nat.lt_pow_two_of_testBit (n := 16)
    intro i hi
    have := h i hi
    unfold bt at this
    rw [BitVec.getLsbD] at this
    exact this
  · apply Int32.toBitVec_inj.1
    show x.toBitVec = BitVec.ofNat 32 x.toBitVec.toNat
    simp
theorem bc16_eq {x : Int32} (h : lo16 x) : fJ6_bitCount_0f7a4 x = nI (cnt x 16) := by
  obtain ⟨k, hk, rfl⟩ := lo16_nI h
  rw [bc_nat hk, cnt_cN 16 (by omega)]
  have := bcN_all (k / 256) (by omega) (k % 256) (by omega)
  rw [show k / 256 * 256 + k % 256 = k by omega] at this
  have h2 := cN_hi (h := k / 256) (l := k % 256) (by omega) 8
  rw [show k / 256 * 256 + k % 256 = k by omega] at h2
  rw [this, show (16 : Nat) = 8 + 8 from rfl, h2, Nat.add_comm]
