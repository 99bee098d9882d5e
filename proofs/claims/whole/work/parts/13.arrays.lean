/-! ===== own rows: arrays that a loop fills from the front ===== -/
def pf (i : Nat) (g f : Nat → Int32) : Nat → Int32 := fun j => if j < i then g j else f j
theorem pf_0 (g f : Nat → Int32) : pf 0 g f = f := by funext j; simp [pf]
theorem pf_s (i : Nat) (g f : Nat → Int32) : upd (pf i g f) i (g i) = pf (i + 1) g f := by
  funext j
  unfold upd pf
  by_cases h : j = i
  · subst h; rw [if_pos rfl, if_pos (by omega)]
  · rw [if_neg h]
    by_cases h2 : j < i
    · rw [if_pos h2, if_pos (by omega)]
    · rw [if_neg h2, if_neg (by omega)]
theorem pf_s' {i : Nat} {g f : Nat → Int32} {x : Int32} (h : x = g i) : upd (pf i g f) i x = pf (i + 1) g f := by rw [h, pf_s]
theorem pf_lt {i j : Nat} (g f : Nat → Int32) (h : j < i) : pf i g f j = g j := by unfold pf; rw [if_pos h]
theorem pf_ge {i j : Nat} (g f : Nat → Int32) (h : i ≤ j) : pf i g f j = f j := by unfold pf; rw [if_neg (by omega)]
theorem upd_same (f : Nat → Int32) (k : Nat) (x : Int32) : upd f k x k = x := by unfold upd; rw [if_pos rfl]
theorem upd_ne (f : Nat → Int32) {k j : Nat} (x : Int32) (h : j ≠ k) : upd f k x j = f j := by unfold upd; rw [if_neg h]
theorem upd_upd (f : Nat → Int32) (k : Nat) (x y : Int32) : upd (upd f k x) k y = upd f k y := by
  funext j; unfold upd; by_cases h : j = k <;> simp [h]
theorem leN {n i : Nat} (hn : n ≤ 8) (hi : i ≤ 8) : (nI n ≤ nI i) ↔ n ≤ i := nI_leI (by omega) (by omega)
/-- Run.begin: what it makes -/
theorem begin_L (pro : Int32) (k : (Nat → Int32) → (Nat → Int32) → (Nat → Int32) → (Nat → Int32) → Option (Int32 × Int32 × Int32 × Int32 × (Nat → Int32) × (Nat → Int32) × (Nat → Int32) × (Nat → Int32))) (df di he kn : Nat → Int32) :
    ∀ (m i fuel : Nat), i + m = 8 → m < fuel → fX3_begin_L28 pro k fuel (nI i) (pf i (fun _ => 0) df) (pf i (fun _ => 0) di) (pf i (fun _ => pro) he) (pf i (fun p => (1 : Int32) <<< (nI p &&& 31)) kn) = k (pf 8 (fun _ => 0) df) (pf 8 (fun _ => 0) di) (pf 8 (fun _ => pro) he) (pf 8 (fun p => (1 : Int32) <<< (nI p &&& 31)) kn) := by
  intro m
  induction m with
  | zero =>
    intro i fuel hi hf
    obtain ⟨f, rfl⟩ : ∃ f, fuel = f + 1 := ⟨fuel - 1, by omega⟩
    obtain rfl : i = 8 := by omega
    rw [fX3_begin_L28, if_pos ((le8 (by omega)).mpr (by omega))]
  | succ m ih =>
    intro i fuel hi hf
    obtain ⟨f, rfl⟩ : ∃ f, fuel = f + 1 := ⟨fuel - 1, by omega⟩
    have h := ih (i + 1) f (by omega) (by omega)
    rw [fX3_begin_L28, if_neg (fun e => absurd ((le8 (by omega)).mp e) (by omega)), if_pos (inb8 (by omega)), cl8 (by omega), nI_1, pf_s' (g := fun _ => 0) rfl, pf_s' (g := fun _ => 0) rfl, pf_s' (g := fun _ => pro) rfl, pf_s' (g := fun p => (1 : Int32) <<< (nI p &&& 31)) rfl]
    exact h
theorem begin_eq (pro : Int32) (kn he di df : Nat → Int32) : fX3_begin pro kn he di df = some (0, 0, fX2_everyone pro, 0, pf 8 (fun p => (1 : Int32) <<< (nI p &&& 31)) kn, pf 8 (fun _ => pro) he, pf 8 (fun _ => 0) di, pf 8 (fun _ => 0) df) := by
  unfold fX3_begin
  have h := begin_L pro (fun v_decidedFrom_28 v_decidedIn_28 v_heardFrom_28 v_known_28 => some ((0 : Int32), (0 : Int32), (fX2_everyone pro), (0 : Int32), v_known_28, v_heardFrom_28, v_decidedIn_28, v_decidedFrom_28)) df di he kn 8 0 1000 rfl (by omega)
  simp only [pf_0] at h
  exact h
