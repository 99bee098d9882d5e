theorem iiX0_clear_X0 : ∀ w ∈ wsX00, w ∈ wsX0_clear := by decide +kernel
set_option maxHeartbeats 4000000 in
set_option maxRecDepth 100000 in
theorem kX0_clear (l : Launch) (dC : Nat → ClassId) (dI : Nat → Nat → Nat) (cI : ClassId) (q_this q_of : Nat) (sz : Nat) (v_of : (Nat → Int32)) (R : (Nat → Int32)) (h : fX0_clear v_of = some R) : Met l yX0_clear wsX0_clear ({ frames := 1, cells := 0, slots := 0, locals := 23 } : Room) (va_Pc [.ref q_this] (fun U => U.heap.size = sz ∧ va_P (dC, dI) vwCl [(q_this, .inr (0, [.ref q_of])), (q_of, .inl (cI, 8, .inl v_of))] U.heap ∧ va_K (dC, dI) vwCl [(cI, .int)] U ∧ NW U ∧ va_D (fun _ => True) [(q_this, .inr (0, [.ref q_of])), (q_of, .inl (cI, 8, .inl v_of))])) (va_Qv (fun (_ : Unit) => True) (fun (_ : Unit) t => va_P (dC, dI) vwCl [(q_this, .inr (0, [.ref q_of])), (q_of, .inl (cI, 8, .inl R))] t.heap ∧ va_K (dC, dI) vwCl [(cI, .int)] t ∧ va_D (va_A [(q_this, .inr (0, [.ref q_of])), (q_of, .inl (cI, 8, .inl v_of))] sz) [(q_this, .inr (0, [.ref q_of])), (q_of, .inl (cI, 8, .inl R))]) (va_A [(q_this, .inr (0, [.ref q_of])), (q_of, .inl (cI, 8, .inl v_of))] sz)) 0 0 (va_A [(q_this, .inr (0, [.ref q_of])), (q_of, .inl (cI, 8, .inl v_of))] sz) := by
  refine Met.ofW (cc := cX0_clear) (maxL := 1) (ret := none) (by decide) rfl ?_
  intro p e s m args below meth c s₁ B hml hv
  obtain ⟨rfl, hsz, hP, hK, hN, hD0⟩ := hv
  have hx := B.exec
  have hb := B.bytes
  have hr := B.returns
  have hts := atoms_spec (ws := wsX0_clear) B.pre
  have hown : s.vm.findClass RX0 = some m.cls := findClass_of_methodNamed B.named
  have hlocks := B.notSynchronized
  subst hsz
  have hD := hD0.self (sz := s.heap.size)
  generalize hAe : va_A [(q_this, .inr (0, [.ref q_of])), (q_of, .inl (cI, 8, .inl v_of))] s.heap.size = A at hD ⊢
  have hA : ∀ q : Nat, s.heap.size ≤ q → A q := fun q h => by rw [← hAe]; exact Or.inr h
  have hS : va_S A s.heap s.heap [] := va_S.rf
  have hl := lv_entry ([.ref q_this]) (n := 1) (Nat.le_of_ble_eq_true rfl)
  rw [lg_entry_eq]
  generalize (lg_sl ([.ref q_this]) ++ List.replicate (1 - (lg_sl ([.ref q_this])).length) Slot.unset).toArray = ls at hl ⊢
  have hl : lv_has ls 1 [(0, .ref q_this)] := hl
  unfold fX0_clear at h
  obtain ⟨H, hH⟩ : ∃ H, H = s.heap := ⟨_, rfl⟩
  obtain ⟨locs, hlocs⟩ : ∃ q : List Loc, q = [] := ⟨_, rfl⟩
  suffices hgo : ∀ (H : Heap) (locs : List Loc), va_P (dC, dI) vwCl [(q_this, .inr (0, [.ref q_of])), (q_of, .inl (cI, 8, .inl v_of))] H → va_S A s.heap H locs → W p l e (headSpec wsX0_clear ({ frames := 1, cells := 0, slots := 0, locals := 23 } : Room)).room s m ([.ref q_this] : List Value).toArray below meth c H locs 0 0 (MQ below (va_Qv (fun (_ : Unit) => True) (fun (_ : Unit) t => va_P (dC, dI) vwCl [(q_this, .inr (0, [.ref q_of])), (q_of, .inl (cI, 8, .inl R))] t.heap ∧ va_K (dC, dI) vwCl [(cI, .int)] t ∧ va_D A [(q_this, .inr (0, [.ref q_of])), (q_of, .inl (cI, 8, .inl R))]) A) ([.ref q_this] : List Value).toArray s 0 0 A) (F0 m 0 ls []) from hgo _ _ hP hS
  clear hH hlocs hP hS
  clear H locs
  intro H locs hP hS
  refine lv_aload_n hx hb dX0_clear_0 rfl (lv_at hl 0 rfl) ?_
  refine va_get (D := (dC, dI)) (ci := 0) (v := .ref q_of) (C := RX0) (T := TX0) (N := 1) hx hb hts iiX0_clear_X0 hown hK hP 0 rfl rfl 0 (by decide) (hts (.fieldLink RX0 9 "CrashRounds$Inputs" "of" "[I") (by decide +kernel)) (fun _ h9 => h9) rfl dX0_clear_1 ?_
  refine lv_iconst (v := 0) hx hb dX0_clear_4 (by decide) ?_
  obtain ⟨a1, ha1, h⟩ := bd_s h
  have hPc := hP.sub (ws' := [(q_of, .inl (cI, 8, .inl v_of))]) [1] rfl
  have hDc := hD.sub (ws' := [(q_of, .inl (cI, 8, .inl v_of))]) [1] (by decide) rfl
  have hFc := va_free (wc := [(q_of, .inl (cI, 8, .inl v_of))]) hD hS hA [1] rfl
  refine va_callv (va_runS (As := [.ref q_of, .int (0 : Int32)]) (rest := []) ⟨hx, hb, hml, hown, hts⟩ (kJ7_fill_53178 l dC dI cI q_of H.size v_of (0 : Int32) a1 ha1) (va_cwS 2 hts gX0_clear_J7_fill_53178 rfl rfl rfl (by decide +kernel) ⟨Nat.le_of_ble_eq_true rfl, Nat.le_of_ble_eq_true rfl⟩) ⟨pc_blind _ _ _ _ _ _, pc_ok hPc hK hN hDc⟩ rfl rfl hl.1 rfl (lv_room (Nat.le_of_ble_eq_true rfl)) dX0_clear_5 ⟨Nat.zero_le _, Nat.zero_le _⟩) hS (fun q _ h => hFc q h) hFc (fun u t H1 locs ht hvm hw hB hz1 hk1 hS => ?_)
  obtain ⟨hP1, hK1, hD1⟩ := hB
  rw [ht] at hP1
  obtain ⟨hP, hD⟩ := va_join (wr := [(q_this, .inr (0, [.ref q_of]))]) (w1 := [(q_of, .inl (cI, 8, .inl a1))]) hP hD [1] [0] rfl rfl (by decide) (by decide) hk1 hFc hP1 hD1
  generalize H1 = H at hP hS ⊢
  have hP : va_P (dC, dI) vwCl [(q_this, .inr (0, [.ref q_of])), (q_of, .inl (cI, 8, .inl a1))] H := hP.sub [0, 1] rfl
  have hD : va_D A [(q_this, .inr (0, [.ref q_of])), (q_of, .inl (cI, 8, .inl a1))] := hD.sub [0, 1] (by decide) rfl
  have h := Option.some.inj h
  subst h
  exact W.vret hx hb hr (fun t ht hW => ⟨⟨(), rfl, trivial, by rw [ht]; exact hP, va_K.moved hW.alike hK, hD⟩, hS.F ht⟩) hS.2.2 dX0_clear_8
theorem iiX0_copy_X0 : ∀ w ∈ wsX00, w ∈ wsX0_copy := by decide +kernel
set_option maxHeartbeats 4000000 in
set_option maxRecDepth 100000 in
theorem kX0_copy (l : Launch) (dC : Nat → ClassId) (dI : Nat → Nat → Nat) (cI : ClassId) (q_this q_other q_of q_other_of : Nat) (sz : Nat) (v_of : (Nat → Int32)) (v_other_of : (Nat → Int32)) (R : (Nat → Int32)) (h : fX0_copy v_of v_other_of = R) : Met l yX0_copy wsX0_copy ({ frames := 1, cells := 0, slots := 0, locals := 30 } : Room) (va_Pc [.ref q_this, .ref q_other] (fun U => U.heap.size = sz ∧ va_P (dC, dI) vwCl [(q_this, .inr (0, [.ref q_of])), (q_of, .inl (cI, 8, .inl v_of)), (q_other, .inr (0, [.ref q_other_of])), (q_other_of, .inl (cI, 8, .inl v_other_of))] U.heap ∧ va_K (dC, dI) vwCl [(cI, .int)] U ∧ NW U ∧ va_D (fun _ => True) [(q_this, .inr (0, [.ref q_of])), (q_of, .inl (cI, 8, .inl v_of)), (q_other, .inr (0, [.ref q_other_of])), (q_other_of, .inl (cI, 8, .inl v_other_of))])) (va_Qv (fun (_ : Unit) => True) (fun (_ : Unit) t => va_P (dC, dI) vwCl [(q_this, .inr (0, [.ref q_of])), (q_of, .inl (cI, 8, .inl R)), (q_other, .inr (0, [.ref q_other_of])), (q_other_of, .inl (cI, 8, .inl v_other_of))] t.heap ∧ va_K (dC, dI) vwCl [(cI, .int)] t ∧ va_D (va_A [(q_this, .inr (0, [.ref q_of])), (q_of, .inl (cI, 8, .inl v_of)), (q_other, .inr (0, [.ref q_other_of])), (q_other_of, .inl (cI, 8, .inl v_other_of))] sz) [(q_this, .inr (0, [.ref q_of])), (q_of, .inl (cI, 8, .inl R)), (q_other, .inr (0, [.ref q_other_of])), (q_other_of, .inl (cI, 8, .inl v_other_of))]) (va_A [(q_this, .inr (0, [.ref q_of])), (q_of, .inl (cI, 8, .inl v_of)), (q_other, .inr (0, [.ref q_other_of])), (q_other_of, .inl (cI, 8, .inl v_other_of))] sz)) 0 0 (va_A [(q_this, .inr (0, [.ref q_of])), (q_of, .inl (cI, 8, .inl v_of)), (q_other, .inr (0, [.ref q_other_of])), (q_other_of, .inl (cI, 8, .inl v_other_of))] sz) := by
  refine Met.ofW (cc := cX0_copy) (maxL := 2) (ret := none) (by decide) rfl ?_
  intro p e s m args below meth c s₁ B hml hv
  obtain ⟨rfl, hsz, hP, hK, hN, hD0⟩ := hv
  have hx := B.exec
  have hb := B.bytes
  have hr := B.returns
  have hts := atoms_spec (ws := wsX0_copy) B.pre
  have hown : s.vm.findClass RX0 = some m.cls := findClass_of_methodNamed B.named
  have hlocks := B.notSynchronized
  subst hsz
  have hD := hD0.self (sz := s.heap.size)
  generalize hAe : va_A [(q_this, .inr (0, [.ref q_of])), (q_of, .inl (cI, 8, .inl v_of)), (q_other, .inr (0, [.ref q_other_of])), (q_other_of, .inl (cI, 8, .inl v_other_of))] s.heap.size = A at hD ⊢
  have hA : ∀ q : Nat, s.heap.size ≤ q → A q := fun q h => by rw [← hAe]; exact Or.inr h
  have hS : va_S A s.heap s.heap [] := va_S.rf
  have hl := lv_entry ([.ref q_this, .ref q_other]) (n := 2) (Nat.le_of_ble_eq_true rfl)
  rw [lg_entry_eq]
  generalize (lg_sl ([.ref q_this, .ref q_other]) ++ List.replicate (2 - (lg_sl ([.ref q_this, .ref q_other])).length) Slot.unset).toArray = ls at hl ⊢
  have hl : lv_has ls 2 [(0, .ref q_this), (1, .ref q_other)] := hl
  unfold fX0_copy at h
  obtain ⟨H, hH⟩ : ∃ H, H = s.heap := ⟨_, rfl⟩
  obtain ⟨locs, hlocs⟩ : ∃ q : List Loc, q = [] := ⟨_, rfl⟩
  suffices hgo : ∀ (H : Heap) (locs : List Loc), va_P (dC, dI) vwCl [(q_this, .inr (0, [.ref q_of])), (q_of, .inl (cI, 8, .inl v_of)), (q_other, .inr (0, [.ref q_other_of])), (q_other_of, .inl (cI, 8, .inl v_other_of))] H → va_S A s.heap H locs → W p l e (headSpec wsX0_copy ({ frames := 1, cells := 0, slots := 0, locals := 30 } : Room)).room s m ([.ref q_this, .ref q_other] : List Value).toArray below meth c H locs 0 0 (MQ below (va_Qv (fun (_ : Unit) => True) (fun (_ : Unit) t => va_P (dC, dI) vwCl [(q_this, .inr (0, [.ref q_of])), (q_of, .inl (cI, 8, .inl R)), (q_other, .inr (0, [.ref q_other_of])), (q_other_of, .inl (cI, 8, .inl v_other_of))] t.heap ∧ va_K (dC, dI) vwCl [(cI, .int)] t ∧ va_D A [(q_this, .inr (0, [.ref q_of])), (q_of, .inl (cI, 8, .inl R)), (q_other, .inr (0, [.ref q_other_of])), (q_other_of, .inl (cI, 8, .inl v_other_of))]) A) ([.ref q_this, .ref q_other] : List Value).toArray s 0 0 A) (F0 m 0 ls []) from hgo _ _ hP hS
  clear hH hlocs hP hS
  clear H locs
  intro H locs hP hS
  refine lv_aload_n hx hb dX0_copy_0 rfl (lv_at hl 1 rfl) ?_
  refine va_get (D := (dC, dI)) (ci := 0) (v := .ref q_other_of) (C := RX0) (T := TX0) (N := 1) hx hb hts iiX0_copy_X0 hown hK hP 2 rfl rfl 0 (by decide) (hts (.fieldLink RX0 9 "CrashRounds$Inputs" "of" "[I") (by decide +kernel)) (fun _ h9 => h9) rfl dX0_copy_1 ?_
  refine lv_iconst (v := 0) hx hb dX0_copy_4 (by decide) ?_
  refine lv_aload_n hx hb dX0_copy_5 rfl (lv_at hl 0 rfl) ?_
  refine va_get (D := (dC, dI)) (ci := 0) (v := .ref q_of) (C := RX0) (T := TX0) (N := 1) hx hb hts iiX0_copy_X0 hown hK hP 0 rfl rfl 0 (by decide) (hts (.fieldLink RX0 9 "CrashRounds$Inputs" "of" "[I") (by decide +kernel)) (fun _ h9 => h9) rfl dX0_copy_6 ?_
  refine lv_iconst (v := 0) hx hb dX0_copy_9 (by decide) ?_
  refine lv_bipush (v := 8) hx hb dX0_copy_10 (by decide) ?_
  refine va_copyi (ty := .int) hx hb (by rw [hml]; exact hl.1.symm) hown (hts (.methodLink RX0 21 arraycopyName) (by decide +kernel)) (hts (.native arraycopyName) (by decide +kernel)) (hts (.static arraycopyName) (by decide +kernel)) (hts (.initialized "java/lang/System") (by decide +kernel)) hK hP hD hS 3 1 0 0 rfl rfl rfl rfl rfl (by decide) (by decide) (by decide) (by decide) (by decide) (fun _ _ => rfl) (Nat.le_of_ble_eq_true rfl) (Nat.le_of_ble_eq_true rfl) dX0_copy_12 (fun H locs hP hD hS => ?_)
  have hP : va_P (dC, dI) vwCl [(q_this, .inr (0, [.ref q_of])), (q_of, .inl (cI, 8, .inl (va_cpy v_other_of v_of (0 : Int32).toNatClampNeg (0 : Int32).toNatClampNeg (8 : Int32).toNatClampNeg))), (q_other, .inr (0, [.ref q_other_of])), (q_other_of, .inl (cI, 8, .inl v_other_of))] H := hP
  have hD : va_D A [(q_this, .inr (0, [.ref q_of])), (q_of, .inl (cI, 8, .inl (va_cpy v_other_of v_of (0 : Int32).toNatClampNeg (0 : Int32).toNatClampNeg (8 : Int32).toNatClampNeg))), (q_other, .inr (0, [.ref q_other_of])), (q_other_of, .inl (cI, 8, .inl v_other_of))] := hD
  have h := h
  subst h
  exact W.vret hx hb hr (fun t ht hW => ⟨⟨(), rfl, trivial, by rw [ht]; exact hP, va_K.moved hW.alike hK, hD⟩, hS.F ht⟩) hS.2.2 dX0_copy_15
theorem iiX0_least_X0 : ∀ w ∈ wsX00, w ∈ wsX0_least := by decide +kernel
set_option maxHeartbeats 4000000 in
set_option maxRecDepth 100000 in
theorem kX0_least (l : Launch) (dC : Nat → ClassId) (dI : Nat → Nat → Nat) (cI : ClassId) (q_this q_of : Nat) (sz : Nat) (v_of : (Nat → Int32)) (p1 : Int32) (R : Int32) (h : fX0_least v_of p1 = some R) : Met l yX0_least wsX0_least ({ frames := 1, cells := 0, slots := 0, locals := 21 } : Room) (va_Pc [.ref q_this, .int p1] (fun U => U.heap.size = sz ∧ va_P (dC, dI) vwCl [(q_this, .inr (0, [.ref q_of])), (q_of, .inl (cI, 8, .inl v_of))] U.heap ∧ va_K (dC, dI) vwCl [(cI, .int)] U ∧ NW U ∧ va_D (fun _ => True) [(q_this, .inr (0, [.ref q_of])), (q_of, .inl (cI, 8, .inl v_of))])) (va_Qi (fun (r : Int32) (_ : Unit) => r = R) (fun (_ : Unit) t => va_P (dC, dI) vwCl [(q_this, .inr (0, [.ref q_of])), (q_of, .inl (cI, 8, .inl v_of))] t.heap ∧ va_K (dC, dI) vwCl [(cI, .int)] t ∧ va_D (va_A [(q_this, .inr (0, [.ref q_of])), (q_of, .inl (cI, 8, .inl v_of))] sz) [(q_this, .inr (0, [.ref q_of])), (q_of, .inl (cI, 8, .inl v_of))]) (va_A [(q_this, .inr (0, [.ref q_of])), (q_of, .inl (cI, 8, .inl v_of))] sz)) 0 0 (va_A [(q_this, .inr (0, [.ref q_of])), (q_of, .inl (cI, 8, .inl v_of))] sz) := by
  refine Met.ofW (cc := cX0_least) (maxL := 4) (ret := (some .int)) (by decide) rfl ?_
  intro p e s m args below meth c s₁ B hml hv
  obtain ⟨rfl, hsz, hP, hK, hN, hD0⟩ := hv
  have hx := B.exec
  have hb := B.bytes
  have hr := B.returns
  have hts := atoms_spec (ws := wsX0_least) B.pre
  have hown : s.vm.findClass RX0 = some m.cls := findClass_of_methodNamed B.named
  have hlocks := B.notSynchronized
  subst hsz
  have hD := hD0.self (sz := s.heap.size)
  generalize hAe : va_A [(q_this, .inr (0, [.ref q_of])), (q_of, .inl (cI, 8, .inl v_of))] s.heap.size = A at hD ⊢
  have hA : ∀ q : Nat, s.heap.size ≤ q → A q := fun q h => by rw [← hAe]; exact Or.inr h
  have hS : va_S A s.heap s.heap [] := va_S.rf
  have hl := lv_entry ([.ref q_this, .int p1]) (n := 4) (Nat.le_of_ble_eq_true rfl)
  rw [lg_entry_eq]
  generalize (lg_sl ([.ref q_this, .int p1]) ++ List.replicate (4 - (lg_sl ([.ref q_this, .int p1])).length) Slot.unset).toArray = ls at hl ⊢
  have hl : lv_has ls 4 [(0, .ref q_this), (1, .int p1)] := hl
  unfold fX0_least at h
  obtain ⟨H, hH⟩ : ∃ H, H = s.heap := ⟨_, rfl⟩
  obtain ⟨locs, hlocs⟩ : ∃ q : List Loc, q = [] := ⟨_, rfl⟩
  suffices hgo : ∀ (H : Heap) (locs : List Loc), va_P (dC, dI) vwCl [(q_this, .inr (0, [.ref q_of])), (q_of, .inl (cI, 8, .inl v_of))] H → va_S A s.heap H locs → W p l e (headSpec wsX0_least ({ frames := 1, cells := 0, slots := 0, locals := 21 } : Room)).room s m ([.ref q_this, .int p1] : List Value).toArray below meth c H locs 0 0 (MQ below (va_Qi (fun (r : Int32) (_ : Unit) => r = R) (fun (_ : Unit) t => va_P (dC, dI) vwCl [(q_this, .inr (0, [.ref q_of])), (q_of, .inl (cI, 8, .inl v_of))] t.heap ∧ va_K (dC, dI) vwCl [(cI, .int)] t ∧ va_D A [(q_this, .inr (0, [.ref q_of])), (q_of, .inl (cI, 8, .inl v_of))]) A) ([.ref q_this, .int p1] : List Value).toArray s 0 0 A) (F0 m 0 ls []) from hgo _ _ hP hS
  clear hH hlocs hP hS
  clear H locs
  intro H locs hP hS
  refine lv_bipush (v := 15) hx hb dX0_least_0 (by decide) ?_
  refine lv_istore_n (lv' := [(2, .int (15 : Int32)), (0, .ref q_this), (1, .int p1)]) hx hb dX0_least_2 rfl hl (by decide) rfl (fun ls hl => ?_)
  refine lv_iconst (v := 0) hx hb dX0_least_3 (by decide) ?_
  refine lv_istore_n (lv' := [(3, .int (0 : Int32)), (2, .int (15 : Int32)), (0, .ref q_this), (1, .int p1)]) hx hb dX0_least_4 rfl hl (by decide) rfl (fun ls hl => ?_)
  have L5 : ∀ {k : Int32 → Option (Int32)} (hk : ∀ (x2_5 : Int32), k x2_5 = some R → ∀ (H : Heap) (locs : List Loc) (ls : Array Slot), va_P (dC, dI) vwCl [(q_this, .inr (0, [.ref q_of])), (q_of, .inl (cI, 8, .inl v_of))] H → va_D A [(q_this, .inr (0, [.ref q_of])), (q_of, .inl (cI, 8, .inl v_of))] → va_S A s.heap H locs → lv_has ls 4 [(2, .int x2_5)] → W p l e (headSpec wsX0_least ({ frames := 1, cells := 0, slots := 0, locals := 21 } : Room)).room s m ([.ref q_this, .int p1] : List Value).toArray below meth c H locs 0 0 (MQ below (va_Qi (fun (r : Int32) (_ : Unit) => r = R) (fun (_ : Unit) t => va_P (dC, dI) vwCl [(q_this, .inr (0, [.ref q_of])), (q_of, .inl (cI, 8, .inl v_of))] t.heap ∧ va_K (dC, dI) vwCl [(cI, .int)] t ∧ va_D A [(q_this, .inr (0, [.ref q_of])), (q_of, .inl (cI, 8, .inl v_of))]) A) ([.ref q_this, .int p1] : List Value).toArray s 0 0 A) (F0 m 42 ls [])) (n : Nat) (x2_5 : Int32) (x3_5 : Int32), fX0_least_L5 p1 v_of k n x2_5 x3_5 = some R → ∀ (H : Heap) (locs : List Loc) (ls : Array Slot), va_P (dC, dI) vwCl [(q_this, .inr (0, [.ref q_of])), (q_of, .inl (cI, 8, .inl v_of))] H → va_D A [(q_this, .inr (0, [.ref q_of])), (q_of, .inl (cI, 8, .inl v_of))] → va_S A s.heap H locs → lv_has ls 4 [(0, .ref q_this), (1, .int p1), (2, .int x2_5), (3, .int x3_5)] → W p l e (headSpec wsX0_least ({ frames := 1, cells := 0, slots := 0, locals := 21 } : Room)).room s m ([.ref q_this, .int p1] : List Value).toArray below meth c H locs 0 0 (MQ below (va_Qi (fun (r : Int32) (_ : Unit) => r = R) (fun (_ : Unit) t => va_P (dC, dI) vwCl [(q_this, .inr (0, [.ref q_of])), (q_of, .inl (cI, 8, .inl v_of))] t.heap ∧ va_K (dC, dI) vwCl [(cI, .int)] t ∧ va_D A [(q_this, .inr (0, [.ref q_of])), (q_of, .inl (cI, 8, .inl v_of))]) A) ([.ref q_this, .int p1] : List Value).toArray s 0 0 A) (F0 m 5 ls []) := by
    intro k hk n
    induction n with
    | zero => intro x2_5 x3_5 h; rw [fX0_least_L5] at h; cases h
    | succ n ih =>
      intro x2_5 x3_5 h H locs ls hP hD hS hl
      rw [fX0_least_L5] at h
      refine lv_iload_n hx hb dX0_least_5 rfl (lv_at hl 3 rfl) ?_
      refine lv_bipush (v := 8) hx hb dX0_least_6 (by decide) ?_
      refine lv_icmp_ge (tgt := 42) hx hb dX0_least_8 (by decide) (fun c1 => ?_) (fun c1 => ?_)
      · rw [if_pos c1] at h
        exact hk _ h _ _ _ hP hD hS (lv_sub hl [2] rfl)
      · rw [if_neg c1] at h
        refine lv_iload_n hx hb dX0_least_11 rfl (lv_at hl 1 rfl) ?_
        refine lv_iload_n hx hb dX0_least_12 rfl (lv_at hl 3 rfl) ?_
        have hPc := hP.sub (ws' := []) [] rfl
        have hDc := hD.sub (ws' := []) [] (by decide) rfl
        have hFc := va_free (wc := []) hD hS hA [] rfl
        refine va_calli (va_runSN (As := [.int p1, .int x3_5]) (rest := []) ⟨hx, hb, hml, hown, hts⟩ (kX5_has l dC dI cI  H.size p1 x3_5 _ rfl) (⟨va_cnB 2 hts gX0_least_X5_has_n27 rfl rfl rfl (hN (.methodLinkNest RX0 27 yX5_has "CrashRounds") (by decide +kernel)) (hts (.initialized RX5) (by decide +kernel)) (by decide +kernel) ⟨Nat.le_of_ble_eq_true rfl, Nat.le_of_ble_eq_true rfl⟩, hts (.static yX5_has) (by decide +kernel), trivial⟩) ⟨pc_blind _ _ _ _ _ _, pc_ok hPc hK hN hDc⟩ rfl rfl hl.1 rfl (lv_room (Nat.le_of_ble_eq_true rfl)) dX0_least_13 ⟨Nat.zero_le _, Nat.zero_le _⟩) hS (fun q _ h => hFc q h) hFc (fun r9 u t H1 locs ht hvm hw hB hz1 hk1 hS => ?_)
        obtain ⟨hP1, hK1, hD1⟩ := hB
        rw [ht] at hP1
        have hw : (fX5_has p1 x3_5) = r9 := hw.symm
        subst hw
        obtain ⟨hP, hD⟩ := va_join (wr := [(q_this, .inr (0, [.ref q_of])), (q_of, .inl (cI, 8, .inl v_of))]) (w1 := []) hP hD [] [0, 1] rfl rfl (by decide) (by decide) hk1 hFc hP1 hD1
        generalize H1 = H at hP hS ⊢
        have hP : va_P (dC, dI) vwCl [(q_this, .inr (0, [.ref q_of])), (q_of, .inl (cI, 8, .inl v_of))] H := hP.sub [0, 1] rfl
        have hD : va_D A [(q_this, .inr (0, [.ref q_of])), (q_of, .inl (cI, 8, .inl v_of))] := hD.sub [0, 1] (by decide) rfl
        refine lv_if_eq (tgt := 36) hx hb dX0_least_16 (by decide) (fun c2 => ?_) (fun c2 => ?_)
        · rw [if_pos c2] at h
          refine lv_iinc (v := (x3_5 + (1 : Int32))) (lv' := [(3, .int (x3_5 + (1 : Int32))), (0, .ref q_this), (1, .int p1), (2, .int x2_5)]) hx hb dX0_least_36 hl (k := 3) rfl rfl (by decide) rfl (fun ls hl => ?_)
          refine lv_goto (tgt := 5) hx hb dX0_least_39 (by decide) ?_
          exact ih _ _ h _ _ _ hP hD hS (lv_sub hl [1, 2, 3, 0] rfl)
        · rw [if_neg c2] at h
          refine lv_aload_n hx hb dX0_least_19 rfl (lv_at hl 0 rfl) ?_
          refine va_get (D := (dC, dI)) (ci := 0) (v := .ref q_of) (C := RX0) (T := TX0) (N := 1) hx hb hts iiX0_least_X0 hown hK hP 0 rfl rfl 0 (by decide) (hts (.fieldLink RX0 9 "CrashRounds$Inputs" "of" "[I") (by decide +kernel)) (fun _ h9 => h9) rfl dX0_least_20 ?_
          refine lv_iload_n hx hb dX0_least_23 rfl (lv_at hl 3 rfl) ?_
          obtain ⟨hb3, h⟩ := ift_s h
          refine va_iald hx hb hK hP 1 0 rfl rfl (inb_in hb3) dX0_least_24 ?_
          refine lv_iload_n hx hb dX0_least_25 rfl (lv_at hl 2 rfl) ?_
          refine lv_icmp_ge (tgt := 36) hx hb dX0_least_26 (by decide) (fun c4 => ?_) (fun c4 => ?_)
          · rw [if_pos c4] at h
            refine lv_iinc (v := (x3_5 + (1 : Int32))) (lv' := [(3, .int (x3_5 + (1 : Int32))), (0, .ref q_this), (1, .int p1), (2, .int x2_5)]) hx hb dX0_least_36 hl (k := 3) rfl rfl (by decide) rfl (fun ls hl => ?_)
            refine lv_goto (tgt := 5) hx hb dX0_least_39 (by decide) ?_
            exact ih _ _ h _ _ _ hP hD hS (lv_sub hl [1, 2, 3, 0] rfl)
          · rw [if_neg c4] at h
            refine lv_aload_n hx hb dX0_least_29 rfl (lv_at hl 0 rfl) ?_
            refine va_get (D := (dC, dI)) (ci := 0) (v := .ref q_of) (C := RX0) (T := TX0) (N := 1) hx hb hts iiX0_least_X0 hown hK hP 0 rfl rfl 0 (by decide) (hts (.fieldLink RX0 9 "CrashRounds$Inputs" "of" "[I") (by decide +kernel)) (fun _ h9 => h9) rfl dX0_least_30 ?_
            refine lv_iload_n hx hb dX0_least_33 rfl (lv_at hl 3 rfl) ?_
            refine va_iald hx hb hK hP 1 0 rfl rfl (inb_in hb3) dX0_least_34 ?_
            refine lv_istore_n (lv' := [(2, .int (v_of x3_5.toNatClampNeg)), (0, .ref q_this), (1, .int p1), (3, .int x3_5)]) hx hb dX0_least_35 rfl hl (by decide) rfl (fun ls hl => ?_)
            refine lv_iinc (v := (x3_5 + (1 : Int32))) (lv' := [(3, .int (x3_5 + (1 : Int32))), (2, .int (v_of x3_5.toNatClampNeg)), (0, .ref q_this), (1, .int p1)]) hx hb dX0_least_36 hl (k := 3) rfl rfl (by decide) rfl (fun ls hl => ?_)
            refine lv_goto (tgt := 5) hx hb dX0_least_39 (by decide) ?_
            exact ih _ _ h _ _ _ hP hD hS (lv_sub hl [2, 3, 1, 0] rfl)
  refine L5 (fun x2_5 h H locs ls hP hD hS hl => ?_) _ _ _ h _ _ _ hP hD hS (lv_sub hl [2, 3, 1, 0] rfl)
  refine lv_iload_n hx hb dX0_least_42 rfl (lv_at hl 0 rfl) ?_
  have h := Option.some.inj h
  subst h
  exact W.iret (v := x2_5) hx hb hr (fun t ht hW => ⟨⟨x2_5, (), rfl, rfl, by rw [ht]; exact hP, va_K.moved hW.alike hK, hD⟩, hS.F ht⟩) hS.2.2 dX0_least_43
theorem iiX0_asBits_X0 : ∀ w ∈ wsX00, w ∈ wsX0_asBits := by decide +kernel
set_option maxHeartbeats 4000000 in
set_option maxRecDepth 100000 in
theorem kX0_asBits (l : Launch) (dC : Nat → ClassId) (dI : Nat → Nat → Nat) (cI : ClassId) (q_this q_of : Nat) (sz : Nat) (v_of : (Nat → Int32)) (p1 : Int32) (R : Int32) (h : fX0_asBits v_of p1 = some R) : Met l yX0_asBits wsX0_asBits ({ frames := 1, cells := 0, slots := 0, locals := 21 } : Room) (va_Pc [.ref q_this, .int p1] (fun U => U.heap.size = sz ∧ va_P (dC, dI) vwCl [(q_this, .inr (0, [.ref q_of])), (q_of, .inl (cI, 8, .inl v_of))] U.heap ∧ va_K (dC, dI) vwCl [(cI, .int)] U ∧ NW U ∧ va_D (fun _ => True) [(q_this, .inr (0, [.ref q_of])), (q_of, .inl (cI, 8, .inl v_of))])) (va_Qi (fun (r : Int32) (_ : Unit) => r = R) (fun (_ : Unit) t => va_P (dC, dI) vwCl [(q_this, .inr (0, [.ref q_of])), (q_of, .inl (cI, 8, .inl v_of))] t.heap ∧ va_K (dC, dI) vwCl [(cI, .int)] t ∧ va_D (va_A [(q_this, .inr (0, [.ref q_of])), (q_of, .inl (cI, 8, .inl v_of))] sz) [(q_this, .inr (0, [.ref q_of])), (q_of, .inl (cI, 8, .inl v_of))]) (va_A [(q_this, .inr (0, [.ref q_of])), (q_of, .inl (cI, 8, .inl v_of))] sz)) 0 0 (va_A [(q_this, .inr (0, [.ref q_of])), (q_of, .inl (cI, 8, .inl v_of))] sz) := by
  refine Met.ofW (cc := cX0_asBits) (maxL := 4) (ret := (some .int)) (by decide) rfl ?_
  intro p e s m args below meth c s₁ B hml hv
  obtain ⟨rfl, hsz, hP, hK, hN, hD0⟩ := hv
  have hx := B.exec
  have hb := B.bytes
  have hr := B.returns
  have hts := atoms_spec (ws := wsX0_asBits) B.pre
  have hown : s.vm.findClass RX0 = some m.cls := findClass_of_methodNamed B.named
  have hlocks := B.notSynchronized
  subst hsz
  have hD := hD0.self (sz := s.heap.size)
  generalize hAe : va_A [(q_this, .inr (0, [.ref q_of])), (q_of, .inl (cI, 8, .inl v_of))] s.heap.size = A at hD ⊢
  have hA : ∀ q : Nat, s.heap.size ≤ q → A q := fun q h => by rw [← hAe]; exact Or.inr h
  have hS : va_S A s.heap s.heap [] := va_S.rf
  have hl := lv_entry ([.ref q_this, .int p1]) (n := 4) (Nat.le_of_ble_eq_true rfl)
  rw [lg_entry_eq]
  generalize (lg_sl ([.ref q_this, .int p1]) ++ List.replicate (4 - (lg_sl ([.ref q_this, .int p1])).length) Slot.unset).toArray = ls at hl ⊢
  have hl : lv_has ls 4 [(0, .ref q_this), (1, .int p1)] := hl
  unfold fX0_asBits at h
  obtain ⟨H, hH⟩ : ∃ H, H = s.heap := ⟨_, rfl⟩
  obtain ⟨locs, hlocs⟩ : ∃ q : List Loc, q = [] := ⟨_, rfl⟩
  suffices hgo : ∀ (H : Heap) (locs : List Loc), va_P (dC, dI) vwCl [(q_this, .inr (0, [.ref q_of])), (q_of, .inl (cI, 8, .inl v_of))] H → va_S A s.heap H locs → W p l e (headSpec wsX0_asBits ({ frames := 1, cells := 0, slots := 0, locals := 21 } : Room)).room s m ([.ref q_this, .int p1] : List Value).toArray below meth c H locs 0 0 (MQ below (va_Qi (fun (r : Int32) (_ : Unit) => r = R) (fun (_ : Unit) t => va_P (dC, dI) vwCl [(q_this, .inr (0, [.ref q_of])), (q_of, .inl (cI, 8, .inl v_of))] t.heap ∧ va_K (dC, dI) vwCl [(cI, .int)] t ∧ va_D A [(q_this, .inr (0, [.ref q_of])), (q_of, .inl (cI, 8, .inl v_of))]) A) ([.ref q_this, .int p1] : List Value).toArray s 0 0 A) (F0 m 0 ls []) from hgo _ _ hP hS
  clear hH hlocs hP hS
  clear H locs
  intro H locs hP hS
  refine lv_iconst (v := 0) hx hb dX0_asBits_0 (by decide) ?_
  refine lv_istore_n (lv' := [(2, .int (0 : Int32)), (0, .ref q_this), (1, .int p1)]) hx hb dX0_asBits_1 rfl hl (by decide) rfl (fun ls hl => ?_)
  refine lv_iconst (v := 0) hx hb dX0_asBits_2 (by decide) ?_
  refine lv_istore_n (lv' := [(3, .int (0 : Int32)), (2, .int (0 : Int32)), (0, .ref q_this), (1, .int p1)]) hx hb dX0_asBits_3 rfl hl (by decide) rfl (fun ls hl => ?_)
  have L4 : ∀ {k : Int32 → Option (Int32)} (hk : ∀ (x2_4 : Int32), k x2_4 = some R → ∀ (H : Heap) (locs : List Loc) (ls : Array Slot), va_P (dC, dI) vwCl [(q_this, .inr (0, [.ref q_of])), (q_of, .inl (cI, 8, .inl v_of))] H → va_D A [(q_this, .inr (0, [.ref q_of])), (q_of, .inl (cI, 8, .inl v_of))] → va_S A s.heap H locs → lv_has ls 4 [(2, .int x2_4)] → W p l e (headSpec wsX0_asBits ({ frames := 1, cells := 0, slots := 0, locals := 21 } : Room)).room s m ([.ref q_this, .int p1] : List Value).toArray below meth c H locs 0 0 (MQ below (va_Qi (fun (r : Int32) (_ : Unit) => r = R) (fun (_ : Unit) t => va_P (dC, dI) vwCl [(q_this, .inr (0, [.ref q_of])), (q_of, .inl (cI, 8, .inl v_of))] t.heap ∧ va_K (dC, dI) vwCl [(cI, .int)] t ∧ va_D A [(q_this, .inr (0, [.ref q_of])), (q_of, .inl (cI, 8, .inl v_of))]) A) ([.ref q_this, .int p1] : List Value).toArray s 0 0 A) (F0 m 35 ls [])) (n : Nat) (x2_4 : Int32) (x3_4 : Int32), fX0_asBits_L4 p1 v_of k n x2_4 x3_4 = some R → ∀ (H : Heap) (locs : List Loc) (ls : Array Slot), va_P (dC, dI) vwCl [(q_this, .inr (0, [.ref q_of])), (q_of, .inl (cI, 8, .inl v_of))] H → va_D A [(q_this, .inr (0, [.ref q_of])), (q_of, .inl (cI, 8, .inl v_of))] → va_S A s.heap H locs → lv_has ls 4 [(0, .ref q_this), (1, .int p1), (2, .int x2_4), (3, .int x3_4)] → W p l e (headSpec wsX0_asBits ({ frames := 1, cells := 0, slots := 0, locals := 21 } : Room)).room s m ([.ref q_this, .int p1] : List Value).toArray below meth c H locs 0 0 (MQ below (va_Qi (fun (r : Int32) (_ : Unit) => r = R) (fun (_ : Unit) t => va_P (dC, dI) vwCl [(q_this, .inr (0, [.ref q_of])), (q_of, .inl (cI, 8, .inl v_of))] t.heap ∧ va_K (dC, dI) vwCl [(cI, .int)] t ∧ va_D A [(q_this, .inr (0, [.ref q_of])), (q_of, .inl (cI, 8, .inl v_of))]) A) ([.ref q_this, .int p1] : List Value).toArray s 0 0 A) (F0 m 4 ls []) := by
    intro k hk n
    induction n with
    | zero => intro x2_4 x3_4 h; rw [fX0_asBits_L4] at h; cases h
    | succ n ih =>
      intro x2_4 x3_4 h H locs ls hP hD hS hl
      rw [fX0_asBits_L4] at h
      refine lv_iload_n hx hb dX0_asBits_4 rfl (lv_at hl 3 rfl) ?_
      refine lv_bipush (v := 8) hx hb dX0_asBits_5 (by decide) ?_
      refine lv_icmp_ge (tgt := 35) hx hb dX0_asBits_7 (by decide) (fun c1 => ?_) (fun c1 => ?_)
      · rw [if_pos c1] at h
        exact hk _ h _ _ _ hP hD hS (lv_sub hl [2] rfl)
      · rw [if_neg c1] at h
        refine lv_iload_n hx hb dX0_asBits_10 rfl (lv_at hl 1 rfl) ?_
        refine lv_iload_n hx hb dX0_asBits_11 rfl (lv_at hl 3 rfl) ?_
        have hPc := hP.sub (ws' := []) [] rfl
        have hDc := hD.sub (ws' := []) [] (by decide) rfl
        have hFc := va_free (wc := []) hD hS hA [] rfl
        refine va_calli (va_runSN (As := [.int p1, .int x3_4]) (rest := []) ⟨hx, hb, hml, hown, hts⟩ (kX5_has l dC dI cI  H.size p1 x3_4 _ rfl) (⟨va_cnB 2 hts gX0_asBits_X5_has_n27 rfl rfl rfl (hN (.methodLinkNest RX0 27 yX5_has "CrashRounds") (by decide +kernel)) (hts (.initialized RX5) (by decide +kernel)) (by decide +kernel) ⟨Nat.le_of_ble_eq_true rfl, Nat.le_of_ble_eq_true rfl⟩, hts (.static yX5_has) (by decide +kernel), trivial⟩) ⟨pc_blind _ _ _ _ _ _, pc_ok hPc hK hN hDc⟩ rfl rfl hl.1 rfl (lv_room (Nat.le_of_ble_eq_true rfl)) dX0_asBits_12 ⟨Nat.zero_le _, Nat.zero_le _⟩) hS (fun q _ h => hFc q h) hFc (fun r9 u t H1 locs ht hvm hw hB hz1 hk1 hS => ?_)
        obtain ⟨hP1, hK1, hD1⟩ := hB
        rw [ht] at hP1
        have hw : (fX5_has p1 x3_4) = r9 := hw.symm
        subst hw
        obtain ⟨hP, hD⟩ := va_join (wr := [(q_this, .inr (0, [.ref q_of])), (q_of, .inl (cI, 8, .inl v_of))]) (w1 := []) hP hD [] [0, 1] rfl rfl (by decide) (by decide) hk1 hFc hP1 hD1
        generalize H1 = H at hP hS ⊢
        have hP : va_P (dC, dI) vwCl [(q_this, .inr (0, [.ref q_of])), (q_of, .inl (cI, 8, .inl v_of))] H := hP.sub [0, 1] rfl
        have hD : va_D A [(q_this, .inr (0, [.ref q_of])), (q_of, .inl (cI, 8, .inl v_of))] := hD.sub [0, 1] (by decide) rfl
        refine lv_if_eq (tgt := 29) hx hb dX0_asBits_15 (by decide) (fun c2 => ?_) (fun c2 => ?_)
        · rw [if_pos c2] at h
          refine lv_iinc (v := (x3_4 + (1 : Int32))) (lv' := [(3, .int (x3_4 + (1 : Int32))), (0, .ref q_this), (1, .int p1), (2, .int x2_4)]) hx hb dX0_asBits_29 hl (k := 3) rfl rfl (by decide) rfl (fun ls hl => ?_)
          refine lv_goto (tgt := 4) hx hb dX0_asBits_32 (by decide) ?_
          exact ih _ _ h _ _ _ hP hD hS (lv_sub hl [1, 2, 3, 0] rfl)
        · rw [if_neg c2] at h
          refine lv_iload_n hx hb dX0_asBits_18 rfl (lv_at hl 2 rfl) ?_
          refine lv_iconst (v := 1) hx hb dX0_asBits_19 (by decide) ?_
          refine lv_aload_n hx hb dX0_asBits_20 rfl (lv_at hl 0 rfl) ?_
          refine va_get (D := (dC, dI)) (ci := 0) (v := .ref q_of) (C := RX0) (T := TX0) (N := 1) hx hb hts iiX0_asBits_X0 hown hK hP 0 rfl rfl 0 (by decide) (hts (.fieldLink RX0 9 "CrashRounds$Inputs" "of" "[I") (by decide +kernel)) (fun _ h9 => h9) rfl dX0_asBits_21 ?_
          refine lv_iload_n hx hb dX0_asBits_24 rfl (lv_at hl 3 rfl) ?_
          obtain ⟨hb3, h⟩ := ift_s h
          refine va_iald hx hb hK hP 1 0 rfl rfl (inb_in hb3) dX0_asBits_25 ?_
          refine lv_ishl hx hb dX0_asBits_26 ?_
          refine lv_ior hx hb dX0_asBits_27 ?_
          refine lv_istore_n (lv' := [(2, .int (x2_4 ||| ((1 : Int32) <<< ((v_of x3_4.toNatClampNeg) &&& 31)))), (0, .ref q_this), (1, .int p1), (3, .int x3_4)]) hx hb dX0_asBits_28 rfl hl (by decide) rfl (fun ls hl => ?_)
          refine lv_iinc (v := (x3_4 + (1 : Int32))) (lv' := [(3, .int (x3_4 + (1 : Int32))), (2, .int (x2_4 ||| ((1 : Int32) <<< ((v_of x3_4.toNatClampNeg) &&& 31)))), (0, .ref q_this), (1, .int p1)]) hx hb dX0_asBits_29 hl (k := 3) rfl rfl (by decide) rfl (fun ls hl => ?_)
          refine lv_goto (tgt := 4) hx hb dX0_asBits_32 (by decide) ?_
          exact ih _ _ h _ _ _ hP hD hS (lv_sub hl [2, 3, 1, 0] rfl)
  refine L4 (fun x2_4 h H locs ls hP hD hS hl => ?_) _ _ _ h _ _ _ hP hD hS (lv_sub hl [2, 3, 1, 0] rfl)
  refine lv_iload_n hx hb dX0_asBits_35 rfl (lv_at hl 0 rfl) ?_
  have h := Option.some.inj h
  subst h
  exact W.iret (v := x2_4) hx hb hr (fun t ht hW => ⟨⟨x2_4, (), rfl, rfl, by rw [ht]; exact hP, va_K.moved hW.alike hK, hD⟩, hS.F ht⟩) hS.2.2 dX0_asBits_36
theorem iiX0_advance_X0 : ∀ w ∈ wsX00, w ∈ wsX0_advance := by decide +kernel
set_option maxHeartbeats 4000000 in
set_option maxRecDepth 100000 in
theorem kX0_advance (l : Launch) (dC : Nat → ClassId) (dI : Nat → Nat → Nat) (cI : ClassId) (q_this q_of : Nat) (sz : Nat) (v_of : (Nat → Int32)) (p1 : Int32) (p2 : Int32) (R : (Nat → Int32)) (h : fX0_advance v_of p1 p2 = some R) : Met l yX0_advance wsX0_advance ({ frames := 0, cells := 0, slots := 0, locals := 0 } : Room) (va_Pc [.ref q_this, .int p1, .int p2] (fun U => U.heap.size = sz ∧ va_P (dC, dI) vwCl [(q_this, .inr (0, [.ref q_of])), (q_of, .inl (cI, 8, .inl v_of))] U.heap ∧ va_K (dC, dI) vwCl [(cI, .int)] U ∧ NW U ∧ va_D (fun _ => True) [(q_this, .inr (0, [.ref q_of])), (q_of, .inl (cI, 8, .inl v_of))])) (va_Qv (fun (_ : Unit) => True) (fun (_ : Unit) t => va_P (dC, dI) vwCl [(q_this, .inr (0, [.ref q_of])), (q_of, .inl (cI, 8, .inl R))] t.heap ∧ va_K (dC, dI) vwCl [(cI, .int)] t ∧ va_D (va_A [(q_this, .inr (0, [.ref q_of])), (q_of, .inl (cI, 8, .inl v_of))] sz) [(q_this, .inr (0, [.ref q_of])), (q_of, .inl (cI, 8, .inl R))]) (va_A [(q_this, .inr (0, [.ref q_of])), (q_of, .inl (cI, 8, .inl v_of))] sz)) 0 0 (va_A [(q_this, .inr (0, [.ref q_of])), (q_of, .inl (cI, 8, .inl v_of))] sz) := by
  refine Met.ofW (cc := cX0_advance) (maxL := 4) (ret := none) (by decide) rfl ?_
  intro p e s m args below meth c s₁ B hml hv
  obtain ⟨rfl, hsz, hP, hK, hN, hD0⟩ := hv
  have hx := B.exec
  have hb := B.bytes
  have hr := B.returns
  have hts := atoms_spec (ws := wsX0_advance) B.pre
  have hown : s.vm.findClass RX0 = some m.cls := findClass_of_methodNamed B.named
  have hlocks := B.notSynchronized
  subst hsz
  have hD := hD0.self (sz := s.heap.size)
  generalize hAe : va_A [(q_this, .inr (0, [.ref q_of])), (q_of, .inl (cI, 8, .inl v_of))] s.heap.size = A at hD ⊢
  have hA : ∀ q : Nat, s.heap.size ≤ q → A q := fun q h => by rw [← hAe]; exact Or.inr h
  have hS : va_S A s.heap s.heap [] := va_S.rf
  have hl := lv_entry ([.ref q_this, .int p1, .int p2]) (n := 4) (Nat.le_of_ble_eq_true rfl)
  rw [lg_entry_eq]
  generalize (lg_sl ([.ref q_this, .int p1, .int p2]) ++ List.replicate (4 - (lg_sl ([.ref q_this, .int p1, .int p2])).length) Slot.unset).toArray = ls at hl ⊢
  have hl : lv_has ls 4 [(0, .ref q_this), (1, .int p1), (2, .int p2)] := hl
  unfold fX0_advance at h
  obtain ⟨H, hH⟩ : ∃ H, H = s.heap := ⟨_, rfl⟩
  obtain ⟨locs, hlocs⟩ : ∃ q : List Loc, q = [] := ⟨_, rfl⟩
  suffices hgo : ∀ (H : Heap) (locs : List Loc), va_P (dC, dI) vwCl [(q_this, .inr (0, [.ref q_of])), (q_of, .inl (cI, 8, .inl v_of))] H → va_S A s.heap H locs → W p l e (headSpec wsX0_advance ({ frames := 0, cells := 0, slots := 0, locals := 0 } : Room)).room s m ([.ref q_this, .int p1, .int p2] : List Value).toArray below meth c H locs 0 0 (MQ below (va_Qv (fun (_ : Unit) => True) (fun (_ : Unit) t => va_P (dC, dI) vwCl [(q_this, .inr (0, [.ref q_of])), (q_of, .inl (cI, 8, .inl R))] t.heap ∧ va_K (dC, dI) vwCl [(cI, .int)] t ∧ va_D A [(q_this, .inr (0, [.ref q_of])), (q_of, .inl (cI, 8, .inl R))]) A) ([.ref q_this, .int p1, .int p2] : List Value).toArray s 0 0 A) (F0 m 0 ls []) from hgo _ _ hP hS
  clear hH hlocs hP hS
  clear H locs
  intro H locs hP hS
  refine lv_iconst (v := 0) hx hb dX0_advance_0 (by decide) ?_
  refine lv_istore_n (lv' := [(3, .int (0 : Int32)), (0, .ref q_this), (1, .int p1), (2, .int p2)]) hx hb dX0_advance_1 rfl hl (by decide) rfl (fun ls hl => ?_)
  have L2 : ∀ {k : (Nat → Int32) → Option ((Nat → Int32))} (hk : ∀ (v_of_2 : (Nat → Int32)), k v_of_2 = some R → ∀ (H : Heap) (locs : List Loc) (ls : Array Slot), va_P (dC, dI) vwCl [(q_this, .inr (0, [.ref q_of])), (q_of, .inl (cI, 8, .inl v_of_2))] H → va_D A [(q_this, .inr (0, [.ref q_of])), (q_of, .inl (cI, 8, .inl v_of_2))] → va_S A s.heap H locs → lv_has ls 4 [] → W p l e (headSpec wsX0_advance ({ frames := 0, cells := 0, slots := 0, locals := 0 } : Room)).room s m ([.ref q_this, .int p1, .int p2] : List Value).toArray below meth c H locs 0 0 (MQ below (va_Qv (fun (_ : Unit) => True) (fun (_ : Unit) t => va_P (dC, dI) vwCl [(q_this, .inr (0, [.ref q_of])), (q_of, .inl (cI, 8, .inl R))] t.heap ∧ va_K (dC, dI) vwCl [(cI, .int)] t ∧ va_D A [(q_this, .inr (0, [.ref q_of])), (q_of, .inl (cI, 8, .inl R))]) A) ([.ref q_this, .int p1, .int p2] : List Value).toArray s 0 0 A) (F0 m 49 ls [])) (n : Nat) (x3_2 : Int32) (v_of_2 : (Nat → Int32)), fX0_advance_L2 p1 p2 k n x3_2 v_of_2 = some R → ∀ (H : Heap) (locs : List Loc) (ls : Array Slot), va_P (dC, dI) vwCl [(q_this, .inr (0, [.ref q_of])), (q_of, .inl (cI, 8, .inl v_of_2))] H → va_D A [(q_this, .inr (0, [.ref q_of])), (q_of, .inl (cI, 8, .inl v_of_2))] → va_S A s.heap H locs → lv_has ls 4 [(0, .ref q_this), (1, .int p1), (2, .int p2), (3, .int x3_2)] → W p l e (headSpec wsX0_advance ({ frames := 0, cells := 0, slots := 0, locals := 0 } : Room)).room s m ([.ref q_this, .int p1, .int p2] : List Value).toArray below meth c H locs 0 0 (MQ below (va_Qv (fun (_ : Unit) => True) (fun (_ : Unit) t => va_P (dC, dI) vwCl [(q_this, .inr (0, [.ref q_of])), (q_of, .inl (cI, 8, .inl R))] t.heap ∧ va_K (dC, dI) vwCl [(cI, .int)] t ∧ va_D A [(q_this, .inr (0, [.ref q_of])), (q_of, .inl (cI, 8, .inl R))]) A) ([.ref q_this, .int p1, .int p2] : List Value).toArray s 0 0 A) (F0 m 2 ls []) := by
    intro k hk n
    induction n with
    | zero => intro x3_2 v_of_2 h; rw [fX0_advance_L2] at h; cases h
    | succ n ih =>
      intro x3_2 v_of_2 h H locs ls hP hD hS hl
      rw [fX0_advance_L2] at h
      refine lv_iload_n hx hb dX0_advance_2 rfl (lv_at hl 3 rfl) ?_
      refine lv_iload_n hx hb dX0_advance_3 rfl (lv_at hl 1 rfl) ?_
      refine lv_icmp_ge (tgt := 49) hx hb dX0_advance_4 (by decide) (fun c1 => ?_) (fun c1 => ?_)
      · rw [if_pos c1] at h
        exact hk _ h _ _ _ hP hD hS (lv_sub hl [] rfl)
      · rw [if_neg c1] at h
        refine lv_iload_n hx hb dX0_advance_7 rfl (lv_at hl 3 rfl) ?_
        refine lv_bipush (v := 8) hx hb dX0_advance_8 (by decide) ?_
        refine lv_icmp_ge (tgt := 49) hx hb dX0_advance_10 (by decide) (fun c2 => ?_) (fun c2 => ?_)
        · rw [if_pos c2] at h
          exact hk _ h _ _ _ hP hD hS (lv_sub hl [] rfl)
        · rw [if_neg c2] at h
          refine lv_aload_n hx hb dX0_advance_13 rfl (lv_at hl 0 rfl) ?_
          refine va_get (D := (dC, dI)) (ci := 0) (v := .ref q_of) (C := RX0) (T := TX0) (N := 1) hx hb hts iiX0_advance_X0 hown hK hP 0 rfl rfl 0 (by decide) (hts (.fieldLink RX0 9 "CrashRounds$Inputs" "of" "[I") (by decide +kernel)) (fun _ h9 => h9) rfl dX0_advance_14 ?_
          refine lv_iload_n hx hb dX0_advance_17 rfl (lv_at hl 3 rfl) ?_
          obtain ⟨hb3, h⟩ := ift_s h
          refine va_iald hx hb hK hP 1 0 rfl rfl (inb_in hb3) dX0_advance_18 ?_
          refine lv_iconst (v := 1) hx hb dX0_advance_19 (by decide) ?_
          refine lv_iadd hx hb dX0_advance_20 ?_
          refine lv_iload_n hx hb dX0_advance_21 rfl (lv_at hl 2 rfl) ?_
          refine lv_icmp_ge (tgt := 36) hx hb dX0_advance_22 (by decide) (fun c4 => ?_) (fun c4 => ?_)
          · rw [if_pos c4] at h
            refine lv_aload_n hx hb dX0_advance_36 rfl (lv_at hl 0 rfl) ?_
            refine va_get (D := (dC, dI)) (ci := 0) (v := .ref q_of) (C := RX0) (T := TX0) (N := 1) hx hb hts iiX0_advance_X0 hown hK hP 0 rfl rfl 0 (by decide) (hts (.fieldLink RX0 9 "CrashRounds$Inputs" "of" "[I") (by decide +kernel)) (fun _ h9 => h9) rfl dX0_advance_37 ?_
            refine lv_iload_n hx hb dX0_advance_40 rfl (lv_at hl 3 rfl) ?_
            refine lv_iconst (v := 0) hx hb dX0_advance_41 (by decide) ?_
            refine va_iast hx hb hK hP hD hS 1 0 rfl rfl (inb_in hb3) dX0_advance_42 (fun H locs hP hD hS => ?_)
            have hP : va_P (dC, dI) vwCl [(q_this, .inr (0, [.ref q_of])), (q_of, .inl (cI, 8, .inl (upd v_of_2 x3_2.toNatClampNeg (0 : Int32))))] H := hP
            have hD : va_D A [(q_this, .inr (0, [.ref q_of])), (q_of, .inl (cI, 8, .inl (upd v_of_2 x3_2.toNatClampNeg (0 : Int32))))] := hD
            refine lv_iinc (v := (x3_2 + (1 : Int32))) (lv' := [(3, .int (x3_2 + (1 : Int32))), (0, .ref q_this), (1, .int p1), (2, .int p2)]) hx hb dX0_advance_43 hl (k := 3) rfl rfl (by decide) rfl (fun ls hl => ?_)
            refine lv_goto (tgt := 2) hx hb dX0_advance_46 (by decide) ?_
            exact ih _ _ h _ _ _ hP hD hS (lv_sub hl [1, 2, 3, 0] rfl)
          · rw [if_neg c4] at h
            refine lv_aload_n hx hb dX0_advance_25 rfl (lv_at hl 0 rfl) ?_
            refine va_get (D := (dC, dI)) (ci := 0) (v := .ref q_of) (C := RX0) (T := TX0) (N := 1) hx hb hts iiX0_advance_X0 hown hK hP 0 rfl rfl 0 (by decide) (hts (.fieldLink RX0 9 "CrashRounds$Inputs" "of" "[I") (by decide +kernel)) (fun _ h9 => h9) rfl dX0_advance_26 ?_
            refine lv_iload_n hx hb dX0_advance_29 rfl (lv_at hl 3 rfl) ?_
            refine lv_dup2_11 hx hb dX0_advance_30 rfl rfl ?_
            refine va_iald hx hb hK hP 1 0 rfl rfl (inb_in hb3) dX0_advance_31 ?_
            refine lv_iconst (v := 1) hx hb dX0_advance_32 (by decide) ?_
            refine lv_iadd hx hb dX0_advance_33 ?_
            refine va_iast hx hb hK hP hD hS 1 0 rfl rfl (inb_in hb3) dX0_advance_34 (fun H locs hP hD hS => ?_)
            have hP : va_P (dC, dI) vwCl [(q_this, .inr (0, [.ref q_of])), (q_of, .inl (cI, 8, .inl (upd v_of_2 x3_2.toNatClampNeg ((v_of_2 x3_2.toNatClampNeg) + (1 : Int32)))))] H := hP
            have hD : va_D A [(q_this, .inr (0, [.ref q_of])), (q_of, .inl (cI, 8, .inl (upd v_of_2 x3_2.toNatClampNeg ((v_of_2 x3_2.toNatClampNeg) + (1 : Int32)))))] := hD
            have h := Option.some.inj h
            subst h
            exact W.vret hx hb hr (fun t ht hW => ⟨⟨(), rfl, trivial, by rw [ht]; exact hP, va_K.moved hW.alike hK, hD⟩, hS.F ht⟩) hS.2.2 dX0_advance_35
  refine L2 (fun v_of_2 h H locs ls hP hD hS hl => ?_) _ _ _ h _ _ _ hP hD hS (lv_sub hl [1, 2, 3, 0] rfl)
  have h := Option.some.inj h
  subst h
  exact W.vret hx hb hr (fun t ht hW => ⟨⟨(), rfl, trivial, by rw [ht]; exact hP, va_K.moved hW.alike hK, hD⟩, hS.F ht⟩) hS.2.2 dX0_advance_49
