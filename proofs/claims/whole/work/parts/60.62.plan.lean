theorem iiX1_size_X1 : ∀ w ∈ wsX10, w ∈ wsX1_size := by decide +kernel
set_option maxHeartbeats 4000000 in
set_option maxRecDepth 100000 in
theorem kX1_size (l : Launch) (dC : Nat → ClassId) (dI : Nat → Nat → Nat) (cI : ClassId) (q_this q_rounds q_reaches : Nat) (sz : Nat) (v_crashing : Int32) (R : Int32) (h : fX1_size v_crashing = R) : Met l yX1_size wsX1_size ({ frames := 1, cells := 0, slots := 0, locals := 20 } : Room) (va_Pc [.ref q_this] (fun U => U.heap.size = sz ∧ va_P (dC, dI) vwCl [(q_this, .inr (1, [.int v_crashing, .ref q_rounds, .ref q_reaches]))] U.heap ∧ va_K (dC, dI) vwCl [(cI, .int)] U ∧ NW U ∧ va_D (fun _ => True) [(q_this, .inr (1, [.int v_crashing, .ref q_rounds, .ref q_reaches]))])) (va_Qi (fun (r : Int32) (_ : Unit) => r = R) (fun (_ : Unit) t => va_P (dC, dI) vwCl [(q_this, .inr (1, [.int v_crashing, .ref q_rounds, .ref q_reaches]))] t.heap ∧ va_K (dC, dI) vwCl [(cI, .int)] t ∧ va_D (va_A [(q_this, .inr (1, [.int v_crashing, .ref q_rounds, .ref q_reaches]))] sz) [(q_this, .inr (1, [.int v_crashing, .ref q_rounds, .ref q_reaches]))]) (va_A [(q_this, .inr (1, [.int v_crashing, .ref q_rounds, .ref q_reaches]))] sz)) 0 0 (va_A [(q_this, .inr (1, [.int v_crashing, .ref q_rounds, .ref q_reaches]))] sz) := by
  refine Met.ofW (cc := cX1_size) (maxL := 1) (ret := (some .int)) (by decide) rfl ?_
  intro p e s m args below meth c s₁ B hml hv
  obtain ⟨rfl, hsz, hP, hK, hN, hD0⟩ := hv
  have hx := B.exec
  have hb := B.bytes
  have hr := B.returns
  have hts := atoms_spec (ws := wsX1_size) B.pre
  have hown : s.vm.findClass RX1 = some m.cls := findClass_of_methodNamed B.named
  have hlocks := B.notSynchronized
  subst hsz
  have hD := hD0.self (sz := s.heap.size)
  generalize hAe : va_A [(q_this, .inr (1, [.int v_crashing, .ref q_rounds, .ref q_reaches]))] s.heap.size = A at hD ⊢
  have hA : ∀ q : Nat, s.heap.size ≤ q → A q := fun q h => by rw [← hAe]; exact Or.inr h
  have hS : va_S A s.heap s.heap [] := va_S.rf
  have hl := lv_entry ([.ref q_this]) (n := 1) (Nat.le_of_ble_eq_true rfl)
  rw [lg_entry_eq]
  generalize (lg_sl ([.ref q_this]) ++ List.replicate (1 - (lg_sl ([.ref q_this])).length) Slot.unset).toArray = ls at hl ⊢
  have hl : lv_has ls 1 [(0, .ref q_this)] := hl
  unfold fX1_size at h
  obtain ⟨H, hH⟩ : ∃ H, H = s.heap := ⟨_, rfl⟩
  obtain ⟨locs, hlocs⟩ : ∃ q : List Loc, q = [] := ⟨_, rfl⟩
  suffices hgo : ∀ (H : Heap) (locs : List Loc), va_P (dC, dI) vwCl [(q_this, .inr (1, [.int v_crashing, .ref q_rounds, .ref q_reaches]))] H → va_S A s.heap H locs → W p l e (headSpec wsX1_size ({ frames := 1, cells := 0, slots := 0, locals := 20 } : Room)).room s m ([.ref q_this] : List Value).toArray below meth c H locs 0 0 (MQ below (va_Qi (fun (r : Int32) (_ : Unit) => r = R) (fun (_ : Unit) t => va_P (dC, dI) vwCl [(q_this, .inr (1, [.int v_crashing, .ref q_rounds, .ref q_reaches]))] t.heap ∧ va_K (dC, dI) vwCl [(cI, .int)] t ∧ va_D A [(q_this, .inr (1, [.int v_crashing, .ref q_rounds, .ref q_reaches]))]) A) ([.ref q_this] : List Value).toArray s 0 0 A) (F0 m 0 ls []) from hgo _ _ hP hS
  clear hH hlocs hP hS
  clear H locs
  intro H locs hP hS
  refine lv_aload_n hx hb dX1_size_0 rfl (lv_at hl 0 rfl) ?_
  refine va_get (D := (dC, dI)) (ci := 1) (v := .int v_crashing) (C := RX1) (T := TX1) (N := 3) hx hb hts iiX1_size_X1 hown hK hP 0 rfl rfl 0 (by decide) (hts (.fieldLink RX1 22 "CrashRounds$Plan" "crashing" "I") (by decide +kernel)) (fun _ h9 => h9) rfl dX1_size_1 ?_
  have hPc := hP.sub (ws' := []) [] rfl
  have hDc := hD.sub (ws' := []) [] (by decide) rfl
  have hFc := va_free (wc := []) hD hS hA [] rfl
  refine va_calli (va_runS (As := [.int v_crashing]) (rest := []) ⟨hx, hb, hml, hown, hts⟩ (kJ6_bitCount_0f7a4 l dC dI cI  H.size v_crashing _ rfl) (va_cwS 1 hts gX1_size_J6_bitCount_0f7a4 rfl rfl rfl (by decide +kernel) ⟨Nat.le_of_ble_eq_true rfl, Nat.le_of_ble_eq_true rfl⟩) ⟨pc_blind _ _ _ _ _ _, pc_ok hPc hK hN hDc⟩ rfl rfl hl.1 rfl (lv_room (Nat.le_of_ble_eq_true rfl)) dX1_size_4 ⟨Nat.zero_le _, Nat.zero_le _⟩) hS (fun q _ h => hFc q h) hFc (fun r9 u t H1 locs ht hvm hw hB hz1 hk1 hS => ?_)
  obtain ⟨hP1, hK1, hD1⟩ := hB
  rw [ht] at hP1
  have hw : (fJ6_bitCount_0f7a4 v_crashing) = r9 := hw.symm
  subst hw
  obtain ⟨hP, hD⟩ := va_join (wr := [(q_this, .inr (1, [.int v_crashing, .ref q_rounds, .ref q_reaches]))]) (w1 := []) hP hD [] [0] rfl rfl (by decide) (by decide) hk1 hFc hP1 hD1
  generalize H1 = H at hP hS ⊢
  have hP : va_P (dC, dI) vwCl [(q_this, .inr (1, [.int v_crashing, .ref q_rounds, .ref q_reaches]))] H := hP.sub [0] rfl
  have hD : va_D A [(q_this, .inr (1, [.int v_crashing, .ref q_rounds, .ref q_reaches]))] := hD.sub [0] (by decide) rfl
  have h := h
  subst h
  exact W.iret (v := (fJ6_bitCount_0f7a4 v_crashing)) hx hb hr (fun t ht hW => ⟨⟨(fJ6_bitCount_0f7a4 v_crashing), (), rfl, rfl, by rw [ht]; exact hP, va_K.moved hW.alike hK, hD⟩, hS.F ht⟩) hS.2.2 dX1_size_7
theorem iiX1_crashAtOnce_X1 : ∀ w ∈ wsX10, w ∈ wsX1_crashAtOnce := by decide +kernel
set_option maxHeartbeats 4000000 in
set_option maxRecDepth 100000 in
theorem kX1_crashAtOnce (l : Launch) (dC : Nat → ClassId) (dI : Nat → Nat → Nat) (cI : ClassId) (q_this q_rounds q_reaches : Nat) (sz : Nat) (v_crashing : Int32) (v_rounds : (Nat → Int32)) (v_reaches : (Nat → Int32)) (p1 : Int32) (R : Int32 × (Nat → Int32) × (Nat → Int32)) (h : fX1_crashAtOnce v_rounds v_reaches p1 = some R) : Met l yX1_crashAtOnce wsX1_crashAtOnce ({ frames := 1, cells := 0, slots := 0, locals := 23 } : Room) (va_Pc [.ref q_this, .int p1] (fun U => U.heap.size = sz ∧ va_P (dC, dI) vwCl [(q_this, .inr (1, [.int v_crashing, .ref q_rounds, .ref q_reaches])), (q_rounds, .inl (cI, 8, .inl v_rounds)), (q_reaches, .inl (cI, 8, .inl v_reaches))] U.heap ∧ va_K (dC, dI) vwCl [(cI, .int)] U ∧ NW U ∧ va_D (fun _ => True) [(q_this, .inr (1, [.int v_crashing, .ref q_rounds, .ref q_reaches])), (q_rounds, .inl (cI, 8, .inl v_rounds)), (q_reaches, .inl (cI, 8, .inl v_reaches))])) (va_Qv (fun (_ : Unit) => True) (fun (_ : Unit) t => va_P (dC, dI) vwCl [(q_this, .inr (1, [.int R.1, .ref q_rounds, .ref q_reaches])), (q_rounds, .inl (cI, 8, .inl R.2.1)), (q_reaches, .inl (cI, 8, .inl R.2.2))] t.heap ∧ va_K (dC, dI) vwCl [(cI, .int)] t ∧ va_D (va_A [(q_this, .inr (1, [.int v_crashing, .ref q_rounds, .ref q_reaches])), (q_rounds, .inl (cI, 8, .inl v_rounds)), (q_reaches, .inl (cI, 8, .inl v_reaches))] sz) [(q_this, .inr (1, [.int R.1, .ref q_rounds, .ref q_reaches])), (q_rounds, .inl (cI, 8, .inl R.2.1)), (q_reaches, .inl (cI, 8, .inl R.2.2))]) (va_A [(q_this, .inr (1, [.int v_crashing, .ref q_rounds, .ref q_reaches])), (q_rounds, .inl (cI, 8, .inl v_rounds)), (q_reaches, .inl (cI, 8, .inl v_reaches))] sz)) 0 0 (va_A [(q_this, .inr (1, [.int v_crashing, .ref q_rounds, .ref q_reaches])), (q_rounds, .inl (cI, 8, .inl v_rounds)), (q_reaches, .inl (cI, 8, .inl v_reaches))] sz) := by
  refine Met.ofW (cc := cX1_crashAtOnce) (maxL := 2) (ret := none) (by decide) rfl ?_
  intro p e s m args below meth c s₁ B hml hv
  obtain ⟨rfl, hsz, hP, hK, hN, hD0⟩ := hv
  have hx := B.exec
  have hb := B.bytes
  have hr := B.returns
  have hts := atoms_spec (ws := wsX1_crashAtOnce) B.pre
  have hown : s.vm.findClass RX1 = some m.cls := findClass_of_methodNamed B.named
  have hlocks := B.notSynchronized
  subst hsz
  have hD := hD0.self (sz := s.heap.size)
  generalize hAe : va_A [(q_this, .inr (1, [.int v_crashing, .ref q_rounds, .ref q_reaches])), (q_rounds, .inl (cI, 8, .inl v_rounds)), (q_reaches, .inl (cI, 8, .inl v_reaches))] s.heap.size = A at hD ⊢
  have hA : ∀ q : Nat, s.heap.size ≤ q → A q := fun q h => by rw [← hAe]; exact Or.inr h
  have hS : va_S A s.heap s.heap [] := va_S.rf
  have hl := lv_entry ([.ref q_this, .int p1]) (n := 2) (Nat.le_of_ble_eq_true rfl)
  rw [lg_entry_eq]
  generalize (lg_sl ([.ref q_this, .int p1]) ++ List.replicate (2 - (lg_sl ([.ref q_this, .int p1])).length) Slot.unset).toArray = ls at hl ⊢
  have hl : lv_has ls 2 [(0, .ref q_this), (1, .int p1)] := hl
  unfold fX1_crashAtOnce at h
  obtain ⟨H, hH⟩ : ∃ H, H = s.heap := ⟨_, rfl⟩
  obtain ⟨locs, hlocs⟩ : ∃ q : List Loc, q = [] := ⟨_, rfl⟩
  suffices hgo : ∀ (H : Heap) (locs : List Loc), va_P (dC, dI) vwCl [(q_this, .inr (1, [.int v_crashing, .ref q_rounds, .ref q_reaches])), (q_rounds, .inl (cI, 8, .inl v_rounds)), (q_reaches, .inl (cI, 8, .inl v_reaches))] H → va_S A s.heap H locs → W p l e (headSpec wsX1_crashAtOnce ({ frames := 1, cells := 0, slots := 0, locals := 23 } : Room)).room s m ([.ref q_this, .int p1] : List Value).toArray below meth c H locs 0 0 (MQ below (va_Qv (fun (_ : Unit) => True) (fun (_ : Unit) t => va_P (dC, dI) vwCl [(q_this, .inr (1, [.int R.1, .ref q_rounds, .ref q_reaches])), (q_rounds, .inl (cI, 8, .inl R.2.1)), (q_reaches, .inl (cI, 8, .inl R.2.2))] t.heap ∧ va_K (dC, dI) vwCl [(cI, .int)] t ∧ va_D A [(q_this, .inr (1, [.int R.1, .ref q_rounds, .ref q_reaches])), (q_rounds, .inl (cI, 8, .inl R.2.1)), (q_reaches, .inl (cI, 8, .inl R.2.2))]) A) ([.ref q_this, .int p1] : List Value).toArray s 0 0 A) (F0 m 0 ls []) from hgo _ _ hP hS
  clear hH hlocs hP hS
  clear H locs
  intro H locs hP hS
  refine lv_aload_n hx hb dX1_crashAtOnce_0 rfl (lv_at hl 0 rfl) ?_
  refine lv_iload_n hx hb dX1_crashAtOnce_1 rfl (lv_at hl 1 rfl) ?_
  refine va_put (D := (dC, dI)) (ci := 1) (v := .int p1) (ty := .int) (C := RX1) (T := TX1) (N := 3) hx hb hts iiX1_crashAtOnce_X1 tyX1 tyX1_ok nmX1 hown hK hP hD hS 0 rfl rfl 0 (by decide) (hts (.fieldLink RX1 22 "CrashRounds$Plan" "crashing" "I") (by decide +kernel)) (fun _ h9 => h9) rfl (by decide +kernel) rfl rfl (Nat.le_of_ble_eq_true rfl) dX1_crashAtOnce_2 (fun H locs hP hD hS => ?_)
  have hP : va_P (dC, dI) vwCl [(q_this, .inr (1, [.int p1, .ref q_rounds, .ref q_reaches])), (q_rounds, .inl (cI, 8, .inl v_rounds)), (q_reaches, .inl (cI, 8, .inl v_reaches))] H := hP
  have hD : va_D A [(q_this, .inr (1, [.int p1, .ref q_rounds, .ref q_reaches])), (q_rounds, .inl (cI, 8, .inl v_rounds)), (q_reaches, .inl (cI, 8, .inl v_reaches))] := hD
  refine lv_aload_n hx hb dX1_crashAtOnce_5 rfl (lv_at hl 0 rfl) ?_
  refine va_get (D := (dC, dI)) (ci := 1) (v := .ref q_rounds) (C := RX1) (T := TX1) (N := 3) hx hb hts iiX1_crashAtOnce_X1 hown hK hP 0 rfl rfl 1 (by decide) (hts (.fieldLink RX1 9 "CrashRounds$Plan" "rounds" "[I") (by decide +kernel)) (fun _ h9 => h9) rfl dX1_crashAtOnce_6 ?_
  refine lv_iconst (v := 1) hx hb dX1_crashAtOnce_9 (by decide) ?_
  obtain ⟨a1, ha1, h⟩ := bd_s h
  have hPc := hP.sub (ws' := [(q_rounds, .inl (cI, 8, .inl v_rounds))]) [1] rfl
  have hDc := hD.sub (ws' := [(q_rounds, .inl (cI, 8, .inl v_rounds))]) [1] (by decide) rfl
  have hFc := va_free (wc := [(q_rounds, .inl (cI, 8, .inl v_rounds))]) hD hS hA [1] rfl
  refine va_callv (va_runS (As := [.ref q_rounds, .int (1 : Int32)]) (rest := []) ⟨hx, hb, hml, hown, hts⟩ (kJ7_fill_53178 l dC dI cI q_rounds H.size v_rounds (1 : Int32) a1 ha1) (va_cwS 2 hts gX1_crashAtOnce_J7_fill_53178 rfl rfl rfl (by decide +kernel) ⟨Nat.le_of_ble_eq_true rfl, Nat.le_of_ble_eq_true rfl⟩) ⟨pc_blind _ _ _ _ _ _, pc_ok hPc hK hN hDc⟩ rfl rfl hl.1 rfl (lv_room (Nat.le_of_ble_eq_true rfl)) dX1_crashAtOnce_10 ⟨Nat.zero_le _, Nat.zero_le _⟩) hS (fun q _ h => hFc q h) hFc (fun u t H1 locs ht hvm hw hB hz1 hk1 hS => ?_)
  obtain ⟨hP1, hK1, hD1⟩ := hB
  rw [ht] at hP1
  obtain ⟨hP, hD⟩ := va_join (wr := [(q_this, .inr (1, [.int p1, .ref q_rounds, .ref q_reaches])), (q_reaches, .inl (cI, 8, .inl v_reaches))]) (w1 := [(q_rounds, .inl (cI, 8, .inl a1))]) hP hD [1] [0, 2] rfl rfl (by decide) (by decide) hk1 hFc hP1 hD1
  generalize H1 = H at hP hS ⊢
  have hP : va_P (dC, dI) vwCl [(q_this, .inr (1, [.int p1, .ref q_rounds, .ref q_reaches])), (q_rounds, .inl (cI, 8, .inl a1)), (q_reaches, .inl (cI, 8, .inl v_reaches))] H := hP.sub [0, 2, 1] rfl
  have hD : va_D A [(q_this, .inr (1, [.int p1, .ref q_rounds, .ref q_reaches])), (q_rounds, .inl (cI, 8, .inl a1)), (q_reaches, .inl (cI, 8, .inl v_reaches))] := hD.sub [0, 2, 1] (by decide) rfl
  refine lv_aload_n hx hb dX1_crashAtOnce_13 rfl (lv_at hl 0 rfl) ?_
  refine va_get (D := (dC, dI)) (ci := 1) (v := .ref q_reaches) (C := RX1) (T := TX1) (N := 3) hx hb hts iiX1_crashAtOnce_X1 hown hK hP 0 rfl rfl 2 (by decide) (hts (.fieldLink RX1 15 "CrashRounds$Plan" "reaches" "[I") (by decide +kernel)) (fun _ h9 => h9) rfl dX1_crashAtOnce_14 ?_
  refine lv_iconst (v := 0) hx hb dX1_crashAtOnce_17 (by decide) ?_
  obtain ⟨a2, ha2, h⟩ := bd_s h
  have hPc := hP.sub (ws' := [(q_reaches, .inl (cI, 8, .inl v_reaches))]) [2] rfl
  have hDc := hD.sub (ws' := [(q_reaches, .inl (cI, 8, .inl v_reaches))]) [2] (by decide) rfl
  have hFc := va_free (wc := [(q_reaches, .inl (cI, 8, .inl v_reaches))]) hD hS hA [2] rfl
  refine va_callv (va_runS (As := [.ref q_reaches, .int (0 : Int32)]) (rest := []) ⟨hx, hb, hml, hown, hts⟩ (kJ7_fill_53178 l dC dI cI q_reaches H.size v_reaches (0 : Int32) a2 ha2) (va_cwS 2 hts gX1_crashAtOnce_J7_fill_53178 rfl rfl rfl (by decide +kernel) ⟨Nat.le_of_ble_eq_true rfl, Nat.le_of_ble_eq_true rfl⟩) ⟨pc_blind _ _ _ _ _ _, pc_ok hPc hK hN hDc⟩ rfl rfl hl.1 rfl (lv_room (Nat.le_of_ble_eq_true rfl)) dX1_crashAtOnce_18 ⟨Nat.zero_le _, Nat.zero_le _⟩) hS (fun q _ h => hFc q h) hFc (fun u t H1 locs ht hvm hw hB hz1 hk1 hS => ?_)
  obtain ⟨hP1, hK1, hD1⟩ := hB
  rw [ht] at hP1
  obtain ⟨hP, hD⟩ := va_join (wr := [(q_this, .inr (1, [.int p1, .ref q_rounds, .ref q_reaches])), (q_rounds, .inl (cI, 8, .inl a1))]) (w1 := [(q_reaches, .inl (cI, 8, .inl a2))]) hP hD [2] [0, 1] rfl rfl (by decide) (by decide) hk1 hFc hP1 hD1
  generalize H1 = H at hP hS ⊢
  have hP : va_P (dC, dI) vwCl [(q_this, .inr (1, [.int p1, .ref q_rounds, .ref q_reaches])), (q_rounds, .inl (cI, 8, .inl a1)), (q_reaches, .inl (cI, 8, .inl a2))] H := hP.sub [0, 1, 2] rfl
  have hD : va_D A [(q_this, .inr (1, [.int p1, .ref q_rounds, .ref q_reaches])), (q_rounds, .inl (cI, 8, .inl a1)), (q_reaches, .inl (cI, 8, .inl a2))] := hD.sub [0, 1, 2] (by decide) rfl
  have h := Option.some.inj h
  subst h
  exact W.vret hx hb hr (fun t ht hW => ⟨⟨(), rfl, trivial, by rw [ht]; exact hP, va_K.moved hW.alike hK, hD⟩, hS.F ht⟩) hS.2.2 dX1_crashAtOnce_21
set_option maxHeartbeats 4000000 in
set_option maxRecDepth 100000 in
theorem kX1_clear (l : Launch) (dC : Nat → ClassId) (dI : Nat → Nat → Nat) (cI : ClassId) (q_this q_rounds q_reaches : Nat) (sz : Nat) (v_crashing : Int32) (v_rounds : (Nat → Int32)) (v_reaches : (Nat → Int32)) (R : Int32 × (Nat → Int32) × (Nat → Int32)) (h : fX1_clear v_rounds v_reaches = some R) : Met l yX1_clear wsX1_clear ({ frames := 2, cells := 0, slots := 0, locals := 44 } : Room) (va_Pc [.ref q_this] (fun U => U.heap.size = sz ∧ va_P (dC, dI) vwCl [(q_this, .inr (1, [.int v_crashing, .ref q_rounds, .ref q_reaches])), (q_rounds, .inl (cI, 8, .inl v_rounds)), (q_reaches, .inl (cI, 8, .inl v_reaches))] U.heap ∧ va_K (dC, dI) vwCl [(cI, .int)] U ∧ NW U ∧ va_D (fun _ => True) [(q_this, .inr (1, [.int v_crashing, .ref q_rounds, .ref q_reaches])), (q_rounds, .inl (cI, 8, .inl v_rounds)), (q_reaches, .inl (cI, 8, .inl v_reaches))])) (va_Qv (fun (_ : Unit) => True) (fun (_ : Unit) t => va_P (dC, dI) vwCl [(q_this, .inr (1, [.int R.1, .ref q_rounds, .ref q_reaches])), (q_rounds, .inl (cI, 8, .inl R.2.1)), (q_reaches, .inl (cI, 8, .inl R.2.2))] t.heap ∧ va_K (dC, dI) vwCl [(cI, .int)] t ∧ va_D (va_A [(q_this, .inr (1, [.int v_crashing, .ref q_rounds, .ref q_reaches])), (q_rounds, .inl (cI, 8, .inl v_rounds)), (q_reaches, .inl (cI, 8, .inl v_reaches))] sz) [(q_this, .inr (1, [.int R.1, .ref q_rounds, .ref q_reaches])), (q_rounds, .inl (cI, 8, .inl R.2.1)), (q_reaches, .inl (cI, 8, .inl R.2.2))]) (va_A [(q_this, .inr (1, [.int v_crashing, .ref q_rounds, .ref q_reaches])), (q_rounds, .inl (cI, 8, .inl v_rounds)), (q_reaches, .inl (cI, 8, .inl v_reaches))] sz)) 0 0 (va_A [(q_this, .inr (1, [.int v_crashing, .ref q_rounds, .ref q_reaches])), (q_rounds, .inl (cI, 8, .inl v_rounds)), (q_reaches, .inl (cI, 8, .inl v_reaches))] sz) := by
  refine Met.ofW (cc := cX1_clear) (maxL := 1) (ret := none) (by decide) rfl ?_
  intro p e s m args below meth c s₁ B hml hv
  obtain ⟨rfl, hsz, hP, hK, hN, hD0⟩ := hv
  have hx := B.exec
  have hb := B.bytes
  have hr := B.returns
  have hts := atoms_spec (ws := wsX1_clear) B.pre
  have hown : s.vm.findClass RX1 = some m.cls := findClass_of_methodNamed B.named
  have hlocks := B.notSynchronized
  subst hsz
  have hD := hD0.self (sz := s.heap.size)
  generalize hAe : va_A [(q_this, .inr (1, [.int v_crashing, .ref q_rounds, .ref q_reaches])), (q_rounds, .inl (cI, 8, .inl v_rounds)), (q_reaches, .inl (cI, 8, .inl v_reaches))] s.heap.size = A at hD ⊢
  have hA : ∀ q : Nat, s.heap.size ≤ q → A q := fun q h => by rw [← hAe]; exact Or.inr h
  have hS : va_S A s.heap s.heap [] := va_S.rf
  have hl := lv_entry ([.ref q_this]) (n := 1) (Nat.le_of_ble_eq_true rfl)
  rw [lg_entry_eq]
  generalize (lg_sl ([.ref q_this]) ++ List.replicate (1 - (lg_sl ([.ref q_this])).length) Slot.unset).toArray = ls at hl ⊢
  have hl : lv_has ls 1 [(0, .ref q_this)] := hl
  unfold fX1_clear at h
  obtain ⟨H, hH⟩ : ∃ H, H = s.heap := ⟨_, rfl⟩
  obtain ⟨locs, hlocs⟩ : ∃ q : List Loc, q = [] := ⟨_, rfl⟩
  suffices hgo : ∀ (H : Heap) (locs : List Loc), va_P (dC, dI) vwCl [(q_this, .inr (1, [.int v_crashing, .ref q_rounds, .ref q_reaches])), (q_rounds, .inl (cI, 8, .inl v_rounds)), (q_reaches, .inl (cI, 8, .inl v_reaches))] H → va_S A s.heap H locs → W p l e (headSpec wsX1_clear ({ frames := 2, cells := 0, slots := 0, locals := 44 } : Room)).room s m ([.ref q_this] : List Value).toArray below meth c H locs 0 0 (MQ below (va_Qv (fun (_ : Unit) => True) (fun (_ : Unit) t => va_P (dC, dI) vwCl [(q_this, .inr (1, [.int R.1, .ref q_rounds, .ref q_reaches])), (q_rounds, .inl (cI, 8, .inl R.2.1)), (q_reaches, .inl (cI, 8, .inl R.2.2))] t.heap ∧ va_K (dC, dI) vwCl [(cI, .int)] t ∧ va_D A [(q_this, .inr (1, [.int R.1, .ref q_rounds, .ref q_reaches])), (q_rounds, .inl (cI, 8, .inl R.2.1)), (q_reaches, .inl (cI, 8, .inl R.2.2))]) A) ([.ref q_this] : List Value).toArray s 0 0 A) (F0 m 0 ls []) from hgo _ _ hP hS
  clear hH hlocs hP hS
  clear H locs
  intro H locs hP hS
  refine lv_aload_n hx hb dX1_clear_0 rfl (lv_at hl 0 rfl) ?_
  refine lv_iconst (v := 0) hx hb dX1_clear_1 (by decide) ?_
  obtain ⟨a1, ha1, h⟩ := bd_s h
  have hPc := hP.sub (ws' := [(q_this, .inr (1, [.int v_crashing, .ref q_rounds, .ref q_reaches])), (q_rounds, .inl (cI, 8, .inl v_rounds)), (q_reaches, .inl (cI, 8, .inl v_reaches))]) [0, 1, 2] rfl
  have hDc := hD.sub (ws' := [(q_this, .inr (1, [.int v_crashing, .ref q_rounds, .ref q_reaches])), (q_rounds, .inl (cI, 8, .inl v_rounds)), (q_reaches, .inl (cI, 8, .inl v_reaches))]) [0, 1, 2] (by decide) rfl
  have hFc := va_free (wc := [(q_this, .inr (1, [.int v_crashing, .ref q_rounds, .ref q_reaches])), (q_rounds, .inl (cI, 8, .inl v_rounds)), (q_reaches, .inl (cI, 8, .inl v_reaches))]) hD hS hA [0, 1, 2] rfl
  refine va_callv (va_runV (As := [.int (0 : Int32)]) (rest := []) ⟨hx, hb, hml, hown, hts⟩ (kX1_crashAtOnce l dC dI cI q_this q_rounds q_reaches H.size v_crashing v_rounds v_reaches (0 : Int32) a1 ha1) (cwV 1 hts gX1_clear_X1_crashAtOnce rfl rfl rfl (by decide +kernel) ⟨Nat.le_of_ble_eq_true rfl, Nat.le_of_ble_eq_true rfl⟩) ⟨pc_blind _ _ _ _ _ _, va_recv hK hP (ci := 1) (q0 := 0) rfl rfl, pc_ok hPc hK hN hDc⟩ rfl rfl hl.1 rfl (lv_room (Nat.le_of_ble_eq_true rfl)) dX1_clear_2 ⟨Nat.zero_le _, Nat.zero_le _⟩) hS (fun q _ h => hFc q h) hFc (fun u t H1 locs ht hvm hw hB hz1 hk1 hS => ?_)
  obtain ⟨hP1, hK1, hD1⟩ := hB
  rw [ht] at hP1
  obtain ⟨hP, hD⟩ := va_join (wr := []) (w1 := [(q_this, .inr (1, [.int a1.1, .ref q_rounds, .ref q_reaches])), (q_rounds, .inl (cI, 8, .inl a1.2.1)), (q_reaches, .inl (cI, 8, .inl a1.2.2))]) hP hD [0, 1, 2] [] rfl rfl (by decide) (by decide) hk1 hFc hP1 hD1
  generalize H1 = H at hP hS ⊢
  have hP : va_P (dC, dI) vwCl [(q_this, .inr (1, [.int a1.1, .ref q_rounds, .ref q_reaches])), (q_rounds, .inl (cI, 8, .inl a1.2.1)), (q_reaches, .inl (cI, 8, .inl a1.2.2))] H := hP.sub [0, 1, 2] rfl
  have hD : va_D A [(q_this, .inr (1, [.int a1.1, .ref q_rounds, .ref q_reaches])), (q_rounds, .inl (cI, 8, .inl a1.2.1)), (q_reaches, .inl (cI, 8, .inl a1.2.2))] := hD.sub [0, 1, 2] (by decide) rfl
  have h := Option.some.inj h
  subst h
  exact W.vret hx hb hr (fun t ht hW => ⟨⟨(), rfl, trivial, by rw [ht]; exact hP, va_K.moved hW.alike hK, hD⟩, hS.F ht⟩) hS.2.2 dX1_clear_5
theorem iiX1_copy_X1 : ∀ w ∈ wsX10, w ∈ wsX1_copy := by decide +kernel
set_option maxHeartbeats 4000000 in
set_option maxRecDepth 100000 in
theorem kX1_copy (l : Launch) (dC : Nat → ClassId) (dI : Nat → Nat → Nat) (cI : ClassId) (q_this q_other q_rounds q_reaches q_other_rounds q_other_reaches : Nat) (sz : Nat) (v_crashing : Int32) (v_rounds : (Nat → Int32)) (v_reaches : (Nat → Int32)) (v_other_crashing : Int32) (v_other_rounds : (Nat → Int32)) (v_other_reaches : (Nat → Int32)) (R : Int32 × (Nat → Int32) × (Nat → Int32)) (h : fX1_copy v_rounds v_reaches v_other_crashing v_other_rounds v_other_reaches = R) : Met l yX1_copy wsX1_copy ({ frames := 1, cells := 0, slots := 0, locals := 30 } : Room) (va_Pc [.ref q_this, .ref q_other] (fun U => U.heap.size = sz ∧ va_P (dC, dI) vwCl [(q_this, .inr (1, [.int v_crashing, .ref q_rounds, .ref q_reaches])), (q_rounds, .inl (cI, 8, .inl v_rounds)), (q_reaches, .inl (cI, 8, .inl v_reaches)), (q_other, .inr (1, [.int v_other_crashing, .ref q_other_rounds, .ref q_other_reaches])), (q_other_rounds, .inl (cI, 8, .inl v_other_rounds)), (q_other_reaches, .inl (cI, 8, .inl v_other_reaches))] U.heap ∧ va_K (dC, dI) vwCl [(cI, .int)] U ∧ NW U ∧ va_D (fun _ => True) [(q_this, .inr (1, [.int v_crashing, .ref q_rounds, .ref q_reaches])), (q_rounds, .inl (cI, 8, .inl v_rounds)), (q_reaches, .inl (cI, 8, .inl v_reaches)), (q_other, .inr (1, [.int v_other_crashing, .ref q_other_rounds, .ref q_other_reaches])), (q_other_rounds, .inl (cI, 8, .inl v_other_rounds)), (q_other_reaches, .inl (cI, 8, .inl v_other_reaches))])) (va_Qv (fun (_ : Unit) => True) (fun (_ : Unit) t => va_P (dC, dI) vwCl [(q_this, .inr (1, [.int R.1, .ref q_rounds, .ref q_reaches])), (q_rounds, .inl (cI, 8, .inl R.2.1)), (q_reaches, .inl (cI, 8, .inl R.2.2)), (q_other, .inr (1, [.int v_other_crashing, .ref q_other_rounds, .ref q_other_reaches])), (q_other_rounds, .inl (cI, 8, .inl v_other_rounds)), (q_other_reaches, .inl (cI, 8, .inl v_other_reaches))] t.heap ∧ va_K (dC, dI) vwCl [(cI, .int)] t ∧ va_D (va_A [(q_this, .inr (1, [.int v_crashing, .ref q_rounds, .ref q_reaches])), (q_rounds, .inl (cI, 8, .inl v_rounds)), (q_reaches, .inl (cI, 8, .inl v_reaches)), (q_other, .inr (1, [.int v_other_crashing, .ref q_other_rounds, .ref q_other_reaches])), (q_other_rounds, .inl (cI, 8, .inl v_other_rounds)), (q_other_reaches, .inl (cI, 8, .inl v_other_reaches))] sz) [(q_this, .inr (1, [.int R.1, .ref q_rounds, .ref q_reaches])), (q_rounds, .inl (cI, 8, .inl R.2.1)), (q_reaches, .inl (cI, 8, .inl R.2.2)), (q_other, .inr (1, [.int v_other_crashing, .ref q_other_rounds, .ref q_other_reaches])), (q_other_rounds, .inl (cI, 8, .inl v_other_rounds)), (q_other_reaches, .inl (cI, 8, .inl v_other_reaches))]) (va_A [(q_this, .inr (1, [.int v_crashing, .ref q_rounds, .ref q_reaches])), (q_rounds, .inl (cI, 8, .inl v_rounds)), (q_reaches, .inl (cI, 8, .inl v_reaches)), (q_other, .inr (1, [.int v_other_crashing, .ref q_other_rounds, .ref q_other_reaches])), (q_other_rounds, .inl (cI, 8, .inl v_other_rounds)), (q_other_reaches, .inl (cI, 8, .inl v_other_reaches))] sz)) 0 0 (va_A [(q_this, .inr (1, [.int v_crashing, .ref q_rounds, .ref q_reaches])), (q_rounds, .inl (cI, 8, .inl v_rounds)), (q_reaches, .inl (cI, 8, .inl v_reaches)), (q_other, .inr (1, [.int v_other_crashing, .ref q_other_rounds, .ref q_other_reaches])), (q_other_rounds, .inl (cI, 8, .inl v_other_rounds)), (q_other_reaches, .inl (cI, 8, .inl v_other_reaches))] sz) := by
  refine Met.ofW (cc := cX1_copy) (maxL := 2) (ret := none) (by decide) rfl ?_
  intro p e s m args below meth c s₁ B hml hv
  obtain ⟨rfl, hsz, hP, hK, hN, hD0⟩ := hv
  have hx := B.exec
  have hb := B.bytes
  have hr := B.returns
  have hts := atoms_spec (ws := wsX1_copy) B.pre
  have hown : s.vm.findClass RX1 = some m.cls := findClass_of_methodNamed B.named
  have hlocks := B.notSynchronized
  subst hsz
  have hD := hD0.self (sz := s.heap.size)
  generalize hAe : va_A [(q_this, .inr (1, [.int v_crashing, .ref q_rounds, .ref q_reaches])), (q_rounds, .inl (cI, 8, .inl v_rounds)), (q_reaches, .inl (cI, 8, .inl v_reaches)), (q_other, .inr (1, [.int v_other_crashing, .ref q_other_rounds, .ref q_other_reaches])), (q_other_rounds, .inl (cI, 8, .inl v_other_rounds)), (q_other_reaches, .inl (cI, 8, .inl v_other_reaches))] s.heap.size = A at hD ⊢
  have hA : ∀ q : Nat, s.heap.size ≤ q → A q := fun q h => by rw [← hAe]; exact Or.inr h
  have hS : va_S A s.heap s.heap [] := va_S.rf
  have hl := lv_entry ([.ref q_this, .ref q_other]) (n := 2) (Nat.le_of_ble_eq_true rfl)
  rw [lg_entry_eq]
  generalize (lg_sl ([.ref q_this, .ref q_other]) ++ List.replicate (2 - (lg_sl ([.ref q_this, .ref q_other])).length) Slot.unset).toArray = ls at hl ⊢
  have hl : lv_has ls 2 [(0, .ref q_this), (1, .ref q_other)] := hl
  unfold fX1_copy at h
  obtain ⟨H, hH⟩ : ∃ H, H = s.heap := ⟨_, rfl⟩
  obtain ⟨locs, hlocs⟩ : ∃ q : List Loc, q = [] := ⟨_, rfl⟩
  suffices hgo : ∀ (H : Heap) (locs : List Loc), va_P (dC, dI) vwCl [(q_this, .inr (1, [.int v_crashing, .ref q_rounds, .ref q_reaches])), (q_rounds, .inl (cI, 8, .inl v_rounds)), (q_reaches, .inl (cI, 8, .inl v_reaches)), (q_other, .inr (1, [.int v_other_crashing, .ref q_other_rounds, .ref q_other_reaches])), (q_other_rounds, .inl (cI, 8, .inl v_other_rounds)), (q_other_reaches, .inl (cI, 8, .inl v_other_reaches))] H → va_S A s.heap H locs → W p l e (headSpec wsX1_copy ({ frames := 1, cells := 0, slots := 0, locals := 30 } : Room)).room s m ([.ref q_this, .ref q_other] : List Value).toArray below meth c H locs 0 0 (MQ below (va_Qv (fun (_ : Unit) => True) (fun (_ : Unit) t => va_P (dC, dI) vwCl [(q_this, .inr (1, [.int R.1, .ref q_rounds, .ref q_reaches])), (q_rounds, .inl (cI, 8, .inl R.2.1)), (q_reaches, .inl (cI, 8, .inl R.2.2)), (q_other, .inr (1, [.int v_other_crashing, .ref q_other_rounds, .ref q_other_reaches])), (q_other_rounds, .inl (cI, 8, .inl v_other_rounds)), (q_other_reaches, .inl (cI, 8, .inl v_other_reaches))] t.heap ∧ va_K (dC, dI) vwCl [(cI, .int)] t ∧ va_D A [(q_this, .inr (1, [.int R.1, .ref q_rounds, .ref q_reaches])), (q_rounds, .inl (cI, 8, .inl R.2.1)), (q_reaches, .inl (cI, 8, .inl R.2.2)), (q_other, .inr (1, [.int v_other_crashing, .ref q_other_rounds, .ref q_other_reaches])), (q_other_rounds, .inl (cI, 8, .inl v_other_rounds)), (q_other_reaches, .inl (cI, 8, .inl v_other_reaches))]) A) ([.ref q_this, .ref q_other] : List Value).toArray s 0 0 A) (F0 m 0 ls []) from hgo _ _ hP hS
  clear hH hlocs hP hS
  clear H locs
  intro H locs hP hS
  refine lv_aload_n hx hb dX1_copy_0 rfl (lv_at hl 0 rfl) ?_
  refine lv_aload_n hx hb dX1_copy_1 rfl (lv_at hl 1 rfl) ?_
  refine va_get (D := (dC, dI)) (ci := 1) (v := .int v_other_crashing) (C := RX1) (T := TX1) (N := 3) hx hb hts iiX1_copy_X1 hown hK hP 3 rfl rfl 0 (by decide) (hts (.fieldLink RX1 22 "CrashRounds$Plan" "crashing" "I") (by decide +kernel)) (fun _ h9 => h9) rfl dX1_copy_2 ?_
  refine va_put (D := (dC, dI)) (ci := 1) (v := .int v_other_crashing) (ty := .int) (C := RX1) (T := TX1) (N := 3) hx hb hts iiX1_copy_X1 tyX1 tyX1_ok nmX1 hown hK hP hD hS 0 rfl rfl 0 (by decide) (hts (.fieldLink RX1 22 "CrashRounds$Plan" "crashing" "I") (by decide +kernel)) (fun _ h9 => h9) rfl (by decide +kernel) rfl rfl (Nat.le_of_ble_eq_true rfl) dX1_copy_5 (fun H locs hP hD hS => ?_)
  have hP : va_P (dC, dI) vwCl [(q_this, .inr (1, [.int v_other_crashing, .ref q_rounds, .ref q_reaches])), (q_rounds, .inl (cI, 8, .inl v_rounds)), (q_reaches, .inl (cI, 8, .inl v_reaches)), (q_other, .inr (1, [.int v_other_crashing, .ref q_other_rounds, .ref q_other_reaches])), (q_other_rounds, .inl (cI, 8, .inl v_other_rounds)), (q_other_reaches, .inl (cI, 8, .inl v_other_reaches))] H := hP
  have hD : va_D A [(q_this, .inr (1, [.int v_other_crashing, .ref q_rounds, .ref q_reaches])), (q_rounds, .inl (cI, 8, .inl v_rounds)), (q_reaches, .inl (cI, 8, .inl v_reaches)), (q_other, .inr (1, [.int v_other_crashing, .ref q_other_rounds, .ref q_other_reaches])), (q_other_rounds, .inl (cI, 8, .inl v_other_rounds)), (q_other_reaches, .inl (cI, 8, .inl v_other_reaches))] := hD
  refine lv_aload_n hx hb dX1_copy_8 rfl (lv_at hl 1 rfl) ?_
  refine va_get (D := (dC, dI)) (ci := 1) (v := .ref q_other_rounds) (C := RX1) (T := TX1) (N := 3) hx hb hts iiX1_copy_X1 hown hK hP 3 rfl rfl 1 (by decide) (hts (.fieldLink RX1 9 "CrashRounds$Plan" "rounds" "[I") (by decide +kernel)) (fun _ h9 => h9) rfl dX1_copy_9 ?_
  refine lv_iconst (v := 0) hx hb dX1_copy_12 (by decide) ?_
  refine lv_aload_n hx hb dX1_copy_13 rfl (lv_at hl 0 rfl) ?_
  refine va_get (D := (dC, dI)) (ci := 1) (v := .ref q_rounds) (C := RX1) (T := TX1) (N := 3) hx hb hts iiX1_copy_X1 hown hK hP 0 rfl rfl 1 (by decide) (hts (.fieldLink RX1 9 "CrashRounds$Plan" "rounds" "[I") (by decide +kernel)) (fun _ h9 => h9) rfl dX1_copy_14 ?_
  refine lv_iconst (v := 0) hx hb dX1_copy_17 (by decide) ?_
  refine lv_bipush (v := 8) hx hb dX1_copy_18 (by decide) ?_
  refine va_copyi (ty := .int) hx hb (by rw [hml]; exact hl.1.symm) hown (hts (.methodLink RX1 26 arraycopyName) (by decide +kernel)) (hts (.native arraycopyName) (by decide +kernel)) (hts (.static arraycopyName) (by decide +kernel)) (hts (.initialized "java/lang/System") (by decide +kernel)) hK hP hD hS 4 1 0 0 rfl rfl rfl rfl rfl (by decide) (by decide) (by decide) (by decide) (by decide) (fun _ _ => rfl) (Nat.le_of_ble_eq_true rfl) (Nat.le_of_ble_eq_true rfl) dX1_copy_20 (fun H locs hP hD hS => ?_)
  have hP : va_P (dC, dI) vwCl [(q_this, .inr (1, [.int v_other_crashing, .ref q_rounds, .ref q_reaches])), (q_rounds, .inl (cI, 8, .inl (va_cpy v_other_rounds v_rounds (0 : Int32).toNatClampNeg (0 : Int32).toNatClampNeg (8 : Int32).toNatClampNeg))), (q_reaches, .inl (cI, 8, .inl v_reaches)), (q_other, .inr (1, [.int v_other_crashing, .ref q_other_rounds, .ref q_other_reaches])), (q_other_rounds, .inl (cI, 8, .inl v_other_rounds)), (q_other_reaches, .inl (cI, 8, .inl v_other_reaches))] H := hP
  have hD : va_D A [(q_this, .inr (1, [.int v_other_crashing, .ref q_rounds, .ref q_reaches])), (q_rounds, .inl (cI, 8, .inl (va_cpy v_other_rounds v_rounds (0 : Int32).toNatClampNeg (0 : Int32).toNatClampNeg (8 : Int32).toNatClampNeg))), (q_reaches, .inl (cI, 8, .inl v_reaches)), (q_other, .inr (1, [.int v_other_crashing, .ref q_other_rounds, .ref q_other_reaches])), (q_other_rounds, .inl (cI, 8, .inl v_other_rounds)), (q_other_reaches, .inl (cI, 8, .inl v_other_reaches))] := hD
  refine lv_aload_n hx hb dX1_copy_23 rfl (lv_at hl 1 rfl) ?_
  refine va_get (D := (dC, dI)) (ci := 1) (v := .ref q_other_reaches) (C := RX1) (T := TX1) (N := 3) hx hb hts iiX1_copy_X1 hown hK hP 3 rfl rfl 2 (by decide) (hts (.fieldLink RX1 15 "CrashRounds$Plan" "reaches" "[I") (by decide +kernel)) (fun _ h9 => h9) rfl dX1_copy_24 ?_
  refine lv_iconst (v := 0) hx hb dX1_copy_27 (by decide) ?_
  refine lv_aload_n hx hb dX1_copy_28 rfl (lv_at hl 0 rfl) ?_
  refine va_get (D := (dC, dI)) (ci := 1) (v := .ref q_reaches) (C := RX1) (T := TX1) (N := 3) hx hb hts iiX1_copy_X1 hown hK hP 0 rfl rfl 2 (by decide) (hts (.fieldLink RX1 15 "CrashRounds$Plan" "reaches" "[I") (by decide +kernel)) (fun _ h9 => h9) rfl dX1_copy_29 ?_
  refine lv_iconst (v := 0) hx hb dX1_copy_32 (by decide) ?_
  refine lv_bipush (v := 8) hx hb dX1_copy_33 (by decide) ?_
  refine va_copyi (ty := .int) hx hb (by rw [hml]; exact hl.1.symm) hown (hts (.methodLink RX1 26 arraycopyName) (by decide +kernel)) (hts (.native arraycopyName) (by decide +kernel)) (hts (.static arraycopyName) (by decide +kernel)) (hts (.initialized "java/lang/System") (by decide +kernel)) hK hP hD hS 5 2 0 0 rfl rfl rfl rfl rfl (by decide) (by decide) (by decide) (by decide) (by decide) (fun _ _ => rfl) (Nat.le_of_ble_eq_true rfl) (Nat.le_of_ble_eq_true rfl) dX1_copy_35 (fun H locs hP hD hS => ?_)
  have hP : va_P (dC, dI) vwCl [(q_this, .inr (1, [.int v_other_crashing, .ref q_rounds, .ref q_reaches])), (q_rounds, .inl (cI, 8, .inl (va_cpy v_other_rounds v_rounds (0 : Int32).toNatClampNeg (0 : Int32).toNatClampNeg (8 : Int32).toNatClampNeg))), (q_reaches, .inl (cI, 8, .inl (va_cpy v_other_reaches v_reaches (0 : Int32).toNatClampNeg (0 : Int32).toNatClampNeg (8 : Int32).toNatClampNeg))), (q_other, .inr (1, [.int v_other_crashing, .ref q_other_rounds, .ref q_other_reaches])), (q_other_rounds, .inl (cI, 8, .inl v_other_rounds)), (q_other_reaches, .inl (cI, 8, .inl v_other_reaches))] H := hP
  have hD : va_D A [(q_this, .inr (1, [.int v_other_crashing, .ref q_rounds, .ref q_reaches])), (q_rounds, .inl (cI, 8, .inl (va_cpy v_other_rounds v_rounds (0 : Int32).toNatClampNeg (0 : Int32).toNatClampNeg (8 : Int32).toNatClampNeg))), (q_reaches, .inl (cI, 8, .inl (va_cpy v_other_reaches v_reaches (0 : Int32).toNatClampNeg (0 : Int32).toNatClampNeg (8 : Int32).toNatClampNeg))), (q_other, .inr (1, [.int v_other_crashing, .ref q_other_rounds, .ref q_other_reaches])), (q_other_rounds, .inl (cI, 8, .inl v_other_rounds)), (q_other_reaches, .inl (cI, 8, .inl v_other_reaches))] := hD
  have h := h
  subst h
  exact W.vret hx hb hr (fun t ht hW => ⟨⟨(), rfl, trivial, by rw [ht]; exact hP, va_K.moved hW.alike hK, hD⟩, hS.F ht⟩) hS.2.2 dX1_copy_38
theorem iiX1_put_X1 : ∀ w ∈ wsX10, w ∈ wsX1_put := by decide +kernel
set_option maxHeartbeats 4000000 in
set_option maxRecDepth 100000 in
theorem kX1_put (l : Launch) (dC : Nat → ClassId) (dI : Nat → Nat → Nat) (cI : ClassId) (q_this q_rounds q_reaches : Nat) (sz : Nat) (v_crashing : Int32) (v_rounds : (Nat → Int32)) (v_reaches : (Nat → Int32)) (p1 : Int32) (p2 : Int32) (p3 : Int32) (R : Int32 × (Nat → Int32) × (Nat → Int32)) (h : fX1_put v_crashing v_rounds v_reaches p1 p2 p3 = some R) : Met l yX1_put wsX1_put ({ frames := 0, cells := 0, slots := 0, locals := 0 } : Room) (va_Pc [.ref q_this, .int p1, .int p2, .int p3] (fun U => U.heap.size = sz ∧ va_P (dC, dI) vwCl [(q_this, .inr (1, [.int v_crashing, .ref q_rounds, .ref q_reaches])), (q_rounds, .inl (cI, 8, .inl v_rounds)), (q_reaches, .inl (cI, 8, .inl v_reaches))] U.heap ∧ va_K (dC, dI) vwCl [(cI, .int)] U ∧ NW U ∧ va_D (fun _ => True) [(q_this, .inr (1, [.int v_crashing, .ref q_rounds, .ref q_reaches])), (q_rounds, .inl (cI, 8, .inl v_rounds)), (q_reaches, .inl (cI, 8, .inl v_reaches))])) (va_Qv (fun (_ : Unit) => True) (fun (_ : Unit) t => va_P (dC, dI) vwCl [(q_this, .inr (1, [.int R.1, .ref q_rounds, .ref q_reaches])), (q_rounds, .inl (cI, 8, .inl R.2.1)), (q_reaches, .inl (cI, 8, .inl R.2.2))] t.heap ∧ va_K (dC, dI) vwCl [(cI, .int)] t ∧ va_D (va_A [(q_this, .inr (1, [.int v_crashing, .ref q_rounds, .ref q_reaches])), (q_rounds, .inl (cI, 8, .inl v_rounds)), (q_reaches, .inl (cI, 8, .inl v_reaches))] sz) [(q_this, .inr (1, [.int R.1, .ref q_rounds, .ref q_reaches])), (q_rounds, .inl (cI, 8, .inl R.2.1)), (q_reaches, .inl (cI, 8, .inl R.2.2))]) (va_A [(q_this, .inr (1, [.int v_crashing, .ref q_rounds, .ref q_reaches])), (q_rounds, .inl (cI, 8, .inl v_rounds)), (q_reaches, .inl (cI, 8, .inl v_reaches))] sz)) 0 0 (va_A [(q_this, .inr (1, [.int v_crashing, .ref q_rounds, .ref q_reaches])), (q_rounds, .inl (cI, 8, .inl v_rounds)), (q_reaches, .inl (cI, 8, .inl v_reaches))] sz) := by
  refine Met.ofW (cc := cX1_put) (maxL := 4) (ret := none) (by decide) rfl ?_
  intro p e s m args below meth c s₁ B hml hv
  obtain ⟨rfl, hsz, hP, hK, hN, hD0⟩ := hv
  have hx := B.exec
  have hb := B.bytes
  have hr := B.returns
  have hts := atoms_spec (ws := wsX1_put) B.pre
  have hown : s.vm.findClass RX1 = some m.cls := findClass_of_methodNamed B.named
  have hlocks := B.notSynchronized
  subst hsz
  have hD := hD0.self (sz := s.heap.size)
  generalize hAe : va_A [(q_this, .inr (1, [.int v_crashing, .ref q_rounds, .ref q_reaches])), (q_rounds, .inl (cI, 8, .inl v_rounds)), (q_reaches, .inl (cI, 8, .inl v_reaches))] s.heap.size = A at hD ⊢
  have hA : ∀ q : Nat, s.heap.size ≤ q → A q := fun q h => by rw [← hAe]; exact Or.inr h
  have hS : va_S A s.heap s.heap [] := va_S.rf
  have hl := lv_entry ([.ref q_this, .int p1, .int p2, .int p3]) (n := 4) (Nat.le_of_ble_eq_true rfl)
  rw [lg_entry_eq]
  generalize (lg_sl ([.ref q_this, .int p1, .int p2, .int p3]) ++ List.replicate (4 - (lg_sl ([.ref q_this, .int p1, .int p2, .int p3])).length) Slot.unset).toArray = ls at hl ⊢
  have hl : lv_has ls 4 [(0, .ref q_this), (1, .int p1), (2, .int p2), (3, .int p3)] := hl
  unfold fX1_put at h
  obtain ⟨H, hH⟩ : ∃ H, H = s.heap := ⟨_, rfl⟩
  obtain ⟨locs, hlocs⟩ : ∃ q : List Loc, q = [] := ⟨_, rfl⟩
  suffices hgo : ∀ (H : Heap) (locs : List Loc), va_P (dC, dI) vwCl [(q_this, .inr (1, [.int v_crashing, .ref q_rounds, .ref q_reaches])), (q_rounds, .inl (cI, 8, .inl v_rounds)), (q_reaches, .inl (cI, 8, .inl v_reaches))] H → va_S A s.heap H locs → W p l e (headSpec wsX1_put ({ frames := 0, cells := 0, slots := 0, locals := 0 } : Room)).room s m ([.ref q_this, .int p1, .int p2, .int p3] : List Value).toArray below meth c H locs 0 0 (MQ below (va_Qv (fun (_ : Unit) => True) (fun (_ : Unit) t => va_P (dC, dI) vwCl [(q_this, .inr (1, [.int R.1, .ref q_rounds, .ref q_reaches])), (q_rounds, .inl (cI, 8, .inl R.2.1)), (q_reaches, .inl (cI, 8, .inl R.2.2))] t.heap ∧ va_K (dC, dI) vwCl [(cI, .int)] t ∧ va_D A [(q_this, .inr (1, [.int R.1, .ref q_rounds, .ref q_reaches])), (q_rounds, .inl (cI, 8, .inl R.2.1)), (q_reaches, .inl (cI, 8, .inl R.2.2))]) A) ([.ref q_this, .int p1, .int p2, .int p3] : List Value).toArray s 0 0 A) (F0 m 0 ls []) from hgo _ _ hP hS
  clear hH hlocs hP hS
  clear H locs
  intro H locs hP hS
  refine lv_aload_n hx hb dX1_put_0 rfl (lv_at hl 0 rfl) ?_
  refine lv_dup hx hb dX1_put_1 rfl ?_
  refine va_get (D := (dC, dI)) (ci := 1) (v := .int v_crashing) (C := RX1) (T := TX1) (N := 3) hx hb hts iiX1_put_X1 hown hK hP 0 rfl rfl 0 (by decide) (hts (.fieldLink RX1 22 "CrashRounds$Plan" "crashing" "I") (by decide +kernel)) (fun _ h9 => h9) rfl dX1_put_2 ?_
  refine lv_iconst (v := 1) hx hb dX1_put_5 (by decide) ?_
  refine lv_iload_n hx hb dX1_put_6 rfl (lv_at hl 1 rfl) ?_
  refine lv_ishl hx hb dX1_put_7 ?_
  refine lv_ior hx hb dX1_put_8 ?_
  refine va_put (D := (dC, dI)) (ci := 1) (v := .int (v_crashing ||| ((1 : Int32) <<< (p1 &&& 31)))) (ty := .int) (C := RX1) (T := TX1) (N := 3) hx hb hts iiX1_put_X1 tyX1 tyX1_ok nmX1 hown hK hP hD hS 0 rfl rfl 0 (by decide) (hts (.fieldLink RX1 22 "CrashRounds$Plan" "crashing" "I") (by decide +kernel)) (fun _ h9 => h9) rfl (by decide +kernel) rfl rfl (Nat.le_of_ble_eq_true rfl) dX1_put_9 (fun H locs hP hD hS => ?_)
  have hP : va_P (dC, dI) vwCl [(q_this, .inr (1, [.int (v_crashing ||| ((1 : Int32) <<< (p1 &&& 31))), .ref q_rounds, .ref q_reaches])), (q_rounds, .inl (cI, 8, .inl v_rounds)), (q_reaches, .inl (cI, 8, .inl v_reaches))] H := hP
  have hD : va_D A [(q_this, .inr (1, [.int (v_crashing ||| ((1 : Int32) <<< (p1 &&& 31))), .ref q_rounds, .ref q_reaches])), (q_rounds, .inl (cI, 8, .inl v_rounds)), (q_reaches, .inl (cI, 8, .inl v_reaches))] := hD
  refine lv_aload_n hx hb dX1_put_12 rfl (lv_at hl 0 rfl) ?_
  refine va_get (D := (dC, dI)) (ci := 1) (v := .ref q_rounds) (C := RX1) (T := TX1) (N := 3) hx hb hts iiX1_put_X1 hown hK hP 0 rfl rfl 1 (by decide) (hts (.fieldLink RX1 9 "CrashRounds$Plan" "rounds" "[I") (by decide +kernel)) (fun _ h9 => h9) rfl dX1_put_13 ?_
  refine lv_iload_n hx hb dX1_put_16 rfl (lv_at hl 1 rfl) ?_
  refine lv_iload_n hx hb dX1_put_17 rfl (lv_at hl 2 rfl) ?_
  obtain ⟨hb1, h⟩ := ift_s h
  refine va_iast hx hb hK hP hD hS 1 0 rfl rfl (inb_in hb1) dX1_put_18 (fun H locs hP hD hS => ?_)
  have hP : va_P (dC, dI) vwCl [(q_this, .inr (1, [.int (v_crashing ||| ((1 : Int32) <<< (p1 &&& 31))), .ref q_rounds, .ref q_reaches])), (q_rounds, .inl (cI, 8, .inl (upd v_rounds p1.toNatClampNeg p2))), (q_reaches, .inl (cI, 8, .inl v_reaches))] H := hP
  have hD : va_D A [(q_this, .inr (1, [.int (v_crashing ||| ((1 : Int32) <<< (p1 &&& 31))), .ref q_rounds, .ref q_reaches])), (q_rounds, .inl (cI, 8, .inl (upd v_rounds p1.toNatClampNeg p2))), (q_reaches, .inl (cI, 8, .inl v_reaches))] := hD
  refine lv_aload_n hx hb dX1_put_19 rfl (lv_at hl 0 rfl) ?_
  refine va_get (D := (dC, dI)) (ci := 1) (v := .ref q_reaches) (C := RX1) (T := TX1) (N := 3) hx hb hts iiX1_put_X1 hown hK hP 0 rfl rfl 2 (by decide) (hts (.fieldLink RX1 15 "CrashRounds$Plan" "reaches" "[I") (by decide +kernel)) (fun _ h9 => h9) rfl dX1_put_20 ?_
  refine lv_iload_n hx hb dX1_put_23 rfl (lv_at hl 1 rfl) ?_
  refine lv_iload_n hx hb dX1_put_24 rfl (lv_at hl 3 rfl) ?_
  refine lv_iconst (v := 1) hx hb dX1_put_25 (by decide) ?_
  refine lv_iload_n hx hb dX1_put_26 rfl (lv_at hl 1 rfl) ?_
  refine lv_ishl hx hb dX1_put_27 ?_
  refine lv_iconst (v := (-1)) hx hb dX1_put_28 (by decide) ?_
  refine lv_ixor hx hb dX1_put_29 ?_
  refine lv_iand hx hb dX1_put_30 ?_
  refine va_iast hx hb hK hP hD hS 2 0 rfl rfl (inb_in hb1) dX1_put_31 (fun H locs hP hD hS => ?_)
  have hP : va_P (dC, dI) vwCl [(q_this, .inr (1, [.int (v_crashing ||| ((1 : Int32) <<< (p1 &&& 31))), .ref q_rounds, .ref q_reaches])), (q_rounds, .inl (cI, 8, .inl (upd v_rounds p1.toNatClampNeg p2))), (q_reaches, .inl (cI, 8, .inl (upd v_reaches p1.toNatClampNeg (p3 &&& (((1 : Int32) <<< (p1 &&& 31)) ^^^ (-1 : Int32))))))] H := hP
  have hD : va_D A [(q_this, .inr (1, [.int (v_crashing ||| ((1 : Int32) <<< (p1 &&& 31))), .ref q_rounds, .ref q_reaches])), (q_rounds, .inl (cI, 8, .inl (upd v_rounds p1.toNatClampNeg p2))), (q_reaches, .inl (cI, 8, .inl (upd v_reaches p1.toNatClampNeg (p3 &&& (((1 : Int32) <<< (p1 &&& 31)) ^^^ (-1 : Int32))))))] := hD
  have h := Option.some.inj h
  subst h
  exact W.vret hx hb hr (fun t ht hW => ⟨⟨(), rfl, trivial, by rw [ht]; exact hP, va_K.moved hW.alike hK, hD⟩, hS.F ht⟩) hS.2.2 dX1_put_32
theorem iiX1_crashingIn_X1 : ∀ w ∈ wsX10, w ∈ wsX1_crashingIn := by decide +kernel
set_option maxHeartbeats 4000000 in
set_option maxRecDepth 100000 in
theorem kX1_crashingIn (l : Launch) (dC : Nat → ClassId) (dI : Nat → Nat → Nat) (cI : ClassId) (q_this q_rounds q_reaches : Nat) (sz : Nat) (v_crashing : Int32) (v_rounds : (Nat → Int32)) (p1 : Int32) (p2 : Int32) (R : Int32) (h : fX1_crashingIn v_crashing v_rounds p1 p2 = some R) : Met l yX1_crashingIn wsX1_crashingIn ({ frames := 1, cells := 0, slots := 0, locals := 22 } : Room) (va_Pc [.ref q_this, .int p1, .int p2] (fun U => U.heap.size = sz ∧ va_P (dC, dI) vwCl [(q_this, .inr (1, [.int v_crashing, .ref q_rounds, .ref q_reaches])), (q_rounds, .inl (cI, 8, .inl v_rounds))] U.heap ∧ va_K (dC, dI) vwCl [(cI, .int)] U ∧ NW U ∧ va_D (fun _ => True) [(q_this, .inr (1, [.int v_crashing, .ref q_rounds, .ref q_reaches])), (q_rounds, .inl (cI, 8, .inl v_rounds))])) (va_Qi (fun (r : Int32) (_ : Unit) => r = R) (fun (_ : Unit) t => va_P (dC, dI) vwCl [(q_this, .inr (1, [.int v_crashing, .ref q_rounds, .ref q_reaches])), (q_rounds, .inl (cI, 8, .inl v_rounds))] t.heap ∧ va_K (dC, dI) vwCl [(cI, .int)] t ∧ va_D (va_A [(q_this, .inr (1, [.int v_crashing, .ref q_rounds, .ref q_reaches])), (q_rounds, .inl (cI, 8, .inl v_rounds))] sz) [(q_this, .inr (1, [.int v_crashing, .ref q_rounds, .ref q_reaches])), (q_rounds, .inl (cI, 8, .inl v_rounds))]) (va_A [(q_this, .inr (1, [.int v_crashing, .ref q_rounds, .ref q_reaches])), (q_rounds, .inl (cI, 8, .inl v_rounds))] sz)) 0 0 (va_A [(q_this, .inr (1, [.int v_crashing, .ref q_rounds, .ref q_reaches])), (q_rounds, .inl (cI, 8, .inl v_rounds))] sz) := by
  refine Met.ofW (cc := cX1_crashingIn) (maxL := 5) (ret := (some .int)) (by decide) rfl ?_
  intro p e s m args below meth c s₁ B hml hv
  obtain ⟨rfl, hsz, hP, hK, hN, hD0⟩ := hv
  have hx := B.exec
  have hb := B.bytes
  have hr := B.returns
  have hts := atoms_spec (ws := wsX1_crashingIn) B.pre
  have hown : s.vm.findClass RX1 = some m.cls := findClass_of_methodNamed B.named
  have hlocks := B.notSynchronized
  subst hsz
  have hD := hD0.self (sz := s.heap.size)
  generalize hAe : va_A [(q_this, .inr (1, [.int v_crashing, .ref q_rounds, .ref q_reaches])), (q_rounds, .inl (cI, 8, .inl v_rounds))] s.heap.size = A at hD ⊢
  have hA : ∀ q : Nat, s.heap.size ≤ q → A q := fun q h => by rw [← hAe]; exact Or.inr h
  have hS : va_S A s.heap s.heap [] := va_S.rf
  have hl := lv_entry ([.ref q_this, .int p1, .int p2]) (n := 5) (Nat.le_of_ble_eq_true rfl)
  rw [lg_entry_eq]
  generalize (lg_sl ([.ref q_this, .int p1, .int p2]) ++ List.replicate (5 - (lg_sl ([.ref q_this, .int p1, .int p2])).length) Slot.unset).toArray = ls at hl ⊢
  have hl : lv_has ls 5 [(0, .ref q_this), (1, .int p1), (2, .int p2)] := hl
  unfold fX1_crashingIn at h
  obtain ⟨H, hH⟩ : ∃ H, H = s.heap := ⟨_, rfl⟩
  obtain ⟨locs, hlocs⟩ : ∃ q : List Loc, q = [] := ⟨_, rfl⟩
  suffices hgo : ∀ (H : Heap) (locs : List Loc), va_P (dC, dI) vwCl [(q_this, .inr (1, [.int v_crashing, .ref q_rounds, .ref q_reaches])), (q_rounds, .inl (cI, 8, .inl v_rounds))] H → va_S A s.heap H locs → W p l e (headSpec wsX1_crashingIn ({ frames := 1, cells := 0, slots := 0, locals := 22 } : Room)).room s m ([.ref q_this, .int p1, .int p2] : List Value).toArray below meth c H locs 0 0 (MQ below (va_Qi (fun (r : Int32) (_ : Unit) => r = R) (fun (_ : Unit) t => va_P (dC, dI) vwCl [(q_this, .inr (1, [.int v_crashing, .ref q_rounds, .ref q_reaches])), (q_rounds, .inl (cI, 8, .inl v_rounds))] t.heap ∧ va_K (dC, dI) vwCl [(cI, .int)] t ∧ va_D A [(q_this, .inr (1, [.int v_crashing, .ref q_rounds, .ref q_reaches])), (q_rounds, .inl (cI, 8, .inl v_rounds))]) A) ([.ref q_this, .int p1, .int p2] : List Value).toArray s 0 0 A) (F0 m 0 ls []) from hgo _ _ hP hS
  clear hH hlocs hP hS
  clear H locs
  intro H locs hP hS
  refine lv_iconst (v := 0) hx hb dX1_crashingIn_0 (by decide) ?_
  refine lv_istore_n (lv' := [(3, .int (0 : Int32)), (0, .ref q_this), (1, .int p1), (2, .int p2)]) hx hb dX1_crashingIn_1 rfl hl (by decide) rfl (fun ls hl => ?_)
  refine lv_iconst (v := 0) hx hb dX1_crashingIn_2 (by decide) ?_
  refine lv_istore (lv' := [(4, .int (0 : Int32)), (3, .int (0 : Int32)), (0, .ref q_this), (1, .int p1), (2, .int p2)]) hx hb dX1_crashingIn_3 hl (by decide) rfl (fun ls hl => ?_)
  have L5 : ∀ {k : Int32 → Option (Int32)} (hk : ∀ (x3_5 : Int32), k x3_5 = some R → ∀ (H : Heap) (locs : List Loc) (ls : Array Slot), va_P (dC, dI) vwCl [(q_this, .inr (1, [.int v_crashing, .ref q_rounds, .ref q_reaches])), (q_rounds, .inl (cI, 8, .inl v_rounds))] H → va_D A [(q_this, .inr (1, [.int v_crashing, .ref q_rounds, .ref q_reaches])), (q_rounds, .inl (cI, 8, .inl v_rounds))] → va_S A s.heap H locs → lv_has ls 5 [(3, .int x3_5)] → W p l e (headSpec wsX1_crashingIn ({ frames := 1, cells := 0, slots := 0, locals := 22 } : Room)).room s m ([.ref q_this, .int p1, .int p2] : List Value).toArray below meth c H locs 0 0 (MQ below (va_Qi (fun (r : Int32) (_ : Unit) => r = R) (fun (_ : Unit) t => va_P (dC, dI) vwCl [(q_this, .inr (1, [.int v_crashing, .ref q_rounds, .ref q_reaches])), (q_rounds, .inl (cI, 8, .inl v_rounds))] t.heap ∧ va_K (dC, dI) vwCl [(cI, .int)] t ∧ va_D A [(q_this, .inr (1, [.int v_crashing, .ref q_rounds, .ref q_reaches])), (q_rounds, .inl (cI, 8, .inl v_rounds))]) A) ([.ref q_this, .int p1, .int p2] : List Value).toArray s 0 0 A) (F0 m 52 ls [])) (n : Nat) (x3_5 : Int32) (x4_5 : Int32), fX1_crashingIn_L5 p1 p2 v_crashing v_rounds k n x3_5 x4_5 = some R → ∀ (H : Heap) (locs : List Loc) (ls : Array Slot), va_P (dC, dI) vwCl [(q_this, .inr (1, [.int v_crashing, .ref q_rounds, .ref q_reaches])), (q_rounds, .inl (cI, 8, .inl v_rounds))] H → va_D A [(q_this, .inr (1, [.int v_crashing, .ref q_rounds, .ref q_reaches])), (q_rounds, .inl (cI, 8, .inl v_rounds))] → va_S A s.heap H locs → lv_has ls 5 [(0, .ref q_this), (1, .int p1), (2, .int p2), (3, .int x3_5), (4, .int x4_5)] → W p l e (headSpec wsX1_crashingIn ({ frames := 1, cells := 0, slots := 0, locals := 22 } : Room)).room s m ([.ref q_this, .int p1, .int p2] : List Value).toArray below meth c H locs 0 0 (MQ below (va_Qi (fun (r : Int32) (_ : Unit) => r = R) (fun (_ : Unit) t => va_P (dC, dI) vwCl [(q_this, .inr (1, [.int v_crashing, .ref q_rounds, .ref q_reaches])), (q_rounds, .inl (cI, 8, .inl v_rounds))] t.heap ∧ va_K (dC, dI) vwCl [(cI, .int)] t ∧ va_D A [(q_this, .inr (1, [.int v_crashing, .ref q_rounds, .ref q_reaches])), (q_rounds, .inl (cI, 8, .inl v_rounds))]) A) ([.ref q_this, .int p1, .int p2] : List Value).toArray s 0 0 A) (F0 m 5 ls []) := by
    intro k hk n
    induction n with
    | zero => intro x3_5 x4_5 h; rw [fX1_crashingIn_L5] at h; cases h
    | succ n ih =>
      intro x3_5 x4_5 h H locs ls hP hD hS hl
      rw [fX1_crashingIn_L5] at h
      refine lv_iload hx hb dX1_crashingIn_5 (lv_at hl 4 rfl) ?_
      refine lv_bipush (v := 8) hx hb dX1_crashingIn_7 (by decide) ?_
      refine lv_icmp_ge (tgt := 52) hx hb dX1_crashingIn_9 (by decide) (fun c1 => ?_) (fun c1 => ?_)
      · rw [if_pos c1] at h
        exact hk _ h _ _ _ hP hD hS (lv_sub hl [3] rfl)
      · rw [if_neg c1] at h
        refine lv_aload_n hx hb dX1_crashingIn_12 rfl (lv_at hl 0 rfl) ?_
        refine va_get (D := (dC, dI)) (ci := 1) (v := .int v_crashing) (C := RX1) (T := TX1) (N := 3) hx hb hts iiX1_crashingIn_X1 hown hK hP 0 rfl rfl 0 (by decide) (hts (.fieldLink RX1 22 "CrashRounds$Plan" "crashing" "I") (by decide +kernel)) (fun _ h9 => h9) rfl dX1_crashingIn_13 ?_
        refine lv_iload hx hb dX1_crashingIn_16 (lv_at hl 4 rfl) ?_
        have hPc := hP.sub (ws' := []) [] rfl
        have hDc := hD.sub (ws' := []) [] (by decide) rfl
        have hFc := va_free (wc := []) hD hS hA [] rfl
        refine va_calli (va_runSN (As := [.int v_crashing, .int x4_5]) (rest := []) ⟨hx, hb, hml, hown, hts⟩ (kX5_has l dC dI cI  H.size v_crashing x4_5 _ rfl) (⟨va_cnB 2 hts gX1_crashingIn_X5_has_n38 rfl rfl rfl (hN (.methodLinkNest RX1 38 yX5_has "CrashRounds") (by decide +kernel)) (hts (.initialized RX5) (by decide +kernel)) (by decide +kernel) ⟨Nat.le_of_ble_eq_true rfl, Nat.le_of_ble_eq_true rfl⟩, hts (.static yX5_has) (by decide +kernel), trivial⟩) ⟨pc_blind _ _ _ _ _ _, pc_ok hPc hK hN hDc⟩ rfl rfl hl.1 rfl (lv_room (Nat.le_of_ble_eq_true rfl)) dX1_crashingIn_18 ⟨Nat.zero_le _, Nat.zero_le _⟩) hS (fun q _ h => hFc q h) hFc (fun r9 u t H1 locs ht hvm hw hB hz1 hk1 hS => ?_)
        obtain ⟨hP1, hK1, hD1⟩ := hB
        rw [ht] at hP1
        have hw : (fX5_has v_crashing x4_5) = r9 := hw.symm
        subst hw
        obtain ⟨hP, hD⟩ := va_join (wr := [(q_this, .inr (1, [.int v_crashing, .ref q_rounds, .ref q_reaches])), (q_rounds, .inl (cI, 8, .inl v_rounds))]) (w1 := []) hP hD [] [0, 1] rfl rfl (by decide) (by decide) hk1 hFc hP1 hD1
        generalize H1 = H at hP hS ⊢
        have hP : va_P (dC, dI) vwCl [(q_this, .inr (1, [.int v_crashing, .ref q_rounds, .ref q_reaches])), (q_rounds, .inl (cI, 8, .inl v_rounds))] H := hP.sub [0, 1] rfl
        have hD : va_D A [(q_this, .inr (1, [.int v_crashing, .ref q_rounds, .ref q_reaches])), (q_rounds, .inl (cI, 8, .inl v_rounds))] := hD.sub [0, 1] (by decide) rfl
        refine lv_if_eq (tgt := 46) hx hb dX1_crashingIn_21 (by decide) (fun c2 => ?_) (fun c2 => ?_)
        · rw [if_pos c2] at h
          refine lv_iinc (v := (x4_5 + (1 : Int32))) (lv' := [(4, .int (x4_5 + (1 : Int32))), (0, .ref q_this), (1, .int p1), (2, .int p2), (3, .int x3_5)]) hx hb dX1_crashingIn_46 hl (k := 4) rfl rfl (by decide) rfl (fun ls hl => ?_)
          refine lv_goto (tgt := 5) hx hb dX1_crashingIn_49 (by decide) ?_
          exact ih _ _ h _ _ _ hP hD hS (lv_sub hl [1, 2, 3, 4, 0] rfl)
        · rw [if_neg c2] at h
          refine lv_aload_n hx hb dX1_crashingIn_24 rfl (lv_at hl 0 rfl) ?_
          refine va_get (D := (dC, dI)) (ci := 1) (v := .ref q_rounds) (C := RX1) (T := TX1) (N := 3) hx hb hts iiX1_crashingIn_X1 hown hK hP 0 rfl rfl 1 (by decide) (hts (.fieldLink RX1 9 "CrashRounds$Plan" "rounds" "[I") (by decide +kernel)) (fun _ h9 => h9) rfl dX1_crashingIn_25 ?_
          refine lv_iload hx hb dX1_crashingIn_28 (lv_at hl 4 rfl) ?_
          obtain ⟨hb3, h⟩ := ift_s h
          refine va_iald hx hb hK hP 1 0 rfl rfl (inb_in hb3) dX1_crashingIn_30 ?_
          refine lv_iload_n hx hb dX1_crashingIn_31 rfl (lv_at hl 1 rfl) ?_
          refine lv_iload_n hx hb dX1_crashingIn_32 rfl (lv_at hl 2 rfl) ?_
          have hPc := hP.sub (ws' := []) [] rfl
          have hDc := hD.sub (ws' := []) [] (by decide) rfl
          have hFc := va_free (wc := []) hD hS hA [] rfl
          refine va_calli (va_runSN (As := [.int (v_rounds x4_5.toNatClampNeg), .int p1, .int p2]) (rest := []) ⟨hx, hb, hml, hown, hts⟩ (kX5_isWithin l dC dI cI  H.size (v_rounds x4_5.toNatClampNeg) p1 p2 _ rfl) (⟨va_cnB 3 hts gX1_crashingIn_X5_isWithin_n42 rfl rfl rfl (hN (.methodLinkNest RX1 42 yX5_isWithin "CrashRounds") (by decide +kernel)) (hts (.initialized RX5) (by decide +kernel)) (by decide +kernel) ⟨Nat.le_of_ble_eq_true rfl, Nat.le_of_ble_eq_true rfl⟩, hts (.static yX5_isWithin) (by decide +kernel), trivial⟩) ⟨pc_blind _ _ _ _ _ _, pc_ok hPc hK hN hDc⟩ rfl rfl hl.1 rfl (lv_room (Nat.le_of_ble_eq_true rfl)) dX1_crashingIn_33 ⟨Nat.zero_le _, Nat.zero_le _⟩) hS (fun q _ h => hFc q h) hFc (fun r9 u t H1 locs ht hvm hw hB hz1 hk1 hS => ?_)
          obtain ⟨hP1, hK1, hD1⟩ := hB
          rw [ht] at hP1
          have hw : (fX5_isWithin (v_rounds x4_5.toNatClampNeg) p1 p2) = r9 := hw.symm
          subst hw
          obtain ⟨hP, hD⟩ := va_join (wr := [(q_this, .inr (1, [.int v_crashing, .ref q_rounds, .ref q_reaches])), (q_rounds, .inl (cI, 8, .inl v_rounds))]) (w1 := []) hP hD [] [0, 1] rfl rfl (by decide) (by decide) hk1 hFc hP1 hD1
          generalize H1 = H at hP hS ⊢
          have hP : va_P (dC, dI) vwCl [(q_this, .inr (1, [.int v_crashing, .ref q_rounds, .ref q_reaches])), (q_rounds, .inl (cI, 8, .inl v_rounds))] H := hP.sub [0, 1] rfl
          have hD : va_D A [(q_this, .inr (1, [.int v_crashing, .ref q_rounds, .ref q_reaches])), (q_rounds, .inl (cI, 8, .inl v_rounds))] := hD.sub [0, 1] (by decide) rfl
          refine lv_if_eq (tgt := 46) hx hb dX1_crashingIn_36 (by decide) (fun c4 => ?_) (fun c4 => ?_)
          · rw [if_pos c4] at h
            refine lv_iinc (v := (x4_5 + (1 : Int32))) (lv' := [(4, .int (x4_5 + (1 : Int32))), (0, .ref q_this), (1, .int p1), (2, .int p2), (3, .int x3_5)]) hx hb dX1_crashingIn_46 hl (k := 4) rfl rfl (by decide) rfl (fun ls hl => ?_)
            refine lv_goto (tgt := 5) hx hb dX1_crashingIn_49 (by decide) ?_
            exact ih _ _ h _ _ _ hP hD hS (lv_sub hl [1, 2, 3, 4, 0] rfl)
          · rw [if_neg c4] at h
            refine lv_iload_n hx hb dX1_crashingIn_39 rfl (lv_at hl 3 rfl) ?_
            refine lv_iconst (v := 1) hx hb dX1_crashingIn_40 (by decide) ?_
            refine lv_iload hx hb dX1_crashingIn_41 (lv_at hl 4 rfl) ?_
            refine lv_ishl hx hb dX1_crashingIn_43 ?_
            refine lv_ior hx hb dX1_crashingIn_44 ?_
            refine lv_istore_n (lv' := [(3, .int (x3_5 ||| ((1 : Int32) <<< (x4_5 &&& 31)))), (0, .ref q_this), (1, .int p1), (2, .int p2), (4, .int x4_5)]) hx hb dX1_crashingIn_45 rfl hl (by decide) rfl (fun ls hl => ?_)
            refine lv_iinc (v := (x4_5 + (1 : Int32))) (lv' := [(4, .int (x4_5 + (1 : Int32))), (3, .int (x3_5 ||| ((1 : Int32) <<< (x4_5 &&& 31)))), (0, .ref q_this), (1, .int p1), (2, .int p2)]) hx hb dX1_crashingIn_46 hl (k := 4) rfl rfl (by decide) rfl (fun ls hl => ?_)
            refine lv_goto (tgt := 5) hx hb dX1_crashingIn_49 (by decide) ?_
            exact ih _ _ h _ _ _ hP hD hS (lv_sub hl [2, 3, 4, 1, 0] rfl)
  refine L5 (fun x3_5 h H locs ls hP hD hS hl => ?_) _ _ _ h _ _ _ hP hD hS (lv_sub hl [2, 3, 4, 1, 0] rfl)
  refine lv_iload_n hx hb dX1_crashingIn_52 rfl (lv_at hl 0 rfl) ?_
  have h := Option.some.inj h
  subst h
  exact W.iret (v := x3_5) hx hb hr (fun t ht hW => ⟨⟨x3_5, (), rfl, rfl, by rw [ht]; exact hP, va_K.moved hW.alike hK, hD⟩, hS.F ht⟩) hS.2.2 dX1_crashingIn_53
theorem iiX1_crashingAt_X1 : ∀ w ∈ wsX10, w ∈ wsX1_crashingAt := by decide +kernel
set_option maxHeartbeats 4000000 in
set_option maxRecDepth 100000 in
theorem kX1_crashingAt (l : Launch) (dC : Nat → ClassId) (dI : Nat → Nat → Nat) (cI : ClassId) (q_this q_rounds q_reaches : Nat) (sz : Nat) (v_crashing : Int32) (p1 : Int32) (R : Int32) (h : fX1_crashingAt v_crashing p1 = some R) : Met l yX1_crashingAt wsX1_crashingAt ({ frames := 1, cells := 0, slots := 0, locals := 21 } : Room) (va_Pc [.ref q_this, .int p1] (fun U => U.heap.size = sz ∧ va_P (dC, dI) vwCl [(q_this, .inr (1, [.int v_crashing, .ref q_rounds, .ref q_reaches]))] U.heap ∧ va_K (dC, dI) vwCl [(cI, .int)] U ∧ NW U ∧ va_D (fun _ => True) [(q_this, .inr (1, [.int v_crashing, .ref q_rounds, .ref q_reaches]))])) (va_Qi (fun (r : Int32) (_ : Unit) => r = R) (fun (_ : Unit) t => va_P (dC, dI) vwCl [(q_this, .inr (1, [.int v_crashing, .ref q_rounds, .ref q_reaches]))] t.heap ∧ va_K (dC, dI) vwCl [(cI, .int)] t ∧ va_D (va_A [(q_this, .inr (1, [.int v_crashing, .ref q_rounds, .ref q_reaches]))] sz) [(q_this, .inr (1, [.int v_crashing, .ref q_rounds, .ref q_reaches]))]) (va_A [(q_this, .inr (1, [.int v_crashing, .ref q_rounds, .ref q_reaches]))] sz)) 0 0 (va_A [(q_this, .inr (1, [.int v_crashing, .ref q_rounds, .ref q_reaches]))] sz) := by
  refine Met.ofW (cc := cX1_crashingAt) (maxL := 4) (ret := (some .int)) (by decide) rfl ?_
  intro p e s m args below meth c s₁ B hml hv
  obtain ⟨rfl, hsz, hP, hK, hN, hD0⟩ := hv
  have hx := B.exec
  have hb := B.bytes
  have hr := B.returns
  have hts := atoms_spec (ws := wsX1_crashingAt) B.pre
  have hown : s.vm.findClass RX1 = some m.cls := findClass_of_methodNamed B.named
  have hlocks := B.notSynchronized
  subst hsz
  have hD := hD0.self (sz := s.heap.size)
  generalize hAe : va_A [(q_this, .inr (1, [.int v_crashing, .ref q_rounds, .ref q_reaches]))] s.heap.size = A at hD ⊢
  have hA : ∀ q : Nat, s.heap.size ≤ q → A q := fun q h => by rw [← hAe]; exact Or.inr h
  have hS : va_S A s.heap s.heap [] := va_S.rf
  have hl := lv_entry ([.ref q_this, .int p1]) (n := 4) (Nat.le_of_ble_eq_true rfl)
  rw [lg_entry_eq]
  generalize (lg_sl ([.ref q_this, .int p1]) ++ List.replicate (4 - (lg_sl ([.ref q_this, .int p1])).length) Slot.unset).toArray = ls at hl ⊢
  have hl : lv_has ls 4 [(0, .ref q_this), (1, .int p1)] := hl
  unfold fX1_crashingAt at h
  obtain ⟨H, hH⟩ : ∃ H, H = s.heap := ⟨_, rfl⟩
  obtain ⟨locs, hlocs⟩ : ∃ q : List Loc, q = [] := ⟨_, rfl⟩
  suffices hgo : ∀ (H : Heap) (locs : List Loc), va_P (dC, dI) vwCl [(q_this, .inr (1, [.int v_crashing, .ref q_rounds, .ref q_reaches]))] H → va_S A s.heap H locs → W p l e (headSpec wsX1_crashingAt ({ frames := 1, cells := 0, slots := 0, locals := 21 } : Room)).room s m ([.ref q_this, .int p1] : List Value).toArray below meth c H locs 0 0 (MQ below (va_Qi (fun (r : Int32) (_ : Unit) => r = R) (fun (_ : Unit) t => va_P (dC, dI) vwCl [(q_this, .inr (1, [.int v_crashing, .ref q_rounds, .ref q_reaches]))] t.heap ∧ va_K (dC, dI) vwCl [(cI, .int)] t ∧ va_D A [(q_this, .inr (1, [.int v_crashing, .ref q_rounds, .ref q_reaches]))]) A) ([.ref q_this, .int p1] : List Value).toArray s 0 0 A) (F0 m 0 ls []) from hgo _ _ hP hS
  clear hH hlocs hP hS
  clear H locs
  intro H locs hP hS
  refine lv_iconst (v := 0) hx hb dX1_crashingAt_0 (by decide) ?_
  refine lv_istore_n (lv' := [(2, .int (0 : Int32)), (0, .ref q_this), (1, .int p1)]) hx hb dX1_crashingAt_1 rfl hl (by decide) rfl (fun ls hl => ?_)
  refine lv_iconst (v := 0) hx hb dX1_crashingAt_2 (by decide) ?_
  refine lv_istore_n (lv' := [(3, .int (0 : Int32)), (2, .int (0 : Int32)), (0, .ref q_this), (1, .int p1)]) hx hb dX1_crashingAt_3 rfl hl (by decide) rfl (fun ls hl => ?_)
  have L4 : ∀ {k : Option (Int32)} (hk : k = some R → ∀ (H : Heap) (locs : List Loc) (ls : Array Slot), va_P (dC, dI) vwCl [(q_this, .inr (1, [.int v_crashing, .ref q_rounds, .ref q_reaches]))] H → va_D A [(q_this, .inr (1, [.int v_crashing, .ref q_rounds, .ref q_reaches]))] → va_S A s.heap H locs → lv_has ls 4 [] → W p l e (headSpec wsX1_crashingAt ({ frames := 1, cells := 0, slots := 0, locals := 21 } : Room)).room s m ([.ref q_this, .int p1] : List Value).toArray below meth c H locs 0 0 (MQ below (va_Qi (fun (r : Int32) (_ : Unit) => r = R) (fun (_ : Unit) t => va_P (dC, dI) vwCl [(q_this, .inr (1, [.int v_crashing, .ref q_rounds, .ref q_reaches]))] t.heap ∧ va_K (dC, dI) vwCl [(cI, .int)] t ∧ va_D A [(q_this, .inr (1, [.int v_crashing, .ref q_rounds, .ref q_reaches]))]) A) ([.ref q_this, .int p1] : List Value).toArray s 0 0 A) (F0 m 37 ls [])) (n : Nat) (x2_4 : Int32) (x3_4 : Int32), fX1_crashingAt_L4 p1 v_crashing k n x2_4 x3_4 = some R → ∀ (H : Heap) (locs : List Loc) (ls : Array Slot), va_P (dC, dI) vwCl [(q_this, .inr (1, [.int v_crashing, .ref q_rounds, .ref q_reaches]))] H → va_D A [(q_this, .inr (1, [.int v_crashing, .ref q_rounds, .ref q_reaches]))] → va_S A s.heap H locs → lv_has ls 4 [(0, .ref q_this), (1, .int p1), (2, .int x2_4), (3, .int x3_4)] → W p l e (headSpec wsX1_crashingAt ({ frames := 1, cells := 0, slots := 0, locals := 21 } : Room)).room s m ([.ref q_this, .int p1] : List Value).toArray below meth c H locs 0 0 (MQ below (va_Qi (fun (r : Int32) (_ : Unit) => r = R) (fun (_ : Unit) t => va_P (dC, dI) vwCl [(q_this, .inr (1, [.int v_crashing, .ref q_rounds, .ref q_reaches]))] t.heap ∧ va_K (dC, dI) vwCl [(cI, .int)] t ∧ va_D A [(q_this, .inr (1, [.int v_crashing, .ref q_rounds, .ref q_reaches]))]) A) ([.ref q_this, .int p1] : List Value).toArray s 0 0 A) (F0 m 4 ls []) := by
    intro k hk n
    induction n with
    | zero => intro x2_4 x3_4 h; rw [fX1_crashingAt_L4] at h; cases h
    | succ n ih =>
      intro x2_4 x3_4 h H locs ls hP hD hS hl
      rw [fX1_crashingAt_L4] at h
      refine lv_iload_n hx hb dX1_crashingAt_4 rfl (lv_at hl 3 rfl) ?_
      refine lv_bipush (v := 8) hx hb dX1_crashingAt_5 (by decide) ?_
      refine lv_icmp_ge (tgt := 37) hx hb dX1_crashingAt_7 (by decide) (fun c1 => ?_) (fun c1 => ?_)
      · rw [if_pos c1] at h
        exact hk  h _ _ _ hP hD hS (lv_sub hl [] rfl)
      · rw [if_neg c1] at h
        refine lv_aload_n hx hb dX1_crashingAt_10 rfl (lv_at hl 0 rfl) ?_
        refine va_get (D := (dC, dI)) (ci := 1) (v := .int v_crashing) (C := RX1) (T := TX1) (N := 3) hx hb hts iiX1_crashingAt_X1 hown hK hP 0 rfl rfl 0 (by decide) (hts (.fieldLink RX1 22 "CrashRounds$Plan" "crashing" "I") (by decide +kernel)) (fun _ h9 => h9) rfl dX1_crashingAt_11 ?_
        refine lv_iload_n hx hb dX1_crashingAt_14 rfl (lv_at hl 3 rfl) ?_
        have hPc := hP.sub (ws' := []) [] rfl
        have hDc := hD.sub (ws' := []) [] (by decide) rfl
        have hFc := va_free (wc := []) hD hS hA [] rfl
        refine va_calli (va_runSN (As := [.int v_crashing, .int x3_4]) (rest := []) ⟨hx, hb, hml, hown, hts⟩ (kX5_has l dC dI cI  H.size v_crashing x3_4 _ rfl) (⟨va_cnB 2 hts gX1_crashingAt_X5_has_n38 rfl rfl rfl (hN (.methodLinkNest RX1 38 yX5_has "CrashRounds") (by decide +kernel)) (hts (.initialized RX5) (by decide +kernel)) (by decide +kernel) ⟨Nat.le_of_ble_eq_true rfl, Nat.le_of_ble_eq_true rfl⟩, hts (.static yX5_has) (by decide +kernel), trivial⟩) ⟨pc_blind _ _ _ _ _ _, pc_ok hPc hK hN hDc⟩ rfl rfl hl.1 rfl (lv_room (Nat.le_of_ble_eq_true rfl)) dX1_crashingAt_15 ⟨Nat.zero_le _, Nat.zero_le _⟩) hS (fun q _ h => hFc q h) hFc (fun r9 u t H1 locs ht hvm hw hB hz1 hk1 hS => ?_)
        obtain ⟨hP1, hK1, hD1⟩ := hB
        rw [ht] at hP1
        have hw : (fX5_has v_crashing x3_4) = r9 := hw.symm
        subst hw
        obtain ⟨hP, hD⟩ := va_join (wr := [(q_this, .inr (1, [.int v_crashing, .ref q_rounds, .ref q_reaches]))]) (w1 := []) hP hD [] [0] rfl rfl (by decide) (by decide) hk1 hFc hP1 hD1
        generalize H1 = H at hP hS ⊢
        have hP : va_P (dC, dI) vwCl [(q_this, .inr (1, [.int v_crashing, .ref q_rounds, .ref q_reaches]))] H := hP.sub [0] rfl
        have hD : va_D A [(q_this, .inr (1, [.int v_crashing, .ref q_rounds, .ref q_reaches]))] := hD.sub [0] (by decide) rfl
        refine lv_if_eq (tgt := 31) hx hb dX1_crashingAt_18 (by decide) (fun c2 => ?_) (fun c2 => ?_)
        · rw [if_pos c2] at h
          refine lv_iinc (v := (x3_4 + (1 : Int32))) (lv' := [(3, .int (x3_4 + (1 : Int32))), (0, .ref q_this), (1, .int p1), (2, .int x2_4)]) hx hb dX1_crashingAt_31 hl (k := 3) rfl rfl (by decide) rfl (fun ls hl => ?_)
          refine lv_goto (tgt := 4) hx hb dX1_crashingAt_34 (by decide) ?_
          exact ih _ _ h _ _ _ hP hD hS (lv_sub hl [1, 2, 3, 0] rfl)
        · rw [if_neg c2] at h
          refine lv_iload_n hx hb dX1_crashingAt_21 rfl (lv_at hl 2 rfl) ?_
          refine lv_iload_n hx hb dX1_crashingAt_22 rfl (lv_at hl 1 rfl) ?_
          refine lv_icmp_ne (tgt := 28) hx hb dX1_crashingAt_23 (by decide) (fun c3 => ?_) (fun c3 => ?_)
          · rw [if_neg c3] at h
            refine lv_iinc (v := (x2_4 + (1 : Int32))) (lv' := [(2, .int (x2_4 + (1 : Int32))), (0, .ref q_this), (1, .int p1), (3, .int x3_4)]) hx hb dX1_crashingAt_28 hl (k := 2) rfl rfl (by decide) rfl (fun ls hl => ?_)
            refine lv_iinc (v := (x3_4 + (1 : Int32))) (lv' := [(3, .int (x3_4 + (1 : Int32))), (2, .int (x2_4 + (1 : Int32))), (0, .ref q_this), (1, .int p1)]) hx hb dX1_crashingAt_31 hl (k := 3) rfl rfl (by decide) rfl (fun ls hl => ?_)
            refine lv_goto (tgt := 4) hx hb dX1_crashingAt_34 (by decide) ?_
            exact ih _ _ h _ _ _ hP hD hS (lv_sub hl [2, 3, 1, 0] rfl)
          · rw [if_pos c3] at h
            refine lv_iload_n hx hb dX1_crashingAt_26 rfl (lv_at hl 3 rfl) ?_
            have h := Option.some.inj h
            subst h
            exact W.iret (v := x3_4) hx hb hr (fun t ht hW => ⟨⟨x3_4, (), rfl, rfl, by rw [ht]; exact hP, va_K.moved hW.alike hK, hD⟩, hS.F ht⟩) hS.2.2 dX1_crashingAt_27
  refine L4 (fun h H locs ls hP hD hS hl => ?_) _ _ _ h _ _ _ hP hD hS (lv_sub hl [2, 3, 1, 0] rfl)
  refine lv_bipush (v := (-2)) hx hb dX1_crashingAt_37 (by decide) ?_
  have h := Option.some.inj h
  subst h
  exact W.iret (v := (-2 : Int32)) hx hb hr (fun t ht hW => ⟨⟨(-2 : Int32), (), rfl, rfl, by rw [ht]; exact hP, va_K.moved hW.alike hK, hD⟩, hS.F ht⟩) hS.2.2 dX1_crashingAt_39
theorem iiX1_advanceOne_X1 : ∀ w ∈ wsX10, w ∈ wsX1_advanceOne := by decide +kernel
set_option maxHeartbeats 4000000 in
set_option maxRecDepth 100000 in
theorem kX1_advanceOne (l : Launch) (dC : Nat → ClassId) (dI : Nat → Nat → Nat) (cI : ClassId) (q_this q_rounds q_reaches : Nat) (sz : Nat) (v_crashing : Int32) (v_rounds : (Nat → Int32)) (v_reaches : (Nat → Int32)) (p1 : Int32) (p2 : Int32) (p3 : Int32) (R : Int32 × (Nat → Int32) × (Nat → Int32)) (h : fX1_advanceOne v_rounds v_reaches p1 p2 p3 = some R) : Met l yX1_advanceOne wsX1_advanceOne ({ frames := 0, cells := 0, slots := 0, locals := 0 } : Room) (va_Pc [.ref q_this, .int p1, .int p2, .int p3] (fun U => U.heap.size = sz ∧ va_P (dC, dI) vwCl [(q_this, .inr (1, [.int v_crashing, .ref q_rounds, .ref q_reaches])), (q_rounds, .inl (cI, 8, .inl v_rounds)), (q_reaches, .inl (cI, 8, .inl v_reaches))] U.heap ∧ va_K (dC, dI) vwCl [(cI, .int)] U ∧ NW U ∧ va_D (fun _ => True) [(q_this, .inr (1, [.int v_crashing, .ref q_rounds, .ref q_reaches])), (q_rounds, .inl (cI, 8, .inl v_rounds)), (q_reaches, .inl (cI, 8, .inl v_reaches))])) (va_Qi (fun (r : Int32) (_ : Unit) => r = R.1) (fun (_ : Unit) t => va_P (dC, dI) vwCl [(q_this, .inr (1, [.int v_crashing, .ref q_rounds, .ref q_reaches])), (q_rounds, .inl (cI, 8, .inl R.2.1)), (q_reaches, .inl (cI, 8, .inl R.2.2))] t.heap ∧ va_K (dC, dI) vwCl [(cI, .int)] t ∧ va_D (va_A [(q_this, .inr (1, [.int v_crashing, .ref q_rounds, .ref q_reaches])), (q_rounds, .inl (cI, 8, .inl v_rounds)), (q_reaches, .inl (cI, 8, .inl v_reaches))] sz) [(q_this, .inr (1, [.int v_crashing, .ref q_rounds, .ref q_reaches])), (q_rounds, .inl (cI, 8, .inl R.2.1)), (q_reaches, .inl (cI, 8, .inl R.2.2))]) (va_A [(q_this, .inr (1, [.int v_crashing, .ref q_rounds, .ref q_reaches])), (q_rounds, .inl (cI, 8, .inl v_rounds)), (q_reaches, .inl (cI, 8, .inl v_reaches))] sz)) 0 0 (va_A [(q_this, .inr (1, [.int v_crashing, .ref q_rounds, .ref q_reaches])), (q_rounds, .inl (cI, 8, .inl v_rounds)), (q_reaches, .inl (cI, 8, .inl v_reaches))] sz) := by
  refine Met.ofW (cc := cX1_advanceOne) (maxL := 6) (ret := (some .boolean)) (by decide) rfl ?_
  intro p e s m args below meth c s₁ B hml hv
  obtain ⟨rfl, hsz, hP, hK, hN, hD0⟩ := hv
  have hx := B.exec
  have hb := B.bytes
  have hr := B.returns
  have hts := atoms_spec (ws := wsX1_advanceOne) B.pre
  have hown : s.vm.findClass RX1 = some m.cls := findClass_of_methodNamed B.named
  have hlocks := B.notSynchronized
  subst hsz
  have hD := hD0.self (sz := s.heap.size)
  generalize hAe : va_A [(q_this, .inr (1, [.int v_crashing, .ref q_rounds, .ref q_reaches])), (q_rounds, .inl (cI, 8, .inl v_rounds)), (q_reaches, .inl (cI, 8, .inl v_reaches))] s.heap.size = A at hD ⊢
  have hA : ∀ q : Nat, s.heap.size ≤ q → A q := fun q h => by rw [← hAe]; exact Or.inr h
  have hS : va_S A s.heap s.heap [] := va_S.rf
  have hl := lv_entry ([.ref q_this, .int p1, .int p2, .int p3]) (n := 6) (Nat.le_of_ble_eq_true rfl)
  rw [lg_entry_eq]
  generalize (lg_sl ([.ref q_this, .int p1, .int p2, .int p3]) ++ List.replicate (6 - (lg_sl ([.ref q_this, .int p1, .int p2, .int p3])).length) Slot.unset).toArray = ls at hl ⊢
  have hl : lv_has ls 6 [(0, .ref q_this), (1, .int p1), (2, .int p2), (3, .int p3)] := hl
  unfold fX1_advanceOne at h
  obtain ⟨H, hH⟩ : ∃ H, H = s.heap := ⟨_, rfl⟩
  obtain ⟨locs, hlocs⟩ : ∃ q : List Loc, q = [] := ⟨_, rfl⟩
  suffices hgo : ∀ (H : Heap) (locs : List Loc), va_P (dC, dI) vwCl [(q_this, .inr (1, [.int v_crashing, .ref q_rounds, .ref q_reaches])), (q_rounds, .inl (cI, 8, .inl v_rounds)), (q_reaches, .inl (cI, 8, .inl v_reaches))] H → va_S A s.heap H locs → W p l e (headSpec wsX1_advanceOne ({ frames := 0, cells := 0, slots := 0, locals := 0 } : Room)).room s m ([.ref q_this, .int p1, .int p2, .int p3] : List Value).toArray below meth c H locs 0 0 (MQ below (va_Qi (fun (r : Int32) (_ : Unit) => r = R.1) (fun (_ : Unit) t => va_P (dC, dI) vwCl [(q_this, .inr (1, [.int v_crashing, .ref q_rounds, .ref q_reaches])), (q_rounds, .inl (cI, 8, .inl R.2.1)), (q_reaches, .inl (cI, 8, .inl R.2.2))] t.heap ∧ va_K (dC, dI) vwCl [(cI, .int)] t ∧ va_D A [(q_this, .inr (1, [.int v_crashing, .ref q_rounds, .ref q_reaches])), (q_rounds, .inl (cI, 8, .inl R.2.1)), (q_reaches, .inl (cI, 8, .inl R.2.2))]) A) ([.ref q_this, .int p1, .int p2, .int p3] : List Value).toArray s 0 0 A) (F0 m 0 ls []) from hgo _ _ hP hS
  clear hH hlocs hP hS
  clear H locs
  intro H locs hP hS
  refine lv_iconst (v := 1) hx hb dX1_advanceOne_0 (by decide) ?_
  refine lv_iload_n hx hb dX1_advanceOne_1 rfl (lv_at hl 1 rfl) ?_
  refine lv_ishl hx hb dX1_advanceOne_2 ?_
  refine lv_istore (lv' := [(4, .int ((1 : Int32) <<< (p1 &&& 31))), (0, .ref q_this), (1, .int p1), (2, .int p2), (3, .int p3)]) hx hb dX1_advanceOne_3 hl (by decide) rfl (fun ls hl => ?_)
  refine lv_aload_n hx hb dX1_advanceOne_5 rfl (lv_at hl 1 rfl) ?_
  refine va_get (D := (dC, dI)) (ci := 1) (v := .ref q_reaches) (C := RX1) (T := TX1) (N := 3) hx hb hts iiX1_advanceOne_X1 hown hK hP 0 rfl rfl 2 (by decide) (hts (.fieldLink RX1 15 "CrashRounds$Plan" "reaches" "[I") (by decide +kernel)) (fun _ h9 => h9) rfl dX1_advanceOne_6 ?_
  refine lv_iload_n hx hb dX1_advanceOne_9 rfl (lv_at hl 2 rfl) ?_
  obtain ⟨hb1, h⟩ := ift_s h
  refine va_iald hx hb hK hP 2 0 rfl rfl (inb_in hb1) dX1_advanceOne_10 ?_
  refine lv_iload hx hb dX1_advanceOne_11 (lv_at hl 0 rfl) ?_
  refine lv_ior hx hb dX1_advanceOne_13 ?_
  refine lv_iconst (v := 1) hx hb dX1_advanceOne_14 (by decide) ?_
  refine lv_iadd hx hb dX1_advanceOne_15 ?_
  refine lv_iload hx hb dX1_advanceOne_16 (lv_at hl 0 rfl) ?_
  refine lv_iconst (v := (-1)) hx hb dX1_advanceOne_18 (by decide) ?_
  refine lv_ixor hx hb dX1_advanceOne_19 ?_
  refine lv_iand hx hb dX1_advanceOne_20 ?_
  refine lv_topi (fun y2 ey2 => ?_)
  have h := nm_y ey2 h
  refine lv_istore (lv' := [(5, .int y2), (4, .int ((1 : Int32) <<< (p1 &&& 31))), (0, .ref q_this), (1, .int p1), (2, .int p2), (3, .int p3)]) hx hb dX1_advanceOne_21 hl (by decide) rfl (fun ls hl => ?_)
  refine lv_iload hx hb dX1_advanceOne_23 (lv_at hl 0 rfl) ?_
  refine lv_iload_n hx hb dX1_advanceOne_25 rfl (lv_at hl 4 rfl) ?_
  refine lv_icmp_gt (tgt := 39) hx hb dX1_advanceOne_26 (by decide) (fun c3 => ?_) (fun c3 => ?_)
  · rw [if_pos c3] at h
    refine lv_aload_n hx hb dX1_advanceOne_39 rfl (lv_at hl 2 rfl) ?_
    refine va_get (D := (dC, dI)) (ci := 1) (v := .ref q_reaches) (C := RX1) (T := TX1) (N := 3) hx hb hts iiX1_advanceOne_X1 hown hK hP 0 rfl rfl 2 (by decide) (hts (.fieldLink RX1 15 "CrashRounds$Plan" "reaches" "[I") (by decide +kernel)) (fun _ h9 => h9) rfl dX1_advanceOne_40 ?_
    refine lv_iload_n hx hb dX1_advanceOne_43 rfl (lv_at hl 3 rfl) ?_
    refine lv_iconst (v := 0) hx hb dX1_advanceOne_44 (by decide) ?_
    refine va_iast hx hb hK hP hD hS 2 0 rfl rfl (inb_in hb1) dX1_advanceOne_45 (fun H locs hP hD hS => ?_)
    have hP : va_P (dC, dI) vwCl [(q_this, .inr (1, [.int v_crashing, .ref q_rounds, .ref q_reaches])), (q_rounds, .inl (cI, 8, .inl v_rounds)), (q_reaches, .inl (cI, 8, .inl (upd v_reaches p1.toNatClampNeg (0 : Int32))))] H := hP
    have hD : va_D A [(q_this, .inr (1, [.int v_crashing, .ref q_rounds, .ref q_reaches])), (q_rounds, .inl (cI, 8, .inl v_rounds)), (q_reaches, .inl (cI, 8, .inl (upd v_reaches p1.toNatClampNeg (0 : Int32))))] := hD
    refine lv_aload_n hx hb dX1_advanceOne_46 rfl (lv_at hl 2 rfl) ?_
    refine va_get (D := (dC, dI)) (ci := 1) (v := .ref q_rounds) (C := RX1) (T := TX1) (N := 3) hx hb hts iiX1_advanceOne_X1 hown hK hP 0 rfl rfl 1 (by decide) (hts (.fieldLink RX1 9 "CrashRounds$Plan" "rounds" "[I") (by decide +kernel)) (fun _ h9 => h9) rfl dX1_advanceOne_47 ?_
    refine lv_iload_n hx hb dX1_advanceOne_50 rfl (lv_at hl 3 rfl) ?_
    refine va_iald hx hb hK hP 1 0 rfl rfl (inb_in hb1) dX1_advanceOne_51 ?_
    refine lv_iload_n hx hb dX1_advanceOne_52 rfl (lv_at hl 5 rfl) ?_
    refine lv_icmp_ge (tgt := 68) hx hb dX1_advanceOne_53 (by decide) (fun c4 => ?_) (fun c4 => ?_)
    · rw [if_pos c4] at h
      refine lv_aload_n hx hb dX1_advanceOne_68 rfl (lv_at hl 2 rfl) ?_
      refine va_get (D := (dC, dI)) (ci := 1) (v := .ref q_rounds) (C := RX1) (T := TX1) (N := 3) hx hb hts iiX1_advanceOne_X1 hown hK hP 0 rfl rfl 1 (by decide) (hts (.fieldLink RX1 9 "CrashRounds$Plan" "rounds" "[I") (by decide +kernel)) (fun _ h9 => h9) rfl dX1_advanceOne_69 ?_
      refine lv_iload_n hx hb dX1_advanceOne_72 rfl (lv_at hl 3 rfl) ?_
      refine lv_iconst (v := 1) hx hb dX1_advanceOne_73 (by decide) ?_
      refine va_iast hx hb hK hP hD hS 1 0 rfl rfl (inb_in hb1) dX1_advanceOne_74 (fun H locs hP hD hS => ?_)
      have hP : va_P (dC, dI) vwCl [(q_this, .inr (1, [.int v_crashing, .ref q_rounds, .ref q_reaches])), (q_rounds, .inl (cI, 8, .inl (upd v_rounds p1.toNatClampNeg (1 : Int32)))), (q_reaches, .inl (cI, 8, .inl (upd v_reaches p1.toNatClampNeg (0 : Int32))))] H := hP
      have hD : va_D A [(q_this, .inr (1, [.int v_crashing, .ref q_rounds, .ref q_reaches])), (q_rounds, .inl (cI, 8, .inl (upd v_rounds p1.toNatClampNeg (1 : Int32)))), (q_reaches, .inl (cI, 8, .inl (upd v_reaches p1.toNatClampNeg (0 : Int32))))] := hD
      refine lv_iconst (v := 0) hx hb dX1_advanceOne_75 (by decide) ?_
      have h := Option.some.inj h
      subst h
      exact W.zret (ty := .boolean) (v := (0 : Int32)) hx hb hr rfl (fun t ht hW => ⟨⟨(0 : Int32), (), rfl, rfl, by rw [ht]; exact hP, va_K.moved hW.alike hK, hD⟩, hS.F ht⟩) hS.2.2 dX1_advanceOne_76
    · rw [if_neg c4] at h
      refine lv_aload_n hx hb dX1_advanceOne_56 rfl (lv_at hl 2 rfl) ?_
      refine va_get (D := (dC, dI)) (ci := 1) (v := .ref q_rounds) (C := RX1) (T := TX1) (N := 3) hx hb hts iiX1_advanceOne_X1 hown hK hP 0 rfl rfl 1 (by decide) (hts (.fieldLink RX1 9 "CrashRounds$Plan" "rounds" "[I") (by decide +kernel)) (fun _ h9 => h9) rfl dX1_advanceOne_57 ?_
      refine lv_iload_n hx hb dX1_advanceOne_60 rfl (lv_at hl 3 rfl) ?_
      refine lv_dup2_11 hx hb dX1_advanceOne_61 rfl rfl ?_
      refine va_iald hx hb hK hP 1 0 rfl rfl (inb_in hb1) dX1_advanceOne_62 ?_
      refine lv_iconst (v := 1) hx hb dX1_advanceOne_63 (by decide) ?_
      refine lv_iadd hx hb dX1_advanceOne_64 ?_
      refine va_iast hx hb hK hP hD hS 1 0 rfl rfl (inb_in hb1) dX1_advanceOne_65 (fun H locs hP hD hS => ?_)
      have hP : va_P (dC, dI) vwCl [(q_this, .inr (1, [.int v_crashing, .ref q_rounds, .ref q_reaches])), (q_rounds, .inl (cI, 8, .inl (upd v_rounds p1.toNatClampNeg ((v_rounds p1.toNatClampNeg) + (1 : Int32))))), (q_reaches, .inl (cI, 8, .inl (upd v_reaches p1.toNatClampNeg (0 : Int32))))] H := hP
      have hD : va_D A [(q_this, .inr (1, [.int v_crashing, .ref q_rounds, .ref q_reaches])), (q_rounds, .inl (cI, 8, .inl (upd v_rounds p1.toNatClampNeg ((v_rounds p1.toNatClampNeg) + (1 : Int32))))), (q_reaches, .inl (cI, 8, .inl (upd v_reaches p1.toNatClampNeg (0 : Int32))))] := hD
      refine lv_iconst (v := 1) hx hb dX1_advanceOne_66 (by decide) ?_
      have h := Option.some.inj h
      subst h
      exact W.zret (ty := .boolean) (v := (1 : Int32)) hx hb hr rfl (fun t ht hW => ⟨⟨(1 : Int32), (), rfl, rfl, by rw [ht]; exact hP, va_K.moved hW.alike hK, hD⟩, hS.F ht⟩) hS.2.2 dX1_advanceOne_67
  · rw [if_neg c3] at h
    refine lv_aload_n hx hb dX1_advanceOne_29 rfl (lv_at hl 2 rfl) ?_
    refine va_get (D := (dC, dI)) (ci := 1) (v := .ref q_reaches) (C := RX1) (T := TX1) (N := 3) hx hb hts iiX1_advanceOne_X1 hown hK hP 0 rfl rfl 2 (by decide) (hts (.fieldLink RX1 15 "CrashRounds$Plan" "reaches" "[I") (by decide +kernel)) (fun _ h9 => h9) rfl dX1_advanceOne_30 ?_
    refine lv_iload_n hx hb dX1_advanceOne_33 rfl (lv_at hl 3 rfl) ?_
    refine lv_iload hx hb dX1_advanceOne_34 (lv_at hl 0 rfl) ?_
    refine va_iast hx hb hK hP hD hS 2 0 rfl rfl (inb_in hb1) dX1_advanceOne_36 (fun H locs hP hD hS => ?_)
    have hP : va_P (dC, dI) vwCl [(q_this, .inr (1, [.int v_crashing, .ref q_rounds, .ref q_reaches])), (q_rounds, .inl (cI, 8, .inl v_rounds)), (q_reaches, .inl (cI, 8, .inl (upd v_reaches p1.toNatClampNeg y2)))] H := hP
    have hD : va_D A [(q_this, .inr (1, [.int v_crashing, .ref q_rounds, .ref q_reaches])), (q_rounds, .inl (cI, 8, .inl v_rounds)), (q_reaches, .inl (cI, 8, .inl (upd v_reaches p1.toNatClampNeg y2)))] := hD
    refine lv_iconst (v := 1) hx hb dX1_advanceOne_37 (by decide) ?_
    have h := Option.some.inj h
    subst h
    exact W.zret (ty := .boolean) (v := (1 : Int32)) hx hb hr rfl (fun t ht hW => ⟨⟨(1 : Int32), (), rfl, rfl, by rw [ht]; exact hP, va_K.moved hW.alike hK, hD⟩, hS.F ht⟩) hS.2.2 dX1_advanceOne_38
theorem iiX1_nextCrashing_X1 : ∀ w ∈ wsX10, w ∈ wsX1_nextCrashing := by decide +kernel
set_option maxHeartbeats 4000000 in
set_option maxRecDepth 100000 in
theorem kX1_nextCrashing (l : Launch) (dC : Nat → ClassId) (dI : Nat → Nat → Nat) (cI : ClassId) (q_this q_rounds q_reaches : Nat) (sz : Nat) (v_crashing : Int32) (p1 : Int32) (R : Int32) (h : fX1_nextCrashing v_crashing p1 = some R) : Met l yX1_nextCrashing wsX1_nextCrashing ({ frames := 2, cells := 0, slots := 0, locals := 40 } : Room) (va_Pc [.ref q_this, .int p1] (fun U => U.heap.size = sz ∧ va_P (dC, dI) vwCl [(q_this, .inr (1, [.int v_crashing, .ref q_rounds, .ref q_reaches]))] U.heap ∧ va_K (dC, dI) vwCl [(cI, .int)] U ∧ NW U ∧ va_D (fun _ => True) [(q_this, .inr (1, [.int v_crashing, .ref q_rounds, .ref q_reaches]))])) (va_Qi (fun (r : Int32) (_ : Unit) => r = R) (fun (_ : Unit) t => va_P (dC, dI) vwCl [(q_this, .inr (1, [.int v_crashing, .ref q_rounds, .ref q_reaches]))] t.heap ∧ va_K (dC, dI) vwCl [(cI, .int)] t ∧ va_D (va_A [(q_this, .inr (1, [.int v_crashing, .ref q_rounds, .ref q_reaches]))] sz) [(q_this, .inr (1, [.int v_crashing, .ref q_rounds, .ref q_reaches]))]) (va_A [(q_this, .inr (1, [.int v_crashing, .ref q_rounds, .ref q_reaches]))] sz)) 0 0 (va_A [(q_this, .inr (1, [.int v_crashing, .ref q_rounds, .ref q_reaches]))] sz) := by
  refine Met.ofW (cc := cX1_nextCrashing) (maxL := 4) (ret := (some .int)) (by decide) rfl ?_
  intro p e s m args below meth c s₁ B hml hv
  obtain ⟨rfl, hsz, hP, hK, hN, hD0⟩ := hv
  have hx := B.exec
  have hb := B.bytes
  have hr := B.returns
  have hts := atoms_spec (ws := wsX1_nextCrashing) B.pre
  have hown : s.vm.findClass RX1 = some m.cls := findClass_of_methodNamed B.named
  have hlocks := B.notSynchronized
  subst hsz
  have hD := hD0.self (sz := s.heap.size)
  generalize hAe : va_A [(q_this, .inr (1, [.int v_crashing, .ref q_rounds, .ref q_reaches]))] s.heap.size = A at hD ⊢
  have hA : ∀ q : Nat, s.heap.size ≤ q → A q := fun q h => by rw [← hAe]; exact Or.inr h
  have hS : va_S A s.heap s.heap [] := va_S.rf
  have hl := lv_entry ([.ref q_this, .int p1]) (n := 4) (Nat.le_of_ble_eq_true rfl)
  rw [lg_entry_eq]
  generalize (lg_sl ([.ref q_this, .int p1]) ++ List.replicate (4 - (lg_sl ([.ref q_this, .int p1])).length) Slot.unset).toArray = ls at hl ⊢
  have hl : lv_has ls 4 [(0, .ref q_this), (1, .int p1)] := hl
  unfold fX1_nextCrashing at h
  obtain ⟨H, hH⟩ : ∃ H, H = s.heap := ⟨_, rfl⟩
  obtain ⟨locs, hlocs⟩ : ∃ q : List Loc, q = [] := ⟨_, rfl⟩
  suffices hgo : ∀ (H : Heap) (locs : List Loc), va_P (dC, dI) vwCl [(q_this, .inr (1, [.int v_crashing, .ref q_rounds, .ref q_reaches]))] H → va_S A s.heap H locs → W p l e (headSpec wsX1_nextCrashing ({ frames := 2, cells := 0, slots := 0, locals := 40 } : Room)).room s m ([.ref q_this, .int p1] : List Value).toArray below meth c H locs 0 0 (MQ below (va_Qi (fun (r : Int32) (_ : Unit) => r = R) (fun (_ : Unit) t => va_P (dC, dI) vwCl [(q_this, .inr (1, [.int v_crashing, .ref q_rounds, .ref q_reaches]))] t.heap ∧ va_K (dC, dI) vwCl [(cI, .int)] t ∧ va_D A [(q_this, .inr (1, [.int v_crashing, .ref q_rounds, .ref q_reaches]))]) A) ([.ref q_this, .int p1] : List Value).toArray s 0 0 A) (F0 m 0 ls []) from hgo _ _ hP hS
  clear hH hlocs hP hS
  clear H locs
  intro H locs hP hS
  refine lv_aload_n hx hb dX1_nextCrashing_0 rfl (lv_at hl 0 rfl) ?_
  have hPc := hP.sub (ws' := [(q_this, .inr (1, [.int v_crashing, .ref q_rounds, .ref q_reaches]))]) [0] rfl
  have hDc := hD.sub (ws' := [(q_this, .inr (1, [.int v_crashing, .ref q_rounds, .ref q_reaches]))]) [0] (by decide) rfl
  have hFc := va_free (wc := [(q_this, .inr (1, [.int v_crashing, .ref q_rounds, .ref q_reaches]))]) hD hS hA [0] rfl
  refine va_calli (va_runV (As := []) (rest := []) ⟨hx, hb, hml, hown, hts⟩ (kX1_size l dC dI cI q_this q_rounds q_reaches H.size v_crashing _ rfl) (cwV 0 hts gX1_nextCrashing_X1_size rfl rfl rfl (by decide +kernel) ⟨Nat.le_of_ble_eq_true rfl, Nat.le_of_ble_eq_true rfl⟩) ⟨pc_blind _ _ _ _ _ _, va_recv hK hP (ci := 1) (q0 := 0) rfl rfl, pc_ok hPc hK hN hDc⟩ rfl rfl hl.1 rfl (lv_room (Nat.le_of_ble_eq_true rfl)) dX1_nextCrashing_1 ⟨Nat.zero_le _, Nat.zero_le _⟩) hS (fun q _ h => hFc q h) hFc (fun r9 u t H1 locs ht hvm hw hB hz1 hk1 hS => ?_)
  obtain ⟨hP1, hK1, hD1⟩ := hB
  rw [ht] at hP1
  have hw : (fX1_size v_crashing) = r9 := hw.symm
  subst hw
  obtain ⟨hP, hD⟩ := va_join (wr := []) (w1 := [(q_this, .inr (1, [.int v_crashing, .ref q_rounds, .ref q_reaches]))]) hP hD [0] [] rfl rfl (by decide) (by decide) hk1 hFc hP1 hD1
  generalize H1 = H at hP hS ⊢
  have hP : va_P (dC, dI) vwCl [(q_this, .inr (1, [.int v_crashing, .ref q_rounds, .ref q_reaches]))] H := hP.sub [0] rfl
  have hD : va_D A [(q_this, .inr (1, [.int v_crashing, .ref q_rounds, .ref q_reaches]))] := hD.sub [0] (by decide) rfl
  refine lv_istore_n (lv' := [(2, .int (fX1_size v_crashing)), (0, .ref q_this), (1, .int p1)]) hx hb dX1_nextCrashing_4 rfl hl (by decide) rfl (fun ls hl => ?_)
  refine lv_aload_n hx hb dX1_nextCrashing_5 rfl (lv_at hl 1 rfl) ?_
  refine va_get (D := (dC, dI)) (ci := 1) (v := .int v_crashing) (C := RX1) (T := TX1) (N := 3) hx hb hts iiX1_nextCrashing_X1 hown hK hP 0 rfl rfl 0 (by decide) (hts (.fieldLink RX1 22 "CrashRounds$Plan" "crashing" "I") (by decide +kernel)) (fun _ h9 => h9) rfl dX1_nextCrashing_6 ?_
  refine lv_iconst (v := 1) hx hb dX1_nextCrashing_9 (by decide) ?_
  refine lv_iadd hx hb dX1_nextCrashing_10 ?_
  refine lv_istore_n (lv' := [(3, .int (v_crashing + (1 : Int32))), (2, .int (fX1_size v_crashing)), (0, .ref q_this), (1, .int p1)]) hx hb dX1_nextCrashing_11 rfl hl (by decide) rfl (fun ls hl => ?_)
  have L12 : ∀ {k : Option (Int32)} (hk : k = some R → ∀ (H : Heap) (locs : List Loc) (ls : Array Slot), va_P (dC, dI) vwCl [(q_this, .inr (1, [.int v_crashing, .ref q_rounds, .ref q_reaches]))] H → va_D A [(q_this, .inr (1, [.int v_crashing, .ref q_rounds, .ref q_reaches]))] → va_S A s.heap H locs → lv_has ls 4 [(2, .int (fX1_size v_crashing))] → W p l e (headSpec wsX1_nextCrashing ({ frames := 2, cells := 0, slots := 0, locals := 40 } : Room)).room s m ([.ref q_this, .int p1] : List Value).toArray below meth c H locs 0 0 (MQ below (va_Qi (fun (r : Int32) (_ : Unit) => r = R) (fun (_ : Unit) t => va_P (dC, dI) vwCl [(q_this, .inr (1, [.int v_crashing, .ref q_rounds, .ref q_reaches]))] t.heap ∧ va_K (dC, dI) vwCl [(cI, .int)] t ∧ va_D A [(q_this, .inr (1, [.int v_crashing, .ref q_rounds, .ref q_reaches]))]) A) ([.ref q_this, .int p1] : List Value).toArray s 0 0 A) (F0 m 33 ls [])) (n : Nat) (x3_12 : Int32), fX1_nextCrashing_L12 p1 (fX1_size v_crashing) k n x3_12 = some R → ∀ (H : Heap) (locs : List Loc) (ls : Array Slot), va_P (dC, dI) vwCl [(q_this, .inr (1, [.int v_crashing, .ref q_rounds, .ref q_reaches]))] H → va_D A [(q_this, .inr (1, [.int v_crashing, .ref q_rounds, .ref q_reaches]))] → va_S A s.heap H locs → lv_has ls 4 [(1, .int p1), (2, .int (fX1_size v_crashing)), (3, .int x3_12)] → W p l e (headSpec wsX1_nextCrashing ({ frames := 2, cells := 0, slots := 0, locals := 40 } : Room)).room s m ([.ref q_this, .int p1] : List Value).toArray below meth c H locs 0 0 (MQ below (va_Qi (fun (r : Int32) (_ : Unit) => r = R) (fun (_ : Unit) t => va_P (dC, dI) vwCl [(q_this, .inr (1, [.int v_crashing, .ref q_rounds, .ref q_reaches]))] t.heap ∧ va_K (dC, dI) vwCl [(cI, .int)] t ∧ va_D A [(q_this, .inr (1, [.int v_crashing, .ref q_rounds, .ref q_reaches]))]) A) ([.ref q_this, .int p1] : List Value).toArray s 0 0 A) (F0 m 12 ls []) := by
    intro k hk n
    induction n with
    | zero => intro x3_12 h; rw [fX1_nextCrashing_L12] at h; cases h
    | succ n ih =>
      intro x3_12 h H locs ls hP hD hS hl
      rw [fX1_nextCrashing_L12] at h
      refine lv_iload_n hx hb dX1_nextCrashing_12 rfl (lv_at hl 2 rfl) ?_
      refine lv_iload_n hx hb dX1_nextCrashing_13 rfl (lv_at hl 0 rfl) ?_
      refine lv_icmp_gt (tgt := 33) hx hb dX1_nextCrashing_14 (by decide) (fun c1 => ?_) (fun c1 => ?_)
      · rw [if_pos c1] at h
        exact hk  h _ _ _ hP hD hS (lv_sub hl [1] rfl)
      · rw [if_neg c1] at h
        refine lv_iload_n hx hb dX1_nextCrashing_17 rfl (lv_at hl 2 rfl) ?_
        have hPc := hP.sub (ws' := []) [] rfl
        have hDc := hD.sub (ws' := []) [] (by decide) rfl
        have hFc := va_free (wc := []) hD hS hA [] rfl
        refine va_calli (va_runS (As := [.int x3_12]) (rest := []) ⟨hx, hb, hml, hown, hts⟩ (kJ6_bitCount_0f7a4 l dC dI cI  H.size x3_12 _ rfl) (va_cwS 1 hts gX1_nextCrashing_J6_bitCount_0f7a4 rfl rfl rfl (by decide +kernel) ⟨Nat.le_of_ble_eq_true rfl, Nat.le_of_ble_eq_true rfl⟩) ⟨pc_blind _ _ _ _ _ _, pc_ok hPc hK hN hDc⟩ rfl rfl hl.1 rfl (lv_room (Nat.le_of_ble_eq_true rfl)) dX1_nextCrashing_18 ⟨Nat.zero_le _, Nat.zero_le _⟩) hS (fun q _ h => hFc q h) hFc (fun r9 u t H1 locs ht hvm hw hB hz1 hk1 hS => ?_)
        obtain ⟨hP1, hK1, hD1⟩ := hB
        rw [ht] at hP1
        have hw : (fJ6_bitCount_0f7a4 x3_12) = r9 := hw.symm
        subst hw
        obtain ⟨hP, hD⟩ := va_join (wr := [(q_this, .inr (1, [.int v_crashing, .ref q_rounds, .ref q_reaches]))]) (w1 := []) hP hD [] [0] rfl rfl (by decide) (by decide) hk1 hFc hP1 hD1
        generalize H1 = H at hP hS ⊢
        have hP : va_P (dC, dI) vwCl [(q_this, .inr (1, [.int v_crashing, .ref q_rounds, .ref q_reaches]))] H := hP.sub [0] rfl
        have hD : va_D A [(q_this, .inr (1, [.int v_crashing, .ref q_rounds, .ref q_reaches]))] := hD.sub [0] (by decide) rfl
        refine lv_iload_n hx hb dX1_nextCrashing_21 rfl (lv_at hl 1 rfl) ?_
        refine lv_icmp_ne (tgt := 27) hx hb dX1_nextCrashing_22 (by decide) (fun c2 => ?_) (fun c2 => ?_)
        · rw [if_neg c2] at h
          refine lv_iinc (v := (x3_12 + (1 : Int32))) (lv' := [(3, .int (x3_12 + (1 : Int32))), (1, .int p1), (2, .int (fX1_size v_crashing))]) hx hb dX1_nextCrashing_27 hl (k := 2) rfl rfl (by decide) rfl (fun ls hl => ?_)
          refine lv_goto (tgt := 12) hx hb dX1_nextCrashing_30 (by decide) ?_
          exact ih _ h _ _ _ hP hD hS (lv_sub hl [1, 2, 0] rfl)
        · rw [if_pos c2] at h
          refine lv_iload_n hx hb dX1_nextCrashing_25 rfl (lv_at hl 2 rfl) ?_
          have h := Option.some.inj h
          subst h
          exact W.iret (v := x3_12) hx hb hr (fun t ht hW => ⟨⟨x3_12, (), rfl, rfl, by rw [ht]; exact hP, va_K.moved hW.alike hK, hD⟩, hS.F ht⟩) hS.2.2 dX1_nextCrashing_26
  refine L12 (fun h H locs ls hP hD hS hl => ?_) _ _ h _ _ _ hP hD hS (lv_sub hl [3, 1, 0] rfl)
  refine lv_iconst (v := 1) hx hb dX1_nextCrashing_33 (by decide) ?_
  refine lv_iload_n hx hb dX1_nextCrashing_34 rfl (lv_at hl 0 rfl) ?_
  refine lv_iconst (v := 1) hx hb dX1_nextCrashing_35 (by decide) ?_
  refine lv_iadd hx hb dX1_nextCrashing_36 ?_
  refine lv_ishl hx hb dX1_nextCrashing_37 ?_
  refine lv_iconst (v := 1) hx hb dX1_nextCrashing_38 (by decide) ?_
  refine lv_isub hx hb dX1_nextCrashing_39 ?_
  have h := Option.some.inj h
  subst h
  exact W.iret (v := (((1 : Int32) <<< (((fX1_size v_crashing) + (1 : Int32)) &&& 31)) - (1 : Int32))) hx hb hr (fun t ht hW => ⟨⟨(((1 : Int32) <<< (((fX1_size v_crashing) + (1 : Int32)) &&& 31)) - (1 : Int32)), (), rfl, rfl, by rw [ht]; exact hP, va_K.moved hW.alike hK, hD⟩, hS.F ht⟩) hS.2.2 dX1_nextCrashing_40
theorem iiX1_advance_X1 : ∀ w ∈ wsX10, w ∈ wsX1_advance := by decide +kernel
set_option maxHeartbeats 4000000 in
set_option maxRecDepth 100000 in
theorem kX1_advance (l : Launch) (dC : Nat → ClassId) (dI : Nat → Nat → Nat) (cI : ClassId) (q_this q_rounds q_reaches : Nat) (sz : Nat) (v_crashing : Int32) (v_rounds : (Nat → Int32)) (v_reaches : (Nat → Int32)) (p1 : Int32) (p2 : Int32) (R : Int32 × (Nat → Int32) × (Nat → Int32)) (h : fX1_advance v_crashing v_rounds v_reaches p1 p2 = some R) : Met l yX1_advance wsX1_advance ({ frames := 3, cells := 0, slots := 0, locals := 63 } : Room) (va_Pc [.ref q_this, .int p1, .int p2] (fun U => U.heap.size = sz ∧ va_P (dC, dI) vwCl [(q_this, .inr (1, [.int v_crashing, .ref q_rounds, .ref q_reaches])), (q_rounds, .inl (cI, 8, .inl v_rounds)), (q_reaches, .inl (cI, 8, .inl v_reaches))] U.heap ∧ va_K (dC, dI) vwCl [(cI, .int)] U ∧ NW U ∧ va_D (fun _ => True) [(q_this, .inr (1, [.int v_crashing, .ref q_rounds, .ref q_reaches])), (q_rounds, .inl (cI, 8, .inl v_rounds)), (q_reaches, .inl (cI, 8, .inl v_reaches))])) (va_Qv (fun (_ : Unit) => True) (fun (_ : Unit) t => va_P (dC, dI) vwCl [(q_this, .inr (1, [.int R.1, .ref q_rounds, .ref q_reaches])), (q_rounds, .inl (cI, 8, .inl R.2.1)), (q_reaches, .inl (cI, 8, .inl R.2.2))] t.heap ∧ va_K (dC, dI) vwCl [(cI, .int)] t ∧ va_D (va_A [(q_this, .inr (1, [.int v_crashing, .ref q_rounds, .ref q_reaches])), (q_rounds, .inl (cI, 8, .inl v_rounds)), (q_reaches, .inl (cI, 8, .inl v_reaches))] sz) [(q_this, .inr (1, [.int R.1, .ref q_rounds, .ref q_reaches])), (q_rounds, .inl (cI, 8, .inl R.2.1)), (q_reaches, .inl (cI, 8, .inl R.2.2))]) (va_A [(q_this, .inr (1, [.int v_crashing, .ref q_rounds, .ref q_reaches])), (q_rounds, .inl (cI, 8, .inl v_rounds)), (q_reaches, .inl (cI, 8, .inl v_reaches))] sz)) 0 0 (va_A [(q_this, .inr (1, [.int v_crashing, .ref q_rounds, .ref q_reaches])), (q_rounds, .inl (cI, 8, .inl v_rounds)), (q_reaches, .inl (cI, 8, .inl v_reaches))] sz) := by
  refine Met.ofW (cc := cX1_advance) (maxL := 4) (ret := none) (by decide) rfl ?_
  intro p e s m args below meth c s₁ B hml hv
  obtain ⟨rfl, hsz, hP, hK, hN, hD0⟩ := hv
  have hx := B.exec
  have hb := B.bytes
  have hr := B.returns
  have hts := atoms_spec (ws := wsX1_advance) B.pre
  have hown : s.vm.findClass RX1 = some m.cls := findClass_of_methodNamed B.named
  have hlocks := B.notSynchronized
  subst hsz
  have hD := hD0.self (sz := s.heap.size)
  generalize hAe : va_A [(q_this, .inr (1, [.int v_crashing, .ref q_rounds, .ref q_reaches])), (q_rounds, .inl (cI, 8, .inl v_rounds)), (q_reaches, .inl (cI, 8, .inl v_reaches))] s.heap.size = A at hD ⊢
  have hA : ∀ q : Nat, s.heap.size ≤ q → A q := fun q h => by rw [← hAe]; exact Or.inr h
  have hS : va_S A s.heap s.heap [] := va_S.rf
  have hl := lv_entry ([.ref q_this, .int p1, .int p2]) (n := 4) (Nat.le_of_ble_eq_true rfl)
  rw [lg_entry_eq]
  generalize (lg_sl ([.ref q_this, .int p1, .int p2]) ++ List.replicate (4 - (lg_sl ([.ref q_this, .int p1, .int p2])).length) Slot.unset).toArray = ls at hl ⊢
  have hl : lv_has ls 4 [(0, .ref q_this), (1, .int p1), (2, .int p2)] := hl
  unfold fX1_advance at h
  obtain ⟨H, hH⟩ : ∃ H, H = s.heap := ⟨_, rfl⟩
  obtain ⟨locs, hlocs⟩ : ∃ q : List Loc, q = [] := ⟨_, rfl⟩
  suffices hgo : ∀ (H : Heap) (locs : List Loc), va_P (dC, dI) vwCl [(q_this, .inr (1, [.int v_crashing, .ref q_rounds, .ref q_reaches])), (q_rounds, .inl (cI, 8, .inl v_rounds)), (q_reaches, .inl (cI, 8, .inl v_reaches))] H → va_S A s.heap H locs → W p l e (headSpec wsX1_advance ({ frames := 3, cells := 0, slots := 0, locals := 63 } : Room)).room s m ([.ref q_this, .int p1, .int p2] : List Value).toArray below meth c H locs 0 0 (MQ below (va_Qv (fun (_ : Unit) => True) (fun (_ : Unit) t => va_P (dC, dI) vwCl [(q_this, .inr (1, [.int R.1, .ref q_rounds, .ref q_reaches])), (q_rounds, .inl (cI, 8, .inl R.2.1)), (q_reaches, .inl (cI, 8, .inl R.2.2))] t.heap ∧ va_K (dC, dI) vwCl [(cI, .int)] t ∧ va_D A [(q_this, .inr (1, [.int R.1, .ref q_rounds, .ref q_reaches])), (q_rounds, .inl (cI, 8, .inl R.2.1)), (q_reaches, .inl (cI, 8, .inl R.2.2))]) A) ([.ref q_this, .int p1, .int p2] : List Value).toArray s 0 0 A) (F0 m 0 ls []) from hgo _ _ hP hS
  clear hH hlocs hP hS
  clear H locs
  intro H locs hP hS
  refine lv_bipush (v := 7) hx hb dX1_advance_0 (by decide) ?_
  refine lv_istore_n (lv' := [(3, .int (7 : Int32)), (0, .ref q_this), (1, .int p1), (2, .int p2)]) hx hb dX1_advance_2 rfl hl (by decide) rfl (fun ls hl => ?_)
  have L3 : ∀ {k : (Nat → Int32) → (Nat → Int32) → Option (Int32 × (Nat → Int32) × (Nat → Int32))} (hk : ∀ (v_reaches_3 : (Nat → Int32)) (v_rounds_3 : (Nat → Int32)), k v_reaches_3 v_rounds_3 = some R → ∀ (H : Heap) (locs : List Loc) (ls : Array Slot), va_P (dC, dI) vwCl [(q_this, .inr (1, [.int v_crashing, .ref q_rounds, .ref q_reaches])), (q_rounds, .inl (cI, 8, .inl v_rounds_3)), (q_reaches, .inl (cI, 8, .inl v_reaches_3))] H → va_D A [(q_this, .inr (1, [.int v_crashing, .ref q_rounds, .ref q_reaches])), (q_rounds, .inl (cI, 8, .inl v_rounds_3)), (q_reaches, .inl (cI, 8, .inl v_reaches_3))] → va_S A s.heap H locs → lv_has ls 4 [(0, .ref q_this), (1, .int p1)] → W p l e (headSpec wsX1_advance ({ frames := 3, cells := 0, slots := 0, locals := 63 } : Room)).room s m ([.ref q_this, .int p1, .int p2] : List Value).toArray below meth c H locs 0 0 (MQ below (va_Qv (fun (_ : Unit) => True) (fun (_ : Unit) t => va_P (dC, dI) vwCl [(q_this, .inr (1, [.int R.1, .ref q_rounds, .ref q_reaches])), (q_rounds, .inl (cI, 8, .inl R.2.1)), (q_reaches, .inl (cI, 8, .inl R.2.2))] t.heap ∧ va_K (dC, dI) vwCl [(cI, .int)] t ∧ va_D A [(q_this, .inr (1, [.int R.1, .ref q_rounds, .ref q_reaches])), (q_rounds, .inl (cI, 8, .inl R.2.1)), (q_reaches, .inl (cI, 8, .inl R.2.2))]) A) ([.ref q_this, .int p1, .int p2] : List Value).toArray s 0 0 A) (F0 m 35 ls [])) (n : Nat) (x3_3 : Int32) (v_reaches_3 : (Nat → Int32)) (v_rounds_3 : (Nat → Int32)), fX1_advance_L3 p1 p2 v_crashing k n x3_3 v_reaches_3 v_rounds_3 = some R → ∀ (H : Heap) (locs : List Loc) (ls : Array Slot), va_P (dC, dI) vwCl [(q_this, .inr (1, [.int v_crashing, .ref q_rounds, .ref q_reaches])), (q_rounds, .inl (cI, 8, .inl v_rounds_3)), (q_reaches, .inl (cI, 8, .inl v_reaches_3))] H → va_D A [(q_this, .inr (1, [.int v_crashing, .ref q_rounds, .ref q_reaches])), (q_rounds, .inl (cI, 8, .inl v_rounds_3)), (q_reaches, .inl (cI, 8, .inl v_reaches_3))] → va_S A s.heap H locs → lv_has ls 4 [(0, .ref q_this), (1, .int p1), (2, .int p2), (3, .int x3_3)] → W p l e (headSpec wsX1_advance ({ frames := 3, cells := 0, slots := 0, locals := 63 } : Room)).room s m ([.ref q_this, .int p1, .int p2] : List Value).toArray below meth c H locs 0 0 (MQ below (va_Qv (fun (_ : Unit) => True) (fun (_ : Unit) t => va_P (dC, dI) vwCl [(q_this, .inr (1, [.int R.1, .ref q_rounds, .ref q_reaches])), (q_rounds, .inl (cI, 8, .inl R.2.1)), (q_reaches, .inl (cI, 8, .inl R.2.2))] t.heap ∧ va_K (dC, dI) vwCl [(cI, .int)] t ∧ va_D A [(q_this, .inr (1, [.int R.1, .ref q_rounds, .ref q_reaches])), (q_rounds, .inl (cI, 8, .inl R.2.1)), (q_reaches, .inl (cI, 8, .inl R.2.2))]) A) ([.ref q_this, .int p1, .int p2] : List Value).toArray s 0 0 A) (F0 m 3 ls []) := by
    intro k hk n
    induction n with
    | zero => intro x3_3 v_reaches_3 v_rounds_3 h; rw [fX1_advance_L3] at h; cases h
    | succ n ih =>
      intro x3_3 v_reaches_3 v_rounds_3 h H locs ls hP hD hS hl
      rw [fX1_advance_L3] at h
      refine lv_iload_n hx hb dX1_advance_3 rfl (lv_at hl 3 rfl) ?_
      refine lv_if_lt (tgt := 35) hx hb dX1_advance_4 (by decide) (fun c1 => ?_) (fun c1 => ?_)
      · rw [if_pos c1] at h
        exact hk _ _ h _ _ _ hP hD hS (lv_sub hl [0, 1] rfl)
      · rw [if_neg c1] at h
        refine lv_aload_n hx hb dX1_advance_7 rfl (lv_at hl 0 rfl) ?_
        refine va_get (D := (dC, dI)) (ci := 1) (v := .int v_crashing) (C := RX1) (T := TX1) (N := 3) hx hb hts iiX1_advance_X1 hown hK hP 0 rfl rfl 0 (by decide) (hts (.fieldLink RX1 22 "CrashRounds$Plan" "crashing" "I") (by decide +kernel)) (fun _ h9 => h9) rfl dX1_advance_8 ?_
        refine lv_iload_n hx hb dX1_advance_11 rfl (lv_at hl 3 rfl) ?_
        have hPc := hP.sub (ws' := []) [] rfl
        have hDc := hD.sub (ws' := []) [] (by decide) rfl
        have hFc := va_free (wc := []) hD hS hA [] rfl
        refine va_calli (va_runSN (As := [.int v_crashing, .int x3_3]) (rest := []) ⟨hx, hb, hml, hown, hts⟩ (kX5_has l dC dI cI  H.size v_crashing x3_3 _ rfl) (⟨va_cnB 2 hts gX1_advance_X5_has_n38 rfl rfl rfl (hN (.methodLinkNest RX1 38 yX5_has "CrashRounds") (by decide +kernel)) (hts (.initialized RX5) (by decide +kernel)) (by decide +kernel) ⟨Nat.le_of_ble_eq_true rfl, Nat.le_of_ble_eq_true rfl⟩, hts (.static yX5_has) (by decide +kernel), trivial⟩) ⟨pc_blind _ _ _ _ _ _, pc_ok hPc hK hN hDc⟩ rfl rfl hl.1 rfl (lv_room (Nat.le_of_ble_eq_true rfl)) dX1_advance_12 ⟨Nat.zero_le _, Nat.zero_le _⟩) hS (fun q _ h => hFc q h) hFc (fun r9 u t H1 locs ht hvm hw hB hz1 hk1 hS => ?_)
        obtain ⟨hP1, hK1, hD1⟩ := hB
        rw [ht] at hP1
        have hw : (fX5_has v_crashing x3_3) = r9 := hw.symm
        subst hw
        obtain ⟨hP, hD⟩ := va_join (wr := [(q_this, .inr (1, [.int v_crashing, .ref q_rounds, .ref q_reaches])), (q_rounds, .inl (cI, 8, .inl v_rounds_3)), (q_reaches, .inl (cI, 8, .inl v_reaches_3))]) (w1 := []) hP hD [] [0, 1, 2] rfl rfl (by decide) (by decide) hk1 hFc hP1 hD1
        generalize H1 = H at hP hS ⊢
        have hP : va_P (dC, dI) vwCl [(q_this, .inr (1, [.int v_crashing, .ref q_rounds, .ref q_reaches])), (q_rounds, .inl (cI, 8, .inl v_rounds_3)), (q_reaches, .inl (cI, 8, .inl v_reaches_3))] H := hP.sub [0, 1, 2] rfl
        have hD : va_D A [(q_this, .inr (1, [.int v_crashing, .ref q_rounds, .ref q_reaches])), (q_rounds, .inl (cI, 8, .inl v_rounds_3)), (q_reaches, .inl (cI, 8, .inl v_reaches_3))] := hD.sub [0, 1, 2] (by decide) rfl
        refine lv_if_eq (tgt := 29) hx hb dX1_advance_15 (by decide) (fun c2 => ?_) (fun c2 => ?_)
        · rw [if_pos c2] at h
          refine lv_iinc (v := (x3_3 + (-1 : Int32))) (lv' := [(3, .int (x3_3 + (-1 : Int32))), (0, .ref q_this), (1, .int p1), (2, .int p2)]) hx hb dX1_advance_29 hl (k := 3) rfl rfl (by decide) rfl (fun ls hl => ?_)
          refine lv_goto (tgt := 3) hx hb dX1_advance_32 (by decide) ?_
          exact ih _ _ _ h _ _ _ hP hD hS (lv_sub hl [1, 2, 3, 0] rfl)
        · rw [if_neg c2] at h
          refine lv_aload_n hx hb dX1_advance_18 rfl (lv_at hl 0 rfl) ?_
          refine lv_iload_n hx hb dX1_advance_19 rfl (lv_at hl 3 rfl) ?_
          refine lv_iload_n hx hb dX1_advance_20 rfl (lv_at hl 1 rfl) ?_
          refine lv_iload_n hx hb dX1_advance_21 rfl (lv_at hl 2 rfl) ?_
          obtain ⟨a3, ha3, h⟩ := bd_s h
          have hPc := hP.sub (ws' := [(q_this, .inr (1, [.int v_crashing, .ref q_rounds, .ref q_reaches])), (q_rounds, .inl (cI, 8, .inl v_rounds_3)), (q_reaches, .inl (cI, 8, .inl v_reaches_3))]) [0, 1, 2] rfl
          have hDc := hD.sub (ws' := [(q_this, .inr (1, [.int v_crashing, .ref q_rounds, .ref q_reaches])), (q_rounds, .inl (cI, 8, .inl v_rounds_3)), (q_reaches, .inl (cI, 8, .inl v_reaches_3))]) [0, 1, 2] (by decide) rfl
          have hFc := va_free (wc := [(q_this, .inr (1, [.int v_crashing, .ref q_rounds, .ref q_reaches])), (q_rounds, .inl (cI, 8, .inl v_rounds_3)), (q_reaches, .inl (cI, 8, .inl v_reaches_3))]) hD hS hA [0, 1, 2] rfl
          refine va_calli (va_runV (As := [.int x3_3, .int p1, .int p2]) (rest := []) ⟨hx, hb, hml, hown, hts⟩ (kX1_advanceOne l dC dI cI q_this q_rounds q_reaches H.size v_crashing v_rounds_3 v_reaches_3 x3_3 p1 p2 a3 ha3) (cwV 3 hts gX1_advance_X1_advanceOne rfl rfl rfl (by decide +kernel) ⟨Nat.le_of_ble_eq_true rfl, Nat.le_of_ble_eq_true rfl⟩) ⟨pc_blind _ _ _ _ _ _, va_recv hK hP (ci := 1) (q0 := 0) rfl rfl, pc_ok hPc hK hN hDc⟩ rfl rfl hl.1 rfl (lv_room (Nat.le_of_ble_eq_true rfl)) dX1_advance_22 ⟨Nat.zero_le _, Nat.zero_le _⟩) hS (fun q _ h => hFc q h) hFc (fun r9 u t H1 locs ht hvm hw hB hz1 hk1 hS => ?_)
          obtain ⟨hP1, hK1, hD1⟩ := hB
          rw [ht] at hP1
          have hw : a3.1 = r9 := hw.symm
          subst hw
          obtain ⟨hP, hD⟩ := va_join (wr := []) (w1 := [(q_this, .inr (1, [.int v_crashing, .ref q_rounds, .ref q_reaches])), (q_rounds, .inl (cI, 8, .inl a3.2.1)), (q_reaches, .inl (cI, 8, .inl a3.2.2))]) hP hD [0, 1, 2] [] rfl rfl (by decide) (by decide) hk1 hFc hP1 hD1
          generalize H1 = H at hP hS ⊢
          have hP : va_P (dC, dI) vwCl [(q_this, .inr (1, [.int v_crashing, .ref q_rounds, .ref q_reaches])), (q_rounds, .inl (cI, 8, .inl a3.2.1)), (q_reaches, .inl (cI, 8, .inl a3.2.2))] H := hP.sub [0, 1, 2] rfl
          have hD : va_D A [(q_this, .inr (1, [.int v_crashing, .ref q_rounds, .ref q_reaches])), (q_rounds, .inl (cI, 8, .inl a3.2.1)), (q_reaches, .inl (cI, 8, .inl a3.2.2))] := hD.sub [0, 1, 2] (by decide) rfl
          refine lv_if_eq (tgt := 29) hx hb dX1_advance_25 (by decide) (fun c4 => ?_) (fun c4 => ?_)
          · rw [if_pos c4] at h
            refine lv_iinc (v := (x3_3 + (-1 : Int32))) (lv' := [(3, .int (x3_3 + (-1 : Int32))), (0, .ref q_this), (1, .int p1), (2, .int p2)]) hx hb dX1_advance_29 hl (k := 3) rfl rfl (by decide) rfl (fun ls hl => ?_)
            refine lv_goto (tgt := 3) hx hb dX1_advance_32 (by decide) ?_
            exact ih _ _ _ h _ _ _ hP hD hS (lv_sub hl [1, 2, 3, 0] rfl)
          · rw [if_neg c4] at h
            have h := Option.some.inj h
            subst h
            exact W.vret hx hb hr (fun t ht hW => ⟨⟨(), rfl, trivial, by rw [ht]; exact hP, va_K.moved hW.alike hK, hD⟩, hS.F ht⟩) hS.2.2 dX1_advance_28
  refine L3 (fun v_reaches_3 v_rounds_3 h H locs ls hP hD hS hl => ?_) _ _ _ _ h _ _ _ hP hD hS (lv_sub hl [1, 2, 3, 0] rfl)
  refine lv_aload_n hx hb dX1_advance_35 rfl (lv_at hl 0 rfl) ?_
  refine lv_aload_n hx hb dX1_advance_36 rfl (lv_at hl 0 rfl) ?_
  refine lv_iload_n hx hb dX1_advance_37 rfl (lv_at hl 1 rfl) ?_
  obtain ⟨a5, ha5, h⟩ := bd_s h
  have hPc := hP.sub (ws' := [(q_this, .inr (1, [.int v_crashing, .ref q_rounds, .ref q_reaches]))]) [0] rfl
  have hDc := hD.sub (ws' := [(q_this, .inr (1, [.int v_crashing, .ref q_rounds, .ref q_reaches]))]) [0] (by decide) rfl
  have hFc := va_free (wc := [(q_this, .inr (1, [.int v_crashing, .ref q_rounds, .ref q_reaches]))]) hD hS hA [0] rfl
  refine va_calli (va_runV (As := [.int p1]) (rest := [.ref q_this]) ⟨hx, hb, hml, hown, hts⟩ (kX1_nextCrashing l dC dI cI q_this q_rounds q_reaches H.size v_crashing p1 a5 ha5) (cwV 1 hts gX1_advance_X1_nextCrashing rfl rfl rfl (by decide +kernel) ⟨Nat.le_of_ble_eq_true rfl, Nat.le_of_ble_eq_true rfl⟩) ⟨pc_blind _ _ _ _ _ _, va_recv hK hP (ci := 1) (q0 := 0) rfl rfl, pc_ok hPc hK hN hDc⟩ rfl rfl hl.1 rfl (lv_room (Nat.le_of_ble_eq_true rfl)) dX1_advance_38 ⟨Nat.zero_le _, Nat.zero_le _⟩) hS (fun q _ h => hFc q h) hFc (fun r9 u t H1 locs ht hvm hw hB hz1 hk1 hS => ?_)
  obtain ⟨hP1, hK1, hD1⟩ := hB
  rw [ht] at hP1
  have hw : a5 = r9 := hw.symm
  subst hw
  obtain ⟨hP, hD⟩ := va_join (wr := [(q_rounds, .inl (cI, 8, .inl v_rounds_3)), (q_reaches, .inl (cI, 8, .inl v_reaches_3))]) (w1 := [(q_this, .inr (1, [.int v_crashing, .ref q_rounds, .ref q_reaches]))]) hP hD [0] [1, 2] rfl rfl (by decide) (by decide) hk1 hFc hP1 hD1
  generalize H1 = H at hP hS ⊢
  have hP : va_P (dC, dI) vwCl [(q_this, .inr (1, [.int v_crashing, .ref q_rounds, .ref q_reaches])), (q_rounds, .inl (cI, 8, .inl v_rounds_3)), (q_reaches, .inl (cI, 8, .inl v_reaches_3))] H := hP.sub [2, 0, 1] rfl
  have hD : va_D A [(q_this, .inr (1, [.int v_crashing, .ref q_rounds, .ref q_reaches])), (q_rounds, .inl (cI, 8, .inl v_rounds_3)), (q_reaches, .inl (cI, 8, .inl v_reaches_3))] := hD.sub [2, 0, 1] (by decide) rfl
  obtain ⟨a6, ha6, h⟩ := bd_s h
  have hPc := hP.sub (ws' := [(q_this, .inr (1, [.int v_crashing, .ref q_rounds, .ref q_reaches])), (q_rounds, .inl (cI, 8, .inl v_rounds_3)), (q_reaches, .inl (cI, 8, .inl v_reaches_3))]) [0, 1, 2] rfl
  have hDc := hD.sub (ws' := [(q_this, .inr (1, [.int v_crashing, .ref q_rounds, .ref q_reaches])), (q_rounds, .inl (cI, 8, .inl v_rounds_3)), (q_reaches, .inl (cI, 8, .inl v_reaches_3))]) [0, 1, 2] (by decide) rfl
  have hFc := va_free (wc := [(q_this, .inr (1, [.int v_crashing, .ref q_rounds, .ref q_reaches])), (q_rounds, .inl (cI, 8, .inl v_rounds_3)), (q_reaches, .inl (cI, 8, .inl v_reaches_3))]) hD hS hA [0, 1, 2] rfl
  refine va_callv (va_runV (As := [.int a5]) (rest := []) ⟨hx, hb, hml, hown, hts⟩ (kX1_crashAtOnce l dC dI cI q_this q_rounds q_reaches H.size v_crashing v_rounds_3 v_reaches_3 a5 a6 ha6) (cwV 1 hts gX1_advance_X1_crashAtOnce rfl rfl rfl (by decide +kernel) ⟨Nat.le_of_ble_eq_true rfl, Nat.le_of_ble_eq_true rfl⟩) ⟨pc_blind _ _ _ _ _ _, va_recv hK hP (ci := 1) (q0 := 0) rfl rfl, pc_ok hPc hK hN hDc⟩ rfl rfl hl.1 rfl (lv_room (Nat.le_of_ble_eq_true rfl)) dX1_advance_41 ⟨Nat.zero_le _, Nat.zero_le _⟩) hS (fun q _ h => hFc q h) hFc (fun u t H1 locs ht hvm hw hB hz1 hk1 hS => ?_)
  obtain ⟨hP1, hK1, hD1⟩ := hB
  rw [ht] at hP1
  obtain ⟨hP, hD⟩ := va_join (wr := []) (w1 := [(q_this, .inr (1, [.int a6.1, .ref q_rounds, .ref q_reaches])), (q_rounds, .inl (cI, 8, .inl a6.2.1)), (q_reaches, .inl (cI, 8, .inl a6.2.2))]) hP hD [0, 1, 2] [] rfl rfl (by decide) (by decide) hk1 hFc hP1 hD1
  generalize H1 = H at hP hS ⊢
  have hP : va_P (dC, dI) vwCl [(q_this, .inr (1, [.int a6.1, .ref q_rounds, .ref q_reaches])), (q_rounds, .inl (cI, 8, .inl a6.2.1)), (q_reaches, .inl (cI, 8, .inl a6.2.2))] H := hP.sub [0, 1, 2] rfl
  have hD : va_D A [(q_this, .inr (1, [.int a6.1, .ref q_rounds, .ref q_reaches])), (q_rounds, .inl (cI, 8, .inl a6.2.1)), (q_reaches, .inl (cI, 8, .inl a6.2.2))] := hD.sub [0, 1, 2] (by decide) rfl
  have h := Option.some.inj h
  subst h
  exact W.vret hx hb hr (fun t ht hW => ⟨⟨(), rfl, trivial, by rw [ht]; exact hP, va_K.moved hW.alike hK, hD⟩, hS.F ht⟩) hS.2.2 dX1_advance_44
