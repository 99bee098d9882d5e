set_option maxHeartbeats 4000000 in
set_option maxRecDepth 100000 in
theorem kJ6_bitCount_0f7a4 (l : Launch) (dC : Nat → ClassId) (dI : Nat → Nat → Nat) (cI : ClassId) (sz : Nat) (p1 : Int32) (R : Int32) (h : fJ6_bitCount_0f7a4 p1 = R) : Met l yJ6_bitCount_0f7a4 wsJ6_bitCount_0f7a4 ({ frames := 0, cells := 0, slots := 0, locals := 0 } : Room) (va_Pc [.int p1] (fun U => U.heap.size = sz ∧ va_P (dC, dI) vwCl [] U.heap ∧ va_K (dC, dI) vwCl [(cI, .int)] U ∧ NW U ∧ va_D (fun _ => True) [])) (va_Qi (fun (r : Int32) (_ : Unit) => r = R) (fun (_ : Unit) t => va_P (dC, dI) vwCl [] t.heap ∧ va_K (dC, dI) vwCl [(cI, .int)] t ∧ va_D (va_A [] sz) []) (va_A [] sz)) 0 0 (va_A [] sz) := by
  refine Met.ofW (cc := cJ6_bitCount_0f7a4) (maxL := 1) (ret := (some .int)) (by decide) rfl ?_
  intro p e s m args below meth c s₁ B hml hv
  obtain ⟨rfl, hsz, hP, hK, hN, hD0⟩ := hv
  have hx := B.exec
  have hb := B.bytes
  have hr := B.returns
  have hts := atoms_spec (ws := wsJ6_bitCount_0f7a4) B.pre
  have hown : s.vm.findClass RJ6 = some m.cls := findClass_of_methodNamed B.named
  have hlocks := B.notSynchronized
  subst hsz
  have hD := hD0.self (sz := s.heap.size)
  generalize hAe : va_A [] s.heap.size = A at hD ⊢
  have hA : ∀ q : Nat, s.heap.size ≤ q → A q := fun q h => by rw [← hAe]; exact Or.inr h
  have hS : va_S A s.heap s.heap [] := va_S.rf
  have hl := lv_entry ([.int p1]) (n := 1) (Nat.le_of_ble_eq_true rfl)
  rw [lg_entry_eq]
  generalize (lg_sl ([.int p1]) ++ List.replicate (1 - (lg_sl ([.int p1])).length) Slot.unset).toArray = ls at hl ⊢
  have hl : lv_has ls 1 [(0, .int p1)] := hl
  unfold fJ6_bitCount_0f7a4 at h
  obtain ⟨H, hH⟩ : ∃ H, H = s.heap := ⟨_, rfl⟩
  obtain ⟨locs, hlocs⟩ : ∃ q : List Loc, q = [] := ⟨_, rfl⟩
  suffices hgo : ∀ (H : Heap) (locs : List Loc), va_P (dC, dI) vwCl [] H → va_S A s.heap H locs → W p l e (headSpec wsJ6_bitCount_0f7a4 ({ frames := 0, cells := 0, slots := 0, locals := 0 } : Room)).room s m ([.int p1] : List Value).toArray below meth c H locs 0 0 (MQ below (va_Qi (fun (r : Int32) (_ : Unit) => r = R) (fun (_ : Unit) t => va_P (dC, dI) vwCl [] t.heap ∧ va_K (dC, dI) vwCl [(cI, .int)] t ∧ va_D A []) A) ([.int p1] : List Value).toArray s 0 0 A) (F0 m 0 ls []) from hgo _ _ hP hS
  clear hH hlocs hP hS
  clear H locs
  intro H locs hP hS
  refine lv_iload_n hx hb dJ6_bitCount_0f7a4_0 rfl (lv_at hl 0 rfl) ?_
  refine lv_iload_n hx hb dJ6_bitCount_0f7a4_1 rfl (lv_at hl 0 rfl) ?_
  refine lv_iconst (v := 1) hx hb dJ6_bitCount_0f7a4_2 (by decide) ?_
  refine lv_iushr (v := (p1.toUInt32 >>> ((1 : Int32).toUInt32 &&& Int32.toUInt32 31)).toInt32) hx hb dJ6_bitCount_0f7a4_3 rfl ?_
  refine lv_ldcw (v := 1431655765) hx hb hown (hts (.constant RJ6 265 1431655765) (by decide +kernel)) dJ6_bitCount_0f7a4_4 ?_
  refine lv_iand hx hb dJ6_bitCount_0f7a4_7 ?_
  refine lv_isub hx hb dJ6_bitCount_0f7a4_8 ?_
  refine lv_topi (fun y1 ey1 => ?_)
  have h := nm_y ey1 h
  refine lv_istore_n (lv' := [(0, .int y1)]) hx hb dJ6_bitCount_0f7a4_9 rfl hl (by decide) rfl (fun ls hl => ?_)
  refine lv_iload_n hx hb dJ6_bitCount_0f7a4_10 rfl (lv_at hl 0 rfl) ?_
  refine lv_ldcw (v := 858993459) hx hb hown (hts (.constant RJ6 266 858993459) (by decide +kernel)) dJ6_bitCount_0f7a4_11 ?_
  refine lv_iand hx hb dJ6_bitCount_0f7a4_14 ?_
  refine lv_iload_n hx hb dJ6_bitCount_0f7a4_15 rfl (lv_at hl 0 rfl) ?_
  refine lv_iconst (v := 2) hx hb dJ6_bitCount_0f7a4_16 (by decide) ?_
  refine lv_iushr (v := (y1.toUInt32 >>> ((2 : Int32).toUInt32 &&& Int32.toUInt32 31)).toInt32) hx hb dJ6_bitCount_0f7a4_17 rfl ?_
  refine lv_ldcw (v := 858993459) hx hb hown (hts (.constant RJ6 266 858993459) (by decide +kernel)) dJ6_bitCount_0f7a4_18 ?_
  refine lv_iand hx hb dJ6_bitCount_0f7a4_21 ?_
  refine lv_iadd hx hb dJ6_bitCount_0f7a4_22 ?_
  refine lv_topi (fun y2 ey2 => ?_)
  have h := nm_y ey2 h
  refine lv_istore_n (lv' := [(0, .int y2)]) hx hb dJ6_bitCount_0f7a4_23 rfl hl (by decide) rfl (fun ls hl => ?_)
  refine lv_iload_n hx hb dJ6_bitCount_0f7a4_24 rfl (lv_at hl 0 rfl) ?_
  refine lv_iload_n hx hb dJ6_bitCount_0f7a4_25 rfl (lv_at hl 0 rfl) ?_
  refine lv_iconst (v := 4) hx hb dJ6_bitCount_0f7a4_26 (by decide) ?_
  refine lv_iushr (v := (y2.toUInt32 >>> ((4 : Int32).toUInt32 &&& Int32.toUInt32 31)).toInt32) hx hb dJ6_bitCount_0f7a4_27 rfl ?_
  refine lv_iadd hx hb dJ6_bitCount_0f7a4_28 ?_
  refine lv_ldcw (v := 252645135) hx hb hown (hts (.constant RJ6 267 252645135) (by decide +kernel)) dJ6_bitCount_0f7a4_29 ?_
  refine lv_iand hx hb dJ6_bitCount_0f7a4_32 ?_
  refine lv_topi (fun y3 ey3 => ?_)
  have h := nm_y ey3 h
  refine lv_istore_n (lv' := [(0, .int y3)]) hx hb dJ6_bitCount_0f7a4_33 rfl hl (by decide) rfl (fun ls hl => ?_)
  refine lv_iload_n hx hb dJ6_bitCount_0f7a4_34 rfl (lv_at hl 0 rfl) ?_
  refine lv_iload_n hx hb dJ6_bitCount_0f7a4_35 rfl (lv_at hl 0 rfl) ?_
  refine lv_bipush (v := 8) hx hb dJ6_bitCount_0f7a4_36 (by decide) ?_
  refine lv_iushr (v := (y3.toUInt32 >>> ((8 : Int32).toUInt32 &&& Int32.toUInt32 31)).toInt32) hx hb dJ6_bitCount_0f7a4_38 rfl ?_
  refine lv_iadd hx hb dJ6_bitCount_0f7a4_39 ?_
  refine lv_istore_n (lv' := [(0, .int (y3 + (y3.toUInt32 >>> ((8 : Int32).toUInt32 &&& Int32.toUInt32 31)).toInt32))]) hx hb dJ6_bitCount_0f7a4_40 rfl hl (by decide) rfl (fun ls hl => ?_)
  refine lv_iload_n hx hb dJ6_bitCount_0f7a4_41 rfl (lv_at hl 0 rfl) ?_
  refine lv_iload_n hx hb dJ6_bitCount_0f7a4_42 rfl (lv_at hl 0 rfl) ?_
  refine lv_bipush (v := 16) hx hb dJ6_bitCount_0f7a4_43 (by decide) ?_
  refine lv_iushr (v := ((y3 + (y3.toUInt32 >>> ((8 : Int32).toUInt32 &&& Int32.toUInt32 31)).toInt32).toUInt32 >>> ((16 : Int32).toUInt32 &&& Int32.toUInt32 31)).toInt32) hx hb dJ6_bitCount_0f7a4_45 rfl ?_
  refine lv_iadd hx hb dJ6_bitCount_0f7a4_46 ?_
  refine lv_topi (fun y4 ey4 => ?_)
  have h := nm_y ey4 h
  refine lv_istore_n (lv' := [(0, .int y4)]) hx hb dJ6_bitCount_0f7a4_47 rfl hl (by decide) rfl (fun ls hl => ?_)
  refine lv_iload_n hx hb dJ6_bitCount_0f7a4_48 rfl (lv_at hl 0 rfl) ?_
  refine lv_bipush (v := 63) hx hb dJ6_bitCount_0f7a4_49 (by decide) ?_
  refine lv_iand hx hb dJ6_bitCount_0f7a4_51 ?_
  have h := h
  subst h
  exact W.iret (v := (y4 &&& (63 : Int32))) hx hb hr (fun t ht hW => ⟨⟨(y4 &&& (63 : Int32)), (), rfl, rfl, by rw [ht]; exact hP, va_K.moved hW.alike hK, hD⟩, hS.F ht⟩) hS.2.2 dJ6_bitCount_0f7a4_52
set_option maxHeartbeats 4000000 in
set_option maxRecDepth 100000 in
theorem kJ7_fill_53178 (l : Launch) (dC : Nat → ClassId) (dI : Nat → Nat → Nat) (cI : ClassId) (q_arr : Nat) (sz : Nat) (v_arr : (Nat → Int32)) (p2 : Int32) (R : (Nat → Int32)) (h : fJ7_fill_53178 v_arr p2 = some R) : Met l yJ7_fill_53178 wsJ7_fill_53178 ({ frames := 0, cells := 0, slots := 0, locals := 0 } : Room) (va_Pc [.ref q_arr, .int p2] (fun U => U.heap.size = sz ∧ va_P (dC, dI) vwCl [(q_arr, .inl (cI, 8, .inl v_arr))] U.heap ∧ va_K (dC, dI) vwCl [(cI, .int)] U ∧ NW U ∧ va_D (fun _ => True) [(q_arr, .inl (cI, 8, .inl v_arr))])) (va_Qv (fun (_ : Unit) => True) (fun (_ : Unit) t => va_P (dC, dI) vwCl [(q_arr, .inl (cI, 8, .inl R))] t.heap ∧ va_K (dC, dI) vwCl [(cI, .int)] t ∧ va_D (va_A [(q_arr, .inl (cI, 8, .inl v_arr))] sz) [(q_arr, .inl (cI, 8, .inl R))]) (va_A [(q_arr, .inl (cI, 8, .inl v_arr))] sz)) 0 0 (va_A [(q_arr, .inl (cI, 8, .inl v_arr))] sz) := by
  refine Met.ofW (cc := cJ7_fill_53178) (maxL := 4) (ret := none) (by decide) rfl ?_
  intro p e s m args below meth c s₁ B hml hv
  obtain ⟨rfl, hsz, hP, hK, hN, hD0⟩ := hv
  have hx := B.exec
  have hb := B.bytes
  have hr := B.returns
  have hts := atoms_spec (ws := wsJ7_fill_53178) B.pre
  have hown : s.vm.findClass RJ7 = some m.cls := findClass_of_methodNamed B.named
  have hlocks := B.notSynchronized
  subst hsz
  have hD := hD0.self (sz := s.heap.size)
  generalize hAe : va_A [(q_arr, .inl (cI, 8, .inl v_arr))] s.heap.size = A at hD ⊢
  have hA : ∀ q : Nat, s.heap.size ≤ q → A q := fun q h => by rw [← hAe]; exact Or.inr h
  have hS : va_S A s.heap s.heap [] := va_S.rf
  have hl := lv_entry ([.ref q_arr, .int p2]) (n := 4) (Nat.le_of_ble_eq_true rfl)
  rw [lg_entry_eq]
  generalize (lg_sl ([.ref q_arr, .int p2]) ++ List.replicate (4 - (lg_sl ([.ref q_arr, .int p2])).length) Slot.unset).toArray = ls at hl ⊢
  have hl : lv_has ls 4 [(0, .ref q_arr), (1, .int p2)] := hl
  unfold fJ7_fill_53178 at h
  obtain ⟨H, hH⟩ : ∃ H, H = s.heap := ⟨_, rfl⟩
  obtain ⟨locs, hlocs⟩ : ∃ q : List Loc, q = [] := ⟨_, rfl⟩
  suffices hgo : ∀ (H : Heap) (locs : List Loc), va_P (dC, dI) vwCl [(q_arr, .inl (cI, 8, .inl v_arr))] H → va_S A s.heap H locs → W p l e (headSpec wsJ7_fill_53178 ({ frames := 0, cells := 0, slots := 0, locals := 0 } : Room)).room s m ([.ref q_arr, .int p2] : List Value).toArray below meth c H locs 0 0 (MQ below (va_Qv (fun (_ : Unit) => True) (fun (_ : Unit) t => va_P (dC, dI) vwCl [(q_arr, .inl (cI, 8, .inl R))] t.heap ∧ va_K (dC, dI) vwCl [(cI, .int)] t ∧ va_D A [(q_arr, .inl (cI, 8, .inl R))]) A) ([.ref q_arr, .int p2] : List Value).toArray s 0 0 A) (F0 m 0 ls []) from hgo _ _ hP hS
  clear hH hlocs hP hS
  clear H locs
  intro H locs hP hS
  refine lv_iconst (v := 0) hx hb dJ7_fill_53178_0 (by decide) ?_
  refine lv_istore_n (lv' := [(2, .int (0 : Int32)), (0, .ref q_arr), (1, .int p2)]) hx hb dJ7_fill_53178_1 rfl hl (by decide) rfl (fun ls hl => ?_)
  refine lv_aload_n hx hb dJ7_fill_53178_2 rfl (lv_at hl 1 rfl) ?_
  refine va_alen (v := 8) hx hb hK hP 0 0 rfl rfl rfl dJ7_fill_53178_3 ?_
  refine lv_istore_n (lv' := [(3, .int (8 : Int32)), (2, .int (0 : Int32)), (0, .ref q_arr), (1, .int p2)]) hx hb dJ7_fill_53178_4 rfl hl (by decide) rfl (fun ls hl => ?_)
  have L5 : ∀ {k : (Nat → Int32) → Option ((Nat → Int32))} (hk : ∀ (v_arr_5 : (Nat → Int32)), k v_arr_5 = some R → ∀ (H : Heap) (locs : List Loc) (ls : Array Slot), va_P (dC, dI) vwCl [(q_arr, .inl (cI, 8, .inl v_arr_5))] H → va_D A [(q_arr, .inl (cI, 8, .inl v_arr_5))] → va_S A s.heap H locs → lv_has ls 4 [] → W p l e (headSpec wsJ7_fill_53178 ({ frames := 0, cells := 0, slots := 0, locals := 0 } : Room)).room s m ([.ref q_arr, .int p2] : List Value).toArray below meth c H locs 0 0 (MQ below (va_Qv (fun (_ : Unit) => True) (fun (_ : Unit) t => va_P (dC, dI) vwCl [(q_arr, .inl (cI, 8, .inl R))] t.heap ∧ va_K (dC, dI) vwCl [(cI, .int)] t ∧ va_D A [(q_arr, .inl (cI, 8, .inl R))]) A) ([.ref q_arr, .int p2] : List Value).toArray s 0 0 A) (F0 m 20 ls [])) (n : Nat) (x2_5 : Int32) (v_arr_5 : (Nat → Int32)), fJ7_fill_53178_L5 p2 (8 : Int32) k n x2_5 v_arr_5 = some R → ∀ (H : Heap) (locs : List Loc) (ls : Array Slot), va_P (dC, dI) vwCl [(q_arr, .inl (cI, 8, .inl v_arr_5))] H → va_D A [(q_arr, .inl (cI, 8, .inl v_arr_5))] → va_S A s.heap H locs → lv_has ls 4 [(0, .ref q_arr), (1, .int p2), (2, .int x2_5), (3, .int (8 : Int32))] → W p l e (headSpec wsJ7_fill_53178 ({ frames := 0, cells := 0, slots := 0, locals := 0 } : Room)).room s m ([.ref q_arr, .int p2] : List Value).toArray below meth c H locs 0 0 (MQ below (va_Qv (fun (_ : Unit) => True) (fun (_ : Unit) t => va_P (dC, dI) vwCl [(q_arr, .inl (cI, 8, .inl R))] t.heap ∧ va_K (dC, dI) vwCl [(cI, .int)] t ∧ va_D A [(q_arr, .inl (cI, 8, .inl R))]) A) ([.ref q_arr, .int p2] : List Value).toArray s 0 0 A) (F0 m 5 ls []) := by
    intro k hk n
    induction n with
    | zero => intro x2_5 v_arr_5 h; rw [fJ7_fill_53178_L5] at h; cases h
    | succ n ih =>
      intro x2_5 v_arr_5 h H locs ls hP hD hS hl
      rw [fJ7_fill_53178_L5] at h
      refine lv_iload_n hx hb dJ7_fill_53178_5 rfl (lv_at hl 2 rfl) ?_
      refine lv_iload_n hx hb dJ7_fill_53178_6 rfl (lv_at hl 3 rfl) ?_
      refine lv_icmp_ge (tgt := 20) hx hb dJ7_fill_53178_7 (by decide) (fun c1 => ?_) (fun c1 => ?_)
      · rw [if_pos c1] at h
        exact hk _ h _ _ _ hP hD hS (lv_sub hl [] rfl)
      · rw [if_neg c1] at h
        refine lv_aload_n hx hb dJ7_fill_53178_10 rfl (lv_at hl 0 rfl) ?_
        refine lv_iload_n hx hb dJ7_fill_53178_11 rfl (lv_at hl 2 rfl) ?_
        refine lv_iload_n hx hb dJ7_fill_53178_12 rfl (lv_at hl 1 rfl) ?_
        obtain ⟨hb2, h⟩ := ift_s h
        refine va_iast hx hb hK hP hD hS 0 0 rfl rfl (inb_in hb2) dJ7_fill_53178_13 (fun H locs hP hD hS => ?_)
        have hP : va_P (dC, dI) vwCl [(q_arr, .inl (cI, 8, .inl (upd v_arr_5 x2_5.toNatClampNeg p2)))] H := hP
        have hD : va_D A [(q_arr, .inl (cI, 8, .inl (upd v_arr_5 x2_5.toNatClampNeg p2)))] := hD
        refine lv_iinc (v := (x2_5 + (1 : Int32))) (lv' := [(2, .int (x2_5 + (1 : Int32))), (0, .ref q_arr), (1, .int p2), (3, .int (8 : Int32))]) hx hb dJ7_fill_53178_14 hl (k := 2) rfl rfl (by decide) rfl (fun ls hl => ?_)
        refine lv_goto (tgt := 5) hx hb dJ7_fill_53178_17 (by decide) ?_
        exact ih _ _ h _ _ _ hP hD hS (lv_sub hl [1, 2, 0, 3] rfl)
  refine L5 (fun v_arr_5 h H locs ls hP hD hS hl => ?_) _ _ _ h _ _ _ hP hD hS (lv_sub hl [2, 3, 1, 0] rfl)
  have h := Option.some.inj h
  subst h
  exact W.vret hx hb hr (fun t ht hW => ⟨⟨(), rfl, trivial, by rw [ht]; exact hP, va_K.moved hW.alike hK, hD⟩, hS.F ht⟩) hS.2.2 dJ7_fill_53178_20
set_option maxHeartbeats 4000000 in
set_option maxRecDepth 100000 in
theorem kX5_has (l : Launch) (dC : Nat → ClassId) (dI : Nat → Nat → Nat) (cI : ClassId) (sz : Nat) (p1 : Int32) (p2 : Int32) (R : Int32) (h : fX5_has p1 p2 = R) : Met l yX5_has wsX5_has ({ frames := 0, cells := 0, slots := 0, locals := 0 } : Room) (va_Pc [.int p1, .int p2] (fun U => U.heap.size = sz ∧ va_P (dC, dI) vwCl [] U.heap ∧ va_K (dC, dI) vwCl [(cI, .int)] U ∧ NW U ∧ va_D (fun _ => True) [])) (va_Qi (fun (r : Int32) (_ : Unit) => r = R) (fun (_ : Unit) t => va_P (dC, dI) vwCl [] t.heap ∧ va_K (dC, dI) vwCl [(cI, .int)] t ∧ va_D (va_A [] sz) []) (va_A [] sz)) 0 0 (va_A [] sz) := by
  refine Met.ofW (cc := cX5_has) (maxL := 2) (ret := (some .boolean)) (by decide) rfl ?_
  intro p e s m args below meth c s₁ B hml hv
  obtain ⟨rfl, hsz, hP, hK, hN, hD0⟩ := hv
  have hx := B.exec
  have hb := B.bytes
  have hr := B.returns
  have hts := atoms_spec (ws := wsX5_has) B.pre
  have hown : s.vm.findClass RX5 = some m.cls := findClass_of_methodNamed B.named
  have hlocks := B.notSynchronized
  subst hsz
  have hD := hD0.self (sz := s.heap.size)
  generalize hAe : va_A [] s.heap.size = A at hD ⊢
  have hA : ∀ q : Nat, s.heap.size ≤ q → A q := fun q h => by rw [← hAe]; exact Or.inr h
  have hS : va_S A s.heap s.heap [] := va_S.rf
  have hl := lv_entry ([.int p1, .int p2]) (n := 2) (Nat.le_of_ble_eq_true rfl)
  rw [lg_entry_eq]
  generalize (lg_sl ([.int p1, .int p2]) ++ List.replicate (2 - (lg_sl ([.int p1, .int p2])).length) Slot.unset).toArray = ls at hl ⊢
  have hl : lv_has ls 2 [(0, .int p1), (1, .int p2)] := hl
  unfold fX5_has at h
  obtain ⟨H, hH⟩ : ∃ H, H = s.heap := ⟨_, rfl⟩
  obtain ⟨locs, hlocs⟩ : ∃ q : List Loc, q = [] := ⟨_, rfl⟩
  suffices hgo : ∀ (H : Heap) (locs : List Loc), va_P (dC, dI) vwCl [] H → va_S A s.heap H locs → W p l e (headSpec wsX5_has ({ frames := 0, cells := 0, slots := 0, locals := 0 } : Room)).room s m ([.int p1, .int p2] : List Value).toArray below meth c H locs 0 0 (MQ below (va_Qi (fun (r : Int32) (_ : Unit) => r = R) (fun (_ : Unit) t => va_P (dC, dI) vwCl [] t.heap ∧ va_K (dC, dI) vwCl [(cI, .int)] t ∧ va_D A []) A) ([.int p1, .int p2] : List Value).toArray s 0 0 A) (F0 m 0 ls []) from hgo _ _ hP hS
  clear hH hlocs hP hS
  clear H locs
  intro H locs hP hS
  refine lv_iload_n hx hb dX5_has_0 rfl (lv_at hl 0 rfl) ?_
  refine lv_iload_n hx hb dX5_has_1 rfl (lv_at hl 1 rfl) ?_
  refine lv_ishr hx hb dX5_has_2 ?_
  refine lv_iconst (v := 1) hx hb dX5_has_3 (by decide) ?_
  refine lv_iand hx hb dX5_has_4 ?_
  refine lv_if_eq (tgt := 12) hx hb dX5_has_5 (by decide) (fun c1 => ?_) (fun c1 => ?_)
  · rw [if_pos c1] at h
    refine lv_iconst (v := 0) hx hb dX5_has_12 (by decide) ?_
    have h := h
    subst h
    exact W.zret (ty := .boolean) (v := (0 : Int32)) hx hb hr rfl (fun t ht hW => ⟨⟨(0 : Int32), (), rfl, rfl, by rw [ht]; exact hP, va_K.moved hW.alike hK, hD⟩, hS.F ht⟩) hS.2.2 dX5_has_13
  · rw [if_neg c1] at h
    refine lv_iconst (v := 1) hx hb dX5_has_8 (by decide) ?_
    refine lv_goto (tgt := 13) hx hb dX5_has_9 (by decide) ?_
    have h := h
    subst h
    exact W.zret (ty := .boolean) (v := (1 : Int32)) hx hb hr rfl (fun t ht hW => ⟨⟨(1 : Int32), (), rfl, rfl, by rw [ht]; exact hP, va_K.moved hW.alike hK, hD⟩, hS.F ht⟩) hS.2.2 dX5_has_13
set_option maxHeartbeats 4000000 in
set_option maxRecDepth 100000 in
theorem kX5_isWithin (l : Launch) (dC : Nat → ClassId) (dI : Nat → Nat → Nat) (cI : ClassId) (sz : Nat) (p1 : Int32) (p2 : Int32) (p3 : Int32) (R : Int32) (h : fX5_isWithin p1 p2 p3 = R) : Met l yX5_isWithin wsX5_isWithin ({ frames := 0, cells := 0, slots := 0, locals := 0 } : Room) (va_Pc [.int p1, .int p2, .int p3] (fun U => U.heap.size = sz ∧ va_P (dC, dI) vwCl [] U.heap ∧ va_K (dC, dI) vwCl [(cI, .int)] U ∧ NW U ∧ va_D (fun _ => True) [])) (va_Qi (fun (r : Int32) (_ : Unit) => r = R) (fun (_ : Unit) t => va_P (dC, dI) vwCl [] t.heap ∧ va_K (dC, dI) vwCl [(cI, .int)] t ∧ va_D (va_A [] sz) []) (va_A [] sz)) 0 0 (va_A [] sz) := by
  refine Met.ofW (cc := cX5_isWithin) (maxL := 3) (ret := (some .boolean)) (by decide) rfl ?_
  intro p e s m args below meth c s₁ B hml hv
  obtain ⟨rfl, hsz, hP, hK, hN, hD0⟩ := hv
  have hx := B.exec
  have hb := B.bytes
  have hr := B.returns
  have hts := atoms_spec (ws := wsX5_isWithin) B.pre
  have hown : s.vm.findClass RX5 = some m.cls := findClass_of_methodNamed B.named
  have hlocks := B.notSynchronized
  subst hsz
  have hD := hD0.self (sz := s.heap.size)
  generalize hAe : va_A [] s.heap.size = A at hD ⊢
  have hA : ∀ q : Nat, s.heap.size ≤ q → A q := fun q h => by rw [← hAe]; exact Or.inr h
  have hS : va_S A s.heap s.heap [] := va_S.rf
  have hl := lv_entry ([.int p1, .int p2, .int p3]) (n := 3) (Nat.le_of_ble_eq_true rfl)
  rw [lg_entry_eq]
  generalize (lg_sl ([.int p1, .int p2, .int p3]) ++ List.replicate (3 - (lg_sl ([.int p1, .int p2, .int p3])).length) Slot.unset).toArray = ls at hl ⊢
  have hl : lv_has ls 3 [(0, .int p1), (1, .int p2), (2, .int p3)] := hl
  unfold fX5_isWithin at h
  obtain ⟨H, hH⟩ : ∃ H, H = s.heap := ⟨_, rfl⟩
  obtain ⟨locs, hlocs⟩ : ∃ q : List Loc, q = [] := ⟨_, rfl⟩
  suffices hgo : ∀ (H : Heap) (locs : List Loc), va_P (dC, dI) vwCl [] H → va_S A s.heap H locs → W p l e (headSpec wsX5_isWithin ({ frames := 0, cells := 0, slots := 0, locals := 0 } : Room)).room s m ([.int p1, .int p2, .int p3] : List Value).toArray below meth c H locs 0 0 (MQ below (va_Qi (fun (r : Int32) (_ : Unit) => r = R) (fun (_ : Unit) t => va_P (dC, dI) vwCl [] t.heap ∧ va_K (dC, dI) vwCl [(cI, .int)] t ∧ va_D A []) A) ([.int p1, .int p2, .int p3] : List Value).toArray s 0 0 A) (F0 m 0 ls []) from hgo _ _ hP hS
  clear hH hlocs hP hS
  clear H locs
  intro H locs hP hS
  refine lv_iload_n hx hb dX5_isWithin_0 rfl (lv_at hl 0 rfl) ?_
  refine lv_iload_n hx hb dX5_isWithin_1 rfl (lv_at hl 1 rfl) ?_
  refine lv_icmp_lt (tgt := 14) hx hb dX5_isWithin_2 (by decide) (fun c1 => ?_) (fun c1 => ?_)
  · rw [if_pos c1] at h
    refine lv_iconst (v := 0) hx hb dX5_isWithin_14 (by decide) ?_
    have h := h
    subst h
    exact W.zret (ty := .boolean) (v := (0 : Int32)) hx hb hr rfl (fun t ht hW => ⟨⟨(0 : Int32), (), rfl, rfl, by rw [ht]; exact hP, va_K.moved hW.alike hK, hD⟩, hS.F ht⟩) hS.2.2 dX5_isWithin_15
  · rw [if_neg c1] at h
    refine lv_iload_n hx hb dX5_isWithin_5 rfl (lv_at hl 0 rfl) ?_
    refine lv_iload_n hx hb dX5_isWithin_6 rfl (lv_at hl 2 rfl) ?_
    refine lv_icmp_gt (tgt := 14) hx hb dX5_isWithin_7 (by decide) (fun c2 => ?_) (fun c2 => ?_)
    · rw [if_pos c2] at h
      refine lv_iconst (v := 0) hx hb dX5_isWithin_14 (by decide) ?_
      have h := h
      subst h
      exact W.zret (ty := .boolean) (v := (0 : Int32)) hx hb hr rfl (fun t ht hW => ⟨⟨(0 : Int32), (), rfl, rfl, by rw [ht]; exact hP, va_K.moved hW.alike hK, hD⟩, hS.F ht⟩) hS.2.2 dX5_isWithin_15
    · rw [if_neg c2] at h
      refine lv_iconst (v := 1) hx hb dX5_isWithin_10 (by decide) ?_
      refine lv_goto (tgt := 15) hx hb dX5_isWithin_11 (by decide) ?_
      have h := h
      subst h
      exact W.zret (ty := .boolean) (v := (1 : Int32)) hx hb hr rfl (fun t ht hW => ⟨⟨(1 : Int32), (), rfl, rfl, by rw [ht]; exact hP, va_K.moved hW.alike hK, hD⟩, hS.F ht⟩) hS.2.2 dX5_isWithin_15
theorem iiX2_isProcess_X2 : ∀ w ∈ wsX20, w ∈ wsX2_isProcess := by decide +kernel
set_option maxHeartbeats 4000000 in
set_option maxRecDepth 100000 in
theorem kX2_isProcess (l : Launch) (dC : Nat → ClassId) (dI : Nat → Nat → Nat) (cI : ClassId) (q_this : Nat) (sz : Nat) (v_algorithm : Int32) (v_processes : Int32) (v_mostCrashes : Int32) (v_mostDecisions : Int32) (v_rounds : Int32) (p1 : Int32) (R : Int32) (h : fX2_isProcess v_processes p1 = R) : Met l yX2_isProcess wsX2_isProcess ({ frames := 0, cells := 0, slots := 0, locals := 0 } : Room) (va_Pc [.ref q_this, .int p1] (fun U => U.heap.size = sz ∧ va_P (dC, dI) vwCl [(q_this, .inr (2, [.int v_algorithm, .int v_processes, .int v_mostCrashes, .int v_mostDecisions, .int v_rounds]))] U.heap ∧ va_K (dC, dI) vwCl [(cI, .int)] U ∧ NW U ∧ va_D (fun _ => True) [(q_this, .inr (2, [.int v_algorithm, .int v_processes, .int v_mostCrashes, .int v_mostDecisions, .int v_rounds]))])) (va_Qi (fun (r : Int32) (_ : Unit) => r = R) (fun (_ : Unit) t => va_P (dC, dI) vwCl [(q_this, .inr (2, [.int v_algorithm, .int v_processes, .int v_mostCrashes, .int v_mostDecisions, .int v_rounds]))] t.heap ∧ va_K (dC, dI) vwCl [(cI, .int)] t ∧ va_D (va_A [(q_this, .inr (2, [.int v_algorithm, .int v_processes, .int v_mostCrashes, .int v_mostDecisions, .int v_rounds]))] sz) [(q_this, .inr (2, [.int v_algorithm, .int v_processes, .int v_mostCrashes, .int v_mostDecisions, .int v_rounds]))]) (va_A [(q_this, .inr (2, [.int v_algorithm, .int v_processes, .int v_mostCrashes, .int v_mostDecisions, .int v_rounds]))] sz)) 0 0 (va_A [(q_this, .inr (2, [.int v_algorithm, .int v_processes, .int v_mostCrashes, .int v_mostDecisions, .int v_rounds]))] sz) := by
  refine Met.ofW (cc := cX2_isProcess) (maxL := 2) (ret := (some .boolean)) (by decide) rfl ?_
  intro p e s m args below meth c s₁ B hml hv
  obtain ⟨rfl, hsz, hP, hK, hN, hD0⟩ := hv
  have hx := B.exec
  have hb := B.bytes
  have hr := B.returns
  have hts := atoms_spec (ws := wsX2_isProcess) B.pre
  have hown : s.vm.findClass RX2 = some m.cls := findClass_of_methodNamed B.named
  have hlocks := B.notSynchronized
  subst hsz
  have hD := hD0.self (sz := s.heap.size)
  generalize hAe : va_A [(q_this, .inr (2, [.int v_algorithm, .int v_processes, .int v_mostCrashes, .int v_mostDecisions, .int v_rounds]))] s.heap.size = A at hD ⊢
  have hA : ∀ q : Nat, s.heap.size ≤ q → A q := fun q h => by rw [← hAe]; exact Or.inr h
  have hS : va_S A s.heap s.heap [] := va_S.rf
  have hl := lv_entry ([.ref q_this, .int p1]) (n := 2) (Nat.le_of_ble_eq_true rfl)
  rw [lg_entry_eq]
  generalize (lg_sl ([.ref q_this, .int p1]) ++ List.replicate (2 - (lg_sl ([.ref q_this, .int p1])).length) Slot.unset).toArray = ls at hl ⊢
  have hl : lv_has ls 2 [(0, .ref q_this), (1, .int p1)] := hl
  unfold fX2_isProcess at h
  obtain ⟨H, hH⟩ : ∃ H, H = s.heap := ⟨_, rfl⟩
  obtain ⟨locs, hlocs⟩ : ∃ q : List Loc, q = [] := ⟨_, rfl⟩
  suffices hgo : ∀ (H : Heap) (locs : List Loc), va_P (dC, dI) vwCl [(q_this, .inr (2, [.int v_algorithm, .int v_processes, .int v_mostCrashes, .int v_mostDecisions, .int v_rounds]))] H → va_S A s.heap H locs → W p l e (headSpec wsX2_isProcess ({ frames := 0, cells := 0, slots := 0, locals := 0 } : Room)).room s m ([.ref q_this, .int p1] : List Value).toArray below meth c H locs 0 0 (MQ below (va_Qi (fun (r : Int32) (_ : Unit) => r = R) (fun (_ : Unit) t => va_P (dC, dI) vwCl [(q_this, .inr (2, [.int v_algorithm, .int v_processes, .int v_mostCrashes, .int v_mostDecisions, .int v_rounds]))] t.heap ∧ va_K (dC, dI) vwCl [(cI, .int)] t ∧ va_D A [(q_this, .inr (2, [.int v_algorithm, .int v_processes, .int v_mostCrashes, .int v_mostDecisions, .int v_rounds]))]) A) ([.ref q_this, .int p1] : List Value).toArray s 0 0 A) (F0 m 0 ls []) from hgo _ _ hP hS
  clear hH hlocs hP hS
  clear H locs
  intro H locs hP hS
  refine lv_iload_n hx hb dX2_isProcess_0 rfl (lv_at hl 1 rfl) ?_
  refine lv_if_lt (tgt := 16) hx hb dX2_isProcess_1 (by decide) (fun c1 => ?_) (fun c1 => ?_)
  · rw [if_pos c1] at h
    refine lv_iconst (v := 0) hx hb dX2_isProcess_16 (by decide) ?_
    have h := h
    subst h
    exact W.zret (ty := .boolean) (v := (0 : Int32)) hx hb hr rfl (fun t ht hW => ⟨⟨(0 : Int32), (), rfl, rfl, by rw [ht]; exact hP, va_K.moved hW.alike hK, hD⟩, hS.F ht⟩) hS.2.2 dX2_isProcess_17
  · rw [if_neg c1] at h
    refine lv_iload_n hx hb dX2_isProcess_4 rfl (lv_at hl 1 rfl) ?_
    refine lv_aload_n hx hb dX2_isProcess_5 rfl (lv_at hl 0 rfl) ?_
    refine va_get (D := (dC, dI)) (ci := 2) (v := .int v_processes) (C := RX2) (T := TX2) (N := 5) hx hb hts iiX2_isProcess_X2 hown hK hP 0 rfl rfl 1 (by decide) (hts (.fieldLink RX2 15 "CrashRounds$Rules" "processes" "I") (by decide +kernel)) (fun _ h9 => h9) rfl dX2_isProcess_6 ?_
    refine lv_icmp_ge (tgt := 16) hx hb dX2_isProcess_9 (by decide) (fun c2 => ?_) (fun c2 => ?_)
    · rw [if_pos c2] at h
      refine lv_iconst (v := 0) hx hb dX2_isProcess_16 (by decide) ?_
      have h := h
      subst h
      exact W.zret (ty := .boolean) (v := (0 : Int32)) hx hb hr rfl (fun t ht hW => ⟨⟨(0 : Int32), (), rfl, rfl, by rw [ht]; exact hP, va_K.moved hW.alike hK, hD⟩, hS.F ht⟩) hS.2.2 dX2_isProcess_17
    · rw [if_neg c2] at h
      refine lv_iconst (v := 1) hx hb dX2_isProcess_12 (by decide) ?_
      refine lv_goto (tgt := 17) hx hb dX2_isProcess_13 (by decide) ?_
      have h := h
      subst h
      exact W.zret (ty := .boolean) (v := (1 : Int32)) hx hb hr rfl (fun t ht hW => ⟨⟨(1 : Int32), (), rfl, rfl, by rw [ht]; exact hP, va_K.moved hW.alike hK, hD⟩, hS.F ht⟩) hS.2.2 dX2_isProcess_17
theorem iiX2_everyone_X2 : ∀ w ∈ wsX20, w ∈ wsX2_everyone := by decide +kernel
set_option maxHeartbeats 4000000 in
set_option maxRecDepth 100000 in
theorem kX2_everyone (l : Launch) (dC : Nat → ClassId) (dI : Nat → Nat → Nat) (cI : ClassId) (q_this : Nat) (sz : Nat) (v_algorithm : Int32) (v_processes : Int32) (v_mostCrashes : Int32) (v_mostDecisions : Int32) (v_rounds : Int32) (R : Int32) (h : fX2_everyone v_processes = R) : Met l yX2_everyone wsX2_everyone ({ frames := 0, cells := 0, slots := 0, locals := 0 } : Room) (va_Pc [.ref q_this] (fun U => U.heap.size = sz ∧ va_P (dC, dI) vwCl [(q_this, .inr (2, [.int v_algorithm, .int v_processes, .int v_mostCrashes, .int v_mostDecisions, .int v_rounds]))] U.heap ∧ va_K (dC, dI) vwCl [(cI, .int)] U ∧ NW U ∧ va_D (fun _ => True) [(q_this, .inr (2, [.int v_algorithm, .int v_processes, .int v_mostCrashes, .int v_mostDecisions, .int v_rounds]))])) (va_Qi (fun (r : Int32) (_ : Unit) => r = R) (fun (_ : Unit) t => va_P (dC, dI) vwCl [(q_this, .inr (2, [.int v_algorithm, .int v_processes, .int v_mostCrashes, .int v_mostDecisions, .int v_rounds]))] t.heap ∧ va_K (dC, dI) vwCl [(cI, .int)] t ∧ va_D (va_A [(q_this, .inr (2, [.int v_algorithm, .int v_processes, .int v_mostCrashes, .int v_mostDecisions, .int v_rounds]))] sz) [(q_this, .inr (2, [.int v_algorithm, .int v_processes, .int v_mostCrashes, .int v_mostDecisions, .int v_rounds]))]) (va_A [(q_this, .inr (2, [.int v_algorithm, .int v_processes, .int v_mostCrashes, .int v_mostDecisions, .int v_rounds]))] sz)) 0 0 (va_A [(q_this, .inr (2, [.int v_algorithm, .int v_processes, .int v_mostCrashes, .int v_mostDecisions, .int v_rounds]))] sz) := by
  refine Met.ofW (cc := cX2_everyone) (maxL := 1) (ret := (some .int)) (by decide) rfl ?_
  intro p e s m args below meth c s₁ B hml hv
  obtain ⟨rfl, hsz, hP, hK, hN, hD0⟩ := hv
  have hx := B.exec
  have hb := B.bytes
  have hr := B.returns
  have hts := atoms_spec (ws := wsX2_everyone) B.pre
  have hown : s.vm.findClass RX2 = some m.cls := findClass_of_methodNamed B.named
  have hlocks := B.notSynchronized
  subst hsz
  have hD := hD0.self (sz := s.heap.size)
  generalize hAe : va_A [(q_this, .inr (2, [.int v_algorithm, .int v_processes, .int v_mostCrashes, .int v_mostDecisions, .int v_rounds]))] s.heap.size = A at hD ⊢
  have hA : ∀ q : Nat, s.heap.size ≤ q → A q := fun q h => by rw [← hAe]; exact Or.inr h
  have hS : va_S A s.heap s.heap [] := va_S.rf
  have hl := lv_entry ([.ref q_this]) (n := 1) (Nat.le_of_ble_eq_true rfl)
  rw [lg_entry_eq]
  generalize (lg_sl ([.ref q_this]) ++ List.replicate (1 - (lg_sl ([.ref q_this])).length) Slot.unset).toArray = ls at hl ⊢
  have hl : lv_has ls 1 [(0, .ref q_this)] := hl
  unfold fX2_everyone at h
  obtain ⟨H, hH⟩ : ∃ H, H = s.heap := ⟨_, rfl⟩
  obtain ⟨locs, hlocs⟩ : ∃ q : List Loc, q = [] := ⟨_, rfl⟩
  suffices hgo : ∀ (H : Heap) (locs : List Loc), va_P (dC, dI) vwCl [(q_this, .inr (2, [.int v_algorithm, .int v_processes, .int v_mostCrashes, .int v_mostDecisions, .int v_rounds]))] H → va_S A s.heap H locs → W p l e (headSpec wsX2_everyone ({ frames := 0, cells := 0, slots := 0, locals := 0 } : Room)).room s m ([.ref q_this] : List Value).toArray below meth c H locs 0 0 (MQ below (va_Qi (fun (r : Int32) (_ : Unit) => r = R) (fun (_ : Unit) t => va_P (dC, dI) vwCl [(q_this, .inr (2, [.int v_algorithm, .int v_processes, .int v_mostCrashes, .int v_mostDecisions, .int v_rounds]))] t.heap ∧ va_K (dC, dI) vwCl [(cI, .int)] t ∧ va_D A [(q_this, .inr (2, [.int v_algorithm, .int v_processes, .int v_mostCrashes, .int v_mostDecisions, .int v_rounds]))]) A) ([.ref q_this] : List Value).toArray s 0 0 A) (F0 m 0 ls []) from hgo _ _ hP hS
  clear hH hlocs hP hS
  clear H locs
  intro H locs hP hS
  refine lv_iconst (v := 1) hx hb dX2_everyone_0 (by decide) ?_
  refine lv_aload_n hx hb dX2_everyone_1 rfl (lv_at hl 0 rfl) ?_
  refine va_get (D := (dC, dI)) (ci := 2) (v := .int v_processes) (C := RX2) (T := TX2) (N := 5) hx hb hts iiX2_everyone_X2 hown hK hP 0 rfl rfl 1 (by decide) (hts (.fieldLink RX2 15 "CrashRounds$Rules" "processes" "I") (by decide +kernel)) (fun _ h9 => h9) rfl dX2_everyone_2 ?_
  refine lv_ishl hx hb dX2_everyone_5 ?_
  refine lv_iconst (v := 1) hx hb dX2_everyone_6 (by decide) ?_
  refine lv_isub hx hb dX2_everyone_7 ?_
  have h := h
  subst h
  exact W.iret (v := (((1 : Int32) <<< (v_processes &&& 31)) - (1 : Int32))) hx hb hr (fun t ht hW => ⟨⟨(((1 : Int32) <<< (v_processes &&& 31)) - (1 : Int32)), (), rfl, rfl, by rw [ht]; exact hP, va_K.moved hW.alike hK, hD⟩, hS.F ht⟩) hS.2.2 dX2_everyone_8
theorem iiX2_faultsBeside_X2 : ∀ w ∈ wsX20, w ∈ wsX2_faultsBeside := by decide +kernel
set_option maxHeartbeats 4000000 in
set_option maxRecDepth 100000 in
theorem kX2_faultsBeside (l : Launch) (dC : Nat → ClassId) (dI : Nat → Nat → Nat) (cI : ClassId) (q_this : Nat) (sz : Nat) (v_algorithm : Int32) (v_processes : Int32) (v_mostCrashes : Int32) (v_mostDecisions : Int32) (v_rounds : Int32) (p1 : Int32) (R : Int32) (h : fX2_faultsBeside v_processes p1 = R) : Met l yX2_faultsBeside wsX2_faultsBeside ({ frames := 1, cells := 0, slots := 0, locals := 20 } : Room) (va_Pc [.ref q_this, .int p1] (fun U => U.heap.size = sz ∧ va_P (dC, dI) vwCl [(q_this, .inr (2, [.int v_algorithm, .int v_processes, .int v_mostCrashes, .int v_mostDecisions, .int v_rounds]))] U.heap ∧ va_K (dC, dI) vwCl [(cI, .int)] U ∧ NW U ∧ va_D (fun _ => True) [(q_this, .inr (2, [.int v_algorithm, .int v_processes, .int v_mostCrashes, .int v_mostDecisions, .int v_rounds]))])) (va_Qi (fun (r : Int32) (_ : Unit) => r = R) (fun (_ : Unit) t => va_P (dC, dI) vwCl [(q_this, .inr (2, [.int v_algorithm, .int v_processes, .int v_mostCrashes, .int v_mostDecisions, .int v_rounds]))] t.heap ∧ va_K (dC, dI) vwCl [(cI, .int)] t ∧ va_D (va_A [(q_this, .inr (2, [.int v_algorithm, .int v_processes, .int v_mostCrashes, .int v_mostDecisions, .int v_rounds]))] sz) [(q_this, .inr (2, [.int v_algorithm, .int v_processes, .int v_mostCrashes, .int v_mostDecisions, .int v_rounds]))]) (va_A [(q_this, .inr (2, [.int v_algorithm, .int v_processes, .int v_mostCrashes, .int v_mostDecisions, .int v_rounds]))] sz)) 0 0 (va_A [(q_this, .inr (2, [.int v_algorithm, .int v_processes, .int v_mostCrashes, .int v_mostDecisions, .int v_rounds]))] sz) := by
  refine Met.ofW (cc := cX2_faultsBeside) (maxL := 2) (ret := (some .int)) (by decide) rfl ?_
  intro p e s m args below meth c s₁ B hml hv
  obtain ⟨rfl, hsz, hP, hK, hN, hD0⟩ := hv
  have hx := B.exec
  have hb := B.bytes
  have hr := B.returns
  have hts := atoms_spec (ws := wsX2_faultsBeside) B.pre
  have hown : s.vm.findClass RX2 = some m.cls := findClass_of_methodNamed B.named
  have hlocks := B.notSynchronized
  subst hsz
  have hD := hD0.self (sz := s.heap.size)
  generalize hAe : va_A [(q_this, .inr (2, [.int v_algorithm, .int v_processes, .int v_mostCrashes, .int v_mostDecisions, .int v_rounds]))] s.heap.size = A at hD ⊢
  have hA : ∀ q : Nat, s.heap.size ≤ q → A q := fun q h => by rw [← hAe]; exact Or.inr h
  have hS : va_S A s.heap s.heap [] := va_S.rf
  have hl := lv_entry ([.ref q_this, .int p1]) (n := 2) (Nat.le_of_ble_eq_true rfl)
  rw [lg_entry_eq]
  generalize (lg_sl ([.ref q_this, .int p1]) ++ List.replicate (2 - (lg_sl ([.ref q_this, .int p1])).length) Slot.unset).toArray = ls at hl ⊢
  have hl : lv_has ls 2 [(0, .ref q_this), (1, .int p1)] := hl
  unfold fX2_faultsBeside at h
  obtain ⟨H, hH⟩ : ∃ H, H = s.heap := ⟨_, rfl⟩
  obtain ⟨locs, hlocs⟩ : ∃ q : List Loc, q = [] := ⟨_, rfl⟩
  suffices hgo : ∀ (H : Heap) (locs : List Loc), va_P (dC, dI) vwCl [(q_this, .inr (2, [.int v_algorithm, .int v_processes, .int v_mostCrashes, .int v_mostDecisions, .int v_rounds]))] H → va_S A s.heap H locs → W p l e (headSpec wsX2_faultsBeside ({ frames := 1, cells := 0, slots := 0, locals := 20 } : Room)).room s m ([.ref q_this, .int p1] : List Value).toArray below meth c H locs 0 0 (MQ below (va_Qi (fun (r : Int32) (_ : Unit) => r = R) (fun (_ : Unit) t => va_P (dC, dI) vwCl [(q_this, .inr (2, [.int v_algorithm, .int v_processes, .int v_mostCrashes, .int v_mostDecisions, .int v_rounds]))] t.heap ∧ va_K (dC, dI) vwCl [(cI, .int)] t ∧ va_D A [(q_this, .inr (2, [.int v_algorithm, .int v_processes, .int v_mostCrashes, .int v_mostDecisions, .int v_rounds]))]) A) ([.ref q_this, .int p1] : List Value).toArray s 0 0 A) (F0 m 0 ls []) from hgo _ _ hP hS
  clear hH hlocs hP hS
  clear H locs
  intro H locs hP hS
  refine lv_aload_n hx hb dX2_faultsBeside_0 rfl (lv_at hl 0 rfl) ?_
  refine va_get (D := (dC, dI)) (ci := 2) (v := .int v_processes) (C := RX2) (T := TX2) (N := 5) hx hb hts iiX2_faultsBeside_X2 hown hK hP 0 rfl rfl 1 (by decide) (hts (.fieldLink RX2 15 "CrashRounds$Rules" "processes" "I") (by decide +kernel)) (fun _ h9 => h9) rfl dX2_faultsBeside_1 ?_
  refine lv_iload_n hx hb dX2_faultsBeside_4 rfl (lv_at hl 1 rfl) ?_
  have hPc := hP.sub (ws' := []) [] rfl
  have hDc := hD.sub (ws' := []) [] (by decide) rfl
  have hFc := va_free (wc := []) hD hS hA [] rfl
  refine va_calli (va_runS (As := [.int p1]) (rest := [.int v_processes]) ⟨hx, hb, hml, hown, hts⟩ (kJ6_bitCount_0f7a4 l dC dI cI  H.size p1 _ rfl) (va_cwS 1 hts gX2_faultsBeside_J6_bitCount_0f7a4 rfl rfl rfl (by decide +kernel) ⟨Nat.le_of_ble_eq_true rfl, Nat.le_of_ble_eq_true rfl⟩) ⟨pc_blind _ _ _ _ _ _, pc_ok hPc hK hN hDc⟩ rfl rfl hl.1 rfl (lv_room (Nat.le_of_ble_eq_true rfl)) dX2_faultsBeside_5 ⟨Nat.zero_le _, Nat.zero_le _⟩) hS (fun q _ h => hFc q h) hFc (fun r9 u t H1 locs ht hvm hw hB hz1 hk1 hS => ?_)
  obtain ⟨hP1, hK1, hD1⟩ := hB
  rw [ht] at hP1
  have hw : (fJ6_bitCount_0f7a4 p1) = r9 := hw.symm
  subst hw
  obtain ⟨hP, hD⟩ := va_join (wr := [(q_this, .inr (2, [.int v_algorithm, .int v_processes, .int v_mostCrashes, .int v_mostDecisions, .int v_rounds]))]) (w1 := []) hP hD [] [0] rfl rfl (by decide) (by decide) hk1 hFc hP1 hD1
  generalize H1 = H at hP hS ⊢
  have hP : va_P (dC, dI) vwCl [(q_this, .inr (2, [.int v_algorithm, .int v_processes, .int v_mostCrashes, .int v_mostDecisions, .int v_rounds]))] H := hP.sub [0] rfl
  have hD : va_D A [(q_this, .inr (2, [.int v_algorithm, .int v_processes, .int v_mostCrashes, .int v_mostDecisions, .int v_rounds]))] := hD.sub [0] (by decide) rfl
  refine lv_isub hx hb dX2_faultsBeside_8 ?_
  have h := h
  subst h
  exact W.iret (v := (v_processes - (fJ6_bitCount_0f7a4 p1))) hx hb hr (fun t ht hW => ⟨⟨(v_processes - (fJ6_bitCount_0f7a4 p1)), (), rfl, rfl, by rw [ht]; exact hP, va_K.moved hW.alike hK, hD⟩, hS.F ht⟩) hS.2.2 dX2_faultsBeside_9
theorem iiX2_boundFor_X2 : ∀ w ∈ wsX20, w ∈ wsX2_boundFor := by decide +kernel
set_option maxHeartbeats 4000000 in
set_option maxRecDepth 100000 in
theorem kX2_boundFor (l : Launch) (dC : Nat → ClassId) (dI : Nat → Nat → Nat) (cI : ClassId) (q_this : Nat) (sz : Nat) (v_algorithm : Int32) (v_processes : Int32) (v_mostCrashes : Int32) (v_mostDecisions : Int32) (v_rounds : Int32) (p1 : Int32) (R : Int32) (h : fX2_boundFor v_algorithm v_processes v_rounds p1 = R) : Met l yX2_boundFor wsX2_boundFor ({ frames := 2, cells := 0, slots := 0, locals := 41 } : Room) (va_Pc [.ref q_this, .int p1] (fun U => U.heap.size = sz ∧ va_P (dC, dI) vwCl [(q_this, .inr (2, [.int v_algorithm, .int v_processes, .int v_mostCrashes, .int v_mostDecisions, .int v_rounds]))] U.heap ∧ va_K (dC, dI) vwCl [(cI, .int)] U ∧ NW U ∧ va_D (fun _ => True) [(q_this, .inr (2, [.int v_algorithm, .int v_processes, .int v_mostCrashes, .int v_mostDecisions, .int v_rounds]))])) (va_Qi (fun (r : Int32) (_ : Unit) => r = R) (fun (_ : Unit) t => va_P (dC, dI) vwCl [(q_this, .inr (2, [.int v_algorithm, .int v_processes, .int v_mostCrashes, .int v_mostDecisions, .int v_rounds]))] t.heap ∧ va_K (dC, dI) vwCl [(cI, .int)] t ∧ va_D (va_A [(q_this, .inr (2, [.int v_algorithm, .int v_processes, .int v_mostCrashes, .int v_mostDecisions, .int v_rounds]))] sz) [(q_this, .inr (2, [.int v_algorithm, .int v_processes, .int v_mostCrashes, .int v_mostDecisions, .int v_rounds]))]) (va_A [(q_this, .inr (2, [.int v_algorithm, .int v_processes, .int v_mostCrashes, .int v_mostDecisions, .int v_rounds]))] sz)) 0 0 (va_A [(q_this, .inr (2, [.int v_algorithm, .int v_processes, .int v_mostCrashes, .int v_mostDecisions, .int v_rounds]))] sz) := by
  refine Met.ofW (cc := cX2_boundFor) (maxL := 3) (ret := (some .int)) (by decide) rfl ?_
  intro p e s m args below meth c s₁ B hml hv
  obtain ⟨rfl, hsz, hP, hK, hN, hD0⟩ := hv
  have hx := B.exec
  have hb := B.bytes
  have hr := B.returns
  have hts := atoms_spec (ws := wsX2_boundFor) B.pre
  have hown : s.vm.findClass RX2 = some m.cls := findClass_of_methodNamed B.named
  have hlocks := B.notSynchronized
  subst hsz
  have hD := hD0.self (sz := s.heap.size)
  generalize hAe : va_A [(q_this, .inr (2, [.int v_algorithm, .int v_processes, .int v_mostCrashes, .int v_mostDecisions, .int v_rounds]))] s.heap.size = A at hD ⊢
  have hA : ∀ q : Nat, s.heap.size ≤ q → A q := fun q h => by rw [← hAe]; exact Or.inr h
  have hS : va_S A s.heap s.heap [] := va_S.rf
  have hl := lv_entry ([.ref q_this, .int p1]) (n := 3) (Nat.le_of_ble_eq_true rfl)
  rw [lg_entry_eq]
  generalize (lg_sl ([.ref q_this, .int p1]) ++ List.replicate (3 - (lg_sl ([.ref q_this, .int p1])).length) Slot.unset).toArray = ls at hl ⊢
  have hl : lv_has ls 3 [(0, .ref q_this), (1, .int p1)] := hl
  unfold fX2_boundFor at h
  obtain ⟨H, hH⟩ : ∃ H, H = s.heap := ⟨_, rfl⟩
  obtain ⟨locs, hlocs⟩ : ∃ q : List Loc, q = [] := ⟨_, rfl⟩
  suffices hgo : ∀ (H : Heap) (locs : List Loc), va_P (dC, dI) vwCl [(q_this, .inr (2, [.int v_algorithm, .int v_processes, .int v_mostCrashes, .int v_mostDecisions, .int v_rounds]))] H → va_S A s.heap H locs → W p l e (headSpec wsX2_boundFor ({ frames := 2, cells := 0, slots := 0, locals := 41 } : Room)).room s m ([.ref q_this, .int p1] : List Value).toArray below meth c H locs 0 0 (MQ below (va_Qi (fun (r : Int32) (_ : Unit) => r = R) (fun (_ : Unit) t => va_P (dC, dI) vwCl [(q_this, .inr (2, [.int v_algorithm, .int v_processes, .int v_mostCrashes, .int v_mostDecisions, .int v_rounds]))] t.heap ∧ va_K (dC, dI) vwCl [(cI, .int)] t ∧ va_D A [(q_this, .inr (2, [.int v_algorithm, .int v_processes, .int v_mostCrashes, .int v_mostDecisions, .int v_rounds]))]) A) ([.ref q_this, .int p1] : List Value).toArray s 0 0 A) (F0 m 0 ls []) from hgo _ _ hP hS
  clear hH hlocs hP hS
  clear H locs
  intro H locs hP hS
  refine lv_aload_n hx hb dX2_boundFor_0 rfl (lv_at hl 0 rfl) ?_
  refine va_get (D := (dC, dI)) (ci := 2) (v := .int v_algorithm) (C := RX2) (T := TX2) (N := 5) hx hb hts iiX2_boundFor_X2 hown hK hP 0 rfl rfl 0 (by decide) (hts (.fieldLink RX2 9 "CrashRounds$Rules" "algorithm" "I") (by decide +kernel)) (fun _ h9 => h9) rfl dX2_boundFor_1 ?_
  refine lv_iconst (v := 1) hx hb dX2_boundFor_4 (by decide) ?_
  refine lv_icmp_eq (tgt := 16) hx hb dX2_boundFor_5 (by decide) (fun c1 => ?_) (fun c1 => ?_)
  · rw [if_pos c1] at h
    refine lv_iconst (v := 1) hx hb dX2_boundFor_16 (by decide) ?_
    refine lv_goto (tgt := 21) hx hb dX2_boundFor_17 (by decide) ?_
    refine lv_istore_n (lv' := [(2, .int (1 : Int32)), (0, .ref q_this), (1, .int p1)]) hx hb dX2_boundFor_21 rfl hl (by decide) rfl (fun ls hl => ?_)
    refine lv_iload_n hx hb dX2_boundFor_22 rfl (lv_at hl 0 rfl) ?_
    refine lv_if_eq (tgt := 43) hx hb dX2_boundFor_23 (by decide) (fun c9 => absurd c9 (by decide)) (fun _ => ?_)
    refine lv_aload_n hx hb dX2_boundFor_26 rfl (lv_at hl 1 rfl) ?_
    refine lv_iload_n hx hb dX2_boundFor_27 rfl (lv_at hl 2 rfl) ?_
    have hPc := hP.sub (ws' := [(q_this, .inr (2, [.int v_algorithm, .int v_processes, .int v_mostCrashes, .int v_mostDecisions, .int v_rounds]))]) [0] rfl
    have hDc := hD.sub (ws' := [(q_this, .inr (2, [.int v_algorithm, .int v_processes, .int v_mostCrashes, .int v_mostDecisions, .int v_rounds]))]) [0] (by decide) rfl
    have hFc := va_free (wc := [(q_this, .inr (2, [.int v_algorithm, .int v_processes, .int v_mostCrashes, .int v_mostDecisions, .int v_rounds]))]) hD hS hA [0] rfl
    refine va_calli (va_runV (As := [.int p1]) (rest := []) ⟨hx, hb, hml, hown, hts⟩ (kX2_faultsBeside l dC dI cI q_this H.size v_algorithm v_processes v_mostCrashes v_mostDecisions v_rounds p1 _ rfl) (cwV 1 hts gX2_boundFor_X2_faultsBeside rfl rfl rfl (by decide +kernel) ⟨Nat.le_of_ble_eq_true rfl, Nat.le_of_ble_eq_true rfl⟩) ⟨pc_blind _ _ _ _ _ _, va_recv hK hP (ci := 2) (q0 := 0) rfl rfl, pc_ok hPc hK hN hDc⟩ rfl rfl hl.1 rfl (lv_room (Nat.le_of_ble_eq_true rfl)) dX2_boundFor_28 ⟨Nat.zero_le _, Nat.zero_le _⟩) hS (fun q _ h => hFc q h) hFc (fun r9 u t H1 locs ht hvm hw hB hz1 hk1 hS => ?_)
    obtain ⟨hP1, hK1, hD1⟩ := hB
    rw [ht] at hP1
    have hw : (fX2_faultsBeside v_processes p1) = r9 := hw.symm
    subst hw
    obtain ⟨hP, hD⟩ := va_join (wr := []) (w1 := [(q_this, .inr (2, [.int v_algorithm, .int v_processes, .int v_mostCrashes, .int v_mostDecisions, .int v_rounds]))]) hP hD [0] [] rfl rfl (by decide) (by decide) hk1 hFc hP1 hD1
    generalize H1 = H at hP hS ⊢
    have hP : va_P (dC, dI) vwCl [(q_this, .inr (2, [.int v_algorithm, .int v_processes, .int v_mostCrashes, .int v_mostDecisions, .int v_rounds]))] H := hP.sub [0] rfl
    have hD : va_D A [(q_this, .inr (2, [.int v_algorithm, .int v_processes, .int v_mostCrashes, .int v_mostDecisions, .int v_rounds]))] := hD.sub [0] (by decide) rfl
    refine lv_iconst (v := 2) hx hb dX2_boundFor_31 (by decide) ?_
    refine lv_iadd hx hb dX2_boundFor_32 ?_
    refine lv_aload_n hx hb dX2_boundFor_33 rfl (lv_at hl 1 rfl) ?_
    refine va_get (D := (dC, dI)) (ci := 2) (v := .int v_rounds) (C := RX2) (T := TX2) (N := 5) hx hb hts iiX2_boundFor_X2 hown hK hP 0 rfl rfl 4 (by decide) (hts (.fieldLink RX2 30 "CrashRounds$Rules" "rounds" "I") (by decide +kernel)) (fun _ h9 => h9) rfl dX2_boundFor_34 ?_
    refine va_mmin hx hb (by rw [hml]; exact hl.1.symm) hown (hts (.methodLink RX2 42 Lib.Math.min.name) (by decide +kernel)) (hts (.static Lib.Math.min.name) (by decide +kernel)) (hts (.initialized "java/lang/Math") (by decide +kernel)) (hts (.code Lib.Math.min.name Lib.Math.min.code 2 (some .int)) (by decide +kernel)) (Nat.le_of_ble_eq_true rfl) (Nat.le_of_ble_eq_true rfl) (Nat.zero_le _) (Nat.zero_le _) dX2_boundFor_37 ?_
    refine lv_goto (tgt := 47) hx hb dX2_boundFor_40 (by decide) ?_
    have h := h
    subst h
    exact W.iret (v := (if v_rounds < ((fX2_faultsBeside v_processes p1) + (2 : Int32)) then v_rounds else ((fX2_faultsBeside v_processes p1) + (2 : Int32)))) hx hb hr (fun t ht hW => ⟨⟨(if v_rounds < ((fX2_faultsBeside v_processes p1) + (2 : Int32)) then v_rounds else ((fX2_faultsBeside v_processes p1) + (2 : Int32))), (), rfl, rfl, by rw [ht]; exact hP, va_K.moved hW.alike hK, hD⟩, hS.F ht⟩) hS.2.2 dX2_boundFor_47
  · rw [if_neg c1] at h
    refine lv_aload_n hx hb dX2_boundFor_8 rfl (lv_at hl 0 rfl) ?_
    refine va_get (D := (dC, dI)) (ci := 2) (v := .int v_algorithm) (C := RX2) (T := TX2) (N := 5) hx hb hts iiX2_boundFor_X2 hown hK hP 0 rfl rfl 0 (by decide) (hts (.fieldLink RX2 9 "CrashRounds$Rules" "algorithm" "I") (by decide +kernel)) (fun _ h9 => h9) rfl dX2_boundFor_9 ?_
    refine lv_iconst (v := 2) hx hb dX2_boundFor_12 (by decide) ?_
    refine lv_icmp_ne (tgt := 20) hx hb dX2_boundFor_13 (by decide) (fun c2 => ?_) (fun c2 => ?_)
    · rw [if_neg c2] at h
      refine lv_iconst (v := 0) hx hb dX2_boundFor_20 (by decide) ?_
      refine lv_istore_n (lv' := [(2, .int (0 : Int32)), (0, .ref q_this), (1, .int p1)]) hx hb dX2_boundFor_21 rfl hl (by decide) rfl (fun ls hl => ?_)
      refine lv_iload_n hx hb dX2_boundFor_22 rfl (lv_at hl 0 rfl) ?_
      refine lv_if_eq (tgt := 43) hx hb dX2_boundFor_23 (by decide) (fun _ => ?_) (fun c9 => absurd (by decide) c9)
      refine lv_aload_n hx hb dX2_boundFor_43 rfl (lv_at hl 1 rfl) ?_
      refine va_get (D := (dC, dI)) (ci := 2) (v := .int v_rounds) (C := RX2) (T := TX2) (N := 5) hx hb hts iiX2_boundFor_X2 hown hK hP 0 rfl rfl 4 (by decide) (hts (.fieldLink RX2 30 "CrashRounds$Rules" "rounds" "I") (by decide +kernel)) (fun _ h9 => h9) rfl dX2_boundFor_44 ?_
      have h := h
      subst h
      exact W.iret (v := v_rounds) hx hb hr (fun t ht hW => ⟨⟨v_rounds, (), rfl, rfl, by rw [ht]; exact hP, va_K.moved hW.alike hK, hD⟩, hS.F ht⟩) hS.2.2 dX2_boundFor_47
    · rw [if_pos c2] at h
      refine lv_iconst (v := 1) hx hb dX2_boundFor_16 (by decide) ?_
      refine lv_goto (tgt := 21) hx hb dX2_boundFor_17 (by decide) ?_
      refine lv_istore_n (lv' := [(2, .int (1 : Int32)), (0, .ref q_this), (1, .int p1)]) hx hb dX2_boundFor_21 rfl hl (by decide) rfl (fun ls hl => ?_)
      refine lv_iload_n hx hb dX2_boundFor_22 rfl (lv_at hl 0 rfl) ?_
      refine lv_if_eq (tgt := 43) hx hb dX2_boundFor_23 (by decide) (fun c9 => absurd c9 (by decide)) (fun _ => ?_)
      refine lv_aload_n hx hb dX2_boundFor_26 rfl (lv_at hl 1 rfl) ?_
      refine lv_iload_n hx hb dX2_boundFor_27 rfl (lv_at hl 2 rfl) ?_
      have hPc := hP.sub (ws' := [(q_this, .inr (2, [.int v_algorithm, .int v_processes, .int v_mostCrashes, .int v_mostDecisions, .int v_rounds]))]) [0] rfl
      have hDc := hD.sub (ws' := [(q_this, .inr (2, [.int v_algorithm, .int v_processes, .int v_mostCrashes, .int v_mostDecisions, .int v_rounds]))]) [0] (by decide) rfl
      have hFc := va_free (wc := [(q_this, .inr (2, [.int v_algorithm, .int v_processes, .int v_mostCrashes, .int v_mostDecisions, .int v_rounds]))]) hD hS hA [0] rfl
      refine va_calli (va_runV (As := [.int p1]) (rest := []) ⟨hx, hb, hml, hown, hts⟩ (kX2_faultsBeside l dC dI cI q_this H.size v_algorithm v_processes v_mostCrashes v_mostDecisions v_rounds p1 _ rfl) (cwV 1 hts gX2_boundFor_X2_faultsBeside rfl rfl rfl (by decide +kernel) ⟨Nat.le_of_ble_eq_true rfl, Nat.le_of_ble_eq_true rfl⟩) ⟨pc_blind _ _ _ _ _ _, va_recv hK hP (ci := 2) (q0 := 0) rfl rfl, pc_ok hPc hK hN hDc⟩ rfl rfl hl.1 rfl (lv_room (Nat.le_of_ble_eq_true rfl)) dX2_boundFor_28 ⟨Nat.zero_le _, Nat.zero_le _⟩) hS (fun q _ h => hFc q h) hFc (fun r9 u t H1 locs ht hvm hw hB hz1 hk1 hS => ?_)
      obtain ⟨hP1, hK1, hD1⟩ := hB
      rw [ht] at hP1
      have hw : (fX2_faultsBeside v_processes p1) = r9 := hw.symm
      subst hw
      obtain ⟨hP, hD⟩ := va_join (wr := []) (w1 := [(q_this, .inr (2, [.int v_algorithm, .int v_processes, .int v_mostCrashes, .int v_mostDecisions, .int v_rounds]))]) hP hD [0] [] rfl rfl (by decide) (by decide) hk1 hFc hP1 hD1
      generalize H1 = H at hP hS ⊢
      have hP : va_P (dC, dI) vwCl [(q_this, .inr (2, [.int v_algorithm, .int v_processes, .int v_mostCrashes, .int v_mostDecisions, .int v_rounds]))] H := hP.sub [0] rfl
      have hD : va_D A [(q_this, .inr (2, [.int v_algorithm, .int v_processes, .int v_mostCrashes, .int v_mostDecisions, .int v_rounds]))] := hD.sub [0] (by decide) rfl
      refine lv_iconst (v := 2) hx hb dX2_boundFor_31 (by decide) ?_
      refine lv_iadd hx hb dX2_boundFor_32 ?_
      refine lv_aload_n hx hb dX2_boundFor_33 rfl (lv_at hl 1 rfl) ?_
      refine va_get (D := (dC, dI)) (ci := 2) (v := .int v_rounds) (C := RX2) (T := TX2) (N := 5) hx hb hts iiX2_boundFor_X2 hown hK hP 0 rfl rfl 4 (by decide) (hts (.fieldLink RX2 30 "CrashRounds$Rules" "rounds" "I") (by decide +kernel)) (fun _ h9 => h9) rfl dX2_boundFor_34 ?_
      refine va_mmin hx hb (by rw [hml]; exact hl.1.symm) hown (hts (.methodLink RX2 42 Lib.Math.min.name) (by decide +kernel)) (hts (.static Lib.Math.min.name) (by decide +kernel)) (hts (.initialized "java/lang/Math") (by decide +kernel)) (hts (.code Lib.Math.min.name Lib.Math.min.code 2 (some .int)) (by decide +kernel)) (Nat.le_of_ble_eq_true rfl) (Nat.le_of_ble_eq_true rfl) (Nat.zero_le _) (Nat.zero_le _) dX2_boundFor_37 ?_
      refine lv_goto (tgt := 47) hx hb dX2_boundFor_40 (by decide) ?_
      have h := h
      subst h
      exact W.iret (v := (if v_rounds < ((fX2_faultsBeside v_processes p1) + (2 : Int32)) then v_rounds else ((fX2_faultsBeside v_processes p1) + (2 : Int32)))) hx hb hr (fun t ht hW => ⟨⟨(if v_rounds < ((fX2_faultsBeside v_processes p1) + (2 : Int32)) then v_rounds else ((fX2_faultsBeside v_processes p1) + (2 : Int32))), (), rfl, rfl, by rw [ht]; exact hP, va_K.moved hW.alike hK, hD⟩, hS.F ht⟩) hS.2.2 dX2_boundFor_47
theorem iiX2_put_X2 : ∀ w ∈ wsX20, w ∈ wsX2_put := by decide +kernel
set_option maxHeartbeats 4000000 in
set_option maxRecDepth 100000 in
theorem kX2_put (l : Launch) (dC : Nat → ClassId) (dI : Nat → Nat → Nat) (cI : ClassId) (q_this : Nat) (sz : Nat) (v_algorithm : Int32) (v_processes : Int32) (v_mostCrashes : Int32) (v_mostDecisions : Int32) (v_rounds : Int32) (p1 : Int32) (p2 : Int32) (p3 : Int32) (p4 : Int32) (p5 : Int32) (R : Int32 × Int32 × Int32 × Int32 × Int32) (h : fX2_put p1 p2 p3 p4 p5 = some R) : Met l yX2_put wsX2_put ({ frames := 1, cells := 0, slots := 0, locals := 14 } : Room) (va_Pc [.ref q_this, .int p1, .int p2, .int p3, .int p4, .int p5] (fun U => U.heap.size = sz ∧ va_P (dC, dI) vwCl [(q_this, .inr (2, [.int v_algorithm, .int v_processes, .int v_mostCrashes, .int v_mostDecisions, .int v_rounds]))] U.heap ∧ va_K (dC, dI) vwCl [(cI, .int)] U ∧ NW U ∧ va_D (fun _ => True) [(q_this, .inr (2, [.int v_algorithm, .int v_processes, .int v_mostCrashes, .int v_mostDecisions, .int v_rounds]))])) (va_Qv (fun (_ : Unit) => True) (fun (_ : Unit) t => va_P (dC, dI) vwCl [(q_this, .inr (2, [.int R.1, .int R.2.1, .int R.2.2.1, .int R.2.2.2.1, .int R.2.2.2.2]))] t.heap ∧ va_K (dC, dI) vwCl [(cI, .int)] t ∧ va_D (va_A [(q_this, .inr (2, [.int v_algorithm, .int v_processes, .int v_mostCrashes, .int v_mostDecisions, .int v_rounds]))] sz) [(q_this, .inr (2, [.int R.1, .int R.2.1, .int R.2.2.1, .int R.2.2.2.1, .int R.2.2.2.2]))]) (va_A [(q_this, .inr (2, [.int v_algorithm, .int v_processes, .int v_mostCrashes, .int v_mostDecisions, .int v_rounds]))] sz)) 0 0 (va_A [(q_this, .inr (2, [.int v_algorithm, .int v_processes, .int v_mostCrashes, .int v_mostDecisions, .int v_rounds]))] sz) := by
  refine Met.ofW (cc := cX2_put) (maxL := 7) (ret := none) (by decide) rfl ?_
  intro p e s m args below meth c s₁ B hml hv
  obtain ⟨rfl, hsz, hP, hK, hN, hD0⟩ := hv
  have hx := B.exec
  have hb := B.bytes
  have hr := B.returns
  have hts := atoms_spec (ws := wsX2_put) B.pre
  have hown : s.vm.findClass RX2 = some m.cls := findClass_of_methodNamed B.named
  have hlocks := B.notSynchronized
  subst hsz
  have hD := hD0.self (sz := s.heap.size)
  generalize hAe : va_A [(q_this, .inr (2, [.int v_algorithm, .int v_processes, .int v_mostCrashes, .int v_mostDecisions, .int v_rounds]))] s.heap.size = A at hD ⊢
  have hA : ∀ q : Nat, s.heap.size ≤ q → A q := fun q h => by rw [← hAe]; exact Or.inr h
  have hS : va_S A s.heap s.heap [] := va_S.rf
  have hl := lv_entry ([.ref q_this, .int p1, .int p2, .int p3, .int p4, .int p5]) (n := 7) (Nat.le_of_ble_eq_true rfl)
  rw [lg_entry_eq]
  generalize (lg_sl ([.ref q_this, .int p1, .int p2, .int p3, .int p4, .int p5]) ++ List.replicate (7 - (lg_sl ([.ref q_this, .int p1, .int p2, .int p3, .int p4, .int p5])).length) Slot.unset).toArray = ls at hl ⊢
  have hl : lv_has ls 7 [(0, .ref q_this), (1, .int p1), (2, .int p2), (3, .int p3), (4, .int p4), (5, .int p5)] := hl
  unfold fX2_put at h
  obtain ⟨H, hH⟩ : ∃ H, H = s.heap := ⟨_, rfl⟩
  obtain ⟨locs, hlocs⟩ : ∃ q : List Loc, q = [] := ⟨_, rfl⟩
  suffices hgo : ∀ (H : Heap) (locs : List Loc), va_P (dC, dI) vwCl [(q_this, .inr (2, [.int v_algorithm, .int v_processes, .int v_mostCrashes, .int v_mostDecisions, .int v_rounds]))] H → va_S A s.heap H locs → W p l e (headSpec wsX2_put ({ frames := 1, cells := 0, slots := 0, locals := 14 } : Room)).room s m ([.ref q_this, .int p1, .int p2, .int p3, .int p4, .int p5] : List Value).toArray below meth c H locs 0 0 (MQ below (va_Qv (fun (_ : Unit) => True) (fun (_ : Unit) t => va_P (dC, dI) vwCl [(q_this, .inr (2, [.int R.1, .int R.2.1, .int R.2.2.1, .int R.2.2.2.1, .int R.2.2.2.2]))] t.heap ∧ va_K (dC, dI) vwCl [(cI, .int)] t ∧ va_D A [(q_this, .inr (2, [.int R.1, .int R.2.1, .int R.2.2.1, .int R.2.2.2.1, .int R.2.2.2.2]))]) A) ([.ref q_this, .int p1, .int p2, .int p3, .int p4, .int p5] : List Value).toArray s 0 0 A) (F0 m 0 ls []) from hgo _ _ hP hS
  clear hH hlocs hP hS
  clear H locs
  intro H locs hP hS
  refine lv_aload_n hx hb dX2_put_0 rfl (lv_at hl 0 rfl) ?_
  refine lv_iload_n hx hb dX2_put_1 rfl (lv_at hl 1 rfl) ?_
  refine va_put (D := (dC, dI)) (ci := 2) (v := .int p1) (ty := .int) (C := RX2) (T := TX2) (N := 5) hx hb hts iiX2_put_X2 tyX2 tyX2_ok nmX2 hown hK hP hD hS 0 rfl rfl 0 (by decide) (hts (.fieldLink RX2 9 "CrashRounds$Rules" "algorithm" "I") (by decide +kernel)) (fun _ h9 => h9) rfl (by decide +kernel) rfl rfl (Nat.le_of_ble_eq_true rfl) dX2_put_2 (fun H locs hP hD hS => ?_)
  have hP : va_P (dC, dI) vwCl [(q_this, .inr (2, [.int p1, .int v_processes, .int v_mostCrashes, .int v_mostDecisions, .int v_rounds]))] H := hP
  have hD : va_D A [(q_this, .inr (2, [.int p1, .int v_processes, .int v_mostCrashes, .int v_mostDecisions, .int v_rounds]))] := hD
  refine lv_aload_n hx hb dX2_put_5 rfl (lv_at hl 0 rfl) ?_
  refine lv_iload_n hx hb dX2_put_6 rfl (lv_at hl 2 rfl) ?_
  refine va_put (D := (dC, dI)) (ci := 2) (v := .int p2) (ty := .int) (C := RX2) (T := TX2) (N := 5) hx hb hts iiX2_put_X2 tyX2 tyX2_ok nmX2 hown hK hP hD hS 0 rfl rfl 1 (by decide) (hts (.fieldLink RX2 15 "CrashRounds$Rules" "processes" "I") (by decide +kernel)) (fun _ h9 => h9) rfl (by decide +kernel) rfl rfl (Nat.le_of_ble_eq_true rfl) dX2_put_7 (fun H locs hP hD hS => ?_)
  have hP : va_P (dC, dI) vwCl [(q_this, .inr (2, [.int p1, .int p2, .int v_mostCrashes, .int v_mostDecisions, .int v_rounds]))] H := hP
  have hD : va_D A [(q_this, .inr (2, [.int p1, .int p2, .int v_mostCrashes, .int v_mostDecisions, .int v_rounds]))] := hD
  refine lv_aload_n hx hb dX2_put_10 rfl (lv_at hl 0 rfl) ?_
  refine lv_iload_n hx hb dX2_put_11 rfl (lv_at hl 3 rfl) ?_
  refine va_put (D := (dC, dI)) (ci := 2) (v := .int p3) (ty := .int) (C := RX2) (T := TX2) (N := 5) hx hb hts iiX2_put_X2 tyX2 tyX2_ok nmX2 hown hK hP hD hS 0 rfl rfl 2 (by decide) (hts (.fieldLink RX2 18 "CrashRounds$Rules" "mostCrashes" "I") (by decide +kernel)) (fun _ h9 => h9) rfl (by decide +kernel) rfl rfl (Nat.le_of_ble_eq_true rfl) dX2_put_12 (fun H locs hP hD hS => ?_)
  have hP : va_P (dC, dI) vwCl [(q_this, .inr (2, [.int p1, .int p2, .int p3, .int v_mostDecisions, .int v_rounds]))] H := hP
  have hD : va_D A [(q_this, .inr (2, [.int p1, .int p2, .int p3, .int v_mostDecisions, .int v_rounds]))] := hD
  refine lv_aload_n hx hb dX2_put_15 rfl (lv_at hl 0 rfl) ?_
  refine lv_iload_n hx hb dX2_put_16 rfl (lv_at hl 1 rfl) ?_
  refine lv_iconst (v := 3) hx hb dX2_put_17 (by decide) ?_
  refine lv_icmp_ne (tgt := 26) hx hb dX2_put_18 (by decide) (fun c1 => ?_) (fun c1 => ?_)
  · rw [if_neg c1] at h
    refine lv_iconst (v := 1) hx hb dX2_put_26 (by decide) ?_
    refine va_put (D := (dC, dI)) (ci := 2) (v := .int (1 : Int32)) (ty := .int) (C := RX2) (T := TX2) (N := 5) hx hb hts iiX2_put_X2 tyX2 tyX2_ok nmX2 hown hK hP hD hS 0 rfl rfl 3 (by decide) (hts (.fieldLink RX2 21 "CrashRounds$Rules" "mostDecisions" "I") (by decide +kernel)) (fun _ h9 => h9) rfl (by decide +kernel) rfl rfl (Nat.le_of_ble_eq_true rfl) dX2_put_27 (fun H locs hP hD hS => ?_)
    have hP : va_P (dC, dI) vwCl [(q_this, .inr (2, [.int p1, .int p2, .int p3, .int (1 : Int32), .int v_rounds]))] H := hP
    have hD : va_D A [(q_this, .inr (2, [.int p1, .int p2, .int p3, .int (1 : Int32), .int v_rounds]))] := hD
    refine lv_iload_n hx hb dX2_put_30 rfl (lv_at hl 1 rfl) ?_
    refine lv_iconst (v := 3) hx hb dX2_put_31 (by decide) ?_
    refine lv_icmp_ne (tgt := 47) hx hb dX2_put_32 (by decide) (fun c2 => ?_) (fun c2 => ?_)
    · rw [if_neg c2] at h
      refine lv_iload_n hx hb dX2_put_47 rfl (lv_at hl 3 rfl) ?_
      refine lv_istore (lv' := [(6, .int p3), (0, .ref q_this), (1, .int p1), (2, .int p2), (3, .int p3), (4, .int p4), (5, .int p5)]) hx hb dX2_put_48 hl (by decide) rfl (fun ls hl => ?_)
      refine lv_aload_n hx hb dX2_put_50 rfl (lv_at hl 1 rfl) ?_
      refine lv_iconst (v := 1) hx hb dX2_put_51 (by decide) ?_
      refine lv_iload hx hb dX2_put_52 (lv_at hl 0 rfl) ?_
      refine lv_iconst (v := 1) hx hb dX2_put_54 (by decide) ?_
      refine lv_iadd hx hb dX2_put_55 ?_
      refine lv_iload hx hb dX2_put_56 (lv_at hl 6 rfl) ?_
      refine lv_isub hx hb dX2_put_58 ?_
      refine va_mmax hx hb (by rw [hml]; exact hl.1.symm) hown (hts (.methodLink RX2 24 Lib.Math.max.name) (by decide +kernel)) (hts (.static Lib.Math.max.name) (by decide +kernel)) (hts (.initialized "java/lang/Math") (by decide +kernel)) (hts (.code Lib.Math.max.name Lib.Math.max.code 2 (some .int)) (by decide +kernel)) (Nat.le_of_ble_eq_true rfl) (Nat.le_of_ble_eq_true rfl) (Nat.zero_le _) (Nat.zero_le _) dX2_put_59 ?_
      refine va_put (D := (dC, dI)) (ci := 2) (v := .int (if (1 : Int32) < ((p3 + (1 : Int32)) - p5) then ((p3 + (1 : Int32)) - p5) else (1 : Int32))) (ty := .int) (C := RX2) (T := TX2) (N := 5) hx hb hts iiX2_put_X2 tyX2 tyX2_ok nmX2 hown hK hP hD hS 0 rfl rfl 4 (by decide) (hts (.fieldLink RX2 30 "CrashRounds$Rules" "rounds" "I") (by decide +kernel)) (fun _ h9 => h9) rfl (by decide +kernel) rfl rfl (Nat.le_of_ble_eq_true rfl) dX2_put_62 (fun H locs hP hD hS => ?_)
      have hP : va_P (dC, dI) vwCl [(q_this, .inr (2, [.int p1, .int p2, .int p3, .int (1 : Int32), .int (if (1 : Int32) < ((p3 + (1 : Int32)) - p5) then ((p3 + (1 : Int32)) - p5) else (1 : Int32))]))] H := hP
      have hD : va_D A [(q_this, .inr (2, [.int p1, .int p2, .int p3, .int (1 : Int32), .int (if (1 : Int32) < ((p3 + (1 : Int32)) - p5) then ((p3 + (1 : Int32)) - p5) else (1 : Int32))]))] := hD
      have h := Option.some.inj h
      subst h
      exact W.vret hx hb hr (fun t ht hW => ⟨⟨(), rfl, trivial, by rw [ht]; exact hP, va_K.moved hW.alike hK, hD⟩, hS.F ht⟩) hS.2.2 dX2_put_65
    · rw [if_pos c2] at h
      refine lv_iload hx hb dX2_put_35 (lv_at hl 4 rfl) ?_
      refine lv_if_le (tgt := 47) hx hb dX2_put_37 (by decide) (fun c3 => ?_) (fun c3 => ?_)
      · rw [if_pos c3] at h
        refine lv_iload_n hx hb dX2_put_47 rfl (lv_at hl 3 rfl) ?_
        refine lv_istore (lv' := [(6, .int p3), (0, .ref q_this), (1, .int p1), (2, .int p2), (3, .int p3), (4, .int p4), (5, .int p5)]) hx hb dX2_put_48 hl (by decide) rfl (fun ls hl => ?_)
        refine lv_aload_n hx hb dX2_put_50 rfl (lv_at hl 1 rfl) ?_
        refine lv_iconst (v := 1) hx hb dX2_put_51 (by decide) ?_
        refine lv_iload hx hb dX2_put_52 (lv_at hl 0 rfl) ?_
        refine lv_iconst (v := 1) hx hb dX2_put_54 (by decide) ?_
        refine lv_iadd hx hb dX2_put_55 ?_
        refine lv_iload hx hb dX2_put_56 (lv_at hl 6 rfl) ?_
        refine lv_isub hx hb dX2_put_58 ?_
        refine va_mmax hx hb (by rw [hml]; exact hl.1.symm) hown (hts (.methodLink RX2 24 Lib.Math.max.name) (by decide +kernel)) (hts (.static Lib.Math.max.name) (by decide +kernel)) (hts (.initialized "java/lang/Math") (by decide +kernel)) (hts (.code Lib.Math.max.name Lib.Math.max.code 2 (some .int)) (by decide +kernel)) (Nat.le_of_ble_eq_true rfl) (Nat.le_of_ble_eq_true rfl) (Nat.zero_le _) (Nat.zero_le _) dX2_put_59 ?_
        refine va_put (D := (dC, dI)) (ci := 2) (v := .int (if (1 : Int32) < ((p3 + (1 : Int32)) - p5) then ((p3 + (1 : Int32)) - p5) else (1 : Int32))) (ty := .int) (C := RX2) (T := TX2) (N := 5) hx hb hts iiX2_put_X2 tyX2 tyX2_ok nmX2 hown hK hP hD hS 0 rfl rfl 4 (by decide) (hts (.fieldLink RX2 30 "CrashRounds$Rules" "rounds" "I") (by decide +kernel)) (fun _ h9 => h9) rfl (by decide +kernel) rfl rfl (Nat.le_of_ble_eq_true rfl) dX2_put_62 (fun H locs hP hD hS => ?_)
        have hP : va_P (dC, dI) vwCl [(q_this, .inr (2, [.int p1, .int p2, .int p3, .int (1 : Int32), .int (if (1 : Int32) < ((p3 + (1 : Int32)) - p5) then ((p3 + (1 : Int32)) - p5) else (1 : Int32))]))] H := hP
        have hD : va_D A [(q_this, .inr (2, [.int p1, .int p2, .int p3, .int (1 : Int32), .int (if (1 : Int32) < ((p3 + (1 : Int32)) - p5) then ((p3 + (1 : Int32)) - p5) else (1 : Int32))]))] := hD
        have h := Option.some.inj h
        subst h
        exact W.vret hx hb hr (fun t ht hW => ⟨⟨(), rfl, trivial, by rw [ht]; exact hP, va_K.moved hW.alike hK, hD⟩, hS.F ht⟩) hS.2.2 dX2_put_65
      · rw [if_neg c3] at h
        refine lv_iload_n hx hb dX2_put_40 rfl (lv_at hl 3 rfl) ?_
        refine lv_iload hx hb dX2_put_41 (lv_at hl 4 rfl) ?_
        obtain ⟨hn4, h⟩ := ifn_s h
        refine lv_idiv hx hb dX2_put_43 hn4 ?_
        refine lv_goto (tgt := 48) hx hb dX2_put_44 (by decide) ?_
        refine lv_istore (lv' := [(6, .int (p3 / p4)), (0, .ref q_this), (1, .int p1), (2, .int p2), (3, .int p3), (4, .int p4), (5, .int p5)]) hx hb dX2_put_48 hl (by decide) rfl (fun ls hl => ?_)
        refine lv_aload_n hx hb dX2_put_50 rfl (lv_at hl 1 rfl) ?_
        refine lv_iconst (v := 1) hx hb dX2_put_51 (by decide) ?_
        refine lv_iload hx hb dX2_put_52 (lv_at hl 0 rfl) ?_
        refine lv_iconst (v := 1) hx hb dX2_put_54 (by decide) ?_
        refine lv_iadd hx hb dX2_put_55 ?_
        refine lv_iload hx hb dX2_put_56 (lv_at hl 6 rfl) ?_
        refine lv_isub hx hb dX2_put_58 ?_
        refine va_mmax hx hb (by rw [hml]; exact hl.1.symm) hown (hts (.methodLink RX2 24 Lib.Math.max.name) (by decide +kernel)) (hts (.static Lib.Math.max.name) (by decide +kernel)) (hts (.initialized "java/lang/Math") (by decide +kernel)) (hts (.code Lib.Math.max.name Lib.Math.max.code 2 (some .int)) (by decide +kernel)) (Nat.le_of_ble_eq_true rfl) (Nat.le_of_ble_eq_true rfl) (Nat.zero_le _) (Nat.zero_le _) dX2_put_59 ?_
        refine va_put (D := (dC, dI)) (ci := 2) (v := .int (if (1 : Int32) < (((p3 / p4) + (1 : Int32)) - p5) then (((p3 / p4) + (1 : Int32)) - p5) else (1 : Int32))) (ty := .int) (C := RX2) (T := TX2) (N := 5) hx hb hts iiX2_put_X2 tyX2 tyX2_ok nmX2 hown hK hP hD hS 0 rfl rfl 4 (by decide) (hts (.fieldLink RX2 30 "CrashRounds$Rules" "rounds" "I") (by decide +kernel)) (fun _ h9 => h9) rfl (by decide +kernel) rfl rfl (Nat.le_of_ble_eq_true rfl) dX2_put_62 (fun H locs hP hD hS => ?_)
        have hP : va_P (dC, dI) vwCl [(q_this, .inr (2, [.int p1, .int p2, .int p3, .int (1 : Int32), .int (if (1 : Int32) < (((p3 / p4) + (1 : Int32)) - p5) then (((p3 / p4) + (1 : Int32)) - p5) else (1 : Int32))]))] H := hP
        have hD : va_D A [(q_this, .inr (2, [.int p1, .int p2, .int p3, .int (1 : Int32), .int (if (1 : Int32) < (((p3 / p4) + (1 : Int32)) - p5) then (((p3 / p4) + (1 : Int32)) - p5) else (1 : Int32))]))] := hD
        have h := Option.some.inj h
        subst h
        exact W.vret hx hb hr (fun t ht hW => ⟨⟨(), rfl, trivial, by rw [ht]; exact hP, va_K.moved hW.alike hK, hD⟩, hS.F ht⟩) hS.2.2 dX2_put_65
  · rw [if_pos c1] at h
    refine lv_iload hx hb dX2_put_21 (lv_at hl 4 rfl) ?_
    refine lv_goto (tgt := 27) hx hb dX2_put_23 (by decide) ?_
    refine va_put (D := (dC, dI)) (ci := 2) (v := .int p4) (ty := .int) (C := RX2) (T := TX2) (N := 5) hx hb hts iiX2_put_X2 tyX2 tyX2_ok nmX2 hown hK hP hD hS 0 rfl rfl 3 (by decide) (hts (.fieldLink RX2 21 "CrashRounds$Rules" "mostDecisions" "I") (by decide +kernel)) (fun _ h9 => h9) rfl (by decide +kernel) rfl rfl (Nat.le_of_ble_eq_true rfl) dX2_put_27 (fun H locs hP hD hS => ?_)
    have hP : va_P (dC, dI) vwCl [(q_this, .inr (2, [.int p1, .int p2, .int p3, .int p4, .int v_rounds]))] H := hP
    have hD : va_D A [(q_this, .inr (2, [.int p1, .int p2, .int p3, .int p4, .int v_rounds]))] := hD
    refine lv_iload_n hx hb dX2_put_30 rfl (lv_at hl 1 rfl) ?_
    refine lv_iconst (v := 3) hx hb dX2_put_31 (by decide) ?_
    refine lv_icmp_ne (tgt := 47) hx hb dX2_put_32 (by decide) (fun c5 => ?_) (fun c5 => ?_)
    · rw [if_neg c5] at h
      refine lv_iload_n hx hb dX2_put_47 rfl (lv_at hl 3 rfl) ?_
      refine lv_istore (lv' := [(6, .int p3), (0, .ref q_this), (1, .int p1), (2, .int p2), (3, .int p3), (4, .int p4), (5, .int p5)]) hx hb dX2_put_48 hl (by decide) rfl (fun ls hl => ?_)
      refine lv_aload_n hx hb dX2_put_50 rfl (lv_at hl 1 rfl) ?_
      refine lv_iconst (v := 1) hx hb dX2_put_51 (by decide) ?_
      refine lv_iload hx hb dX2_put_52 (lv_at hl 0 rfl) ?_
      refine lv_iconst (v := 1) hx hb dX2_put_54 (by decide) ?_
      refine lv_iadd hx hb dX2_put_55 ?_
      refine lv_iload hx hb dX2_put_56 (lv_at hl 6 rfl) ?_
      refine lv_isub hx hb dX2_put_58 ?_
      refine va_mmax hx hb (by rw [hml]; exact hl.1.symm) hown (hts (.methodLink RX2 24 Lib.Math.max.name) (by decide +kernel)) (hts (.static Lib.Math.max.name) (by decide +kernel)) (hts (.initialized "java/lang/Math") (by decide +kernel)) (hts (.code Lib.Math.max.name Lib.Math.max.code 2 (some .int)) (by decide +kernel)) (Nat.le_of_ble_eq_true rfl) (Nat.le_of_ble_eq_true rfl) (Nat.zero_le _) (Nat.zero_le _) dX2_put_59 ?_
      refine va_put (D := (dC, dI)) (ci := 2) (v := .int (if (1 : Int32) < ((p3 + (1 : Int32)) - p5) then ((p3 + (1 : Int32)) - p5) else (1 : Int32))) (ty := .int) (C := RX2) (T := TX2) (N := 5) hx hb hts iiX2_put_X2 tyX2 tyX2_ok nmX2 hown hK hP hD hS 0 rfl rfl 4 (by decide) (hts (.fieldLink RX2 30 "CrashRounds$Rules" "rounds" "I") (by decide +kernel)) (fun _ h9 => h9) rfl (by decide +kernel) rfl rfl (Nat.le_of_ble_eq_true rfl) dX2_put_62 (fun H locs hP hD hS => ?_)
      have hP : va_P (dC, dI) vwCl [(q_this, .inr (2, [.int p1, .int p2, .int p3, .int p4, .int (if (1 : Int32) < ((p3 + (1 : Int32)) - p5) then ((p3 + (1 : Int32)) - p5) else (1 : Int32))]))] H := hP
      have hD : va_D A [(q_this, .inr (2, [.int p1, .int p2, .int p3, .int p4, .int (if (1 : Int32) < ((p3 + (1 : Int32)) - p5) then ((p3 + (1 : Int32)) - p5) else (1 : Int32))]))] := hD
      have h := Option.some.inj h
      subst h
      exact W.vret hx hb hr (fun t ht hW => ⟨⟨(), rfl, trivial, by rw [ht]; exact hP, va_K.moved hW.alike hK, hD⟩, hS.F ht⟩) hS.2.2 dX2_put_65
    · rw [if_pos c5] at h
      refine lv_iload hx hb dX2_put_35 (lv_at hl 4 rfl) ?_
      refine lv_if_le (tgt := 47) hx hb dX2_put_37 (by decide) (fun c6 => ?_) (fun c6 => ?_)
      · rw [if_pos c6] at h
        refine lv_iload_n hx hb dX2_put_47 rfl (lv_at hl 3 rfl) ?_
        refine lv_istore (lv' := [(6, .int p3), (0, .ref q_this), (1, .int p1), (2, .int p2), (3, .int p3), (4, .int p4), (5, .int p5)]) hx hb dX2_put_48 hl (by decide) rfl (fun ls hl => ?_)
        refine lv_aload_n hx hb dX2_put_50 rfl (lv_at hl 1 rfl) ?_
        refine lv_iconst (v := 1) hx hb dX2_put_51 (by decide) ?_
        refine lv_iload hx hb dX2_put_52 (lv_at hl 0 rfl) ?_
        refine lv_iconst (v := 1) hx hb dX2_put_54 (by decide) ?_
        refine lv_iadd hx hb dX2_put_55 ?_
        refine lv_iload hx hb dX2_put_56 (lv_at hl 6 rfl) ?_
        refine lv_isub hx hb dX2_put_58 ?_
        refine va_mmax hx hb (by rw [hml]; exact hl.1.symm) hown (hts (.methodLink RX2 24 Lib.Math.max.name) (by decide +kernel)) (hts (.static Lib.Math.max.name) (by decide +kernel)) (hts (.initialized "java/lang/Math") (by decide +kernel)) (hts (.code Lib.Math.max.name Lib.Math.max.code 2 (some .int)) (by decide +kernel)) (Nat.le_of_ble_eq_true rfl) (Nat.le_of_ble_eq_true rfl) (Nat.zero_le _) (Nat.zero_le _) dX2_put_59 ?_
        refine va_put (D := (dC, dI)) (ci := 2) (v := .int (if (1 : Int32) < ((p3 + (1 : Int32)) - p5) then ((p3 + (1 : Int32)) - p5) else (1 : Int32))) (ty := .int) (C := RX2) (T := TX2) (N := 5) hx hb hts iiX2_put_X2 tyX2 tyX2_ok nmX2 hown hK hP hD hS 0 rfl rfl 4 (by decide) (hts (.fieldLink RX2 30 "CrashRounds$Rules" "rounds" "I") (by decide +kernel)) (fun _ h9 => h9) rfl (by decide +kernel) rfl rfl (Nat.le_of_ble_eq_true rfl) dX2_put_62 (fun H locs hP hD hS => ?_)
        have hP : va_P (dC, dI) vwCl [(q_this, .inr (2, [.int p1, .int p2, .int p3, .int p4, .int (if (1 : Int32) < ((p3 + (1 : Int32)) - p5) then ((p3 + (1 : Int32)) - p5) else (1 : Int32))]))] H := hP
        have hD : va_D A [(q_this, .inr (2, [.int p1, .int p2, .int p3, .int p4, .int (if (1 : Int32) < ((p3 + (1 : Int32)) - p5) then ((p3 + (1 : Int32)) - p5) else (1 : Int32))]))] := hD
        have h := Option.some.inj h
        subst h
        exact W.vret hx hb hr (fun t ht hW => ⟨⟨(), rfl, trivial, by rw [ht]; exact hP, va_K.moved hW.alike hK, hD⟩, hS.F ht⟩) hS.2.2 dX2_put_65
      · rw [if_neg c6] at h
        refine lv_iload_n hx hb dX2_put_40 rfl (lv_at hl 3 rfl) ?_
        refine lv_iload hx hb dX2_put_41 (lv_at hl 4 rfl) ?_
        obtain ⟨hn7, h⟩ := ifn_s h
        refine lv_idiv hx hb dX2_put_43 hn7 ?_
        refine lv_goto (tgt := 48) hx hb dX2_put_44 (by decide) ?_
        refine lv_istore (lv' := [(6, .int (p3 / p4)), (0, .ref q_this), (1, .int p1), (2, .int p2), (3, .int p3), (4, .int p4), (5, .int p5)]) hx hb dX2_put_48 hl (by decide) rfl (fun ls hl => ?_)
        refine lv_aload_n hx hb dX2_put_50 rfl (lv_at hl 1 rfl) ?_
        refine lv_iconst (v := 1) hx hb dX2_put_51 (by decide) ?_
        refine lv_iload hx hb dX2_put_52 (lv_at hl 0 rfl) ?_
        refine lv_iconst (v := 1) hx hb dX2_put_54 (by decide) ?_
        refine lv_iadd hx hb dX2_put_55 ?_
        refine lv_iload hx hb dX2_put_56 (lv_at hl 6 rfl) ?_
        refine lv_isub hx hb dX2_put_58 ?_
        refine va_mmax hx hb (by rw [hml]; exact hl.1.symm) hown (hts (.methodLink RX2 24 Lib.Math.max.name) (by decide +kernel)) (hts (.static Lib.Math.max.name) (by decide +kernel)) (hts (.initialized "java/lang/Math") (by decide +kernel)) (hts (.code Lib.Math.max.name Lib.Math.max.code 2 (some .int)) (by decide +kernel)) (Nat.le_of_ble_eq_true rfl) (Nat.le_of_ble_eq_true rfl) (Nat.zero_le _) (Nat.zero_le _) dX2_put_59 ?_
        refine va_put (D := (dC, dI)) (ci := 2) (v := .int (if (1 : Int32) < (((p3 / p4) + (1 : Int32)) - p5) then (((p3 / p4) + (1 : Int32)) - p5) else (1 : Int32))) (ty := .int) (C := RX2) (T := TX2) (N := 5) hx hb hts iiX2_put_X2 tyX2 tyX2_ok nmX2 hown hK hP hD hS 0 rfl rfl 4 (by decide) (hts (.fieldLink RX2 30 "CrashRounds$Rules" "rounds" "I") (by decide +kernel)) (fun _ h9 => h9) rfl (by decide +kernel) rfl rfl (Nat.le_of_ble_eq_true rfl) dX2_put_62 (fun H locs hP hD hS => ?_)
        have hP : va_P (dC, dI) vwCl [(q_this, .inr (2, [.int p1, .int p2, .int p3, .int p4, .int (if (1 : Int32) < (((p3 / p4) + (1 : Int32)) - p5) then (((p3 / p4) + (1 : Int32)) - p5) else (1 : Int32))]))] H := hP
        have hD : va_D A [(q_this, .inr (2, [.int p1, .int p2, .int p3, .int p4, .int (if (1 : Int32) < (((p3 / p4) + (1 : Int32)) - p5) then (((p3 / p4) + (1 : Int32)) - p5) else (1 : Int32))]))] := hD
        have h := Option.some.inj h
        subst h
        exact W.vret hx hb hr (fun t ht hW => ⟨⟨(), rfl, trivial, by rw [ht]; exact hP, va_K.moved hW.alike hK, hD⟩, hS.F ht⟩) hS.2.2 dX2_put_65
set_option maxHeartbeats 4000000 in
set_option maxRecDepth 100000 in
theorem kX5_areRules (l : Launch) (dC : Nat → ClassId) (dI : Nat → Nat → Nat) (cI : ClassId) (sz : Nat) (p1 : Int32) (p2 : Int32) (p3 : Int32) (p4 : Int32) (p5 : Int32) (R : Int32) (h : fX5_areRules p1 p2 p3 p4 p5 = R) : Met l yX5_areRules wsX5_areRules ({ frames := 1, cells := 0, slots := 0, locals := 22 } : Room) (va_Pc [.int p1, .int p2, .int p3, .int p4, .int p5] (fun U => U.heap.size = sz ∧ va_P (dC, dI) vwCl [] U.heap ∧ va_K (dC, dI) vwCl [(cI, .int)] U ∧ NW U ∧ va_D (fun _ => True) [])) (va_Qi (fun (r : Int32) (_ : Unit) => r = R) (fun (_ : Unit) t => va_P (dC, dI) vwCl [] t.heap ∧ va_K (dC, dI) vwCl [(cI, .int)] t ∧ va_D (va_A [] sz) []) (va_A [] sz)) 0 0 (va_A [] sz) := by
  refine Met.ofW (cc := cX5_areRules) (maxL := 5) (ret := (some .boolean)) (by decide) rfl ?_
  intro p e s m args below meth c s₁ B hml hv
  obtain ⟨rfl, hsz, hP, hK, hN, hD0⟩ := hv
  have hx := B.exec
  have hb := B.bytes
  have hr := B.returns
  have hts := atoms_spec (ws := wsX5_areRules) B.pre
  have hown : s.vm.findClass RX5 = some m.cls := findClass_of_methodNamed B.named
  have hlocks := B.notSynchronized
  subst hsz
  have hD := hD0.self (sz := s.heap.size)
  generalize hAe : va_A [] s.heap.size = A at hD ⊢
  have hA : ∀ q : Nat, s.heap.size ≤ q → A q := fun q h => by rw [← hAe]; exact Or.inr h
  have hS : va_S A s.heap s.heap [] := va_S.rf
  have hl := lv_entry ([.int p1, .int p2, .int p3, .int p4, .int p5]) (n := 5) (Nat.le_of_ble_eq_true rfl)
  rw [lg_entry_eq]
  generalize (lg_sl ([.int p1, .int p2, .int p3, .int p4, .int p5]) ++ List.replicate (5 - (lg_sl ([.int p1, .int p2, .int p3, .int p4, .int p5])).length) Slot.unset).toArray = ls at hl ⊢
  have hl : lv_has ls 5 [(0, .int p1), (1, .int p2), (2, .int p3), (3, .int p4), (4, .int p5)] := hl
  unfold fX5_areRules at h
  obtain ⟨H, hH⟩ : ∃ H, H = s.heap := ⟨_, rfl⟩
  obtain ⟨locs, hlocs⟩ : ∃ q : List Loc, q = [] := ⟨_, rfl⟩
  suffices hgo : ∀ (H : Heap) (locs : List Loc), va_P (dC, dI) vwCl [] H → va_S A s.heap H locs → W p l e (headSpec wsX5_areRules ({ frames := 1, cells := 0, slots := 0, locals := 22 } : Room)).room s m ([.int p1, .int p2, .int p3, .int p4, .int p5] : List Value).toArray below meth c H locs 0 0 (MQ below (va_Qi (fun (r : Int32) (_ : Unit) => r = R) (fun (_ : Unit) t => va_P (dC, dI) vwCl [] t.heap ∧ va_K (dC, dI) vwCl [(cI, .int)] t ∧ va_D A []) A) ([.int p1, .int p2, .int p3, .int p4, .int p5] : List Value).toArray s 0 0 A) (F0 m 0 ls []) from hgo _ _ hP hS
  clear hH hlocs hP hS
  clear H locs
  intro H locs hP hS
  refine lv_iload_n hx hb dX5_areRules_0 rfl (lv_at hl 0 rfl) ?_
  refine lv_iconst (v := 0) hx hb dX5_areRules_1 (by decide) ?_
  refine lv_bipush (v := 6) hx hb dX5_areRules_2 (by decide) ?_
  have hPc := hP.sub (ws' := []) [] rfl
  have hDc := hD.sub (ws' := []) [] (by decide) rfl
  have hFc := va_free (wc := []) hD hS hA [] rfl
  refine va_calli (va_runS (As := [.int p1, .int (0 : Int32), .int (6 : Int32)]) (rest := []) ⟨hx, hb, hml, hown, hts⟩ (kX5_isWithin l dC dI cI  H.size p1 (0 : Int32) (6 : Int32) _ rfl) (va_cwS 3 hts gX5_areRules_X5_isWithin rfl rfl rfl (by decide +kernel) ⟨Nat.le_of_ble_eq_true rfl, Nat.le_of_ble_eq_true rfl⟩) ⟨pc_blind _ _ _ _ _ _, pc_ok hPc hK hN hDc⟩ rfl rfl hl.1 rfl (lv_room (Nat.le_of_ble_eq_true rfl)) dX5_areRules_4 ⟨Nat.zero_le _, Nat.zero_le _⟩) hS (fun q _ h => hFc q h) hFc (fun r9 u t H1 locs ht hvm hw hB hz1 hk1 hS => ?_)
  obtain ⟨hP1, hK1, hD1⟩ := hB
  rw [ht] at hP1
  have hw : (fX5_isWithin p1 (0 : Int32) (6 : Int32)) = r9 := hw.symm
  subst hw
  obtain ⟨hP, hD⟩ := va_join (wr := []) (w1 := []) hP hD [] [] rfl rfl (by decide) (by decide) hk1 hFc hP1 hD1
  generalize H1 = H at hP hS ⊢
  have hP : va_P (dC, dI) vwCl [] H := hP.sub [] rfl
  have hD : va_D A [] := hD.sub [] (by decide) rfl
  refine lv_if_eq (tgt := 58) hx hb dX5_areRules_7 (by decide) (fun c1 => ?_) (fun c1 => ?_)
  · rw [if_pos c1] at h
    refine lv_iconst (v := 0) hx hb dX5_areRules_58 (by decide) ?_
    have h := h
    subst h
    exact W.zret (ty := .boolean) (v := (0 : Int32)) hx hb hr rfl (fun t ht hW => ⟨⟨(0 : Int32), (), rfl, rfl, by rw [ht]; exact hP, va_K.moved hW.alike hK, hD⟩, hS.F ht⟩) hS.2.2 dX5_areRules_59
  · rw [if_neg c1] at h
    refine lv_iload_n hx hb dX5_areRules_10 rfl (lv_at hl 1 rfl) ?_
    refine lv_iconst (v := 2) hx hb dX5_areRules_11 (by decide) ?_
    refine lv_bipush (v := 8) hx hb dX5_areRules_12 (by decide) ?_
    have hPc := hP.sub (ws' := []) [] rfl
    have hDc := hD.sub (ws' := []) [] (by decide) rfl
    have hFc := va_free (wc := []) hD hS hA [] rfl
    refine va_calli (va_runS (As := [.int p2, .int (2 : Int32), .int (8 : Int32)]) (rest := []) ⟨hx, hb, hml, hown, hts⟩ (kX5_isWithin l dC dI cI  H.size p2 (2 : Int32) (8 : Int32) _ rfl) (va_cwS 3 hts gX5_areRules_X5_isWithin rfl rfl rfl (by decide +kernel) ⟨Nat.le_of_ble_eq_true rfl, Nat.le_of_ble_eq_true rfl⟩) ⟨pc_blind _ _ _ _ _ _, pc_ok hPc hK hN hDc⟩ rfl rfl hl.1 rfl (lv_room (Nat.le_of_ble_eq_true rfl)) dX5_areRules_14 ⟨Nat.zero_le _, Nat.zero_le _⟩) hS (fun q _ h => hFc q h) hFc (fun r9 u t H1 locs ht hvm hw hB hz1 hk1 hS => ?_)
    obtain ⟨hP1, hK1, hD1⟩ := hB
    rw [ht] at hP1
    have hw : (fX5_isWithin p2 (2 : Int32) (8 : Int32)) = r9 := hw.symm
    subst hw
    obtain ⟨hP, hD⟩ := va_join (wr := []) (w1 := []) hP hD [] [] rfl rfl (by decide) (by decide) hk1 hFc hP1 hD1
    generalize H1 = H at hP hS ⊢
    have hP : va_P (dC, dI) vwCl [] H := hP.sub [] rfl
    have hD : va_D A [] := hD.sub [] (by decide) rfl
    refine lv_if_eq (tgt := 58) hx hb dX5_areRules_17 (by decide) (fun c2 => ?_) (fun c2 => ?_)
    · rw [if_pos c2] at h
      refine lv_iconst (v := 0) hx hb dX5_areRules_58 (by decide) ?_
      have h := h
      subst h
      exact W.zret (ty := .boolean) (v := (0 : Int32)) hx hb hr rfl (fun t ht hW => ⟨⟨(0 : Int32), (), rfl, rfl, by rw [ht]; exact hP, va_K.moved hW.alike hK, hD⟩, hS.F ht⟩) hS.2.2 dX5_areRules_59
    · rw [if_neg c2] at h
      refine lv_iload_n hx hb dX5_areRules_20 rfl (lv_at hl 2 rfl) ?_
      refine lv_iconst (v := 0) hx hb dX5_areRules_21 (by decide) ?_
      refine lv_iconst (v := 3) hx hb dX5_areRules_22 (by decide) ?_
      refine lv_iload_n hx hb dX5_areRules_23 rfl (lv_at hl 1 rfl) ?_
      refine lv_iconst (v := 1) hx hb dX5_areRules_24 (by decide) ?_
      refine lv_isub hx hb dX5_areRules_25 ?_
      refine va_mmin hx hb (by rw [hml]; exact hl.1.symm) hown (hts (.methodLink RX5 201 Lib.Math.min.name) (by decide +kernel)) (hts (.static Lib.Math.min.name) (by decide +kernel)) (hts (.initialized "java/lang/Math") (by decide +kernel)) (hts (.code Lib.Math.min.name Lib.Math.min.code 2 (some .int)) (by decide +kernel)) (Nat.le_of_ble_eq_true rfl) (Nat.le_of_ble_eq_true rfl) (Nat.zero_le _) (Nat.zero_le _) dX5_areRules_26 ?_
      have hPc := hP.sub (ws' := []) [] rfl
      have hDc := hD.sub (ws' := []) [] (by decide) rfl
      have hFc := va_free (wc := []) hD hS hA [] rfl
      refine va_calli (va_runS (As := [.int p3, .int (0 : Int32), .int (if (p2 - (1 : Int32)) < (3 : Int32) then (p2 - (1 : Int32)) else (3 : Int32))]) (rest := []) ⟨hx, hb, hml, hown, hts⟩ (kX5_isWithin l dC dI cI  H.size p3 (0 : Int32) (if (p2 - (1 : Int32)) < (3 : Int32) then (p2 - (1 : Int32)) else (3 : Int32)) _ rfl) (va_cwS 3 hts gX5_areRules_X5_isWithin rfl rfl rfl (by decide +kernel) ⟨Nat.le_of_ble_eq_true rfl, Nat.le_of_ble_eq_true rfl⟩) ⟨pc_blind _ _ _ _ _ _, pc_ok hPc hK hN hDc⟩ rfl rfl hl.1 rfl (lv_room (Nat.le_of_ble_eq_true rfl)) dX5_areRules_29 ⟨Nat.zero_le _, Nat.zero_le _⟩) hS (fun q _ h => hFc q h) hFc (fun r9 u t H1 locs ht hvm hw hB hz1 hk1 hS => ?_)
      obtain ⟨hP1, hK1, hD1⟩ := hB
      rw [ht] at hP1
      have hw : (fX5_isWithin p3 (0 : Int32) (if (p2 - (1 : Int32)) < (3 : Int32) then (p2 - (1 : Int32)) else (3 : Int32))) = r9 := hw.symm
      subst hw
      obtain ⟨hP, hD⟩ := va_join (wr := []) (w1 := []) hP hD [] [] rfl rfl (by decide) (by decide) hk1 hFc hP1 hD1
      generalize H1 = H at hP hS ⊢
      have hP : va_P (dC, dI) vwCl [] H := hP.sub [] rfl
      have hD : va_D A [] := hD.sub [] (by decide) rfl
      refine lv_if_eq (tgt := 58) hx hb dX5_areRules_32 (by decide) (fun c3 => ?_) (fun c3 => ?_)
      · rw [if_pos c3] at h
        refine lv_iconst (v := 0) hx hb dX5_areRules_58 (by decide) ?_
        have h := h
        subst h
        exact W.zret (ty := .boolean) (v := (0 : Int32)) hx hb hr rfl (fun t ht hW => ⟨⟨(0 : Int32), (), rfl, rfl, by rw [ht]; exact hP, va_K.moved hW.alike hK, hD⟩, hS.F ht⟩) hS.2.2 dX5_areRules_59
      · rw [if_neg c3] at h
        refine lv_iload_n hx hb dX5_areRules_35 rfl (lv_at hl 3 rfl) ?_
        refine lv_iconst (v := 1) hx hb dX5_areRules_36 (by decide) ?_
        refine lv_iconst (v := 3) hx hb dX5_areRules_37 (by decide) ?_
        have hPc := hP.sub (ws' := []) [] rfl
        have hDc := hD.sub (ws' := []) [] (by decide) rfl
        have hFc := va_free (wc := []) hD hS hA [] rfl
        refine va_calli (va_runS (As := [.int p4, .int (1 : Int32), .int (3 : Int32)]) (rest := []) ⟨hx, hb, hml, hown, hts⟩ (kX5_isWithin l dC dI cI  H.size p4 (1 : Int32) (3 : Int32) _ rfl) (va_cwS 3 hts gX5_areRules_X5_isWithin rfl rfl rfl (by decide +kernel) ⟨Nat.le_of_ble_eq_true rfl, Nat.le_of_ble_eq_true rfl⟩) ⟨pc_blind _ _ _ _ _ _, pc_ok hPc hK hN hDc⟩ rfl rfl hl.1 rfl (lv_room (Nat.le_of_ble_eq_true rfl)) dX5_areRules_38 ⟨Nat.zero_le _, Nat.zero_le _⟩) hS (fun q _ h => hFc q h) hFc (fun r9 u t H1 locs ht hvm hw hB hz1 hk1 hS => ?_)
        obtain ⟨hP1, hK1, hD1⟩ := hB
        rw [ht] at hP1
        have hw : (fX5_isWithin p4 (1 : Int32) (3 : Int32)) = r9 := hw.symm
        subst hw
        obtain ⟨hP, hD⟩ := va_join (wr := []) (w1 := []) hP hD [] [] rfl rfl (by decide) (by decide) hk1 hFc hP1 hD1
        generalize H1 = H at hP hS ⊢
        have hP : va_P (dC, dI) vwCl [] H := hP.sub [] rfl
        have hD : va_D A [] := hD.sub [] (by decide) rfl
        refine lv_if_eq (tgt := 58) hx hb dX5_areRules_41 (by decide) (fun c4 => ?_) (fun c4 => ?_)
        · rw [if_pos c4] at h
          refine lv_iconst (v := 0) hx hb dX5_areRules_58 (by decide) ?_
          have h := h
          subst h
          exact W.zret (ty := .boolean) (v := (0 : Int32)) hx hb hr rfl (fun t ht hW => ⟨⟨(0 : Int32), (), rfl, rfl, by rw [ht]; exact hP, va_K.moved hW.alike hK, hD⟩, hS.F ht⟩) hS.2.2 dX5_areRules_59
        · rw [if_neg c4] at h
          refine lv_iload hx hb dX5_areRules_44 (lv_at hl 4 rfl) ?_
          refine lv_iconst (v := 0) hx hb dX5_areRules_46 (by decide) ?_
          refine lv_iconst (v := 2) hx hb dX5_areRules_47 (by decide) ?_
          have hPc := hP.sub (ws' := []) [] rfl
          have hDc := hD.sub (ws' := []) [] (by decide) rfl
          have hFc := va_free (wc := []) hD hS hA [] rfl
          refine va_calli (va_runS (As := [.int p5, .int (0 : Int32), .int (2 : Int32)]) (rest := []) ⟨hx, hb, hml, hown, hts⟩ (kX5_isWithin l dC dI cI  H.size p5 (0 : Int32) (2 : Int32) _ rfl) (va_cwS 3 hts gX5_areRules_X5_isWithin rfl rfl rfl (by decide +kernel) ⟨Nat.le_of_ble_eq_true rfl, Nat.le_of_ble_eq_true rfl⟩) ⟨pc_blind _ _ _ _ _ _, pc_ok hPc hK hN hDc⟩ rfl rfl hl.1 rfl (lv_room (Nat.le_of_ble_eq_true rfl)) dX5_areRules_48 ⟨Nat.zero_le _, Nat.zero_le _⟩) hS (fun q _ h => hFc q h) hFc (fun r9 u t H1 locs ht hvm hw hB hz1 hk1 hS => ?_)
          obtain ⟨hP1, hK1, hD1⟩ := hB
          rw [ht] at hP1
          have hw : (fX5_isWithin p5 (0 : Int32) (2 : Int32)) = r9 := hw.symm
          subst hw
          obtain ⟨hP, hD⟩ := va_join (wr := []) (w1 := []) hP hD [] [] rfl rfl (by decide) (by decide) hk1 hFc hP1 hD1
          generalize H1 = H at hP hS ⊢
          have hP : va_P (dC, dI) vwCl [] H := hP.sub [] rfl
          have hD : va_D A [] := hD.sub [] (by decide) rfl
          refine lv_if_eq (tgt := 58) hx hb dX5_areRules_51 (by decide) (fun c5 => ?_) (fun c5 => ?_)
          · rw [if_pos c5] at h
            refine lv_iconst (v := 0) hx hb dX5_areRules_58 (by decide) ?_
            have h := h
            subst h
            exact W.zret (ty := .boolean) (v := (0 : Int32)) hx hb hr rfl (fun t ht hW => ⟨⟨(0 : Int32), (), rfl, rfl, by rw [ht]; exact hP, va_K.moved hW.alike hK, hD⟩, hS.F ht⟩) hS.2.2 dX5_areRules_59
          · rw [if_neg c5] at h
            refine lv_iconst (v := 1) hx hb dX5_areRules_54 (by decide) ?_
            refine lv_goto (tgt := 59) hx hb dX5_areRules_55 (by decide) ?_
            have h := h
            subst h
            exact W.zret (ty := .boolean) (v := (1 : Int32)) hx hb hr rfl (fun t ht hW => ⟨⟨(1 : Int32), (), rfl, rfl, by rw [ht]; exact hP, va_K.moved hW.alike hK, hD⟩, hS.F ht⟩) hS.2.2 dX5_areRules_59
