def nwL : List Cond := [.methodLinkNest RX5 9 yX2_init "CrashRounds", .methodLinkNest RX0 27 yX5_has "CrashRounds", .methodLinkNest RX1 38 yX5_has "CrashRounds", .methodLinkNest RX1 42 yX5_isWithin "CrashRounds", .methodLinkNest RX3 11 yX0_init "CrashRounds", .methodLinkNest RX3 20 yX1_init "CrashRounds", .methodLinkNest RX3 84 yX5_has "CrashRounds"]
def NW (U : State) : Prop := ∀ w ∈ nwL, va_Nw w U
theorem NW_cases {P : Cond → Prop} (h : ∀ (a : String) (i : Nat) (x : MethodName) (b : String), P (.methodLinkNest a i x b)) : ∀ w ∈ nwL, P w := by
  intro w hw
  simp only [nwL, List.mem_cons, List.not_mem_nil, or_false] at hw
  rcases hw with rfl | rfl | rfl | rfl | rfl | rfl | rfl <;> exact h _ _ _ _
theorem NW_warm {s U : State} (hW : s.WarmedH U.vm) (h : NW s) : NW U := fun w hw => NW_cases (P := fun w => va_Nw w s → va_Nw w U) (fun _ _ _ _ hz => va_Nw.warmM hW hz) w hw (h w hw)
theorem NW_same {u U : State} (e : u.vm = U.vm) (h : NW u) : NW U := fun w hw => NW_cases (P := fun w => va_Nw w u → va_Nw w U) (fun _ _ _ _ hz => va_Nw.same rfl e hz) w hw (h w hw)
theorem pc_blind (av : List Value) (sz : Nat) (D : va_G) (cl : List vw_C) (w : va_W) (tys : List (ClassId × FieldType)) : FrameBlind (va_Pc av (fun U => U.heap.size = sz ∧ va_P D cl w U.heap ∧ va_K D cl tys U ∧ NW U ∧ va_D (fun _ => True) w)) := fun a U g mk q => by
  obtain ⟨q0, q1, qP, qK, qN, qD⟩ := q
  exact ⟨q0, q1, qP, va_K.moved (u := U) (U := U.calling g mk a) (Vm.Alike.refl U.vm) qK, NW_same (u := U) (U := U.calling g mk a) rfl qN, qD⟩
theorem pc_ok {av : List Value} {D : va_G} {cl : List vw_C} {wc : va_W} {tys : List (ClassId × FieldType)} {H : Heap} {s : State} {A : Nat → Prop} (hPc : va_P D cl wc H) (hK : va_K D cl tys s) (hN : NW s) (hDc : va_D A wc) : ∀ U : State, U.heap = H → s.WarmedH U.vm → va_Pc av (fun U => U.heap.size = H.size ∧ va_P D cl wc U.heap ∧ va_K D cl tys U ∧ NW U ∧ va_D (fun _ => True) wc) av.toArray U := fun U hU hW => ⟨rfl, by rw [hU], by rw [hU]; exact hPc, va_K.moved hW.alike hK, NW_warm hW hN, hDc.weaken (fun _ _ _ _ => trivial)⟩
theorem arr_same {D : va_G} {cl : List vw_C} {cI cA : ClassId} {s : State} (h : va_K D cl ([(cI, .int)] ++ [(cA, .int)]) s) : cI = cA := by
  have h1 : s.vm.findClass ("[" ++ FieldType.int.toString) = some cI := (h.2 0 _ rfl).2
  have h2 : s.vm.findClass ("[" ++ FieldType.int.toString) = some cA := (h.2 1 _ rfl).2
  exact Option.some.inj (h1.symm.trans h2)
