/-! ===== own rows: all plans of a set, both sides (printed by wip/whole/src/gen55.py) ===== -/
theorem cp_0 {P : Nat → Bool} : ∀ n, cp P n = 0 → ∀ p, p < n → P p = false
  | 0, _, p, hp => absurd hp (by omega)
  | n + 1, h, p, hp => by
    rw [cp] at h
    have h1 : P n = false := by
      cases hx : P n
      · rfl
      · rw [hx, if_pos rfl] at h; omega
    by_cases e : p = n
    · rw [e]; exact h1
    · exact cp_0 n (by omega) p (by omega)
theorem none_down {n RR : Nat} {s : Int32} {ro : (Nat → Int32)} (hs : ∀ p, n ≤ p → bt s p = false) (hz : ∀ p, p < n → bt s p = true → ro p ≤ nI RR) (h : cp (fun p => !sd s ro (nI RR) p) n = 0) : s = 0 := by
  apply b_ext
  intro i _
  rw [b_0]
  rcases Nat.lt_or_ge i n with hi | hi
  · have h1 := cp_0 n h i hi
    cases hb : bt s i
    · rfl
    · unfold sd at h1
      rw [hb, decide_eq_true (hz i hi hb)] at h1; cases h1
  · exact hs i hi
theorem com_all {al s : Int32} {n RR : Nat} (hn : n ≤ 8) (hRn : RR ≤ n) {ro rch kn0_ he0 di0 df0 lt rd : (Nat → Int32)} {mkl m1 l1 u1 k1 o1 : Int32} {kn1 he1 di1 df1 lt1 rd1 : (Nat → Int32)} (hC : fX3_makeAllRounds 0 0 (fX2_everyone (nI n)) 0 mkl al (nI n) (nI RR) s ro rch (pf 8 (fun p => (1 : Int32) <<< (nI p &&& 31)) kn0_) (pf 8 (fun _ => nI n) he0) (pf 8 (fun _ => 0) di0) (pf 8 (fun _ => 0) df0) lt rd = some (m1, l1, u1, k1, o1, kn1, he1, di1, df1, lt1, rd1)) (hs : ∀ p, n ≤ p → bt s p = false) (hz : ∀ p, p < n → bt s p = true → ro p ≤ nI RR) :
    al = 5 → cp (fun p => !sd s ro (nI RR) p) n = 0 → ∀ p, p < n → ¬ di1 p = 0 → df1 p = fX2_everyone (nI n) := by
  intro h5 h0
  have e := none_down hs hz h0
  subst h5 e
  refine full_eq hn (by omega) ro rch _ _ _ _ lt rd 0 0 mkl (fun p hp => ?_) (fun q hq h => ?_) hC
  · rw [pf_lt _ _ (show p < 8 by omega)]
    refine ⟨by rw [b_one p (by omega) (by omega)]; simp, fun i hi => ?_⟩
    rcases Nat.lt_or_ge i 32 with h | h
    · rw [b_one p (by omega) h]; exact decide_eq_false (by omega)
    · exact b_big h
  · rw [pf_lt _ _ (show q < 8 by omega)] at h; exact absurd rfl h
theorem one77 {al s : Int32} {n RR d : Nat} (hn : n ≤ 8) (hd1 : 1 ≤ d) (hd3 : d ≤ 3) {md : Int32} {ro rch : (Nat → Int32)} {m1 l1 u1 k1 o1 b : Int32} {kn1 he1 di1 df1 lt1 rd1 ti : (Nat → Int32)} (hfb : fX3_firstBreach al (nI n) md (nI RR) ti s ro kn1 di1 df1 = some b) (hti : ∀ p, p < 8 → ti p = 0) (kC : Int32 → (Nat → Int32) → Option (Int32 × Int32 × Int32 × Int32 × Int32 × Int32 × Int32 × (Nat → Int32) × Int32 × (Nat → Int32) × (Nat → Int32) × (Nat → Int32) × (Nat → Int32) × (Nat → Int32) × (Nat → Int32) × (Nat → Int32) × (Nat → Int32))) (bC : Int32) :
    ∀ fuel : Nat, 1 < fuel → (¬ b = 0 → fX4_seek_L77 (nI d) (1 : Int64) al (nI n) md (nI RR) m1 l1 u1 k1 o1 s ro rch kn1 he1 di1 df1 lt1 rd1 kC fuel 0 bC ti = some (b, b, m1, l1, u1, k1, o1, ti, s, ro, rch, kn1, he1, di1, df1, lt1, rd1)) ∧ (b = 0 → ∃ ti', fX4_seek_L77 (nI d) (1 : Int64) al (nI n) md (nI RR) m1 l1 u1 k1 o1 s ro rch kn1 he1 di1 df1 lt1 rd1 kC fuel 0 bC ti = kC 0 ti') := by
  intro fuel hf
  obtain ⟨f, rfl⟩ : ∃ f, fuel = f + 1 + 1 := ⟨fuel - 2, by omega⟩
  have hc : ¬ (0 ≤ lg_cmp (0 : Int64) (1 : Int64)) := cmp_lt (a := 0) (b := 1) (by omega) (by omega) (by omega)
  have hc2 : 0 ≤ lg_cmp ((0 : Int64) + 1) (1 : Int64) := cmp_ge (a := 1) (b := 1) (by omega) (by omega) (by omega)
  refine ⟨fun hb => ?_, fun hb => ?_⟩
  · rw [fX4_seek_L77, if_neg hc, hfb, Option.bind_some, if_neg hb]
  · obtain ⟨ti', _, _, _, n1, _⟩ := nx_pair hn hd3 (IN_zero hn hd1 hti hti)
    refine ⟨ti', ?_⟩
    rw [fX4_seek_L77, if_neg hc, hfb, Option.bind_some, if_pos hb, n1, Option.bind_some, fX4_seek_L77, if_pos hc2, hb]
theorem first_m {al : Int32} {n RR d : Nat} {g : Int32} {crs mrc mi km hm dm im bf sn : (Nat → Int32)} {l2 u2 k2 b : Int32} {km2 hm2 dm2 im2 bf2 sn2 : (Nat → Int32)}
    (e2 : fX6_run al (nI n) (nI RR) 0 0 (fX6_all (nI n)) 0 mi crs mrc (pf 8 (kn0 al mi) km) (pf 8 (fun _ => nI n) hm) (pf 8 (fun _ => -2) dm) (pf 8 (fun _ => 0) im) bf sn = some (nI RR, nI RR, l2, u2, k2, km2, hm2, dm2, im2, bf2, sn2))
    (e3 : fX6_breachNow al (nI n) g (nI RR) mi crs km2 dm2 im2 = some b) (hb : ¬ b ≤ 0) (kM : (Nat → Int32) → (Nat → Int32) → (Nat → Int32) → (Nat → Int32) → (Nat → Int32) → (Nat → Int32) → (Nat → Int32) → Int32 → Int32 → Int32 → Int32 → Option (Int32 × Int32 × Int32 × Int32 × Int32 × (Nat → Int32) × (Nat → Int32) × (Nat → Int32) × (Nat → Int32) × (Nat → Int32) × (Nat → Int32) × (Nat → Int32) × (Nat → Int32) × (Nat → Int32))) (made letters up mk_ : Int32) :
    ∀ fuel : Nat, 0 < fuel → fX6_searchSet_L48 (nI d) al (nI n) g (nI RR) crs mrc kM fuel 1 bf dm im hm mi km sn made letters up mk_ = some (b, nI RR, l2, u2, k2, mi, crs, mrc, km2, hm2, dm2, im2, bf2, sn2) := by
  intro fuel hf
  obtain ⟨f, rfl⟩ : ∃ f, fuel = f + 1 := ⟨fuel - 1, by omega⟩
  rw [fX6_searchSet_L48, if_neg (by decide), mbegin_eq, Option.bind_some]
  dsimp only
  rw [e2, Option.bind_some]
  dsimp only
  rw [e3, Option.bind_some, if_neg hb]
theorem plan_try {al : Int32} {n RR d P : Nat} (hn : n ≤ 8) (hn0 : 0 < n) (hRn : RR ≤ n) (hR1 : 1 ≤ RR) (hd1 : 1 ≤ d) (hd3 : d ≤ 3) (hD : d ^ n < 500000) (hP31 : P < 500000) {g md : Int32} (hg : md = if al = 3 then g else 1) (hmd : 1 ≤ md) {s : Int32} {ro rch crs mrc : (Nat → Int32)} (hP : PL n s ro rch crs mrc) (hz : ∀ p, p < n → bt s p = true → ro p ≤ nI RR)
    (k : Int32 → Int32 → Int32 → Int32 → Int32 → Int32 → (Nat → Int32) → (Nat → Int32) → (Nat → Int32) → (Nat → Int32) → (Nat → Int32) → (Nat → Int32) → Int32 → (Nat → Int32) → (Nat → Int32) → (Nat → Int32) → Option (Int32 × Int32 × Int32 × Int32 × Int32 × Int32 × Int32 × (Nat → Int32) × Int32 × (Nat → Int32) × (Nat → Int32) × (Nat → Int32) × (Nat → Int32) × (Nat → Int32) × (Nat → Int32) × (Nat → Int32) × (Nat → Int32))) (kM : (Nat → Int32) → (Nat → Int32) → (Nat → Int32) → (Nat → Int32) → (Nat → Int32) → (Nat → Int32) → (Nat → Int32) → Int32 → Int32 → Int32 → Int32 → Option (Int32 × Int32 × Int32 × Int32 × Int32 × (Nat → Int32) × (Nat → Int32) × (Nat → Int32) × (Nat → Int32) × (Nat → Int32) × (Nat → Int32) × (Nat → Int32) × (Nat → Int32) × (Nat → Int32))) (c f : Nat) (hc : c < P) (bC m0 l0 u0 k0 o0 : Int32) (df di he ti kn lt rd bf dm im hm mi km sn : (Nat → Int32)) (made letters up mk_ : Int32) (hmi : ∀ p, p < 8 → mi p = 0) :
    (∃ (b m1 l1 u1 k1 o1 m2 l2 u2 k2 : Int32) (gg' : Nat → Nat) (ti' mi' kn1 he1 di1 df1 lt1 rd1 bf' dm' im' hm' km' sn' : (Nat → Int32)), ¬ b = 0 ∧ IN n d gg' ti' mi' ∧ (∀ p, 8 ≤ p → mi' p = mi p) ∧
      fX4_seek_L25 (nI d) (lN P) (lN (d ^ n)) al (nI n) md (nI RR) k (f + 1) (lN c) bC m0 l0 u0 k0 o0 df di he ti kn lt s rch ro rd = some (b, b, m1, l1, u1, k1, o1, ti', s, ro, rch, kn1, he1, di1, df1, lt1, rd1) ∧ fX6_searchSet_L48 (nI d) al (nI n) g (nI RR) crs mrc kM 1000000 1 bf dm im hm mi km sn made letters up mk_ = some (b, m2, l2, u2, k2, mi', crs, mrc, km', hm', dm', im', bf', sn')) ∨
    (∃ (m1 l1 u1 k1 o1 m2 l2 u2 k2 : Int32) (ti' mi' kn1 he1 di1 df1 lt1 rd1 bf' dm' im' hm' km' sn' : (Nat → Int32)), (∀ p, p < 8 → mi' p = 0) ∧ (∀ p, 8 ≤ p → mi' p = mi p) ∧
      fX4_seek_L25 (nI d) (lN P) (lN (d ^ n)) al (nI n) md (nI RR) k (f + 1) (lN c) bC m0 l0 u0 k0 o0 df di he ti kn lt s rch ro rd = Option.bind (fX1_advance s ro rch (fX2_everyone (nI n)) (nI RR)) (fun a10 => fX4_seek_L25 (nI d) (lN P) (lN (d ^ n)) al (nI n) md (nI RR) k f (lN c + 1) 0 m1 l1 u1 k1 o1 df1 di1 he1 ti' kn1 lt1 a10.1 a10.2.2 a10.2.1 rd1) ∧
      fX6_searchSet_L48 (nI d) al (nI n) g (nI RR) crs mrc kM 1000000 1 bf dm im hm mi km sn made letters up mk_ = kM bf' dm' im' hm' mi' km' sn' m2 l2 u2 k2) := by
  have hI : IR mi := fun i hi => ⟨0, by omega, hmi i hi⟩
  obtain ⟨kn1, he1, di1, df1, _, _, _, _, lt1, rd1, _, _, l1, u1, k1, o1, hA0, _, hC, _⟩ := run_pair (i := 0) (letters := 0) (up := fX2_everyone (nI n)) (mkd := 0) (mkl := o0) (lt := lt) (rd := rd) (bf := bf) (sn := sn) hI hn hn0 (Nat.zero_le _) hRn hP (fun j hj => by rw [ev_bt hn, decide_eq_false (by omega)]) (begin_RA (alg := al) hI hn kn he di df km hm dm im)
  rw [nI_0] at hC
  have hok : ∀ p, p < n → ¬ di1 p = 0 → okS n (df1 p) := fun p hp h => ((hA0 p hp).2.2.2.2.2 h).1
  have hti : ∀ p, p < 8 → pf 8 (fun _ => 0) ti p = 0 := fun p hp => pf_lt _ _ hp
  have hI0 : IR (pf 8 (fun _ => 0) ti) := IR_0 ti
  obtain ⟨kC, hkC⟩ : ∃ kC : Int32 → (Nat → Int32) → Option (Int32 × Int32 × Int32 × Int32 × Int32 × Int32 × Int32 × (Nat → Int32) × Int32 × (Nat → Int32) × (Nat → Int32) × (Nat → Int32) × (Nat → Int32) × (Nat → Int32) × (Nat → Int32) × (Nat → Int32) × (Nat → Int32)), kC = (fun v_breachFound_77 v_tried_inputs_of_77 => (Option.bind (fX1_advance s ro rch (fX2_everyone (nI n)) (nI RR)) (fun a10 => (fX4_seek_L25 (nI d) (lN P) (lN (d ^ n)) al (nI n) md (nI RR) k f (lN c + (1 : Int64)) v_breachFound_77 (nI RR) l1 u1 k1 o1 df1 di1 he1 v_tried_inputs_of_77 kn1 lt1 a10.1 a10.2.2 a10.2.1 rd1)))) := ⟨_, rfl⟩
  have hCl : fX4_seek_L25 (nI d) (lN P) (lN (d ^ n)) al (nI n) md (nI RR) k (f + 1) (lN c) bC m0 l0 u0 k0 o0 df di he ti kn lt s rch ro rd = (if cp (frs (fun p => !decide (di1 p = 0)) df1) n ≤ 1 then fX4_seek_L77 (nI d) (1 : Int64) al (nI n) md (nI RR) (nI RR) l1 u1 k1 o1 s ro rch kn1 he1 di1 df1 lt1 rd1 kC 1000000 0 bC (pf 8 (fun _ => 0) ti) else fX4_seek_L77 (nI d) (lN (d ^ n)) al (nI n) md (nI RR) (nI RR) l1 u1 k1 o1 s ro rch kn1 he1 di1 df1 lt1 rd1 kC 1000000 0 bC (pf 8 (fun _ => 0) ti)) := by
    rw [hkC, fX4_seek_L25]
    generalize fX4_seek_L77 = F
    rw [if_neg (cmp_lt (by omega) (by omega) hc), begin_eq, Option.bind_some]
    dsimp only
    rw [hC, Option.bind_some]
    dsimp only
    rw [clear_eq, Option.bind_some, alldec_eq hn hok, Option.bind_some]
    by_cases hs1 : cp (frs (fun p => !decide (di1 p = 0)) df1) n ≤ 1
    · rw [decide_eq_true hs1, if_pos hs1, if_neg (show ¬ b01 true = 0 by decide)]
    · rw [decide_eq_false hs1, if_neg hs1, if_pos (show b01 false = 0 from rfl)]
  rw [hCl]
  obtain ⟨l2, u2, k2, b, km2, hm2, dm2, im2, bf2, sn2, hA, e2, e3, e4, e5⟩ := try_m hn hn0 hRn hg hP hC hI km hm dm im bf sn
  have e4' : fX3_firstBreach al (nI n) md (nI RR) (pf 8 (fun _ => 0) ti) s ro kn1 di1 df1 = some b := by
    rw [FB_congr hn hok (inp' := mi) (fun p hp => by rw [hti p hp, hmi p hp])]; exact e4
  have hU : U d (fun _ => 0) n 0 = 0 := U_0 d (fun _ => rfl) n 0
  have hDp : 0 < d ^ n := Nat.pow_pos hd1
  by_cases hs1 : cp (frs (fun p => !decide (di1 p = 0)) df1) n ≤ 1
  · rw [if_pos hs1]
    have h77 := one77 (rch := rch) (m1 := nI RR) (l1 := l1) (u1 := u1) (k1 := k1) (o1 := o1) (he1 := he1) (lt1 := lt1) (rd1 := rd1) hn hd1 hd3 e4' hti kC bC 1000000 (by omega)
    by_cases hb : b = 0
    · obtain ⟨ti', w⟩ := h77.2 hb
      obtain ⟨m3, l3, u3, k3, mi3, bf3, dm3, im3, hm3, km3, sn3, w1, w2, w3⟩ := inner_m hn hn0 hRn hd3 hg hP hC (fun inp hi => by
        rw [once hn hI0 hi hP hok hmd (com_all hn hRn hC hP.1 hz) hs1, e4', hb]) kM (d ^ n) 0 1000000 (by omega) hDp (by omega) (fun _ => 0) mi bf dm im hm km sn made letters up mk_ hU.symm (IN_zero hn hd1 hmi hmi)
      right
      refine ⟨nI RR, l1, u1, k1, o1, m3, l3, u3, k3, ti', mi3, kn1, he1, di1, df1, lt1, rd1, bf3, dm3, im3, hm3, km3, sn3, w1, w2, ?_, w3⟩
      rw [w, hkC]
    · left
      refine ⟨b, nI RR, l1, u1, k1, o1, nI RR, l2, u2, k2, (fun _ => 0), pf 8 (fun _ => 0) ti, mi, kn1, he1, di1, df1, lt1, rd1, bf2, dm2, im2, hm2, km2, sn2, hb, IN_zero hn hd1 hti hmi, fun _ _ => rfl, h77.1 hb, ?_⟩
      exact first_m e2 e3 (fun e => hb ((le0_iff e5).mp e)) kM made letters up mk_ 1000000 (by omega)
  · rw [if_neg hs1]
    have hin := inner hn hn0 hRn hd3 (by omega) hg hP hC kC kM (d ^ n) 0 1000000 1000000 (by omega) hDp (by omega) (by omega) (fun _ => 0) (pf 8 (fun _ => 0) ti) mi bf dm im hm km sn bC made letters up mk_ hU.symm (IN_zero hn hd1 hti hmi)
    rw [show lN 0 = (0 : Int64) from rfl] at hin
    rcases hin with ⟨b3, m3, l3, u3, k3, gg3, ti3, mi3, bf3, dm3, im3, hm3, km3, sn3, w1, w2, w3, w4, w5⟩ | ⟨m3, l3, u3, k3, ti3, mi3, bf3, dm3, im3, hm3, km3, sn3, w1, w2, w3, w4⟩
    · left
      exact ⟨b3, nI RR, l1, u1, k1, o1, m3, l3, u3, k3, gg3, ti3, mi3, kn1, he1, di1, df1, lt1, rd1, bf3, dm3, im3, hm3, km3, sn3, w1, w2, w3, w4, w5⟩
    · right
      refine ⟨nI RR, l1, u1, k1, o1, m3, l3, u3, k3, ti3, mi3, kn1, he1, di1, df1, lt1, rd1, bf3, dm3, im3, hm3, km3, sn3, w1, w2, ?_, w4⟩
      rw [w3, hkC]
theorem sq_lt : ∀ n, n < 9 → ∀ p, p < n → ∀ x, x < 2 ^ n → sq p x < 2 ^ (n - 1) := by decide +kernel
theorem V_lt {n R : Nat} {s : Int32} (hn : n ≤ 8) {rr xx : Nat → Nat} {ro rch crs mrc : (Nat → Int32)} (hV : PV n R s rr xx ro rch crs mrc) : ∀ i, i ≤ n → V n (R * 2 ^ (n - 1)) s rr xx i < (R * 2 ^ (n - 1)) ^ cnt s i
  | 0, _ => by rw [V, cnt, Nat.pow_zero]; omega
  | i + 1, hi => by
    have ih := V_lt hn hV i (by omega)
    rw [V, cnt]
    by_cases hb : bt s i = true
    · rw [if_pos hb, if_pos hb, Nat.pow_succ]
      obtain ⟨_, _, _, _, e5, e6, e7, _⟩ := hV i (by omega) hb
      have hq := sq_lt n (by omega) i (by omega) (xx i) e7
      have hd : dg n i (rr i) (xx i) < R * 2 ^ (n - 1) := by
        unfold dg
        obtain ⟨r0, hr⟩ : ∃ r0, rr i = r0 + 1 := ⟨rr i - 1, by omega⟩
        rw [hr, Nat.add_sub_cancel]
        have h1 : (r0 + 1) * 2 ^ (n - 1) ≤ R * 2 ^ (n - 1) := Nat.mul_le_mul_right _ (by omega)
        rw [Nat.add_mul, Nat.one_mul] at h1
        omega
      have h2 : (V n (R * 2 ^ (n - 1)) s rr xx i + 1) * (R * 2 ^ (n - 1)) ≤ (R * 2 ^ (n - 1)) ^ cnt s i * (R * 2 ^ (n - 1)) := Nat.mul_le_mul_right _ ih
      rw [Nat.add_mul, Nat.one_mul] at h2
      omega
    · rw [if_neg hb, if_neg hb, Nat.add_zero]; exact ih
theorem set_run {al : Int32} {n RR d P : Nat} (hn : n ≤ 8) (hn0 : 0 < n) (hRn : RR ≤ n) (hR1 : 1 ≤ RR) (hd1 : 1 ≤ d) (hd3 : d ≤ 3) (hD : d ^ n < 500000) (hP31 : P < 500000) {g md : Int32} (hg : md = if al = 3 then g else 1) (hmd : 1 ≤ md) {s s' : Int32} (hs : ∀ p, n ≤ p → bt s p = false) (hnx : fX1_nextCrashing s (fX2_everyone (nI n)) = some s')
    (k : Int32 → Int32 → Int32 → Int32 → Int32 → Int32 → (Nat → Int32) → (Nat → Int32) → (Nat → Int32) → (Nat → Int32) → (Nat → Int32) → (Nat → Int32) → Int32 → (Nat → Int32) → (Nat → Int32) → (Nat → Int32) → Option (Int32 × Int32 × Int32 × Int32 × Int32 × Int32 × Int32 × (Nat → Int32) × Int32 × (Nat → Int32) × (Nat → Int32) × (Nat → Int32) × (Nat → Int32) × (Nat → Int32) × (Nat → Int32) × (Nat → Int32) × (Nat → Int32))) (k41 : (Nat → Int32) → (Nat → Int32) → (Nat → Int32) → (Nat → Int32) → (Nat → Int32) → (Nat → Int32) → (Nat → Int32) → (Nat → Int32) → (Nat → Int32) → Int32 → Int32 → Int32 → Int32 → Option (Int32 × Int32 × Int32 × Int32 × Int32 × (Nat → Int32) × (Nat → Int32) × (Nat → Int32) × (Nat → Int32) × (Nat → Int32) × (Nat → Int32) × (Nat → Int32) × (Nat → Int32) × (Nat → Int32))) :
    ∀ (j c f f2 : Nat) (rr xx : Nat → Nat) (ro rch crs mrc : (Nat → Int32)), V n (RR * 2 ^ (n - 1)) s rr xx n + j = (RR * 2 ^ (n - 1)) ^ cnt s n → 0 < j → j ≤ f → j < f2 → c + j ≤ P → PV n RR s rr xx ro rch crs mrc → (∀ p, p < n → bt s p = false → crs p = 0) →
      ∀ (bC m0 l0 u0 k0 o0 : Int32) (df di he ti kn lt rd bf dm im hm mi km sn : (Nat → Int32)) (made letters up mk_ : Int32), (∀ p, p < 8 → mi p = 0) →
      (∃ (b : Int32) (gg : Nat → Nat) (ti1 mi1 ro1 rch1 crs1 mrc1 : (Nat → Int32)), ¬ b = 0 ∧ IN n d gg ti1 mi1 ∧ (∀ p, 8 ≤ p → mi1 p = mi p) ∧ PL n s ro1 rch1 crs1 mrc1 ∧
        (∃ (m1 l1 u1 k1 o1 : Int32) (kn1 he1 di1 df1 lt1 rd1 : (Nat → Int32)), fX4_seek_L25 (nI d) (lN P) (lN (d ^ n)) al (nI n) md (nI RR) k f (lN c) bC m0 l0 u0 k0 o0 df di he ti kn lt s rch ro rd = some (b, b, m1, l1, u1, k1, o1, ti1, s, ro1, rch1, kn1, he1, di1, df1, lt1, rd1)) ∧ (∃ (m2 l2 u2 k2 : Int32) (km2 hm2 dm2 im2 bf2 sn2 : (Nat → Int32)), fX6_searchSet_L41 s (nI d) al (nI n) g (nI RR) k41 f2 1 bf crs dm im hm mi km mrc sn made letters up mk_ = some (b, m2, l2, u2, k2, mi1, crs1, mrc1, km2, hm2, dm2, im2, bf2, sn2))) ∨
      (∃ (fr : Nat) (m1 l1 u1 k1 o1 m2 l2 u2 k2 : Int32) (ti1 mi1 ro1 rch1 crs1 mrc1 kn1 he1 di1 df1 lt1 rd1 bf2 dm2 im2 hm2 km2 sn2 : (Nat → Int32)), fr + j = f ∧ (∀ p, 8 ≤ p → mi1 p = mi p) ∧
        fX4_seek_L25 (nI d) (lN P) (lN (d ^ n)) al (nI n) md (nI RR) k f (lN c) bC m0 l0 u0 k0 o0 df di he ti kn lt s rch ro rd = fX4_seek_L25 (nI d) (lN P) (lN (d ^ n)) al (nI n) md (nI RR) k fr (lN (c + j)) 0 m1 l1 u1 k1 o1 df1 di1 he1 ti1 kn1 lt1 s' (pf 8 (fun _ => 0) rch1) (pf 8 (fun _ => 1) ro1) rd1 ∧
        fX6_searchSet_L41 s (nI d) al (nI n) g (nI RR) k41 f2 1 bf crs dm im hm mi km mrc sn made letters up mk_ = k41 bf2 crs1 dm2 im2 hm2 mi1 km2 mrc1 sn2 m2 l2 u2 k2) := by
  intro j
  induction j with
  | zero => intro c f f2 rr xx ro rch crs mrc _ h; exact absurd h (by omega)
  | succ j ih =>
    intro c f f2 rr xx ro rch crs mrc hj _ hf hf2 hcP hV h0 bC m0 l0 u0 k0 o0 df di he ti kn lt rd bf dm im hm mi km sn made letters up mk_ hmi
    obtain ⟨f', rfl⟩ : ∃ f', f = f' + 1 := ⟨f - 1, by omega⟩
    obtain ⟨f2', rfl⟩ : ∃ f', f2 = f' + 1 := ⟨f2 - 1, by omega⟩
    have hP := PV_PL hn (by omega : RR ≤ 20) hs hV h0
    have hz : ∀ p, p < n → bt s p = true → ro p ≤ nI RR := fun p hp hb => by
      obtain ⟨e1, _, _, _, _, e6, _⟩ := hV p hp hb
      rw [e1]; exact nI_le e6 (by omega)
    have T := plan_try hn hn0 hRn hR1 hd1 hd3 hD hP31 hg hmd hP hz k (fun v_before_48 v_decided_48 v_decidedIn_48 v_heard_48 v_inputs_48 v_knows_48 v_sent_48 v_made_48 v_letters_48 v_up_48 v_marks_48 => (Option.bind (fX6_nextPlan (nI n) (nI RR) crs mrc s) (fun a6 => (fX6_searchSet_L41 s (nI d) al (nI n) g (nI RR) k41 f2' a6.1 v_before_48 a6.2.1 v_decided_48 v_decidedIn_48 v_heard_48 v_inputs_48 v_knows_48 a6.2.2 v_sent_48 v_made_48 v_letters_48 v_up_48 v_marks_48)))) c f' (by omega) bC m0 l0 u0 k0 o0 df di he ti kn lt rd bf dm im hm mi km sn made letters up mk_ hmi
    rw [fX6_searchSet_L41, if_neg (by decide)]
    rcases T with ⟨b, m1, l1, u1, k1, o1, m2, l2, u2, k2, gg, ti1, mi1, kn1, he1, di1, df1, lt1, rd1, bf2, dm2, im2, hm2, km2, sn2, w1, w2, w3, w4, w5⟩ | ⟨m1, l1, u1, k1, o1, m2, l2, u2, k2, ti1, mi1, kn1, he1, di1, df1, lt1, rd1, bf2, dm2, im2, hm2, km2, sn2, w1, w2, w3, w4⟩
    · left
      exact ⟨b, gg, ti1, mi1, ro, rch, crs, mrc, w1, w2, w3, hP, ⟨m1, l1, u1, k1, o1, kn1, he1, di1, df1, lt1, rd1, w4⟩, ⟨m2, l2, u2, k2, km2, hm2, dm2, im2, bf2, sn2, w5⟩⟩
    · rw [w3, w4]
      rcases plan_pair hn (by omega : RR ≤ 100) hs hnx hV with ⟨rr2, xx2, ro2, rch2, crs2, mrc2, p1, p2, p3, p4, p5⟩ | ⟨ro2, rch2, crs2, mrc2, p3, p4, p5⟩
      · rw [p4, p5]
        simp only [Option.bind_some, lN_1]
        have hlt := V_lt hn p1 n (Nat.le_refl _)
        rcases ih (c + 1) f' f2' rr2 xx2 ro2 rch2 crs2 mrc2 (by omega) (by omega) (by omega) (by omega) (by omega) p1 (fun p hp hb => by rw [p2 p hb]; exact h0 p hp hb) 0 m1 l1 u1 k1 o1 df1 di1 he1 ti1 kn1 lt1 rd1 bf2 dm2 im2 hm2 mi1 km2 sn2 m2 l2 u2 k2 w1 with ⟨b, gg, ti3, mi3, ro3, rch3, crs3, mrc3, v1, v2, v3, v4, v5, v6⟩ | ⟨fr, m3, l3, u3, k3, o3, m4, l4, u4, k4, ti3, mi3, ro3, rch3, crs3, mrc3, kn3, he3, di3, df3, lt3, rd3, bf3, dm3, im3, hm3, km3, sn3, v1, v2, v3, v4⟩
        · left
          exact ⟨b, gg, ti3, mi3, ro3, rch3, crs3, mrc3, v1, v2, fun p hp => by rw [v3 p hp, w2 p hp], v4, v5, v6⟩
        · right
          refine ⟨fr, m3, l3, u3, k3, o3, m4, l4, u4, k4, ti3, mi3, ro3, rch3, crs3, mrc3, kn3, he3, di3, df3, lt3, rd3, bf3, dm3, im3, hm3, km3, sn3, by omega, fun p hp => by rw [v2 p hp, w2 p hp], ?_, v4⟩
          rw [v3, show c + 1 + j = c + (j + 1) by omega]
      · rw [p4, p5]
        simp only [Option.bind_some, lN_1]
        right
        obtain ⟨f3, rfl⟩ : ∃ f3, f2' = f3 + 1 := ⟨f2' - 1, by omega⟩
        have hj0 : j = 0 := by omega
        subst hj0
        refine ⟨f', m1, l1, u1, k1, o1, m2, l2, u2, k2, ti1, mi1, ro2, rch2, crs2, mrc2, kn1, he1, di1, df1, lt1, rd1, bf2, dm2, im2, hm2, km2, sn2, by omega, w2, rfl, ?_⟩
        rw [fX6_searchSet_L41, if_pos rfl]
