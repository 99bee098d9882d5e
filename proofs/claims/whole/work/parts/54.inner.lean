/-! ===== own rows: all inputs of a plan, both sides (printed by wip/whole/src/expand.py) ===== -/
theorem U_lt {d : Nat} {g : Nat → Nat} : ∀ m i, (∀ p, i ≤ p → p < i + m → g p < d) → U d g m i < d ^ m
  | 0, _, _ => by rw [U, Nat.pow_zero]; omega
  | m + 1, i, h => by
    have h1 := U_lt m (i + 1) (fun p a b => h p (by omega) (by omega))
    have h2 := h i (Nat.le_refl _) (by omega)
    have h3 : d * (U d g m (i + 1) + 1) ≤ d * d ^ m := Nat.mul_le_mul_left d h1
    rw [U, Nat.pow_succ, Nat.mul_comm (d ^ m) d]
    rw [Nat.mul_add, Nat.mul_one] at h3
    omega
theorem le0_iff {b : Int32} (h : b = 0 ∨ b = 1 ∨ b = 2 ∨ b = 3) : b ≤ 0 ↔ b = 0 := by
  rcases h with rfl | rfl | rfl | rfl <;> decide
theorem try_m {al s : Int32} {n RR : Nat} (hn : n ≤ 8) (hn0 : 0 < n) (hRn : RR ≤ n) {g md : Int32} (hg : md = if al = 3 then g else 1) {ro rch crs mrc : (Nat → Int32)} (hP : PL n s ro rch crs mrc) {kn0_ he0 di0 df0 lt rd : (Nat → Int32)} {mkl m1 l1 u1 k1 o1 : Int32} {kn1 he1 di1 df1 lt1 rd1 : (Nat → Int32)}
    (hC : fX3_makeAllRounds 0 0 (fX2_everyone (nI n)) 0 mkl al (nI n) (nI RR) s ro rch (pf 8 (fun p => (1 : Int32) <<< (nI p &&& 31)) kn0_) (pf 8 (fun _ => nI n) he0) (pf 8 (fun _ => 0) di0) (pf 8 (fun _ => 0) df0) lt rd = some (m1, l1, u1, k1, o1, kn1, he1, di1, df1, lt1, rd1))
    {mi : (Nat → Int32)} (hI : IR mi) (km hm dm im bf sn : (Nat → Int32)) :
    ∃ (l2 u2 k2 b : Int32) (km2 hm2 dm2 im2 bf2 sn2 : (Nat → Int32)), RA al n mi kn1 he1 di1 df1 km2 hm2 dm2 im2 ∧
      fX6_run al (nI n) (nI RR) 0 0 (fX6_all (nI n)) 0 mi crs mrc (pf 8 (kn0 al mi) km) (pf 8 (fun _ => nI n) hm) (pf 8 (fun _ => -2) dm) (pf 8 (fun _ => 0) im) bf sn = some (nI RR, nI RR, l2, u2, k2, km2, hm2, dm2, im2, bf2, sn2) ∧
      fX6_breachNow al (nI n) g (nI RR) mi crs km2 dm2 im2 = some b ∧ fX3_firstBreach al (nI n) md (nI RR) mi s ro kn1 di1 df1 = some b ∧ (b = 0 ∨ b = 1 ∨ b = 2 ∨ b = 3) := by
  obtain ⟨kn2, he2, di2, df2, km2, hm2, dm2, im2, lt2, rd2, bf2, sn2, l2, u2, k2, o2, hA, _, c1, c2⟩ := run_pair (i := 0) (letters := 0) (up := fX2_everyone (nI n)) (mkd := 0) (mkl := mkl) (lt := lt) (rd := rd) (bf := bf) (sn := sn) hI hn hn0 (Nat.zero_le _) hRn hP (fun j hj => by rw [ev_bt hn, decide_eq_false (by omega)]) (begin_RA (alg := al) hI hn kn0_ he0 di0 df0 km hm dm im)
  rw [nI_0] at c1 c2
  rw [hC] at c1
  simp only [Option.some.injEq, Prod.mk.injEq] at c1
  obtain ⟨_, _, _, _, _, h6, h7, h8, h9, _, _⟩ := c1
  subst h6 h7 h8 h9
  obtain ⟨b, d1, d2, d3⟩ := breach_pair (R := nI RR) (g := g) (mde := md) hn hn0 hI hP hA hg
  exact ⟨l2, u2, k2, b, km2, hm2, dm2, im2, bf2, sn2, hA, c2, d2, d1, d3⟩
theorem cmp_lt {a b : Nat} (ha : a < 2 ^ 31) (hb : b < 2 ^ 31) (h : a < b) : ¬ (0 ≤ lg_cmp (lN a) (lN b)) := by
  rw [lg_cmp_ge, lN_le hb ha]; omega
theorem cmp_ge {a b : Nat} (ha : a < 2 ^ 31) (hb : b < 2 ^ 31) (h : b ≤ a) : 0 ≤ lg_cmp (lN a) (lN b) := by
  rw [lg_cmp_ge, lN_le hb ha]; exact h
theorem inner {al s : Int32} {n RR d : Nat} (hn : n ≤ 8) (hn0 : 0 < n) (hRn : RR ≤ n) (hd3 : d ≤ 3) (hD : d ^ n < 2 ^ 30) {g md : Int32} (hg : md = if al = 3 then g else 1) {ro rch crs mrc : (Nat → Int32)} (hP : PL n s ro rch crs mrc) {kn0_ he0 di0 df0 lt rd : (Nat → Int32)} {mkl m1 l1 u1 k1 o1 : Int32} {kn1 he1 di1 df1 lt1 rd1 : (Nat → Int32)}
    (hC : fX3_makeAllRounds 0 0 (fX2_everyone (nI n)) 0 mkl al (nI n) (nI RR) s ro rch (pf 8 (fun p => (1 : Int32) <<< (nI p &&& 31)) kn0_) (pf 8 (fun _ => nI n) he0) (pf 8 (fun _ => 0) di0) (pf 8 (fun _ => 0) df0) lt rd = some (m1, l1, u1, k1, o1, kn1, he1, di1, df1, lt1, rd1))
    (kC : Int32 → (Nat → Int32) → Option (Int32 × Int32 × Int32 × Int32 × Int32 × Int32 × Int32 × (Nat → Int32) × Int32 × (Nat → Int32) × (Nat → Int32) × (Nat → Int32) × (Nat → Int32) × (Nat → Int32) × (Nat → Int32) × (Nat → Int32) × (Nat → Int32))) (kM : (Nat → Int32) → (Nat → Int32) → (Nat → Int32) → (Nat → Int32) → (Nat → Int32) → (Nat → Int32) → (Nat → Int32) → Int32 → Int32 → Int32 → Int32 → Option (Int32 × Int32 × Int32 × Int32 × Int32 × (Nat → Int32) × (Nat → Int32) × (Nat → Int32) × (Nat → Int32) × (Nat → Int32) × (Nat → Int32) × (Nat → Int32) × (Nat → Int32) × (Nat → Int32))) :
    ∀ (j c fuel fuel2 : Nat), c + j = d ^ n → 0 < j → j < fuel → j < fuel2 → ∀ (gg : Nat → Nat) (ti mi bf dm im hm km sn : (Nat → Int32)) (bC made letters up mk_ : Int32), c = U d gg n 0 → IN n d gg ti mi →
      (∃ (b m2 l2 u2 k2 : Int32) (gg' : Nat → Nat) (ti' mi' bf' dm' im' hm' km' sn' : (Nat → Int32)), ¬ b = 0 ∧ IN n d gg' ti' mi' ∧ (∀ p, 8 ≤ p → mi' p = mi p) ∧
        fX4_seek_L77 (nI d) (lN (d ^ n)) al (nI n) md (nI RR) m1 l1 u1 k1 o1 s ro rch kn1 he1 di1 df1 lt1 rd1 kC fuel (lN c) bC ti = some (b, b, m1, l1, u1, k1, o1, ti', s, ro, rch, kn1, he1, di1, df1, lt1, rd1) ∧
        fX6_searchSet_L48 (nI d) al (nI n) g (nI RR) crs mrc kM fuel2 1 bf dm im hm mi km sn made letters up mk_ = some (b, m2, l2, u2, k2, mi', crs, mrc, km', hm', dm', im', bf', sn')) ∨
      (∃ (m2 l2 u2 k2 : Int32) (ti' mi' bf' dm' im' hm' km' sn' : (Nat → Int32)), (∀ p, p < 8 → mi' p = 0) ∧ (∀ p, 8 ≤ p → mi' p = mi p) ∧
        fX4_seek_L77 (nI d) (lN (d ^ n)) al (nI n) md (nI RR) m1 l1 u1 k1 o1 s ro rch kn1 he1 di1 df1 lt1 rd1 kC fuel (lN c) bC ti = kC 0 ti' ∧
        fX6_searchSet_L48 (nI d) al (nI n) g (nI RR) crs mrc kM fuel2 1 bf dm im hm mi km sn made letters up mk_ = kM bf' dm' im' hm' mi' km' sn' m2 l2 u2 k2) := by
  intro j
  induction j with
  | zero => intro c fuel fuel2 _ h; exact absurd h (by omega)
  | succ j ih =>
    intro c fuel fuel2 hc _ hf hf2 gg ti mi bf dm im hm km sn bC made letters up mk_ hU hIN
    obtain ⟨f, rfl⟩ : ∃ f, fuel = f + 1 := ⟨fuel - 1, by omega⟩
    obtain ⟨f2, rfl⟩ : ∃ f, fuel2 = f + 1 := ⟨fuel2 - 1, by omega⟩
    obtain ⟨l2, u2, k2, b, km2, hm2, dm2, im2, bf2, sn2, hA, e2, e3, e4, e5⟩ := try_m hn hn0 hRn hg hP hC (IN_IR hd3 hIN).2 km hm dm im bf sn
    have hok : ∀ p, p < n → ¬ di1 p = 0 → okS n (df1 p) := fun p hp h => ((hA p hp).2.2.2.2.2 h).1
    have hCl : fX4_seek_L77 (nI d) (lN (d ^ n)) al (nI n) md (nI RR) m1 l1 u1 k1 o1 s ro rch kn1 he1 di1 df1 lt1 rd1 kC (f + 1) (lN c) bC ti = (if b = 0 then (Option.bind (fX0_advance ti (nI n) (nI d)) (fun a12 => (fX4_seek_L77 (nI d) (lN (d ^ n)) al (nI n) md (nI RR) m1 l1 u1 k1 o1 s ro rch kn1 he1 di1 df1 lt1 rd1 kC f (lN (c + 1)) b a12))) else some (b, b, m1, l1, u1, k1, o1, ti, s, ro, rch, kn1, he1, di1, df1, lt1, rd1)) := by
      rw [fX4_seek_L77, if_neg (cmp_lt (by omega) (by omega) (by omega)), FB_congr hn hok (IN_eq hIN), e4, Option.bind_some, lN_1]
    have hMo : fX6_searchSet_L48 (nI d) al (nI n) g (nI RR) crs mrc kM (f2 + 1) 1 bf dm im hm mi km sn made letters up mk_ = (if b ≤ 0 then (Option.bind (fX6_nextInputs (nI n) mi (nI d)) (fun a5 => (fX6_searchSet_L48 (nI d) al (nI n) g (nI RR) crs mrc kM f2 a5.1 bf2 dm2 im2 hm2 a5.2 km2 sn2 (nI RR) l2 u2 k2))) else some (b, nI RR, l2, u2, k2, mi, crs, mrc, km2, hm2, dm2, im2, bf2, sn2)) := by
      rw [fX6_searchSet_L48, if_neg (by decide), mbegin_eq, Option.bind_some]
      dsimp only
      rw [e2, Option.bind_some]
      dsimp only
      rw [e3, Option.bind_some]
    rw [hCl, hMo]
    by_cases hb : b = 0
    · rw [if_pos hb, if_pos ((le0_iff e5).mpr hb), hb]
      obtain ⟨ti', mi', g', bb, n1, n2, n3, n4, n5, n6⟩ := nx_pair hn hd3 hIN
      rw [n1, n2]
      simp only [Option.bind_some]
      cases bb
      · obtain ⟨z1, z2⟩ := n6 rfl
        right
        refine ⟨nI RR, l2, u2, k2, ti', mi', bf2, dm2, im2, hm2, km2, sn2, z1, n4, ?_, ?_⟩
        · obtain ⟨f', rfl⟩ : ∃ f', f = f' + 1 := ⟨f - 1, by omega⟩
          rw [fX4_seek_L77, if_pos (cmp_ge (by omega) (by omega) (by omega))]
        · obtain ⟨f', rfl⟩ : ∃ f', f2 = f' + 1 := ⟨f2 - 1, by omega⟩
          rw [fX6_searchSet_L48, if_pos (show b01 false = 0 from rfl)]
      · have z := n5 rfl
        have hlt := U_lt (d := d) (g := g') n 0 (fun p _ hp => (n3.1 p (by omega)).2.2)
        rcases ih (c + 1) f f2 (by omega) (by omega) (by omega) (by omega) g' ti' mi' bf2 dm2 im2 hm2 km2 sn2 0 (nI RR) l2 u2 k2 (by omega) n3 with ⟨b3, m3, l3, u3, k3, gg3, ti3, mi3, bf3, dm3, im3, hm3, km3, sn3, w1, w2, w3, w4, w5⟩ | ⟨m3, l3, u3, k3, ti3, mi3, bf3, dm3, im3, hm3, km3, sn3, w1, w2, w3, w4⟩
        · left
          exact ⟨b3, m3, l3, u3, k3, gg3, ti3, mi3, bf3, dm3, im3, hm3, km3, sn3, w1, w2, fun p hp => by rw [w3 p hp, n4 p hp], w4, w5⟩
        · right
          exact ⟨m3, l3, u3, k3, ti3, mi3, bf3, dm3, im3, hm3, km3, sn3, w1, fun p hp => by rw [w2 p hp, n4 p hp], w3, w4⟩
    · rw [if_neg hb, if_neg (fun e => hb ((le0_iff e5).mp e))]
      left
      exact ⟨b, nI RR, l2, u2, k2, gg, ti, mi, bf2, dm2, im2, hm2, km2, sn2, hb, hIN, fun _ _ => rfl, rfl, rfl⟩
theorem inner_m {al s : Int32} {n RR d : Nat} (hn : n ≤ 8) (hn0 : 0 < n) (hRn : RR ≤ n) (hd3 : d ≤ 3) {g md : Int32} (hg : md = if al = 3 then g else 1) {ro rch crs mrc : (Nat → Int32)} (hP : PL n s ro rch crs mrc) {kn0_ he0 di0 df0 lt rd : (Nat → Int32)} {mkl m1 l1 u1 k1 o1 : Int32} {kn1 he1 di1 df1 lt1 rd1 : (Nat → Int32)}
    (hC : fX3_makeAllRounds 0 0 (fX2_everyone (nI n)) 0 mkl al (nI n) (nI RR) s ro rch (pf 8 (fun p => (1 : Int32) <<< (nI p &&& 31)) kn0_) (pf 8 (fun _ => nI n) he0) (pf 8 (fun _ => 0) di0) (pf 8 (fun _ => 0) df0) lt rd = some (m1, l1, u1, k1, o1, kn1, he1, di1, df1, lt1, rd1))
    (hall : ∀ inp, IR inp → fX3_firstBreach al (nI n) md (nI RR) inp s ro kn1 di1 df1 = some 0)
    (kM : (Nat → Int32) → (Nat → Int32) → (Nat → Int32) → (Nat → Int32) → (Nat → Int32) → (Nat → Int32) → (Nat → Int32) → Int32 → Int32 → Int32 → Int32 → Option (Int32 × Int32 × Int32 × Int32 × Int32 × (Nat → Int32) × (Nat → Int32) × (Nat → Int32) × (Nat → Int32) × (Nat → Int32) × (Nat → Int32) × (Nat → Int32) × (Nat → Int32) × (Nat → Int32))) :
    ∀ (j c fuel2 : Nat), c + j = d ^ n → 0 < j → j < fuel2 → ∀ (gg : Nat → Nat) (mi bf dm im hm km sn : (Nat → Int32)) (made letters up mk_ : Int32), c = U d gg n 0 → IN n d gg mi mi →
      (∃ (m2 l2 u2 k2 : Int32) (mi' bf' dm' im' hm' km' sn' : (Nat → Int32)), (∀ p, p < 8 → mi' p = 0) ∧ (∀ p, 8 ≤ p → mi' p = mi p) ∧
        fX6_searchSet_L48 (nI d) al (nI n) g (nI RR) crs mrc kM fuel2 1 bf dm im hm mi km sn made letters up mk_ = kM bf' dm' im' hm' mi' km' sn' m2 l2 u2 k2) := by
  intro j
  induction j with
  | zero => intro c fuel2 _ h; exact absurd h (by omega)
  | succ j ih =>
    intro c fuel2 hc _ hf2 gg mi bf dm im hm km sn made letters up mk_ hU hIN
    obtain ⟨f2, rfl⟩ : ∃ f, fuel2 = f + 1 := ⟨fuel2 - 1, by omega⟩
    obtain ⟨l2, u2, k2, b, km2, hm2, dm2, im2, bf2, sn2, hA, e2, e3, e4, e5⟩ := try_m hn hn0 hRn hg hP hC (IN_IR hd3 hIN).2 km hm dm im bf sn
    have hb : b = 0 := by
      rw [hall mi (IN_IR hd3 hIN).2] at e4
      exact (Option.some.inj e4).symm
    have hMo : fX6_searchSet_L48 (nI d) al (nI n) g (nI RR) crs mrc kM (f2 + 1) 1 bf dm im hm mi km sn made letters up mk_ = (if b ≤ 0 then (Option.bind (fX6_nextInputs (nI n) mi (nI d)) (fun a5 => (fX6_searchSet_L48 (nI d) al (nI n) g (nI RR) crs mrc kM f2 a5.1 bf2 dm2 im2 hm2 a5.2 km2 sn2 (nI RR) l2 u2 k2))) else some (b, nI RR, l2, u2, k2, mi, crs, mrc, km2, hm2, dm2, im2, bf2, sn2)) := by
      rw [fX6_searchSet_L48, if_neg (by decide), mbegin_eq, Option.bind_some]
      dsimp only
      rw [e2, Option.bind_some]
      dsimp only
      rw [e3, Option.bind_some]
    rw [hMo, if_pos ((le0_iff e5).mpr hb)]
    obtain ⟨ti', mi', g', bb, n1, n2, n3, n4, n5, n6⟩ := nx_pair hn hd3 hIN
    rw [n2]
    simp only [Option.bind_some]
    have n3' : IN n d g' mi' mi' := ⟨fun p hp => ⟨(n3.1 p hp).2.1, (n3.1 p hp).2.1, (n3.1 p hp).2.2⟩, fun p h1 h2 => ⟨(n3.2 p h1 h2).2, (n3.2 p h1 h2).2⟩⟩
    cases bb
    · obtain ⟨z1, z2⟩ := n6 rfl
      refine ⟨nI RR, l2, u2, k2, mi', bf2, dm2, im2, hm2, km2, sn2, z1, n4, ?_⟩
      obtain ⟨f', rfl⟩ : ∃ f', f2 = f' + 1 := ⟨f2 - 1, by omega⟩
      rw [fX6_searchSet_L48, if_pos (show b01 false = 0 from rfl)]
    · have z := n5 rfl
      have hlt := U_lt (d := d) (g := g') n 0 (fun p _ hp => (n3.1 p (by omega)).2.2)
      obtain ⟨m3, l3, u3, k3, mi3, bf3, dm3, im3, hm3, km3, sn3, w1, w2, w3⟩ := ih (c + 1) f2 (by omega) (by omega) (by omega) g' mi' bf2 dm2 im2 hm2 km2 sn2 (nI RR) l2 u2 k2 (by omega) n3'
      exact ⟨m3, l3, u3, k3, mi3, bf3, dm3, im3, hm3, km3, sn3, w1, fun p hp => by rw [w2 p hp, n4 p hp], w3⟩
