/-! ===== own rows: all sets in their order, both sides (printed by wip/whole/src/gen56.py) ===== -/
def HD (l : List Nat) (cr : Int32) : Prop := ∀ s l', l = s :: l' → cr = nI s
theorem nx_of {n s : Nat} {l : List Nat} (h : chk n (s :: l) = true) : ∃ s', fX1_nextCrashing (nI s) (fX2_everyone (nI n)) = some s' ∧ HD l s' ∧ chk n l = true := by
  cases l with
  | nil =>
    rw [chk, Bool.and_eq_true] at h
    obtain ⟨s', e⟩ := Option.isSome_iff_exists.mp h.1
    exact ⟨s', e, (fun _ _ q => by cases q), rfl⟩
  | cons a l =>
    rw [chk, Bool.and_eq_true, decide_eq_true_eq] at h
    refine ⟨nI a, h.1, fun s l' q => ?_, h.2⟩
    injection q with q1 q2
    rw [q1]
theorem ss_L2 (u : Int32) (crs inp mrc : (Nat → Int32)) (k : (Nat → Int32) → (Nat → Int32) → (Nat → Int32) → Option (Int32 × Int32 × Int32 × Int32 × Int32 × (Nat → Int32) × (Nat → Int32) × (Nat → Int32) × (Nat → Int32) × (Nat → Int32) × (Nat → Int32) × (Nat → Int32) × (Nat → Int32) × (Nat → Int32))) :
    ∀ (m i fuel : Nat), i + m = 8 → m < fuel → fX6_searchSet_L2 u k fuel (nI i) (pf i (fun p => (u >>> (nI p &&& 31)) &&& 1) crs) (pf i (fun _ => 0) inp) (pf i (fun _ => 0) mrc) = k (pf 8 (fun p => (u >>> (nI p &&& 31)) &&& 1) crs) (pf 8 (fun _ => 0) inp) (pf 8 (fun _ => 0) mrc) := by
  intro m
  induction m with
  | zero =>
    intro i fuel hi hf
    obtain ⟨f, rfl⟩ : ∃ f, fuel = f + 1 := ⟨fuel - 1, by omega⟩
    obtain rfl : i = 8 := by omega
    rw [fX6_searchSet_L2, if_pos ((le8 (by omega)).mpr (by omega))]
  | succ m ih =>
    intro i fuel hi hf
    obtain ⟨f, rfl⟩ : ∃ f, fuel = f + 1 := ⟨fuel - 1, by omega⟩
    rw [fX6_searchSet_L2, if_neg (fun e => absurd ((le8 (by omega)).mp e) (by omega)), if_pos (inb8 (by omega)), cl8 (by omega), pf_s' rfl, pf_s' rfl, pf_s' rfl, nI_1]
    exact ih (i + 1) f (by omega) (by omega)
theorem searchSet_eq (al nn g R made letters up mk_ : Int32) (inp crs mrc km hm dm im bf sn : (Nat → Int32)) (u d : Int32) :
    fX6_searchSet al nn g R made letters up mk_ inp crs mrc km hm dm im bf sn u d = fX6_searchSet_L41 u d al nn g R (fun v_before_41 v_crashes_41 v_decided_41 v_decidedIn_41 v_heard_41 v_inputs_41 v_knows_41 v_reaches_41 v_sent_41 v_made_41 v_letters_41 v_up_41 v_marks_41 => some ((0 : Int32), v_made_41, v_letters_41, v_up_41, v_marks_41, v_inputs_41, v_crashes_41, v_reaches_41, v_knows_41, v_heard_41, v_decided_41, v_decidedIn_41, v_before_41, v_sent_41)) 1000000 1 bf (pf 8 (fun p => (u >>> (nI p &&& 31)) &&& 1) crs) dm im hm (pf 8 (fun _ => 0) inp) km (pf 8 (fun _ => 0) mrc) sn made letters up mk_ := by
  have h := ss_L2 u crs inp mrc (fun v_crashes_2 v_inputs_2 v_reaches_2 => (fX6_searchSet_L41 u d al nn g R (fun v_before_41 v_crashes_41 v_decided_41 v_decidedIn_41 v_heard_41 v_inputs_41 v_knows_41 v_reaches_41 v_sent_41 v_made_41 v_letters_41 v_up_41 v_marks_41 => some ((0 : Int32), v_made_41, v_letters_41, v_up_41, v_marks_41, v_inputs_41, v_crashes_41, v_reaches_41, v_knows_41, v_heard_41, v_decided_41, v_decidedIn_41, v_before_41, v_sent_41)) 1000000 (1 : Int32) bf v_crashes_2 dm im hm v_inputs_2 km v_reaches_2 sn made letters up mk_)) 8 0 1000 (by omega) (by omega)
  rw [pf_0, pf_0, pf_0, nI_0] at h
  unfold fX6_searchSet
  generalize fX6_searchSet_L41 = G at h ⊢
  generalize fX6_searchSet_L2 = F at h ⊢
  exact h
theorem chk_app {n : Nat} {l' : List Nat} : ∀ l : List Nat, chk n (l ++ l') = true → chk n l' = true
  | [], h => h
  | a :: l, h => by
    rw [List.cons_append] at h
    obtain ⟨_, _, _, h3⟩ := nx_of h
    exact chk_app l h3
theorem set_one {al : Int32} {n RR d P : Nat} (hn : n ≤ 8) (hn0 : 0 < n) (hRn : RR ≤ n) (hR1 : 1 ≤ RR) (hd1 : 1 ≤ d) (hd3 : d ≤ 3) (hD : d ^ n < 500000) (hP31 : P < 500000) {g md : Int32} (hg : md = if al = 3 then g else 1) (hmd : 1 ≤ md) {s : Nat} {s' : Int32} (hs : s < 2 ^ n) (hnx : fX1_nextCrashing (nI s) (fX2_everyone (nI n)) = some s') (k : Int32 → Int32 → Int32 → Int32 → Int32 → Int32 → (Nat → Int32) → (Nat → Int32) → (Nat → Int32) → (Nat → Int32) → (Nat → Int32) → (Nat → Int32) → Int32 → (Nat → Int32) → (Nat → Int32) → (Nat → Int32) → Option (Int32 × Int32 × Int32 × Int32 × Int32 × Int32 × Int32 × (Nat → Int32) × Int32 × (Nat → Int32) × (Nat → Int32) × (Nat → Int32) × (Nat → Int32) × (Nat → Int32) × (Nat → Int32) × (Nat → Int32) × (Nat → Int32))) (c f : Nat) (hf : (RR * 2 ^ (n - 1)) ^ cnt (nI s) 8 ≤ f) (hcP : c + (RR * 2 ^ (n - 1)) ^ cnt (nI s) 8 ≤ P) (ro rch : (Nat → Int32)) (hro : ∀ p, p < 8 → ro p = 1) (hrch : ∀ p, p < 8 → rch p = 0) (bC m0 l0 u0 k0 o0 : Int32) (df di he ti kn lt rd bf crs dm im hm mi km mrc sn : (Nat → Int32)) (made letters up mk_ : Int32) :
    (∃ (b : Int32) (gg : Nat → Nat) (ti1 mi1 ro1 rch1 crs1 mrc1 : (Nat → Int32)), ¬ b = 0 ∧ IN n d gg ti1 mi1 ∧ (∀ p, 8 ≤ p → mi1 p = mi p) ∧ PL n (nI s) ro1 rch1 crs1 mrc1 ∧
      (∃ (m1 l1 u1 k1 o1 : Int32) (kn1 he1 di1 df1 lt1 rd1 : (Nat → Int32)), fX4_seek_L25 (nI d) (lN P) (lN (d ^ n)) al (nI n) md (nI RR) k f (lN c) bC m0 l0 u0 k0 o0 df di he ti kn lt (nI s) rch ro rd = some (b, b, m1, l1, u1, k1, o1, ti1, (nI s), ro1, rch1, kn1, he1, di1, df1, lt1, rd1)) ∧ (∃ (m2 l2 u2 k2 : Int32) (km2 hm2 dm2 im2 bf2 sn2 : (Nat → Int32)), fX6_searchSet al (nI n) g (nI RR) made letters up mk_ mi crs mrc km hm dm im bf sn (nI s) (nI d) = some (b, m2, l2, u2, k2, mi1, crs1, mrc1, km2, hm2, dm2, im2, bf2, sn2))) ∨
    (∃ (fr : Nat) (m1 l1 u1 k1 o1 m2 l2 u2 k2 : Int32) (ti1 mi1 ro1 rch1 crs1 mrc1 kn1 he1 di1 df1 lt1 rd1 bf2 dm2 im2 hm2 km2 sn2 : (Nat → Int32)), fr + (RR * 2 ^ (n - 1)) ^ cnt (nI s) 8 = f ∧ (∀ p, 8 ≤ p → mi1 p = mi p) ∧ (∀ p, p < 8 → ro1 p = 1) ∧ (∀ p, p < 8 → rch1 p = 0) ∧
      fX4_seek_L25 (nI d) (lN P) (lN (d ^ n)) al (nI n) md (nI RR) k f (lN c) bC m0 l0 u0 k0 o0 df di he ti kn lt (nI s) rch ro rd = fX4_seek_L25 (nI d) (lN P) (lN (d ^ n)) al (nI n) md (nI RR) k fr (lN (c + (RR * 2 ^ (n - 1)) ^ cnt (nI s) 8)) 0 m1 l1 u1 k1 o1 df1 di1 he1 ti1 kn1 lt1 s' rch1 ro1 rd1 ∧
      fX6_searchSet al (nI n) g (nI RR) made letters up mk_ mi crs mrc km hm dm im bf sn (nI s) (nI d) = some (0, m2, l2, u2, k2, mi1, crs1, mrc1, km2, hm2, dm2, im2, bf2, sn2)) := by
  have hlo := lo_n hs
  have hc8 := cnt_n8 hn hs
  have hW : 0 < (RR * 2 ^ (n - 1)) ^ cnt (nI s) 8 := Nat.pow_pos (Nat.mul_pos (by omega) (Nat.pow_pos (by omega)))
  have hV : PV n RR (nI s) (fun _ => 1) (fun _ => 0) ro rch (pf 8 (fun p => (nI s >>> (nI p &&& 31)) &&& 1) crs) (pf 8 (fun _ => 0) mrc) :=
    PV_first hn hR1 hro hrch (fun p hp hb => by rw [pf_lt _ _ (show p < 8 by omega)]; exact (hs_1 (nI s) p (by omega)).mpr hb) (fun p hp => pf_lt _ _ hp)
  have h0 : ∀ p, p < n → bt (nI s) p = false → pf 8 (fun p => (nI s >>> (nI p &&& 31)) &&& 1) crs p = 0 := fun p hp hb => by
    rw [pf_lt _ _ (show p < 8 by omega)]; exact (hs_0 (nI s) p (by omega)).mpr hb
  have S := set_run hn hn0 hRn hR1 hd1 hd3 hD hP31 hg hmd hlo hnx k (fun v_before_41 v_crashes_41 v_decided_41 v_decidedIn_41 v_heard_41 v_inputs_41 v_knows_41 v_reaches_41 v_sent_41 v_made_41 v_letters_41 v_up_41 v_marks_41 => some ((0 : Int32), v_made_41, v_letters_41, v_up_41, v_marks_41, v_inputs_41, v_crashes_41, v_reaches_41, v_knows_41, v_heard_41, v_decided_41, v_decidedIn_41, v_before_41, v_sent_41)) ((RR * 2 ^ (n - 1)) ^ cnt (nI s) 8) c f 1000000 (fun _ => 1) (fun _ => 0) ro rch (pf 8 (fun p => (nI s >>> (nI p &&& 31)) &&& 1) crs) (pf 8 (fun _ => 0) mrc) (by rw [V_first, Nat.zero_add, hc8]) hW hf (by omega) hcP hV h0 bC m0 l0 u0 k0 o0 df di he ti kn lt rd bf dm im hm (pf 8 (fun _ => 0) mi) km sn made letters up mk_ (fun p hp => pf_lt _ _ hp)
  rw [searchSet_eq]
  generalize fX6_searchSet_L41 = G at S ⊢
  rcases S with ⟨b, gg, ti1, mi1, ro1, rch1, crs1, mrc1, v1, v2, v3, v4, v5, v6⟩ | ⟨fr, m3, l3, u3, k3, o3, m4, l4, u4, k4, ti3, mi3, ro3, rch3, crs3, mrc3, kn3, he3, di3, df3, lt3, rd3, bf3, dm3, im3, hm3, km3, sn3, v1, v2, v3, v4⟩
  · left
    exact ⟨b, gg, ti1, mi1, ro1, rch1, crs1, mrc1, v1, v2, fun p hp => by rw [v3 p hp, pf_ge _ _ hp], v4, v5, v6⟩
  · right
    exact ⟨fr, m3, l3, u3, k3, o3, m4, l4, u4, k4, ti3, mi3, _, _, crs3, mrc3, kn3, he3, di3, df3, lt3, rd3, bf3, dm3, im3, hm3, km3, sn3, v1, fun p hp => by rw [v2 p hp, pf_ge _ _ hp], fun p hp => pf_lt _ _ hp, fun p hp => pf_lt _ _ hp, v3, v4⟩
theorem sets54 {al : Int32} {n RR d P : Nat} (hn : n ≤ 8) (hn0 : 0 < n) (hRn : RR ≤ n) (hR1 : 1 ≤ RR) (hd1 : 1 ≤ d) (hd3 : d ≤ 3) (hD : d ^ n < 500000) (hP31 : P < 500000) {g md : Int32} (hg : md = if al = 3 then g else 1) (hmd : 1 ≤ md)  {m : Nat} (hm31 : m < 2 ^ 31) (k : Int32 → Int32 → Int32 → Int32 → Int32 → Int32 → (Nat → Int32) → (Nat → Int32) → (Nat → Int32) → (Nat → Int32) → (Nat → Int32) → (Nat → Int32) → Int32 → (Nat → Int32) → (Nat → Int32) → (Nat → Int32) → Option (Int32 × Int32 × Int32 × Int32 × Int32 × Int32 × Int32 × (Nat → Int32) × Int32 × (Nat → Int32) × (Nat → Int32) × (Nat → Int32) × (Nat → Int32) × (Nat → Int32) × (Nat → Int32) × (Nat → Int32) × (Nat → Int32))) (k54 : (Nat → Int32) → (Nat → Int32) → (Nat → Int32) → (Nat → Int32) → (Nat → Int32) → (Nat → Int32) → (Nat → Int32) → (Nat → Int32) → (Nat → Int32) → Int32 → Int32 → Int32 → Int32 → Int32 → Option (Int32 × Int32 × Int32 × Int32 × Int32 × Int32 × (Nat → Int32) × (Nat → Int32) × (Nat → Int32) × (Nat → Int32) × (Nat → Int32) × (Nat → Int32) × (Nat → Int32) × (Nat → Int32) × (Nat → Int32) × (Nat → Int32) × (Nat → Int32) × (Nat → Int32) × (Nat → Int32))) (rest : List Nat) :
    ∀ (r i c f f2 : Nat), i + r = 2 ^ n → r < f2 → chk n (filt m r i ++ rest) = true → ws (RR * 2 ^ (n - 1)) (filt m r i) ≤ f → c + ws (RR * 2 ^ (n - 1)) (filt m r i) ≤ P → ∀ (cr : Int32) (ro rch : (Nat → Int32)), HD (filt m r i ++ rest) cr → (∀ p, p < 8 → ro p = 1) → (∀ p, p < 8 → rch p = 0) → ∀ (bC m0 l0 u0 k0 o0 : Int32) (df di he ti kn lt rd bf crs dm im hm mi km mrc sn : (Nat → Int32)) (made letters up mk_ : Int32),
    (∃ (b s : Int32) (gg : Nat → Nat) (ti1 mi1 ro1 rch1 crs1 mrc1 : (Nat → Int32)), ¬ b = 0 ∧ IN n d gg ti1 mi1 ∧ (∀ p, 8 ≤ p → mi1 p = mi p) ∧ PL n s ro1 rch1 crs1 mrc1 ∧ cnt s 8 = m ∧
      (∃ (m1 l1 u1 k1 o1 : Int32) (kn1 he1 di1 df1 lt1 rd1 : (Nat → Int32)), fX4_seek_L25 (nI d) (lN P) (lN (d ^ n)) al (nI n) md (nI RR) k f (lN c) bC m0 l0 u0 k0 o0 df di he ti kn lt cr rch ro rd = some (b, b, m1, l1, u1, k1, o1, ti1, s, ro1, rch1, kn1, he1, di1, df1, lt1, rd1)) ∧ (∃ (m2 l2 u2 k2 : Int32) (km2 hm2 dm2 im2 bf2 sn2 : (Nat → Int32)), fX6_search_L54 (nI d) (nI m) al (nI n) g (nI RR) k54 f2 (nI i) bf crs dm im hm mi km mrc sn made letters up mk_ 0 = k54 bf2 crs1 dm2 im2 hm2 mi1 km2 mrc1 sn2 m2 l2 u2 k2 b)) ∨
    (∃ (fr : Nat) (cr1 bC1 m1 l1 u1 k1 o1 m2 l2 u2 k2 : Int32) (ti1 mi1 ro1 rch1 crs1 mrc1 kn1 he1 di1 df1 lt1 rd1 bf2 dm2 im2 hm2 km2 sn2 : (Nat → Int32)), fr + ws (RR * 2 ^ (n - 1)) (filt m r i) = f ∧ (∀ p, 8 ≤ p → mi1 p = mi p) ∧ (∀ p, p < 8 → ro1 p = 1) ∧ (∀ p, p < 8 → rch1 p = 0) ∧ HD rest cr1 ∧ ((filt m r i = [] ∧ bC1 = bC) ∨ bC1 = 0) ∧
      fX4_seek_L25 (nI d) (lN P) (lN (d ^ n)) al (nI n) md (nI RR) k f (lN c) bC m0 l0 u0 k0 o0 df di he ti kn lt cr rch ro rd = fX4_seek_L25 (nI d) (lN P) (lN (d ^ n)) al (nI n) md (nI RR) k fr (lN (c + ws (RR * 2 ^ (n - 1)) (filt m r i))) bC1 m1 l1 u1 k1 o1 df1 di1 he1 ti1 kn1 lt1 cr1 rch1 ro1 rd1 ∧
      fX6_search_L54 (nI d) (nI m) al (nI n) g (nI RR) k54 f2 (nI i) bf crs dm im hm mi km mrc sn made letters up mk_ 0 = k54 bf2 crs1 dm2 im2 hm2 mi1 km2 mrc1 sn2 m2 l2 u2 k2 0) := by
  have h256 := pow8 hn
  have h1n : 0 < 2 ^ n := Nat.pow_pos (by omega)
  have hall : fX6_all (nI n) = nI (2 ^ n - 1) := by rw [all_ev, ev_nI n (by omega)]
  intro r
  induction r with
  | zero =>
    intro i c f f2 hi hf2 hch hf hcP cr ro rch hH hro hrch bC m0 l0 u0 k0 o0 df di he ti kn lt rd bf crs dm im hm mi km mrc sn made letters up mk_
    obtain ⟨f2, rfl⟩ : ∃ f', f2 = f' + 1 := ⟨f2 - 1, by omega⟩
    right
    rw [filt, List.nil_append] at hH
    refine ⟨f, cr, bC, m0, l0, u0, k0, o0, made, letters, up, mk_, ti, mi, ro, rch, crs, mrc, kn, he, di, df, lt, rd, bf, dm, im, hm, km, sn, by rw [filt, ws, Nat.add_zero], fun _ _ => rfl, hro, hrch, hH, Or.inl ⟨by rw [filt], rfl⟩, by rw [filt, ws, Nat.add_zero], ?_⟩
    rw [fX6_search_L54, hall, if_pos ((nI_ltI (by omega) (by omega)).mpr (by omega))]
  | succ r ih =>
    intro i c f f2 hi hf2 hch hf hcP cr ro rch hH hro hrch bC m0 l0 u0 k0 o0 df di he ti kn lt rd bf crs dm im hm mi km mrc sn made letters up mk_
    obtain ⟨f2, rfl⟩ : ∃ f', f2 = f' + 1 := ⟨f2 - 1, by omega⟩
    have hc := cnt_le8 (nI i) 8
    have hb : fX6_bits (nI i) = some (nI (cnt (nI i) 8)) := bits_eq (fun j hj => lo_n (n := n) (by omega) j (by omega))
    rw [fX6_search_L54, hall, if_neg (fun e => absurd ((nI_ltI (by omega) (by omega)).mp e) (by omega)), if_pos rfl, hb, Option.bind_some, nI_1]
    by_cases hm_ : cnt (nI i) 8 = m
    · rw [filt, if_pos hm_] at hch hf hcP hH ⊢
      rw [if_pos (show nI (cnt (nI i) 8) = nI m by rw [hm_])]
      rw [List.cons_append] at hch hH
      obtain ⟨s', e1, e2, e3⟩ := nx_of hch
      have hcr := hH i _ rfl
      subst hcr
      rw [ws] at hf hcP
      rcases set_one hn hn0 hRn hR1 hd1 hd3 hD hP31 hg hmd (show i < 2 ^ n by omega) e1 k c f (by omega) (by omega) ro rch hro hrch bC m0 l0 u0 k0 o0 df di he ti kn lt rd bf crs dm im hm mi km mrc sn made letters up mk_ with ⟨b, gg, ti1, mi1, ro1, rch1, crs1, mrc1, v1, v2, v3, v4, v5, m2, l2, u2, k2, km2, hm2, dm2, im2, bf2, sn2, v6⟩ | ⟨fr, m3, l3, u3, k3, o3, m4, l4, u4, k4, ti3, mi3, ro3, rch3, crs3, mrc3, kn3, he3, di3, df3, lt3, rd3, bf3, dm3, im3, hm3, km3, sn3, v1, v2, v3, v4, v5, v6⟩
      · left
        refine ⟨b, nI i, gg, ti1, mi1, ro1, rch1, crs1, mrc1, v1, v2, v3, v4, hm_, v5, m2, l2, u2, k2, km2, hm2, dm2, im2, bf2, sn2, ?_⟩
        rw [v6, Option.bind_some]
        obtain ⟨f3, rfl⟩ : ∃ f', f2 = f' + 1 := ⟨f2 - 1, by omega⟩
        show fX6_search_L54 (nI d) (nI m) al (nI n) g (nI RR) k54 (f3 + 1) (nI (i + 1)) bf2 crs1 dm2 im2 hm2 mi1 km2 mrc1 sn2 m2 l2 u2 k2 b = _
        rw [fX6_search_L54]
        by_cases hq : fX6_all (nI n) < nI (i + 1)
        · rw [if_pos hq]
        · rw [if_neg hq, if_neg v1]
      · rw [v6, v5, Option.bind_some]
        have I := ih (i + 1) (c + (RR * 2 ^ (n - 1)) ^ cnt (nI i) 8) fr f2 (by omega) (by omega) e3 (by omega) (by omega) s' ro3 rch3 e2 v3 v4 0 m3 l3 u3 k3 o3 df3 di3 he3 ti3 kn3 lt3 rd3 bf3 crs3 dm3 im3 hm3 mi3 km3 mrc3 sn3 m4 l4 u4 k4
        rcases I with ⟨b, s, gg, ti1, mi1, ro1, rch1, crs1, mrc1, w1, w2, w3, w4, w5, w6, w7⟩ | ⟨fr2, cr1, bC1, m1, l1, u1, k1, o1, m2, l2, u2, k2, ti1, mi1, ro1, rch1, crs1, mrc1, kn1, he1, di1, df1, lt1, rd1, bf2, dm2, im2, hm2, km2, sn2, w1, w2, w3, w4, w5, w6, w7, w8⟩
        · left
          exact ⟨b, s, gg, ti1, mi1, ro1, rch1, crs1, mrc1, w1, w2, fun p hp => by rw [w3 p hp, v2 p hp], w4, w5, w6, w7⟩
        · right
          refine ⟨fr2, cr1, bC1, m1, l1, u1, k1, o1, m2, l2, u2, k2, ti1, mi1, ro1, rch1, crs1, mrc1, kn1, he1, di1, df1, lt1, rd1, bf2, dm2, im2, hm2, km2, sn2, ?_, fun p hp => by rw [w2 p hp, v2 p hp], w3, w4, w5, Or.inr ?_, ?_, w8⟩
          · rw [ws]; omega
          · rcases w6 with ⟨_, w⟩ | w
            · exact w
            · exact w
          · rw [w7, ws, Nat.add_assoc]
    · rw [filt, if_neg hm_] at hch hf hcP hH ⊢
      rw [if_neg (fun e => hm_ (by
        have h5 : m < 2 ^ 31 := hm31
        exact (nI_eq (by omega) h5).mp e))]
      exact ih (i + 1) c f f2 (by omega) (by omega) hch hf hcP cr ro rch hH hro hrch bC m0 l0 u0 k0 o0 df di he ti kn lt rd bf crs dm im hm mi km mrc sn made letters up mk_
theorem sets37 {al : Int32} {n RR d P : Nat} (hn : n ≤ 8) (hn0 : 0 < n) (hRn : RR ≤ n) (hR1 : 1 ≤ RR) (hd1 : 1 ≤ d) (hd3 : d ≤ 3) (hD : d ^ n < 500000) (hP31 : P < 500000) {g md : Int32} (hg : md = if al = 3 then g else 1) (hmd : 1 ≤ md) {t : Nat} (ht : t ≤ 100) (k : Int32 → Int32 → Int32 → Int32 → Int32 → Int32 → (Nat → Int32) → (Nat → Int32) → (Nat → Int32) → (Nat → Int32) → (Nat → Int32) → (Nat → Int32) → Int32 → (Nat → Int32) → (Nat → Int32) → (Nat → Int32) → Option (Int32 × Int32 × Int32 × Int32 × Int32 × Int32 × Int32 × (Nat → Int32) × Int32 × (Nat → Int32) × (Nat → Int32) × (Nat → Int32) × (Nat → Int32) × (Nat → Int32) × (Nat → Int32) × (Nat → Int32) × (Nat → Int32))) (k54 : (Nat → Int32) → (Nat → Int32) → (Nat → Int32) → (Nat → Int32) → (Nat → Int32) → (Nat → Int32) → (Nat → Int32) → (Nat → Int32) → (Nat → Int32) → Int32 → Int32 → Int32 → Int32 → Int32 → Option (Int32 × Int32 × Int32 × Int32 × Int32 × Int32 × (Nat → Int32) × (Nat → Int32) × (Nat → Int32) × (Nat → Int32) × (Nat → Int32) × (Nat → Int32) × (Nat → Int32) × (Nat → Int32) × (Nat → Int32) × (Nat → Int32) × (Nat → Int32) × (Nat → Int32) × (Nat → Int32))) :
    ∀ (q m c f f2 : Nat), m + q = t + 1 → q < f2 → chk n (fromM n q m) = true → ws (RR * 2 ^ (n - 1)) (fromM n q m) ≤ f → c + ws (RR * 2 ^ (n - 1)) (fromM n q m) ≤ P → ∀ (cr : Int32) (ro rch : (Nat → Int32)), HD (fromM n q m) cr → (∀ p, p < 8 → ro p = 1) → (∀ p, p < 8 → rch p = 0) → ∀ (bC m0 l0 u0 k0 o0 : Int32) (df di he ti kn lt rd bf crs dm im hm mi km mrc sn : (Nat → Int32)) (made letters up mk_ : Int32),
    (∃ (b s : Int32) (gg : Nat → Nat) (ti1 mi1 ro1 rch1 crs1 mrc1 : (Nat → Int32)), ¬ b = 0 ∧ IN n d gg ti1 mi1 ∧ (∀ p, 8 ≤ p → mi1 p = mi p) ∧ PL n s ro1 rch1 crs1 mrc1 ∧ cnt s 8 ≤ t ∧
      (∃ (m1 l1 u1 k1 o1 : Int32) (kn1 he1 di1 df1 lt1 rd1 : (Nat → Int32)), fX4_seek_L25 (nI d) (lN P) (lN (d ^ n)) al (nI n) md (nI RR) k f (lN c) bC m0 l0 u0 k0 o0 df di he ti kn lt cr rch ro rd = some (b, b, m1, l1, u1, k1, o1, ti1, s, ro1, rch1, kn1, he1, di1, df1, lt1, rd1)) ∧ (∃ (m2 l2 u2 k2 : Int32) (km2 hm2 dm2 im2 bf2 sn2 : (Nat → Int32)), fX6_search_L37 (nI d) al (nI n) (nI t) g (nI RR) k54 f2 (nI m) bf crs dm im hm mi km mrc sn made letters up mk_ 0 = k54 bf2 crs1 dm2 im2 hm2 mi1 km2 mrc1 sn2 m2 l2 u2 k2 b)) ∨
    (∃ (fr : Nat) (cr1 bC1 m1 l1 u1 k1 o1 m2 l2 u2 k2 : Int32) (ti1 mi1 ro1 rch1 crs1 mrc1 kn1 he1 di1 df1 lt1 rd1 bf2 dm2 im2 hm2 km2 sn2 : (Nat → Int32)), fr + ws (RR * 2 ^ (n - 1)) (fromM n q m) = f ∧ (∀ p, 8 ≤ p → mi1 p = mi p) ∧ (∀ p, p < 8 → ro1 p = 1) ∧ (∀ p, p < 8 → rch1 p = 0) ∧ True ∧ ((fromM n q m = [] ∧ bC1 = bC) ∨ bC1 = 0) ∧
      fX4_seek_L25 (nI d) (lN P) (lN (d ^ n)) al (nI n) md (nI RR) k f (lN c) bC m0 l0 u0 k0 o0 df di he ti kn lt cr rch ro rd = fX4_seek_L25 (nI d) (lN P) (lN (d ^ n)) al (nI n) md (nI RR) k fr (lN (c + ws (RR * 2 ^ (n - 1)) (fromM n q m))) bC1 m1 l1 u1 k1 o1 df1 di1 he1 ti1 kn1 lt1 cr1 rch1 ro1 rd1 ∧
      fX6_search_L37 (nI d) al (nI n) (nI t) g (nI RR) k54 f2 (nI m) bf crs dm im hm mi km mrc sn made letters up mk_ 0 = k54 bf2 crs1 dm2 im2 hm2 mi1 km2 mrc1 sn2 m2 l2 u2 k2 0) := by
  have h256 := pow8 hn
  intro q
  induction q with
  | zero =>
    intro m c f f2 hi hf2 hch hf hcP cr ro rch hH hro hrch bC m0 l0 u0 k0 o0 df di he ti kn lt rd bf crs dm im hm mi km mrc sn made letters up mk_
    obtain ⟨f2, rfl⟩ : ∃ f', f2 = f' + 1 := ⟨f2 - 1, by omega⟩
    right
    refine ⟨f, cr, bC, m0, l0, u0, k0, o0, made, letters, up, mk_, ti, mi, ro, rch, crs, mrc, kn, he, di, df, lt, rd, bf, dm, im, hm, km, sn, by rw [fromM, ws, Nat.add_zero], fun _ _ => rfl, hro, hrch, trivial, Or.inl ⟨by rw [fromM], rfl⟩, by rw [fromM, ws, Nat.add_zero], ?_⟩
    rw [fX6_search_L37, if_pos ((nI_ltI (by omega) (by omega)).mpr (by omega))]
  | succ q ih =>
    intro m c f f2 hi hf2 hch hf hcP cr ro rch hH hro hrch bC m0 l0 u0 k0 o0 df di he ti kn lt rd bf crs dm im hm mi km mrc sn made letters up mk_
    obtain ⟨f2, rfl⟩ : ∃ f', f2 = f' + 1 := ⟨f2 - 1, by omega⟩
    rw [fX6_search_L37, if_neg (fun e => absurd ((nI_ltI (by omega) (by omega)).mp e) (by omega)), if_pos rfl, nI_1]
    rw [fromM] at hch hf hcP hH ⊢
    rw [ws_app] at hf hcP
    rw [ws_app]
    have S := sets54 hn hn0 hRn hR1 hd1 hd3 hD hP31 hg hmd (m := m) (by omega) k (fun v_before_54 v_crashes_54 v_decided_54 v_decidedIn_54 v_heard_54 v_inputs_54 v_knows_54 v_reaches_54 v_sent_54 v_made_54 v_letters_54 v_up_54 v_marks_54 v_foundBreach_54 => (fX6_search_L37 (nI d) al (nI n) (nI t) g (nI RR) k54 f2 (nI (m + 1)) v_before_54 v_crashes_54 v_decided_54 v_decidedIn_54 v_heard_54 v_inputs_54 v_knows_54 v_reaches_54 v_sent_54 v_made_54 v_letters_54 v_up_54 v_marks_54 v_foundBreach_54)) (fromM n q (m + 1)) (2 ^ n) 0 c f 1000 (by omega) (by omega) hch (by omega) (by omega) cr ro rch hH hro hrch bC m0 l0 u0 k0 o0 df di he ti kn lt rd bf crs dm im hm mi km mrc sn made letters up mk_
    rw [nI_0] at S
    generalize fX6_search_L54 = G at S ⊢
    rcases S with ⟨b, s, gg, ti1, mi1, ro1, rch1, crs1, mrc1, w1, w2, w3, w4, w5, w6, m2, l2, u2, k2, km2, hm2, dm2, im2, bf2, sn2, w7⟩ | ⟨fr, cr1, bC1, m3, l3, u3, k3, o3, m4, l4, u4, k4, ti3, mi3, ro3, rch3, crs3, mrc3, kn3, he3, di3, df3, lt3, rd3, bf3, dm3, im3, hm3, km3, sn3, v1, v2, v3, v4, v5, v6, v7, v8⟩
    · left
      refine ⟨b, s, gg, ti1, mi1, ro1, rch1, crs1, mrc1, w1, w2, w3, w4, by omega, w6, m2, l2, u2, k2, km2, hm2, dm2, im2, bf2, sn2, ?_⟩
      refine w7.trans ?_
      obtain ⟨f3, rfl⟩ : ∃ f', f2 = f' + 1 := ⟨f2 - 1, by omega⟩
      show fX6_search_L37 (nI d) al (nI n) (nI t) g (nI RR) k54 (f3 + 1) (nI (m + 1)) bf2 crs1 dm2 im2 hm2 mi1 km2 mrc1 sn2 m2 l2 u2 k2 b = _
      rw [fX6_search_L37]
      by_cases hq : nI t < nI (m + 1)
      · rw [if_pos hq]
      · rw [if_neg hq, if_neg w1]
    · have I := ih (m + 1) (c + ws (RR * 2 ^ (n - 1)) (filt m (2 ^ n) 0)) fr f2 (by omega) (by omega) (chk_app _ hch) (by omega) (by omega) cr1 ro3 rch3 v5 v3 v4 bC1 m3 l3 u3 k3 o3 df3 di3 he3 ti3 kn3 lt3 rd3 bf3 crs3 dm3 im3 hm3 mi3 km3 mrc3 sn3 m4 l4 u4 k4
      rw [v7]
      rcases I with ⟨b, s, gg, ti1, mi1, ro1, rch1, crs1, mrc1, w1, w2, w3, w4, w5, w6, m2, l2, u2, k2, km2, hm2, dm2, im2, bf2, sn2, w7⟩ | ⟨fr2, cr2, bC2, m1, l1, u1, k1, o1, m2, l2, u2, k2, ti1, mi1, ro1, rch1, crs1, mrc1, kn1, he1, di1, df1, lt1, rd1, bf2, dm2, im2, hm2, km2, sn2, w1, w2, w3, w4, w5, w6, w7, w8⟩
      · left
        exact ⟨b, s, gg, ti1, mi1, ro1, rch1, crs1, mrc1, w1, w2, fun p hp => by rw [w3 p hp, v2 p hp], w4, w5, w6, m2, l2, u2, k2, km2, hm2, dm2, im2, bf2, sn2, v8.trans w7⟩
      · right
        refine ⟨fr2, cr2, bC2, m1, l1, u1, k1, o1, m2, l2, u2, k2, ti1, mi1, ro1, rch1, crs1, mrc1, kn1, he1, di1, df1, lt1, rd1, bf2, dm2, im2, hm2, km2, sn2, by omega, fun p hp => by rw [w2 p hp, v2 p hp], w3, w4, trivial, ?_, ?_, v8.trans w8⟩
        · rcases w6 with ⟨w, w'⟩ | w
          · rcases v6 with ⟨x, x'⟩ | x
            · exact Or.inl ⟨by rw [x, w, List.append_nil], by rw [w', x']⟩
            · exact Or.inr (by rw [w', x])
          · exact Or.inr w
        · rw [w7, Nat.add_assoc]
