/-! ===== own rows: the calls that change the run at hand, both sides ===== -/
def GC (al : Int32) (n t RR : Nat) (inp : Nat → Int32) (cr : Int32) (ro rch kn he di df : Nat → Int32) (made letters up mkd : Int32) (crs mrc km hm dm im : Nat → Int32) : Prop :=
  IR inp ∧ PL n cr ro rch crs mrc ∧ cnt cr 8 ≤ t ∧ RA al n inp kn he di df km hm dm im ∧ (∀ j, n ≤ j → bt up j = false) ∧ ∃ mm, mm ≤ RR ∧ made = nI mm ∧ (mm = 0 → letters = 0 ∧ up = fX2_everyone (nI n) ∧ mkd = 0 ∧ ∀ p, p < n → kn p = (1 : Int32) <<< (nI p &&& 31) ∧ he p = nI n ∧ di p = 0)
theorem s_step {al : Int32} {n t RR : Nat} (hn : n ≤ 8) (hn2 : 0 < n) (hRn : RR ≤ n) {inp ro rch kn he di df crs mrc km hm dm im : Nat → Int32} {cr made letters up mkd : Int32} (h : GC al n t RR inp cr ro rch kn he di df made letters up mkd crs mrc km hm dm im) (mkl : Int32) (lt rd bf sn : Nat → Int32) :
    ∃ (r made' letters' up' mkd' mkl' : Int32) (kn' he' di' df' lt' rd' km' hm' dm' im' bf' sn' : Nat → Int32), fX5_step al (nI n) (nI RR) made letters up mkd mkl cr ro rch kn he di df lt rd = some (r, made', letters', up', mkd', mkl', kn', he', di', df', lt', rd') ∧ fX6_step al (nI n) (nI RR) made letters up mkd inp crs mrc km hm dm im bf sn = some (r, made', letters', up', mkd', km', hm', dm', im', bf', sn') ∧ GC al n t RR inp cr ro rch kn' he' di' df' made' letters' up' mkd' crs mrc km' hm' dm' im' := by
  obtain ⟨hI, hP, hc, hA, hu, mm, hmR, rfl, h0⟩ := h
  unfold fX5_step fX6_step
  rw [over_eq]
  by_cases hov : mm = RR
  · subst hov
    rw [decide_eq_true (i_le_refl _), if_neg (show ¬ b01 true = 0 by decide), if_pos rfl]
    exact ⟨_, _, _, _, _, _, _, _, _, _, _, _, _, _, _, _, _, _, rfl, rfl, hI, hP, hc, hA, hu, mm, hmR, rfl, h0⟩
  · rw [decide_eq_false (fun q => hov (by have := (leR (by omega) (by omega)).mp q; omega)), if_pos (show b01 false = 0 from rfl), if_neg (fun q => hov ((nI_eq (by omega) (by omega)).mp q))]
    obtain ⟨kn', he', di', df', km', hm', dm', im', lt', rd', bf', sn', l', up', mk', hA', hu', c1, c2⟩ := round_pair (mkd := mkd) (letters := letters) (lt0 := lt) (rd0 := rd) (bf0 := bf) (sn0 := sn) hI hn hn2 (by omega : mm < RR) hRn hP hu hA
    rw [c1, c2, Option.bind_some, Option.bind_some]
    exact ⟨_, _, _, _, _, _, _, _, _, _, _, _, _, _, _, _, _, _, rfl, rfl, hI, hP, hc, hA', hu', mm + 1, by omega, rfl, fun e => absurd e (by omega)⟩
theorem s_run {al : Int32} {n t RR : Nat} (hn : n ≤ 8) (hn2 : 0 < n) (hRn : RR ≤ n) (hR0 : 1 ≤ RR) {inp ro rch kn he di df crs mrc km hm dm im : Nat → Int32} {cr made letters up mkd : Int32} (h : GC al n t RR inp cr ro rch kn he di df made letters up mkd crs mrc km hm dm im) (mkl : Int32) (lt rd bf sn : Nat → Int32) :
    ∃ (r made' letters' up' mkd' mkl' : Int32) (kn' he' di' df' lt' rd' km' hm' dm' im' bf' sn' : Nat → Int32), fX5_run al (nI n) (nI RR) made letters up mkd mkl cr ro rch kn he di df lt rd = some (r, made', letters', up', mkd', mkl', kn', he', di', df', lt', rd') ∧ fX6_run al (nI n) (nI RR) made letters up mkd inp crs mrc km hm dm im bf sn = some (r, made', letters', up', mkd', km', hm', dm', im', bf', sn') ∧ GC al n t RR inp cr ro rch kn' he' di' df' made' letters' up' mkd' crs mrc km' hm' dm' im' := by
  obtain ⟨hI, hP, hc, hA, hu, mm, hmR, rfl, h0⟩ := h
  obtain ⟨kn', he', di', df', km', hm', dm', im', lt', rd', bf', sn', l', up', mk', ml', hA', hu', c1, c2⟩ := run_pair (mkd := mkd) (mkl := mkl) (letters := letters) (lt := lt) (rd := rd) (bf := bf) (sn := sn) hI hn hn2 hmR hRn hP hu hA
  unfold fX5_run
  rw [c1, c2, Option.bind_some]
  exact ⟨_, _, _, _, _, _, _, _, _, _, _, _, _, _, _, _, _, _, rfl, rfl, hI, hP, hc, hA', hu', RR, Nat.le_refl _, rfl, fun e => absurd e (by omega)⟩
theorem RA_begin2 {al : Int32} {n : Nat} {inp : Nat → Int32} (hI : IR inp) (hn : n ≤ 8) {kn he di : Nat → Int32} (hb : ∀ p, p < n → kn p = (1 : Int32) <<< (nI p &&& 31) ∧ he p = nI n ∧ di p = 0) (df km hm dm im : Nat → Int32) :
    RA al n inp kn he di df (pf 8 (kn0 al inp) km) (pf 8 (fun _ => nI n) hm) (pf 8 (fun _ => -2) dm) (pf 8 (fun _ => 0) im) := by
  intro p hp
  obtain ⟨e1, e2, e3⟩ := hb p hp
  have h := begin_RA (alg := al) hI hn kn he di df km hm dm im p hp
  rw [pf_lt _ _ (show p < 8 by omega), pf_lt _ _ (show p < 8 by omega), pf_lt _ _ (show p < 8 by omega), pf_lt _ _ (show p < 8 by omega)] at h
  rw [e1, e2, e3]
  exact ⟨h.1, h.2.1, h.2.2.1, h.2.2.2.1, h.2.2.2.2.1, fun q => absurd rfl q⟩
theorem GC_begin {al : Int32} {n t RR : Nat} (hn : n ≤ 8) {inp : Nat → Int32} (hI : IR inp) {cr : Int32} {ro rch crs mrc : Nat → Int32} (hP : PL n cr ro rch crs mrc) (hc : cnt cr 8 ≤ t) (kn he di df km hm dm im : Nat → Int32) :
    GC al n t RR inp cr ro rch (pf 8 (fun p => (1 : Int32) <<< (nI p &&& 31)) kn) (pf 8 (fun _ => nI n) he) (pf 8 (fun _ => 0) di) (pf 8 (fun _ => 0) df) 0 0 (fX2_everyone (nI n)) 0 crs mrc (pf 8 (kn0 al inp) km) (pf 8 (fun _ => nI n) hm) (pf 8 (fun _ => -2) dm) (pf 8 (fun _ => 0) im) := by
  refine ⟨hI, hP, hc, begin_RA hI hn kn he di df km hm dm im, fun j hj => by rw [ev_bt hn, decide_eq_false (by omega)], 0, Nat.zero_le _, rfl, fun _ => ⟨rfl, rfl, rfl, fun p hp => ?_⟩⟩
  rw [pf_lt _ _ (show p < 8 by omega), pf_lt _ _ (show p < 8 by omega), pf_lt _ _ (show p < 8 by omega)]
  exact ⟨rfl, rfl, rfl⟩
theorem s_again {al : Int32} {n t RR : Nat} (hn : n ≤ 8) {inp ro rch kn he di df crs mrc km hm dm im : Nat → Int32} {cr made letters up mkd : Int32} (h : GC al n t RR inp cr ro rch kn he di df made letters up mkd crs mrc km hm dm im) :
    ∃ (r made' letters' up' mkd' : Int32) (kn' he' di' df' km' hm' dm' im' : Nat → Int32), fX5_again (nI n) made kn he di df = some (r, made', letters', up', mkd', kn', he', di', df') ∧ fX6_again al (nI n) made inp km hm dm im = some (r, made', letters', up', mkd', km', hm', dm', im') ∧ GC al n t RR inp cr ro rch kn' he' di' df' made' letters' up' mkd' crs mrc km' hm' dm' im' := by
  obtain ⟨hI, hP, hc, hA, hu, mm, hmR, rfl, h0⟩ := h
  unfold fX5_again fX6_again
  rw [begin_eq, mbegin_eq, Option.bind_some, Option.bind_some]
  exact ⟨_, _, _, _, _, _, _, _, _, _, _, _, _, rfl, rfl, GC_begin hn hI hP hc kn he di df km hm dm im⟩
theorem in_w (v lo hi : Int32) : fX6_isIn v lo hi = fX5_isWithin v lo hi := rfl
theorem s_input {al : Int32} {n t RR : Nat} (hn : n ≤ 8) (hR : RR ≤ 100) {inp ro rch kn he di df crs mrc km hm dm im : Nat → Int32} {cr made letters up mkd : Int32} (h : GC al n t RR inp cr ro rch kn he di df made letters up mkd crs mrc km hm dm im) (p v : Int32) :
    ∃ (r made' letters' up' mkd' : Int32) (inp' km' hm' dm' im' : Nat → Int32), fX5_input (nI n) made inp p v = some (r, inp') ∧ fX6_input al (nI n) made letters up mkd inp km hm dm im p v = some (r, made', letters', up', mkd', inp', km', hm', dm', im') ∧ made' = made ∧ letters' = letters ∧ up' = up ∧ mkd' = mkd ∧ GC al n t RR inp' cr ro rch kn he di df made letters up mkd crs mrc km' hm' dm' im' := by
  have h9 := h
  obtain ⟨hI, hP, hc, hA, hu, mm, hmR, rfl, h0⟩ := h
  have hz : (nI mm ≤ 0) ↔ mm = 0 := by rw [← nI_0, nI_leI (by omega) (by omega)]; omega
  have hz2 : (nI mm = 0) ↔ mm = 0 := by rw [← nI_0, nI_eq (by omega) (by omega)]
  unfold fX5_input fX6_input fX5_isOpenTo
  rw [isP_eq, in_w]
  rcases isP_cases hn p with hp | ⟨hp, i, hi, rfl⟩
  · simp only [if_pos hp]
    exact ⟨_, _, _, _, _, _, _, _, _, _, rfl, rfl, rfl, rfl, rfl, rfl, h9⟩
  · have hp0 : ¬ fX2_isProcess (nI n) (nI i) = 0 := by rw [hp]; decide
    simp only [if_neg hp0]
    by_cases hw : fX5_isWithin v 0 15 = 0
    · simp only [if_pos hw]
      refine ⟨_, _, _, _, _, _, _, _, _, _, ?_, rfl, rfl, rfl, rfl, rfl, h9⟩
      split <;> rfl
    · simp only [if_neg hw]
      by_cases hm0 : mm = 0
      · rw [if_pos (hz2.mpr hm0), if_neg (by decide), if_pos (hz.mpr hm0), if_pos (inb8 (by omega)), if_pos (inb8 (by omega)), cl8 (by omega), mbegin_eq, Option.bind_some]
        obtain ⟨l0, u0, k0, b0⟩ := h0 hm0
        have hin : 0 ≤ v ∧ v ≤ 15 := by
          apply Classical.byContradiction
          intro q
          exact hw ((within_0 v 0 15).mpr q)
        obtain ⟨w, hw2, hv⟩ := nI_of2 (M := 15) (n := 15) rfl (Int32.not_lt.mpr hin.1) hin.2
        have hI' : IR (upd inp i v) := by
          intro j hj
          by_cases e : j = i
          · subst e; exact ⟨w, by omega, by rw [upd_same]; exact hv⟩
          · rw [upd_ne _ _ e]; exact hI j hj
        refine ⟨_, _, _, _, _, _, _, _, _, _, rfl, rfl, ?_, l0.symm, ?_, k0.symm, hI', hP, hc, RA_begin2 hI' hn b0 df km hm dm im, hu, mm, hmR, rfl, h0⟩
        · rw [hm0]; rfl
        · rw [u0]; rfl
      · rw [if_neg (fun q => hm0 (hz2.mp q)), if_pos rfl, if_neg (fun q => hm0 (hz.mp q))]
        exact ⟨_, _, _, _, _, _, _, _, _, _, rfl, rfl, rfl, rfl, rfl, rfl, h9⟩
