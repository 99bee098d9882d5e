/-! ===== own rows: one process's end of a round, on the reference's side ===== -/
def apM (made : Int32) (d : (Nat → Int32) × (Nat → Int32)) (p : Nat) (o : Option Int32) : (Nat → Int32) × (Nat → Int32) :=
  match o with
  | none => d
  | some v => if d.2 p = 0 then (upd d.1 p v, upd d.2 p made) else d
theorem mdecide_eq (made : Int32) (dc di : Nat → Int32) {p : Nat} (hp : p < 8) (v : Int32) : fX6_decide made dc di (nI p) v = some (apM made (dc, di) p (some v)) := by
  unfold fX6_decide apM
  rw [if_pos (inb8 hp), cl8 hp]
  by_cases h : di p = 0
  · simp only [if_pos h]
  · simp only [if_neg h]
theorem mdecide_eq2 (made : Int32) (d : (Nat → Int32) × (Nat → Int32)) {p : Nat} (hp : p < 8) (v : Int32) : fX6_decide made d.1 d.2 (nI p) v = some (apM made d p (some v)) := mdecide_eq made d.1 d.2 hp v
/-- what the reference decides first -/
def mfo (alg : Int32) (settles mkp : Bool) (knp bfp : Int32) : Option Int32 :=
  if alg = 1 then (if settles = true then some knp else none) else if alg = 2 then (if mkp = true then some bfp else none) else none
def got0 (alg made : Int32) (n p : Nat) : Int32 := if alg = 6 then (if ((made - 1) - (made - 1) / nI n * nI n) = nI p then 1 else 0) else 1
theorem receive_eq (alg R made marks mkd : Int32) (inp kn he dc di bf sn : Nat → Int32) {n p : Nat} (hp : p < 8) (hn : n ≤ 8) (hn0 : 0 < n) (lw : Int32)
    (K G : Int32) (hK : K = kwm alg p sn bf (kn p) n) (hG : G = got0 alg made n p + nI (csm p sn n)) (gm : Bool) (hgm : gm = gmm p sn mkd n) (ham : Bool) (hham : ham = decide (G = he p))
    (hlw : made = R → fX6_lastWord alg (nI n) inp (upd kn p K) (nI p) = some lw) :
    fX6_receive alg (nI n) R made marks inp kn he dc di bf sn (nI p) mkd = some ((if alg = 2 ∧ (ham = true ∨ gm = true) then marks ||| ((1 : Int32) <<< (nI p &&& 31)) else marks), upd kn p K, upd he p G,
      (apM made (apM made (dc, di) p (mfo alg (ham || decide (made = R)) (bt mkd p) K (bf p))) p (if made = R then some lw else none)).1,
      (apM made (apM made (dc, di) p (mfo alg (ham || decide (made = R)) (bt mkd p) K (bf p))) p (if made = R then some lw else none)).2) := by
  have hnz : ¬ nI n = 0 := nI_ne0 hn0 (by omega)
  have key : ∀ g0 : Int32, g0 = got0 alg made n p → ∀ k, fX6_receive_L36 (nI p) mkd alg (nI n) bf sn k 1000 g0 0 0 kn = k G (b01 gm) (upd kn p K) := by
    intro g0 hg k
    have h := recvL alg mkd p n hp hn bf sn kn g0 k n 0 1000 (by omega) (by omega)
    rw [csm, gmm, kwm, upd_self] at h
    rw [show (g0 + nI 0) = g0 by rw [nI_0]; simp] at h
    rw [hK, hgm, hG, ← hg]
    exact h
  unfold fX6_receive
  simp only [jn, if_neg hnz]
  have hfirst : ∀ F : Int32 → Option (Int32 × (Nat → Int32) × (Nat → Int32) × (Nat → Int32) × (Nat → Int32)), (if alg = (6 : Int32) then (if ((made - (1 : Int32)) - (made - (1 : Int32)) / nI n * nI n) = nI p then F 1 else F 0) else F 1) = F (got0 alg made n p) := by
    intro F
    unfold got0
    by_cases h6 : alg = 6
    · simp only [if_pos h6]
      by_cases hh : ((made - (1 : Int32)) - (made - (1 : Int32)) / nI n * nI n) = nI p
      · simp only [if_pos hh]
      · simp only [if_neg hh]
    · simp only [if_neg h6]
  rw [hfirst (fun g => fX6_receive_L36 (nI p) mkd alg (nI n) bf sn _ 1000 g 0 0 kn)]
  rw [key _ rfl]
  simp only [if_pos (inb8 hp), cl8 hp, mdecide_eq made dc di hp, mdecide_eq2 made _ hp, Option.bind_some, upd_same, hs_1 mkd p (by omega : p < 32)]
  have hh : (G = he p) ↔ ham = true := by rw [hham]; simp
  simp only [hh]
  by_cases hov : made = R
  · simp only [hov, if_true, decide_true, Bool.or_true, mfo]
    rw [hov] at hlw
    simp only [hlw rfl, Option.bind_some, mdecide_eq R dc di hp, mdecide_eq2 R _ hp]
    by_cases h1 : alg = 1
    · have h2 : ¬ alg = 2 := by rw [h1]; decide
      cases ham <;> simp [h1, h2, b01, mdecide_eq, mdecide_eq2, hp]
    · by_cases h2 : alg = 2
      · cases ham <;> cases gm <;> cases bt mkd p <;> simp [h1, h2, b01, apM]
      · cases ham <;> simp [h1, h2, b01, apM]
  · simp only [hov, if_false, decide_false, Bool.or_false, mfo]
    by_cases h1 : alg = 1
    · have h2 : ¬ alg = 2 := by rw [h1]; decide
      cases ham <;> simp [h1, h2, b01, apM]
    · by_cases h2 : alg = 2
      · cases ham <;> cases gm <;> cases bt mkd p <;> simp [h1, h2, b01, apM]
      · cases ham <;> simp [h1, h2, b01, apM]
