theorem zi_halve : ∀ nb, nb < 7 → ∀ c, c < 65 → (match L_X6_sneezes_88 1000 (nI c) (nI (2 ^ nb)) with
    | some ab => decide (M_X7_told (lN c) (lN (2 ^ nb)) 0 = some ab.1.toInt64 ∧ M_X7_told (lN c) (lN (2 ^ nb)) 1 = some ab.2.toInt64)
    | none => false) = true := by decide +kernel
theorem zi_halve2 {nb c : Nat} (h : nb ≤ 6) (hc : c ≤ 2 ^ nb) : ∃ ab, L_X6_sneezes_88 1000 (nI c) (nI (2 ^ nb)) = some ab ∧ M_X7_told (lN c) (lN (2 ^ nb)) 0 = some ab.1.toInt64 ∧ M_X7_told (lN c) (lN (2 ^ nb)) 1 = some ab.2.toInt64 := by
  have h64 := (zi_p64 h).1
  have h1 := zi_halve nb (by omega) c (by omega)
  cases h2 : L_X6_sneezes_88 1000 (nI c) (nI (2 ^ nb)) with
  | none => rw [h2] at h1; cases h1
  | some ab =>
    rw [h2] at h1
    exact ⟨ab, rfl, of_decide_eq_true h1⟩
theorem eq_sneezes : EQ_sneezes zi_Inv := by
  intro iv av s1 hI
  obtain ⟨nb, nr, sp, td, np, nq, kd, nd, fr, to, lg, pb, pm, qb, qm, qi, hW, hV, hV2, hP, hP1, hP2, hQ, hQ2, hS0, hS1, hS2, hS3, hT, hF, hH⟩ := hI
  have hnb := hW.2.1
  obtain ⟨h64, h1p⟩ := zi_p64 hnb
  unfold M_X6_sneezes M_X7_sneezes M_X7_lost
  rw [zi_inL 1 (by decide), Option.bind_some]
  rcases zi_rng s1 (n := 2) (by omega) with ⟨w, hw, rfl, h⟩ | ⟨k1, k2⟩ | ⟨k1, k2, k3⟩
  · rw [if_neg (nI_pos (by omega)), if_neg (show ¬ (1 : Int32) < nI w from nI_nlt (a := 1) (by omega) (by omega)), if_pos (show 0 ≤ (nI w).toInt ∧ (nI w).toInt ≤ (1 : Int) by omega), if_neg (show ¬ (1 : Int32) = 0 by decide)]
    by_cases h0 : nb = 0
    · have ez : M_X6_hasNoValley (iv 1 5) = some 1 := by rw [hV.1, zi_noV hnb, if_pos h0]
      have ez2 : iv 45 1 = 0 := by rw [hV2.1, h0]; rfl
      rw [ez, Option.bind_some, if_neg (show ¬ (1 : Int32) = 0 by decide), if_pos ez2]
      exact ⟨_, _, rfl, rfl, rfl, ⟨nb, nr, sp, td, np, nq, kd, nd, fr, to, lg, pb, pm, qb, qm, qi, hW, hV, hV2, hP, hP1, hP2, hQ, hQ2, hS0, hS1, hS2, hS3, hT, hF, hH⟩⟩
    · have ez : M_X6_hasNoValley (iv 1 5) = some 0 := by rw [hV.1, zi_noV hnb, if_neg h0]
      have ez2 : ¬ iv 45 1 = 0 := by rw [hV2.1]; exact nI_ne0 (by omega) (by omega)
      obtain ⟨c, u, v, m1, m2, m3, m4, m5⟩ := zi_sneezeL hW hV hV2 (iv 45 18) (av 56) (av 57) (2 ^ nb) 1000 0 0 (iv 18 3) (iv 31 5) (av 19) (av 20) (av 21) (av 32) (av 33) (av 34) (av 35) (av 60) (av 61) (av 59) (av 58) (by omega) (by omega) (Nat.le_refl _)
      have et : iv 1 8 = iv 45 4 := by rw [hV.2.2.2.1, hV2.2.2.2.1]
      rw [show nI 0 = (0 : Int32) from rfl, show lN 0 = (0 : Int64) from rfl] at m2
      rw [show nI 0 = (0 : Int32) from rfl] at m1
      obtain ⟨ab, q1, q2, q3⟩ := zi_halve2 hnb m3
      rw [ez, Option.bind_some, if_pos (show (0 : Int32) = 0 from rfl), if_neg ez2, (zi_all hnb hV.1).1, (zi_all hnb hV2.1).2]
      simp only [Option.bind_some, nme]
      rw [et] at m1 ⊢
      rw [m1, m2]
      simp only [Option.bind_some, nI_1]
      rw [show 2 ^ nb - 1 + 1 = 2 ^ nb by omega, m4, m5, q1, nI_l (by omega), show lN (2 ^ nb - 1) + (1 : Int64) = lN (2 ^ nb) from by
        have := (Int64.ofNat_add (2 ^ nb - 1) 1).symm
        rw [show 2 ^ nb - 1 + 1 = 2 ^ nb by omega] at this
        exact this, Option.bind_some]
      rcases (show w = 0 ∨ w = 1 by omega) with rfl | rfl
      · rw [if_pos (show nI 0 = 0 from rfl), show nI 0 = (0 : Int32) from rfl, q2, Option.bind_some]
        exact ⟨_, _, rfl, rfl, rfl, ⟨nb, nr, sp, td, np, nq, kd, nd, fr, to, lg, pb, pm, qb, qm, qi, hW, hV, hV2, hP, hP1, hP2, hQ, hQ2, hS0, hS1, hS2, hS3, hT, hF, hH⟩⟩
      · rw [if_neg (show ¬ nI 1 = 0 by decide), show nI 1 = (1 : Int32) from rfl, q3, Option.bind_some]
        exact ⟨_, _, rfl, rfl, rfl, ⟨nb, nr, sp, td, np, nq, kd, nd, fr, to, lg, pb, pm, qb, qm, qi, hW, hV, hV2, hP, hP1, hP2, hQ, hQ2, hS0, hS1, hS2, hS3, hT, hF, hH⟩⟩
  · rw [if_pos k1, if_neg (show ¬ (0 ≤ s1.toInt ∧ s1.toInt ≤ (1 : Int)) by omega), if_pos (show (0 : Int32) = 0 from rfl)]
    exact ⟨_, _, rfl, rfl, rfl, ⟨nb, nr, sp, td, np, nq, kd, nd, fr, to, lg, pb, pm, qb, qm, qi, hW, hV, hV2, hP, hP1, hP2, hQ, hQ2, hS0, hS1, hS2, hS3, hT, hF, hH⟩⟩
  · rw [if_neg k1, if_pos (show (1 : Int32) < s1 by rw [Int32.lt_iff_toInt_lt]; show (1 : Int) < s1.toInt; omega), if_neg (show ¬ (0 ≤ s1.toInt ∧ s1.toInt ≤ (1 : Int)) by omega), if_pos (show (0 : Int32) = 0 from rfl)]
    exact ⟨_, _, rfl, rfl, rfl, ⟨nb, nr, sp, td, np, nq, kd, nd, fr, to, lg, pb, pm, qb, qm, qi, hW, hV, hV2, hP, hP1, hP2, hQ, hQ2, hS0, hS1, hS2, hS3, hT, hF, hH⟩⟩
/-! readings -/
def zn_all (q : Nat → Bool) : Nat → Bool
  | 0 => true
  | n + 1 => zn_all q n && q n
theorem zn_all_no {q : Nat → Bool} {k : Nat} (h : q k = false) : ∀ {n : Nat}, k < n → zn_all q n = false := by
  intro n
  induction n with
  | zero => intro hk; exact absurd hk (Nat.not_lt_zero _)
  | succ n ih =>
    intro hk
    rw [zn_all]
    by_cases h2 : k = n
    · subst h2
      rw [h, Bool.and_false]
    · rw [ih (by omega), Bool.false_and]
def zn_so (h : Nat → Nat → Bool) (qb qm qi : Nat → Nat) (q : Nat) : Bool := decide ((h (qm q) (qb q)).toNat = qi q)
theorem zi_bn (x : Bool) : (if x = true then (1 : Int32) else 0) = nI x.toNat := by cases x <;> rfl
theorem zi_so6 {h : Nat → Nat → Bool} {nb nq : Nat} {qb qm qi : Nat → Nat} (hnb : nb ≤ 6) (hnq : nq ≤ 6) (hq : ∀ q, q < nq → qb q < nb ∧ qm q < 400 ∧ qi q ≤ 1) {c : Int32} {bs ms is rang : Nat → Int32} (hQ : zi_Q nq qb qm qi c bs ms is) (hr : ∀ k, k < 400 → rang k = nI (zb_set (h k) 6)) : M_X2_areSoIn c bs ms rang is = some (if zn_all (zn_so h qb qm qi) nq = true then 1 else 0) := by
  obtain ⟨rfl, hQ⟩ := hQ
  have key : ∀ d f k, k + d = nq → d < f → zn_all (zn_so h qb qm qi) k = true → ∃ (fl : Nat) (z : Int32), L_X2_areSoIn_2 (nI nq) bs ms rang is f (nI k) = some (fl, z) ∧ (if fl = 0 then false else true) = zn_all (zn_so h qb qm qi) nq := by
    intro d
    induction d with
    | zero =>
      intro f k hk1 hf ha
      cases f with
      | zero => exact absurd hf (Nat.not_lt_zero _)
      | succ f =>
        have e : k = nq := by omega
        subst e
        refine ⟨1, nI k, ?_, by rw [ha]; rfl⟩
        rw [L_X2_areSoIn_2, if_pos (nI_le (Nat.le_refl _) (by omega))]
    | succ d ih =>
      intro f k hk1 hf ha
      cases f with
      | zero => exact absurd hf (Nat.not_lt_zero _)
      | succ f =>
        obtain ⟨h1, h2, h3⟩ := hQ k (by omega)
        obtain ⟨g1, g2, g3⟩ := hq k (by omega)
        have hb2 := Bool.toNat_le (h (qm k) (qb k))
        rw [L_X2_areSoIn_2, if_neg (nI_ge (by omega) (by omega)), q_gB (by omega) (by decide), q_gB (by omega) (by decide), nI_clamp (by omega), h1, h2, zc_rangAt (by omega) (by omega) (zi_set31 _) (hr _ g2), Option.bind_some, q_gB (by omega) (by decide), zi_setBit (by omega), zi_bn, h3]
        by_cases h4 : (h (qm k) (qb k)).toNat = qi k
        · rw [if_pos (by rw [h4])]
          simp only [nme]
          rw [nI_1]
          refine ih f (k + 1) (by omega) (by omega) ?_
          rw [zn_all, ha, Bool.true_and]
          exact decide_eq_true h4
        · rw [if_neg (fun z => h4 ((nI_eq (by omega) (by omega)).mp z))]
          refine ⟨0, nI k, rfl, ?_⟩
          rw [zn_all_no (k := k) (decide_eq_false h4) (by omega)]
          rfl
  obtain ⟨fl, z, h1, h2⟩ := key nq 1000 0 (by omega) (by omega) rfl
  unfold M_X2_areSoIn
  show (L_X2_areSoIn_2 _ _ _ _ _ 1000 (nI 0)).bind _ = _
  rw [h1, Option.bind_some, ← h2]
  by_cases h3 : fl = 0
  · rw [if_pos h3, if_pos h3]
    rfl
  · rw [if_neg h3, if_neg h3]
    rfl
theorem zi_so7 {h : Nat → Nat → Bool} {nb nq : Nat} {qb qm qi : Nat → Nat} (hnb : nb ≤ 6) (hnq : nq ≤ 6) (hq : ∀ q, q < nq → qb q < nb ∧ qm q < 400 ∧ qi q ≤ 1) {c : Int32} {bs ms is pe : Nat → Int32} (hQ : zi_Q nq qb qm qi c bs ms is) (hr : ∀ k, k < 400 → pe k = nI (zb_set (h k) 6)) : L_X7_areSo_14 c pe ms bs is 1000 1 0 = some (if zn_all (zn_so h qb qm qi) nq = true then 1 else 0, nI nq) := by
  obtain ⟨rfl, hQ⟩ := hQ
  have key : ∀ d f k, k + d = nq → d < f → L_X7_areSo_14 (nI nq) pe ms bs is f (if zn_all (zn_so h qb qm qi) k = true then 1 else 0) (nI k) = some (if zn_all (zn_so h qb qm qi) nq = true then 1 else 0, nI nq) := by
    intro d
    induction d with
    | zero =>
      intro f k hk1 hf
      cases f with
      | zero => exact absurd hf (Nat.not_lt_zero _)
      | succ f =>
        have e : k = nq := by omega
        subst e
        rw [L_X7_areSo_14, if_pos (nI_le (Nat.le_refl _) (by omega))]
    | succ d ih =>
      intro f k hk1 hf
      cases f with
      | zero => exact absurd hf (Nat.not_lt_zero _)
      | succ f =>
        obtain ⟨h1, h2, h3⟩ := hQ k (by omega)
        obtain ⟨g1, g2, g3⟩ := hq k (by omega)
        have hb2 := Bool.toNat_le (h (qm k) (qb k))
        have := ih f (k + 1) (by omega) (by omega)
        rw [zn_all] at this
        rw [L_X7_areSo_14, if_neg (nI_ge (by omega) (by omega))]
        simp only [nme]
        cases ha : zn_all (zn_so h qb qm qi) k with
        | false =>
          rw [ha, Bool.false_and, if_neg (show ¬ (false = true) by decide)] at this
          rw [if_neg (show ¬ (false = true) by decide), if_pos (show (0 : Int32) = 0 from rfl), nI_1]
          exact this
        | true =>
          rw [ha, Bool.true_and] at this
          rw [if_pos (show (true = true) from rfl), if_neg (show ¬ (1 : Int32) = 0 by decide), q_gB (by omega) (by decide), nI_clamp (by omega), h1, h2, q_gB (by omega) (by decide), q_gB (by omega) (by decide), nI_clamp (by omega), hr _ g2, zr_isIn (zi_set31 _) (by omega), Option.bind_some, q_gB (by omega) (by decide), zi_setBit (by omega), zi_bn, h3]
          by_cases h4 : (h (qm k) (qb k)).toNat = qi k
          · rw [show zn_so h qb qm qi k = true from decide_eq_true h4, if_pos (show (true = true) from rfl)] at this
            rw [if_pos (by rw [h4]), nI_1]
            exact this
          · rw [show zn_so h qb qm qi k = false from decide_eq_false h4, if_neg (show ¬ (false = true) by decide)] at this
            rw [if_neg (fun z => h4 ((nI_eq (by omega) (by omega)).mp z)), nI_1]
            exact this
  exact key nq 1000 0 (by omega) (by omega)
theorem zi_areSo {h : Nat → Nat → Bool} {nb nq : Nat} {qb qm qi : Nat → Nat} (hnb : nb ≤ 6) (hnq : nq ≤ 6) (hq : ∀ q, q < nq → qb q < nb ∧ qm q < 400 ∧ qi q ≤ 1) {c : Int32} {bs ms is : Nat → Int32} (hQ : zi_Q nq qb qm qi c bs ms is) {b t r p cnt a1 a2 : Int32} {lr hs sw pe pbs pms k n l f o : Nat → Int32} {v : (Nat → Int32) × (Nat → Int32) × (Nat → Int32) × (Nat → Int32)} (hg : M_X7_go b t r p cnt lr hs sw pe pbs pms k n l f o (nI 400) a1 a2 = some v) (hr : ∀ k, k < 400 → v.2.2.2 k = nI (zb_set (h k) 6)) :
    M_X7_areSo b t r p cnt c lr hs sw pe pbs pms k n l f o ms bs is a1 a2 = some (if zn_all (zn_so h qb qm qi) nq = true then 1 else 0, v.1, v.2.1, v.2.2.1, v.2.2.2) := by
  unfold M_X7_areSo
  show (M_X7_go b t r p cnt lr hs sw pe pbs pms k n l f o (nI 400) a1 a2).bind _ = _
  rw [hg, Option.bind_some, zi_so7 hnb hnq hq hQ hr, Option.bind_some]
  cases zn_all (zn_so h qb qm qi) nq <;> rfl
theorem zi_firstL {nb nr sp td np nq : Nat} {kd nd fr to lg pb pm qb qm qi : Nat → Nat} (hW : zi_W nb nr sp td np nq kd nd fr to lg pb pm qb qm qi) {b r p t b2 r2 p2 t2 : Int32} {k n f o l k2 n2 f2 o2 l2 : Nat → Int32} (hV : zi_V nb nr sp td kd nd fr to lg b r p t k n f o l) (hV2 : zi_V nb nr sp td kd nd fr to lg b2 r2 p2 t2 k2 n2 f2 o2 l2) {c c2 : Int32} {bs ms is bs2 ms2 is2 : Nat → Int32} (hQ : zi_Q nq qb qm qi c bs ms is) (hQ2 : zi_Q nq qb qm qi c2 bs2 ms2 is2) (pulls : Int32) (pullOf pullAt : Nat → Int32) :
    ∀ (d g i : Nat) (st tpc tld : Int32) (tb tm tt tr tu tc tcb lr hs sw pe : Nat → Int32), i + d = nb → d < g →
      ∃ (u : Int32 × Int32 × Int32 × Int32 × (Nat → Int32) × (Nat → Int32) × (Nat → Int32) × (Nat → Int32) × (Nat → Int32) × (Nat → Int32) × (Nat → Int32)) (v : Int32 × Int32 × (Nat → Int32) × (Nat → Int32) × (Nat → Int32) × (Nat → Int32)), L_X6_first_14 b r p t k n f l o c bs ms is g st (nI i) tpc tld tb tm tt tr tu tc tcb = some u ∧ L_X7_first_14 b2 t2 r2 p2 pulls c2 pullOf pullAt k2 n2 l2 f2 o2 ms2 bs2 is2 g st (nI i) lr hs sw pe = some v ∧ u.1 = v.1 := by
  have hnb := hW.2.1
  have hnq := hW.2.2.2.2.2.2.1
  have hq := hW.2.2.2.2.2.2.2.2.2.2
  intro d
  induction d with
  | zero =>
    intro g i st tpc tld tb tm tt tr tu tc tcb lr hs sw pe hi hg
    cases g with
    | zero => exact absurd hg (Nat.not_lt_zero _)
    | succ g =>
      rw [L_X6_first_14, L_X7_first_14, if_pos (show b ≤ nI i by rw [hV.1]; exact nI_le (by omega) (by omega)), if_pos (show b2 ≤ nI i by rw [hV2.1]; exact nI_le (by omega) (by omega))]
      exact ⟨_, _, rfl, rfl, rfl⟩
  | succ d ih =>
    intro g i st tpc tld tb tm tt tr tu tc tcb lr hs sw pe hi hg
    cases g with
    | zero => exact absurd hg (Nat.not_lt_zero _)
    | succ g =>
      have h2i : 2 ^ i < 2 ^ 31 := Nat.pow_lt_pow_right (by decide) (by omega)
      obtain ⟨u1, e1, e2⟩ := zi_playSet hW hV (s := 2 ^ i) (e := 400) h2i (by decide) tb tm tt tr tu tc tcb
      obtain ⟨v1, e3, e4⟩ := zi_goSet hW hV2 (s := 2 ^ i) (e := 400) h2i (by decide) pulls lr hs sw pe pullOf pullAt
      rw [L_X6_first_14, L_X7_first_14, if_neg (show ¬ b ≤ nI i by rw [hV.1]; exact nI_ge (by omega) (by omega)), if_neg (show ¬ b2 ≤ nI i by rw [hV2.1]; exact nI_ge (by omega) (by omega)), q_shl i (by omega), show (400 : Int32) = nI 400 from rfl, e1, Option.bind_some, zi_so6 hnb hnq hq hQ e2, Option.bind_some, zi_areSo hnb hnq hq hQ2 e3 e4, Option.bind_some]
      simp only [nme, nI_1]
      cases zn_all (zn_so (zb_H (zi_CS nb nr sp td (2 ^ i) kd nd fr to lg)) qb qm qi) nq with
      | false =>
        rw [if_neg (show ¬ (false = true) by decide), if_pos (show (0 : Int32) = 0 from rfl), if_pos (show (0 : Int32) = 0 from rfl), Int32.or_zero]
        exact ih g (i + 1) _ _ _ _ _ _ _ _ _ _ _ _ _ _ (by omega) (by omega)
      | true =>
        rw [if_pos (show (true = true) from rfl), if_neg (show ¬ (1 : Int32) = 0 by decide), if_neg (show ¬ (1 : Int32) = 0 by decide)]
        exact ih g (i + 1) _ _ _ _ _ _ _ _ _ _ _ _ _ _ (by omega) (by omega)
theorem eq_first : EQ_first zi_Inv := by
  intro iv av hI
  obtain ⟨nb, nr, sp, td, np, nq, kd, nd, fr, to, lg, pb, pm, qb, qm, qi, hW, hV, hV2, hP, hP1, hP2, hQ, hQ2, hS0, hS1, hS2, hS3, hT, hF, hH⟩ := hI
  have hnb := hW.2.1
  unfold M_X6_first M_X7_first
  by_cases h0 : nb = 0
  · have ez : M_X6_hasNoValley (iv 1 5) = some 1 := by rw [hV.1, zi_noV hnb, if_pos h0]
    have ez2 : iv 45 1 = 0 := by rw [hV2.1, h0]; rfl
    rw [ez, Option.bind_some, if_neg (show ¬ (1 : Int32) = 0 by decide), if_pos ez2]
    exact ⟨_, _, rfl, rfl, rfl, ⟨nb, nr, sp, td, np, nq, kd, nd, fr, to, lg, pb, pm, qb, qm, qi, hW, hV, hV2, hP, hP1, hP2, hQ, hQ2, hS0, hS1, hS2, hS3, hT, hF, hH⟩⟩
  · have ez : M_X6_hasNoValley (iv 1 5) = some 0 := by rw [hV.1, zi_noV hnb, if_neg h0]
    have ez2 : ¬ iv 45 1 = 0 := by rw [hV2.1]; exact nI_ne0 (by omega) (by omega)
    obtain ⟨u, v, k1, k2, k3⟩ := zi_firstL hW hV hV2 hQ hQ2 (iv 45 18) (av 56) (av 57) nb 1000 0 0 (iv 18 3) (iv 31 5) (av 19) (av 20) (av 21) (av 32) (av 33) (av 34) (av 35) (av 60) (av 61) (av 59) (av 58) (by omega) (by omega)
    rw [ez, Option.bind_some, if_pos (show (0 : Int32) = 0 from rfl), if_neg ez2]
    rw [show nI 0 = (0 : Int32) from rfl] at k1 k2
    rw [k1, k2, Option.bind_some, Option.bind_some]
    exact ⟨_, _, rfl, rfl, k3, ⟨nb, nr, sp, td, np, nq, kd, nd, fr, to, lg, pb, pm, qb, qm, qi, hW, hV, hV2, hP, hP1, hP2, hQ, hQ2, hS0, hS1, hS2, hS3, hT, hF, hH⟩⟩
/-! without one rope -/
def zi_CW (nb nr sp td np x : Nat) (kd nd fr to lg pb pm : Nat → Nat) : zb_C := (nb, sp, kd, nd, (fun b => td.testBit b), (fun r => decide (r < nr ∧ r ≠ x)), fr, to, lg, fun m b => zb_pd pb pm (fun _ => 1) m b np)
theorem zi_okW {nb nr sp td np nq : Nat} {kd nd fr to lg pb pm qb qm qi : Nat → Nat} (hW : zi_W nb nr sp td np nq kd nd fr to lg pb pm qb qm qi) (x : Nat) : zb_ok (zi_CW nb nr sp td np x kd nd fr to lg pb pm) := by
  obtain ⟨o1, o2, o3, o4, o5⟩ := zi_okC hW
  exact ⟨o1, o2, o3, fun r hr hon => o4 r hr (decide_eq_true (of_decide_eq_true hon).1), o5⟩
theorem zi_maskW : ∀ nr, nr < 9 → ∀ x, x < nr → nI (2 ^ nr - 1) &&& (nI (2 ^ x) ^^^ (-1)) = nI (2 ^ nr - 1 - 2 ^ x) := by decide +kernel
theorem zi_maskB : ∀ nr, nr < 9 → ∀ x, x < nr → ∀ r, r < 9 → (2 ^ nr - 1 - 2 ^ x).testBit r = decide (r < nr ∧ r ≠ x) := by decide +kernel
theorem zi_playWithout {nb nr sp td np nq : Nat} {kd nd fr to lg pb pm qb qm qi : Nat → Nat} (hW : zi_W nb nr sp td np nq kd nd fr to lg pb pm qb qm qi) {b r p t : Int32} {k n f o l : Nat → Int32} (hV : zi_V nb nr sp td kd nd fr to lg b r p t k n f o l) {cnt : Int32} {pbs pms pts : Nat → Int32} (hP : zi_P np pb pm cnt pbs pms) (hP1 : ∀ p, p < np → pts p = nI 1) {x e : Nat} (hx : x < nr) (he : e ≤ 400) (ra uw ct cb : Nat → Int32) :
    ∃ u : Int32 × (Nat → Int32) × (Nat → Int32) × (Nat → Int32) × (Nat → Int32), M_X6_playWithout b r p t cnt ra uw ct cb pms k pbs pts n f l o (nI x) (nI e) = some u ∧ ∀ m, m < e → u.2.1 m = nI (zb_set (zb_H (zi_CW nb nr sp td np x kd nd fr to lg pb pm) m) 6) := by
  have hnr := hW.2.2.1
  have htd := zi_td64 hW.2.1 hW.2.2.2.2.1
  obtain ⟨v1, v2, v3, v4, v5, v6⟩ := hV
  have hV' : zc_V (zi_CW nb nr sp td np x kd nd fr to lg pb pm) b p k n f l o := ⟨v1, v3, v5, fun r _ hon => v6 r (of_decide_eq_true hon).1⟩
  obtain ⟨g1, g2, g3, g4, g5, g6, g7⟩ := zi_PC hW hP hP1
  obtain ⟨w, h1, h2⟩ := zc_play (zi_okW hW x) he hV' (count := cnt) (pbells := pbs) (pmins := pms) (ptimes := pts) ⟨g1, g2, g3, g4, g5, g6, g7⟩ (tied := t) ⟨td, by omega, v4, fun _ _ => rfl⟩ (ropes := nI (2 ^ nr - 1 - 2 ^ x)) ⟨2 ^ nr - 1 - 2 ^ x, Nat.lt_of_le_of_lt (Nat.sub_le _ _) (by have := zi_maskLt hnr; omega), rfl, fun r hr => zi_maskB nr (by omega) x hx r hr⟩ ra uw ct cb
  refine ⟨w, ?_, h2⟩
  unfold M_X6_playWithout
  rw [v2, zi_allRopes hnr, Option.bind_some, q_shl x (by omega), zi_maskW nr (by omega) x hx, h1]
  rfl
theorem zi_goWithout {nb nr sp td np nq : Nat} {kd nd fr to lg pb pm qb qm qi : Nat → Nat} (hW : zi_W nb nr sp td np nq kd nd fr to lg pb pm qb qm qi) {b r p t : Int32} {k n f o l : Nat → Int32} (hV : zi_V nb nr sp td kd nd fr to lg b r p t k n f o l) {cnt : Int32} {pbs pms : Nat → Int32} (hP : zi_P np pb pm cnt pbs pms) {x e : Nat} (hx : x < nr) (he : e ≤ 400) (lr hs sw pe : Nat → Int32) :
    ∃ v : (Nat → Int32) × (Nat → Int32) × (Nat → Int32) × (Nat → Int32), M_X7_go b t r p cnt lr hs sw pe pbs pms k n l f o (nI e) (-9) (nI x) = some v ∧ ∀ m, m < e → v.2.2.2 m = nI (zb_set (zb_H (zi_CW nb nr sp td np x kd nd fr to lg pb pm) m) 6) := by
  have hnr := hW.2.2.1
  have htd := zi_td64 hW.2.1 hW.2.2.2.2.1
  obtain ⟨v1, v2, v3, v4, v5, v6⟩ := hV
  have hV' : zr_V (zi_CW nb nr sp td np x kd nd fr to lg pb pm) nr b p (nI x) k n f l o := by
    refine ⟨by omega, v1, v3, v5, fun r _ hon => v6 r (of_decide_eq_true hon).1, fun r hr => ⟨fun hon => ?_, fun z => ?_⟩⟩
    · have := of_decide_eq_true hon
      exact ⟨this.1, fun z => this.2 ((nI_eq (by omega) (by omega)).mp z)⟩
    · exact decide_eq_true ⟨z.1, fun e => z.2 (by rw [e])⟩
  have hP' : zr_P (zi_CW nb nr sp td np x kd nd fr to lg pb pm) (-9) cnt pbs pms := by
    rcases zi_RP hW hP with ⟨g1, g2⟩ | ⟨s, g1, g2, g3⟩
    · exact Or.inl ⟨g1, g2⟩
    · exact Or.inr ⟨s, g1, g2, g3⟩
  obtain ⟨v, h1, h2⟩ := zr_go (zi_okW hW x) he hV' hP' (tied := t) ⟨td, by omega, v4, fun _ _ => rfl⟩ lr hs sw pe
  refine ⟨v, ?_, h2⟩
  rw [v2]
  exact h1
theorem zi_goneL {nb nr sp td np nq : Nat} {kd nd fr to lg pb pm qb qm qi : Nat → Nat} (hW : zi_W nb nr sp td np nq kd nd fr to lg pb pm qb qm qi) {b r p t b2 r2 p2 t2 : Int32} {k n f o l k2 n2 f2 o2 l2 : Nat → Int32} (hV : zi_V nb nr sp td kd nd fr to lg b r p t k n f o l) (hV2 : zi_V nb nr sp td kd nd fr to lg b2 r2 p2 t2 k2 n2 f2 o2 l2) {c c2 cnt cnt2 : Int32} {bs ms is bs2 ms2 is2 pbs pms pts pbs2 pms2 : Nat → Int32} (hP : zi_P np pb pm cnt pbs pms) (hP1 : ∀ p, p < np → pts p = nI 1) (hP2 : zi_P np pb pm cnt2 pbs2 pms2) (hQ : zi_Q nq qb qm qi c bs ms is) (hQ2 : zi_Q nq qb qm qi c2 bs2 ms2 is2) :
    ∀ (d g i : Nat) (st tld : Int32) (tr tu tc tcb lr hs sw pe : Nat → Int32), i + d = nr → d < g →
      ∃ (u : Int32 × Int32 × Int32 × (Nat → Int32) × (Nat → Int32) × (Nat → Int32) × (Nat → Int32)) (v : Int32 × Int32 × (Nat → Int32) × (Nat → Int32) × (Nat → Int32) × (Nat → Int32)), L_X6_gone_14 b r p t cnt pms k pbs pts n f l o c bs ms is g st (nI i) tld tr tu tc tcb = some u ∧ L_X7_gone_14 b2 t2 r2 p2 cnt2 c2 pbs2 pms2 k2 n2 l2 f2 o2 ms2 bs2 is2 g st (nI i) lr hs sw pe = some v ∧ u.1 = v.1 := by
  have hnb := hW.2.1
  have hnr := hW.2.2.1
  have hnq := hW.2.2.2.2.2.2.1
  have hq := hW.2.2.2.2.2.2.2.2.2.2
  intro d
  induction d with
  | zero =>
    intro g i st tld tr tu tc tcb lr hs sw pe hi hg
    cases g with
    | zero => exact absurd hg (Nat.not_lt_zero _)
    | succ g =>
      rw [L_X6_gone_14, L_X7_gone_14, if_pos (show r ≤ nI i by rw [hV.2.1]; exact nI_le (by omega) (by omega)), if_pos (show r2 ≤ nI i by rw [hV2.2.1]; exact nI_le (by omega) (by omega))]
      exact ⟨_, _, rfl, rfl, rfl⟩
  | succ d ih =>
    intro g i st tld tr tu tc tcb lr hs sw pe hi hg
    cases g with
    | zero => exact absurd hg (Nat.not_lt_zero _)
    | succ g =>
      obtain ⟨u1, e1, e2⟩ := zi_playWithout hW hV hP hP1 (x := i) (e := 400) (by omega) (by decide) tr tu tc tcb
      obtain ⟨v1, e3, e4⟩ := zi_goWithout hW hV2 hP2 (x := i) (e := 400) (by omega) (by decide) lr hs sw pe
      rw [L_X6_gone_14, L_X7_gone_14, if_neg (show ¬ r ≤ nI i by rw [hV.2.1]; exact nI_ge (by omega) (by omega)), if_neg (show ¬ r2 ≤ nI i by rw [hV2.2.1]; exact nI_ge (by omega) (by omega)), show (400 : Int32) = nI 400 from rfl, e1, Option.bind_some, zi_so6 hnb hnq hq hQ e2, Option.bind_some, zi_areSo hnb hnq hq hQ2 e3 e4, Option.bind_some]
      simp only [nme, nI_1]
      cases zn_all (zn_so (zb_H (zi_CW nb nr sp td np i kd nd fr to lg pb pm)) qb qm qi) nq with
      | false =>
        rw [if_neg (show ¬ (false = true) by decide), if_pos (show (0 : Int32) = 0 from rfl), if_pos (show (0 : Int32) = 0 from rfl), Int32.or_zero]
        exact ih g (i + 1) _ _ _ _ _ _ _ _ _ _ (by omega) (by omega)
      | true =>
        rw [if_pos (show (true = true) from rfl), if_neg (show ¬ (1 : Int32) = 0 by decide), if_neg (show ¬ (1 : Int32) = 0 by decide)]
        exact ih g (i + 1) _ _ _ _ _ _ _ _ _ _ (by omega) (by omega)
theorem eq_gone : EQ_gone zi_Inv := by
  intro iv av hI
  obtain ⟨nb, nr, sp, td, np, nq, kd, nd, fr, to, lg, pb, pm, qb, qm, qi, hW, hV, hV2, hP, hP1, hP2, hQ, hQ2, hS0, hS1, hS2, hS3, hT, hF, hH⟩ := hI
  have hnb := hW.2.1
  have hnr := hW.2.2.1
  unfold M_X6_gone M_X7_gone
  by_cases h0 : nb = 0
  · have ez : M_X6_hasNoValley (iv 1 5) = some 1 := by rw [hV.1, zi_noV hnb, if_pos h0]
    have ez2 : iv 45 1 = 0 := by rw [hV2.1, h0]; rfl
    rw [ez, Option.bind_some, if_neg (show ¬ (1 : Int32) = 0 by decide), if_pos ez2]
    exact ⟨_, _, rfl, rfl, rfl, ⟨nb, nr, sp, td, np, nq, kd, nd, fr, to, lg, pb, pm, qb, qm, qi, hW, hV, hV2, hP, hP1, hP2, hQ, hQ2, hS0, hS1, hS2, hS3, hT, hF, hH⟩⟩
  · have ez : M_X6_hasNoValley (iv 1 5) = some 0 := by rw [hV.1, zi_noV hnb, if_neg h0]
    have ez2 : ¬ iv 45 1 = 0 := by rw [hV2.1]; exact nI_ne0 (by omega) (by omega)
    obtain ⟨u, v, k1, k2, k3⟩ := zi_goneL hW hV hV2 hP hP1 hP2 hQ hQ2 nr 1000 0 0 (iv 31 5) (av 32) (av 33) (av 34) (av 35) (av 60) (av 61) (av 59) (av 58) (by omega) (by omega)
    rw [ez, Option.bind_some, if_pos (show (0 : Int32) = 0 from rfl), if_neg ez2]
    rw [show nI 0 = (0 : Int32) from rfl] at k1 k2
    rw [k1, k2, Option.bind_some, Option.bind_some]
    exact ⟨_, _, rfl, rfl, k3, ⟨nb, nr, sp, td, np, nq, kd, nd, fr, to, lg, pb, pm, qb, qm, qi, hW, hV, hV2, hP, hP1, hP2, hQ, hQ2, hS0, hS1, hS2, hS3, hT, hF, hH⟩⟩
