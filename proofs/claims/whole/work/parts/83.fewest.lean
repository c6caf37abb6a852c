theorem zi_n9 {s : Nat} (hs : s < 2 ^ 31) : ¬ nI s = -9 := by
  intro z
  have h3 : (nI s).toInt = (-9 : Int32).toInt := by rw [z]
  rw [nI_toInt hs, show (-9 : Int32).toInt = -9 from by decide] at h3
  omega
theorem zi_isFewer9 (k : Int32) : M_X6_isFewer k (-9) = some 1 := if_pos rfl
theorem zi_isFewer {k s : Nat} (hk : k < 64) (hs : s < 64) : M_X6_isFewer (nI k) (nI s) = some (if zn_pc s ≤ zn_pc k then 0 else 1) := by
  have h1 := zn_pc_le s
  have h2 := zn_pc_le k
  unfold M_X6_isFewer
  rw [if_neg (zi_n9 (by omega)), zi_pc6 k hk, zi_pc6 s hs, Option.bind_some, Option.bind_some]
  by_cases h : zn_pc s ≤ zn_pc k
  · rw [if_pos (nI_le h (by omega)), if_pos h]
  · rw [if_neg (nI_ge (by omega) (by omega)), if_neg h]
theorem zi_fewL {nb nr sp td np nq : Nat} {kd nd fr to lg pb pm qb qm qi : Nat → Nat} (hW : zi_W nb nr sp td np nq kd nd fr to lg pb pm qb qm qi) {b r p t b2 r2 p2 t2 : Int32} {k n f o l k2 n2 f2 o2 l2 : Nat → Int32} (hV : zi_V nb nr sp td kd nd fr to lg b r p t k n f o l) (hV2 : zi_V nb nr sp td kd nd fr to lg b2 r2 p2 t2 k2 n2 f2 o2 l2) (x1 pulls : Int32) (pullOf pullAt : Nat → Int32) :
    ∀ (d g i : Nat) (best tpc tld : Int32) (tb tm tt tr tu tc tcb lr hs sw pe : Nat → Int32), i + d = 2 ^ nb → d < g → (best = -9 ∨ ∃ s, s < 64 ∧ best = nI s) →
      ∃ (u : Int32 × Int32 × Int32 × Int32 × (Nat → Int32) × (Nat → Int32) × (Nat → Int32) × (Nat → Int32) × (Nat → Int32) × (Nat → Int32) × (Nat → Int32)) (v : Int32 × Int32 × (Nat → Int32) × (Nat → Int32) × (Nat → Int32) × (Nat → Int32)), L_X6_fewest_32 x1 b r p t k n f l o g best (nI i) tpc tld tb tm tt tr tu tc tcb = some u ∧ L_X7_fewest_32 x1 b2 t2 r2 p2 pulls pullOf pullAt k2 n2 l2 f2 o2 g best (nI i) lr hs sw pe = some v ∧ u.1 = v.1 := by
  have hnb := hW.2.1
  obtain ⟨h64, h1p⟩ := zi_p64 hnb
  have a1 := (zi_all hnb hV.1).1
  have a2 := (zi_all hnb hV2.1).2
  intro d
  induction d with
  | zero =>
    intro g i best tpc tld tb tm tt tr tu tc tcb lr hs sw pe hi hg hbest
    cases g with
    | zero => exact absurd hg (Nat.not_lt_zero _)
    | succ g =>
      rw [L_X6_fewest_32, L_X7_fewest_32, a1, a2, Option.bind_some, Option.bind_some, if_pos (nI_lt (by omega) (by omega)), if_pos (nI_lt (by omega) (by omega))]
      exact ⟨_, _, rfl, rfl, rfl⟩
  | succ d ih =>
    intro g i best tpc tld tb tm tt tr tu tc tcb lr hs sw pe hi hg hbest
    cases g with
    | zero => exact absurd hg (Nat.not_lt_zero _)
    | succ g =>
      obtain ⟨u1, e1, e2⟩ := zi_ringEarly hW hV (s := i) (by omega) tb tm tt tr tu tc tcb
      obtain ⟨v1, e3, e4⟩ := zi_rungSet hW hV2 (s := i) (by omega) pulls lr hs sw pe pullOf pullAt
      rw [L_X6_fewest_32, L_X7_fewest_32, a1, a2, Option.bind_some, Option.bind_some, if_neg (nI_nlt (by omega) (by omega)), if_neg (nI_nlt (by omega) (by omega)), e1, e3]
      simp only [nme, nI_1]
      rcases hbest with rfl | ⟨s, hs1, rfl⟩
      · rw [zi_isFewer9, Option.bind_some, if_neg (show ¬ (1 : Int32) = 0 by decide), Option.bind_some, if_pos (show (-9 : Int32) < 0 by decide), Option.bind_some, e2, e4]
        by_cases hc : x1 &&& (nI (zn_or (zb_H (zi_CS nb nr sp td i kd nd fr to lg)) 100) ^^^ -1) = 0
        · rw [if_pos hc, if_pos hc]
          exact ih g (i + 1) _ _ _ _ _ _ _ _ _ _ _ _ _ _ (by omega) (by omega) (Or.inr ⟨i, by omega, rfl⟩)
        · rw [if_neg hc, if_neg hc]
          exact ih g (i + 1) _ _ _ _ _ _ _ _ _ _ _ _ _ _ (by omega) (by omega) (Or.inl rfl)
      · have q1 := zn_pc_le s
        have q2 := zn_pc_le i
        rw [zi_isFewer (by omega) hs1, if_neg (nI_pos (by omega)), zi_pc7 i (by omega), zi_pc7 s hs1]
        simp only [Option.bind_some]
        by_cases h : zn_pc s ≤ zn_pc i
        · rw [if_pos h, if_pos (show (0 : Int32) = 0 from rfl), if_pos (nI_le h (by omega))]
          exact ih g (i + 1) _ _ _ _ _ _ _ _ _ _ _ _ _ _ (by omega) (by omega) (Or.inr ⟨s, hs1, rfl⟩)
        · rw [if_neg h, if_neg (show ¬ (1 : Int32) = 0 by decide), if_neg (nI_ge (by omega) (by omega)), e2, e4]
          by_cases hc : x1 &&& (nI (zn_or (zb_H (zi_CS nb nr sp td i kd nd fr to lg)) 100) ^^^ -1) = 0
          · rw [if_pos hc, if_pos hc]
            exact ih g (i + 1) _ _ _ _ _ _ _ _ _ _ _ _ _ _ (by omega) (by omega) (Or.inr ⟨i, by omega, rfl⟩)
          · rw [if_neg hc, if_neg hc]
            exact ih g (i + 1) _ _ _ _ _ _ _ _ _ _ _ _ _ _ (by omega) (by omega) (Or.inr ⟨s, hs1, rfl⟩)
theorem zi_outside : ∀ nb, nb ≤ 6 → (nI (2 ^ nb - 1)).toBitVec.toNat = 2 ^ nb - 1 := by decide +kernel
theorem zi_subset {nb : Nat} (hnb : nb ≤ 6) (a : Int32) : (a &&& (nI (2 ^ nb - 1) ^^^ -1) = 0) ↔ (0 ≤ a.toInt ∧ a.toInt ≤ ((2 ^ nb - 1 : Nat) : Int)) := by
  obtain ⟨h64, h1p⟩ := zi_p64 hnb
  have e1 : a &&& (nI (2 ^ nb - 1) ^^^ -1) = a ^^^ (a &&& nI (2 ^ nb - 1)) := by
    apply Int32.toBitVec_inj.mp
    rw [Int32.toBitVec_and, Int32.toBitVec_xor, Int32.toBitVec_xor, Int32.toBitVec_and]
    apply BitVec.eq_of_getLsbD_eq
    intro i hi
    rw [BitVec.getLsbD_and, BitVec.getLsbD_xor, BitVec.getLsbD_xor, BitVec.getLsbD_and]
    have e2 : (-1 : Int32).toBitVec.getLsbD i = true := by
      have : ∀ i, i < 32 → (-1 : Int32).toBitVec.getLsbD i = true := by decide +kernel
      exact this i hi
    rw [e2]
    cases a.toBitVec.getLsbD i <;> cases (nI (2 ^ nb - 1)).toBitVec.getLsbD i <;> rfl
  have e3 : (a ^^^ (a &&& nI (2 ^ nb - 1)) = 0) ↔ a = a &&& nI (2 ^ nb - 1) := by
    constructor
    · intro z
      apply Int32.toBitVec_inj.mp
      have z2 := congrArg Int32.toBitVec z
      rw [Int32.toBitVec_xor] at z2
      apply BitVec.eq_of_getLsbD_eq
      intro i hi
      have z3 := congrArg (fun q => q.getLsbD i) z2
      simp only [BitVec.getLsbD_xor] at z3
      have z4 : (0 : Int32).toBitVec.getLsbD i = false := by
        show (0#32).getLsbD i = false
        exact BitVec.getLsbD_zero
      rw [z4] at z3
      revert z3
      cases a.toBitVec.getLsbD i <;> cases (a &&& nI (2 ^ nb - 1)).toBitVec.getLsbD i <;> decide
    · intro z
      rw [← z]
      apply Int32.toBitVec_inj.mp
      rw [Int32.toBitVec_xor]
      exact BitVec.xor_self
  rw [e1, e3, pk_and a nb (zi_outside nb hnb)]
  have hlt : a.toBitVec.toNat % 2 ^ nb < 2 ^ nb := Nat.mod_lt _ (by omega)
  constructor
  · intro z
    rw [z, nI_toInt (by omega)]
    omega
  · intro z
    obtain ⟨j, hj, rfl⟩ : ∃ j : Nat, j < 2 ^ nb ∧ a = nI j := by
      refine ⟨a.toInt.toNat, by omega, Int32.toInt_inj.mp ?_⟩
      rw [nI_toInt (by omega)]
      omega
    rw [pk_tn (by omega), Nat.mod_eq_of_lt hj]
theorem eq_fewest : EQ_fewest zi_Inv := by
  intro iv av s1 hI
  obtain ⟨nb, nr, sp, td, np, nq, kd, nd, fr, to, lg, pb, pm, qb, qm, qi, hW, hV, hV2, hP, hP1, hP2, hQ, hQ2, hS0, hS1, hS2, hS3, hT, hF, hH⟩ := hI
  have hnb := hW.2.1
  obtain ⟨h64, h1p⟩ := zi_p64 hnb
  unfold M_X6_fewest M_X7_fewest
  rw [(zi_all hnb hV.1).1, (zi_all hnb hV2.1).2, Option.bind_some, Option.bind_some, zi_inL (a := s1) (hi := (nI (2 ^ nb - 1)).toInt64) ((2 ^ nb - 1 : Nat) : Int) (by rw [Int32.toInt_toInt64, nI_toInt (by omega)]), Option.bind_some]
  by_cases hc : 0 ≤ s1.toInt ∧ s1.toInt ≤ ((2 ^ nb - 1 : Nat) : Int)
  · rw [if_pos ((zi_subset hnb s1).mpr hc), if_pos hc, if_neg (show ¬ (1 : Int32) = 0 by decide)]
    by_cases h0 : nb = 0
    · have ez : M_X6_hasNoValley (iv 1 5) = some 1 := by rw [hV.1, zi_noV hnb, if_pos h0]
      have ez2 : iv 45 1 = 0 := by rw [hV2.1, h0]; rfl
      rw [ez, Option.bind_some, if_neg (show ¬ (1 : Int32) = 0 by decide), if_pos ez2]
      exact ⟨_, _, rfl, rfl, rfl, ⟨nb, nr, sp, td, np, nq, kd, nd, fr, to, lg, pb, pm, qb, qm, qi, hW, hV, hV2, hP, hP1, hP2, hQ, hQ2, hS0, hS1, hS2, hS3, hT, hF, hH⟩⟩
    · have ez : M_X6_hasNoValley (iv 1 5) = some 0 := by rw [hV.1, zi_noV hnb, if_neg h0]
      have ez2 : ¬ iv 45 1 = 0 := by rw [hV2.1]; exact nI_ne0 (by omega) (by omega)
      obtain ⟨u, v, k1, k2, k3⟩ := zi_fewL hW hV hV2 s1 (iv 45 18) (av 56) (av 57) (2 ^ nb) 1000 0 (-9) (iv 18 3) (iv 31 5) (av 19) (av 20) (av 21) (av 32) (av 33) (av 34) (av 35) (av 60) (av 61) (av 59) (av 58) (by omega) (by omega) (Or.inl rfl)
      rw [ez, Option.bind_some, if_pos (show (0 : Int32) = 0 from rfl), if_neg ez2]
      rw [show nI 0 = (0 : Int32) from rfl] at k1 k2
      rw [k1, k2, Option.bind_some, Option.bind_some]
      exact ⟨_, _, rfl, rfl, k3, ⟨nb, nr, sp, td, np, nq, kd, nd, fr, to, lg, pb, pm, qb, qm, qi, hW, hV, hV2, hP, hP1, hP2, hQ, hQ2, hS0, hS1, hS2, hS3, hT, hF, hH⟩⟩
  · rw [if_neg (fun z => hc ((zi_subset hnb s1).mp z)), if_neg hc, if_pos (show (0 : Int32) = 0 from rfl)]
    exact ⟨_, _, rfl, rfl, rfl, ⟨nb, nr, sp, td, np, nq, kd, nd, fr, to, lg, pb, pm, qb, qm, qi, hW, hV, hV2, hP, hP1, hP2, hQ, hQ2, hS0, hS1, hS2, hS3, hT, hF, hH⟩⟩
theorem zi_sneezeL {nb nr sp td np nq : Nat} {kd nd fr to lg pb pm qb qm qi : Nat → Nat} (hW : zi_W nb nr sp td np nq kd nd fr to lg pb pm qb qm qi) {b r p t b2 r2 p2 t2 : Int32} {k n f o l k2 n2 f2 o2 l2 : Nat → Int32} (hV : zi_V nb nr sp td kd nd fr to lg b r p t k n f o l) (hV2 : zi_V nb nr sp td kd nd fr to lg b2 r2 p2 t2 k2 n2 f2 o2 l2) (pulls : Int32) (pullOf pullAt : Nat → Int32) :
    ∀ (d g i c : Nat) (tpc tld : Int32) (tb tm tt tr tu tc tcb lr hs sw pe : Nat → Int32), i + d = 2 ^ nb → d < g → c ≤ i →
      ∃ (c' : Nat) (u : Int32 × Int32 × Int32 × Int32 × (Nat → Int32) × (Nat → Int32) × (Nat → Int32) × (Nat → Int32) × (Nat → Int32) × (Nat → Int32) × (Nat → Int32)) (v : Int64 × Int32 × (Nat → Int32) × (Nat → Int32) × (Nat → Int32) × (Nat → Int32)), L_X6_sneezes_43 (nI (2 ^ nb - 1) &&& (t2 ^^^ -1)) b r p t k n f l o g (nI c) (nI i) tpc tld tb tm tt tr tu tc tcb = some u ∧ L_X7_sneezes_26 b2 t2 r2 p2 pulls pullOf pullAt k2 n2 l2 f2 o2 g (lN c) (nI i) lr hs sw pe = some v ∧ c' ≤ 2 ^ nb ∧ u.1 = nI c' ∧ v.1 = lN c' := by
  have hnb := hW.2.1
  obtain ⟨h64, h1p⟩ := zi_p64 hnb
  have a1 := (zi_all hnb hV.1).1
  have a2 := (zi_all hnb hV2.1).2
  intro d
  induction d with
  | zero =>
    intro g i c tpc tld tb tm tt tr tu tc tcb lr hs sw pe hi hg hc
    cases g with
    | zero => exact absurd hg (Nat.not_lt_zero _)
    | succ g =>
      rw [L_X6_sneezes_43, L_X7_sneezes_26, a1, a2, Option.bind_some, Option.bind_some, if_pos (nI_lt (by omega) (by omega)), if_pos (nI_lt (by omega) (by omega))]
      exact ⟨c, _, _, rfl, rfl, by omega, rfl, rfl⟩
  | succ d ih =>
    intro g i c tpc tld tb tm tt tr tu tc tcb lr hs sw pe hi hg hc
    cases g with
    | zero => exact absurd hg (Nat.not_lt_zero _)
    | succ g =>
      obtain ⟨u1, e1, e2⟩ := zi_ringEarly hW hV (s := i) (by omega) tb tm tt tr tu tc tcb
      obtain ⟨v1, e3, e4⟩ := zi_rungSet hW hV2 (s := i) (by omega) pulls lr hs sw pe pullOf pullAt
      rw [L_X6_sneezes_43, L_X7_sneezes_26, a1, a2, Option.bind_some, Option.bind_some, if_neg (nI_nlt (by omega) (by omega)), if_neg (nI_nlt (by omega) (by omega)), e1, Option.bind_some, Option.bind_some, e3, Option.bind_some]
      simp only [nme, nI_1]
      rw [e2, e4]
      have l1 : lN c + (1 : Int64) = lN (c + 1) := (Int64.ofNat_add c 1).symm
      have l0 : lN c + (0 : Int64) = lN c := Int64.add_zero _
      by_cases hcc : nI (2 ^ nb - 1) &&& (t2 ^^^ -1) &&& (nI (zn_or (zb_H (zi_CS nb nr sp td i kd nd fr to lg)) 100) ^^^ -1) = 0
      · rw [if_pos hcc, if_pos hcc, l1]
        exact ih g (i + 1) (c + 1) _ _ _ _ _ _ _ _ _ _ _ _ _ (by omega) (by omega) (by omega)
      · rw [if_neg hcc, if_neg hcc, l0]
        exact ih g (i + 1) c _ _ _ _ _ _ _ _ _ _ _ _ _ (by omega) (by omega) (by omega)
