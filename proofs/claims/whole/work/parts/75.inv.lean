/-! arguments: where they lie, as both sides ask it -/
theorem zi_in (x lo hi : Int64) : M_X7_in x lo hi = some (if lo.toInt ≤ x.toInt ∧ x.toInt ≤ hi.toInt then 1 else 0) := by
  unfold M_X7_in
  by_cases h1 : lg_cmp x lo < 0
  · rw [if_pos h1]
    rw [lg_cmp_lt, Int64.lt_iff_toInt_lt] at h1
    rw [if_neg (by omega)]
  · rw [if_neg h1]
    rw [lg_cmp_lt, Int64.lt_iff_toInt_lt] at h1
    by_cases h2 : 0 < lg_cmp x hi
    · rw [if_pos h2]
      rw [lg_cmp_gt, Int64.lt_iff_toInt_lt] at h2
      rw [if_neg (by omega)]
    · rw [if_neg h2]
      rw [lg_cmp_gt, Int64.lt_iff_toInt_lt] at h2
      rw [if_pos (by omega)]
theorem zi_inL {a : Int32} {hi : Int64} (n : Int) (hn : hi.toInt = n) : M_X7_in a.toInt64 0 hi = some (if 0 ≤ a.toInt ∧ a.toInt ≤ n then 1 else 0) := by
  rw [zi_in, Int32.toInt_toInt64, hn]
  rfl
/-- an argument lies below n, or it doesn't -/
theorem zi_rng (a : Int32) {n : Nat} (hn : n < 2 ^ 31) : (∃ j, j < n ∧ a = nI j ∧ a.toInt = (j : Int)) ∨ (a < 0 ∧ a.toInt < 0) ∨ (¬ a < 0 ∧ nI n ≤ a ∧ (n : Int) ≤ a.toInt) := by
  by_cases h0 : a < 0
  · exact Or.inr (Or.inl ⟨h0, Int32.lt_iff_toInt_lt.mp h0⟩)
  · rcases pk_ix a hn with h | h | ⟨j, hj, rfl⟩
    · exact absurd h h0
    · refine Or.inr (Or.inr ⟨h0, h, ?_⟩)
      have := Int32.le_iff_toInt_le.mp h
      rw [nI_toInt hn] at this
      exact this
    · exact Or.inl ⟨j, hj, rfl, nI_toInt (by omega)⟩
theorem zi_m1 : ∀ n, n < 10 → ((nI n).toInt64 - (1 : Int64)).toInt = (n : Int) - 1 := by decide +kernel
theorem zi_bell {nb : Nat} (hnb : nb ≤ 6) (a : Int32) : (∃ j, j < nb ∧ a = nI j ∧ M_X5_hasBell (nI nb) a = some 1 ∧ M_X7_noBell (nI nb) a = some 0) ∨ (M_X5_hasBell (nI nb) a = some 0 ∧ M_X7_noBell (nI nb) a = some 1) := by
  unfold M_X5_hasBell M_X7_noBell
  rw [zi_inL _ (zi_m1 nb (by omega)), Option.bind_some]
  rcases zi_rng a (n := nb) (by omega) with ⟨j, hj, rfl, h⟩ | ⟨h1, h2⟩ | ⟨h1, h2, h3⟩
  · refine Or.inl ⟨j, hj, rfl, ?_, ?_⟩
    · rw [if_neg (nI_pos (by omega)), if_neg (nI_ge hj (by omega))]
    · rw [if_pos (show 0 ≤ (nI j).toInt ∧ (nI j).toInt ≤ (nb : Int) - 1 by omega), if_neg (show ¬ (1 : Int32) = 0 by decide)]
  · refine Or.inr ⟨if_pos h1, ?_⟩
    rw [if_neg (show ¬ (0 ≤ a.toInt ∧ a.toInt ≤ (nb : Int) - 1) by omega), if_pos (show (0 : Int32) = 0 from rfl)]
  · refine Or.inr ⟨?_, ?_⟩
    · rw [if_neg h1, if_pos h2]
    · rw [if_neg (show ¬ (0 ≤ a.toInt ∧ a.toInt ≤ (nb : Int) - 1) by omega), if_pos (show (0 : Int32) = 0 from rfl)]
theorem zi_sheetNo (a : Int32) : (∃ j, j < 4 ∧ a = nI j ∧ M_X6_isSheet a = some 1 ∧ M_X7_noSheet a = some 0) ∨ (M_X6_isSheet a = some 0 ∧ M_X7_noSheet a = some 1) := by
  unfold M_X6_isSheet M_X7_noSheet
  rw [zi_inL 3 (by decide), Option.bind_some]
  rcases zi_rng a (n := 4) (by omega) with ⟨j, hj, rfl, h⟩ | ⟨h1, h2⟩ | ⟨h1, h2, h3⟩
  · refine Or.inl ⟨j, hj, rfl, ?_, ?_⟩
    · rw [if_neg (nI_pos (by omega)), if_neg (show ¬ (4 : Int32) ≤ nI j from nI_ge (b := 4) hj (by omega))]
    · rw [if_pos (show 0 ≤ (nI j).toInt ∧ (nI j).toInt ≤ (3 : Int) by omega), if_neg (show ¬ (1 : Int32) = 0 by decide)]
  · refine Or.inr ⟨if_pos h1, ?_⟩
    rw [if_neg (show ¬ (0 ≤ a.toInt ∧ a.toInt ≤ (3 : Int)) by omega), if_pos (show (0 : Int32) = 0 from rfl)]
  · refine Or.inr ⟨?_, ?_⟩
    · rw [if_neg h1, if_pos (show (4 : Int32) ≤ a from h2)]
    · rw [if_neg (show ¬ (0 ≤ a.toInt ∧ a.toInt ≤ (3 : Int)) by omega), if_pos (show (0 : Int32) = 0 from rfl)]
theorem zi_lane (a : Int32) : (∃ j, j < 3 ∧ a = nI j ∧ M_X6_isLane a = some 1 ∧ M_X7_in a.toInt64 0 2 = some 1) ∨ (M_X6_isLane a = some 0 ∧ M_X7_in a.toInt64 0 2 = some 0) := by
  unfold M_X6_isLane
  rw [zi_inL 2 (by decide)]
  rcases zi_rng a (n := 3) (by omega) with ⟨j, hj, rfl, h⟩ | ⟨h1, h2⟩ | ⟨h1, h2, h3⟩
  · refine Or.inl ⟨j, hj, rfl, ?_, ?_⟩
    · rw [if_neg (nI_pos (by omega)), if_neg (show ¬ (2 : Int32) < nI j from nI_nlt (a := 2) (by omega) (by omega))]
    · rw [if_pos (show 0 ≤ (nI j).toInt ∧ (nI j).toInt ≤ (2 : Int) by omega)]
  · refine Or.inr ⟨if_pos h1, ?_⟩
    rw [if_neg (show ¬ (0 ≤ a.toInt ∧ a.toInt ≤ (2 : Int)) by omega)]
  · refine Or.inr ⟨?_, ?_⟩
    · rw [if_neg h1, if_pos (show (2 : Int32) < a by rw [Int32.lt_iff_toInt_lt]; show (2 : Int) < a.toInt; omega)]
    · rw [if_neg (show ¬ (0 ≤ a.toInt ∧ a.toInt ≤ (2 : Int)) by omega)]
theorem zi_noV {nb : Nat} (h : nb ≤ 6) : M_X6_hasNoValley (nI nb) = some (if nb = 0 then 1 else 0) := by
  unfold M_X6_hasNoValley
  by_cases h1 : nb = 0
  · subst h1
    rfl
  · rw [if_neg (nI_ne0 (by omega) (by omega)), if_neg h1]
theorem zi_eq0 {n : Nat} (h : n < 2 ^ 31) : nI n = 0 ↔ n = 0 := nI_eq (b := 0) h (by decide)
/-! what the two objects have in common -/
def zi_W (nb nr sp td np nq : Nat) (kd nd fr to lg pb pm qb qm qi : Nat → Nat) : Prop :=
  ((nb = 0 ∧ nr = 0 ∧ sp = 0 ∧ np = 0 ∧ nq = 0) ∨ 2 ≤ nb) ∧ nb ≤ 6 ∧ nr ≤ 8 ∧ sp ≤ 5 ∧ td < 2 ^ nb ∧ np ≤ 6 ∧ nq ≤ 6 ∧ (∀ b, b < nb → kd b ≤ 2 ∧ 1 ≤ nd b ∧ nd b ≤ 3) ∧ (∀ r, r < nr → fr r < nb ∧ to r < nb ∧ 1 ≤ lg r ∧ lg r ≤ 9) ∧ (∀ p, p < np → pb p < nb ∧ pm p < 100) ∧ (∀ q, q < nq → qb q < nb ∧ qm q < 400 ∧ qi q ≤ 1)
def zi_V (nb nr sp td : Nat) (kd nd fr to lg : Nat → Nat) (b r s t : Int32) (k n f o l : Nat → Int32) : Prop :=
  b = nI nb ∧ r = nI nr ∧ s = nI sp ∧ t = nI td ∧ (∀ b, b < nb → k b = nI (kd b) ∧ n b = nI (nd b)) ∧ ∀ r, r < nr → f r = nI (fr r) ∧ o r = nI (to r) ∧ l r = nI (lg r)
def zi_P (np : Nat) (pb pm : Nat → Nat) (c : Int32) (b m : Nat → Int32) : Prop := c = nI np ∧ ∀ p, p < np → b p = nI (pb p) ∧ m p = nI (pm p)
def zi_Q (nq : Nat) (qb qm qi : Nat → Nat) (c : Int32) (b m i : Nat → Int32) : Prop := c = nI nq ∧ ∀ q, q < nq → b q = nI (qb q) ∧ m q = nI (qm q) ∧ i q = nI (qi q)
def zi_S (lane size : Int32) (cells : Nat → Int32) (size2 lane2 : Int32) (cells2 : Nat → Int32) : Prop := size = size2 ∧ (size = -1 ∨ ∃ n l : Nat, n ≤ 60 ∧ l ≤ 2 ∧ size = nI n ∧ lane = nI l ∧ lane2 = nI l ∧ ∀ j, j < n → cells j = cells2 j)
def zi_C (nb nr sp td np : Nat) (kd nd fr to lg pb pm : Nat → Nat) : zb_C := (nb, sp, kd, nd, (fun b => td.testBit b), (fun r => decide (r < nr)), fr, to, lg, fun m b => zb_pd pb pm (fun _ => 1) m b np)
def zi_H (c : zb_C) (cur : Int32) (rang : Nat → Int32) : Prop := cur = 0 ∨ (cur = 1 ∧ ∀ k, k < 400 → rang k = nI (zb_set (zb_H c k) 6))
def zi_Inv : IvP := fun iv av => ∃ (nb nr sp td np nq : Nat) (kd nd fr to lg pb pm qb qm qi : Nat → Nat),
  zi_W nb nr sp td np nq kd nd fr to lg pb pm qb qm qi ∧
  zi_V nb nr sp td kd nd fr to lg (iv 1 5) (iv 1 6) (iv 1 7) (iv 1 8) (av 2) (av 3) (av 4) (av 5) (av 6) ∧
  zi_V nb nr sp td kd nd fr to lg (iv 45 1) (iv 45 5) (iv 45 9) (iv 45 4) (av 46) (av 47) (av 48) (av 49) (av 50) ∧
  zi_P np pb pm (iv 14 3) (av 15) (av 16) ∧ (∀ p, p < np → av 17 p = nI 1) ∧ zi_P np pb pm (iv 45 18) (av 56) (av 57) ∧
  zi_Q nq qb qm qi (iv 22 3) (av 23) (av 24) (av 25) ∧ zi_Q nq qb qm qi (iv 45 25) (av 62) (av 63) (av 64) ∧
  zi_S (iv 37 1) (iv 37 2) (av 38) (av 65 0) (av 66 0) (av 67) ∧
  zi_S (iv 39 1) (iv 39 2) (av 40) (av 65 1) (av 66 1) (fun j => av 67 (60 + j)) ∧
  zi_S (iv 41 1) (iv 41 2) (av 42) (av 65 2) (av 66 2) (fun j => av 67 (120 + j)) ∧
  zi_S (iv 43 1) (iv 43 2) (av 44) (av 65 3) (av 66 3) (fun j => av 67 (180 + j)) ∧
  iv 0 9 = iv 45 33 ∧ iv 0 10 = iv 45 0 ∧ zi_H (zi_C nb nr sp td np kd nd fr to lg pb pm) (iv 0 8) (av 27)
theorem eq_trace : EQ_trace zi_Inv := by
  intro iv av hI
  refine ⟨iv 0 9, iv 45 33, rfl, rfl, ?_, hI⟩
  obtain ⟨nb, nr, sp, td, np, nq, kd, nd, fr, to, lg, pb, pm, qb, qm, qi, hW, hV, hV2, hP, hP1, hP2, hQ, hQ2, hS0, hS1, hS2, hS3, hT, hF, hH⟩ := hI
  exact hT
theorem eq_fault : EQ_fault zi_Inv := by
  intro iv av hI
  refine ⟨iv 0 10, iv 45 0, rfl, rfl, ?_, hI⟩
  obtain ⟨nb, nr, sp, td, np, nq, kd, nd, fr, to, lg, pb, pm, qb, qm, qi, hW, hV, hV2, hP, hP1, hP2, hQ, hQ2, hS0, hS1, hS2, hS3, hT, hF, hH⟩ := hI
  exact hF
theorem eq_many : EQ_many zi_Inv := by
  intro iv av s1 hI
  have hI0 := hI
  obtain ⟨nb, nr, sp, td, np, nq, kd, nd, fr, to, lg, pb, pm, qb, qm, qi, hW, hV, hV2, hP, hP1, hP2, hQ, hQ2, hS0, hS1, hS2, hS3, hT, hF, hH⟩ := hI
  refine ⟨if s1 = 0 then nI nb else if s1 = 1 then nI nr else if s1 = 2 then nI np else if s1 = 3 then nI nq else if s1 = 4 then nI sp else -2, if s1 = 0 then nI nb else if s1 = 1 then nI nr else if s1 = 2 then nI np else if s1 = 3 then nI nq else if s1 = 4 then nI sp else -2, ?_, ?_, rfl, hI0⟩
  · unfold M_X6_many
    rw [hV.1, hV.2.1, hV.2.2.1, hP.1, hQ.1]
    repeat' split
    all_goals first | rfl | simp_all
  · unfold M_X7_many
    rw [hV2.1, hV2.2.1, hV2.2.2.1, hP2.1, hQ2.1]
    repeat' split
    all_goals first | rfl | simp_all
theorem zi_tied {td b : Nat} (htd : td < 64) (hb : b < 6) : M_X5_isTied (nI td) (nI b) = some (if td.testBit b = true then 1 else 0) := by
  unfold M_X5_isTied
  cases h1 : td.testBit b with
  | false => rw [if_pos ((q_bit0 (by omega) (by omega)).mpr h1)]; rfl
  | true => rw [if_neg (fun z => by rw [(q_bit0 (by omega) (by omega)).mp z] at h1; cases h1)]; rfl
theorem zi_td64 {nb td : Nat} (hnb : nb ≤ 6) (h : td < 2 ^ nb) : td < 64 := Nat.lt_of_lt_of_le h (Nat.pow_le_pow_right (by decide) hnb)
theorem eq_ofBell : EQ_ofBell zi_Inv := by
  intro iv av s1 s2 hI
  have hI0 := hI
  obtain ⟨nb, nr, sp, td, np, nq, kd, nd, fr, to, lg, pb, pm, qb, qm, qi, hW, hV, hV2, hP, hP1, hP2, hQ, hQ2, hS0, hS1, hS2, hS3, hT, hF, hH⟩ := hI
  have hnb := hW.2.1
  have htd := zi_td64 hnb hW.2.2.2.2.1
  unfold M_X6_ofBell M_X7_ofBell
  rw [hV.1, hV.2.2.2.1, hV2.1, hV2.2.2.2.1]
  rcases zi_bell hnb s1 with ⟨j, hj, rfl, e1, e2⟩ | ⟨e1, e2⟩
  · obtain ⟨k1, k2⟩ := hV.2.2.2.2.1 j hj
    obtain ⟨k3, k4⟩ := hV2.2.2.2.2.1 j hj
    have hk := (hW.2.2.2.2.2.2.2.1 j hj).1
    rw [e1, e2, Option.bind_some, Option.bind_some, if_neg (show ¬ (1 : Int32) = 0 by decide), if_pos (show (0 : Int32) = 0 from rfl), q_gB (by omega) (by decide), q_gB (by omega) (by decide), q_gB (by omega) (by decide), q_gB (by omega) (by decide), nI_clamp (by omega), k1, k2, k3, k4, zc_swingsFor (by omega) k1 hk k2, zr_needs (by omega) k3 hk k4, zi_tied htd (by omega), zr_isIn (by omega) (by omega)]
    simp only [Option.bind_some]
    by_cases h0 : s2 = 0
    · simp only [if_pos h0]
      exact ⟨_, _, rfl, rfl, rfl, hI0⟩
    · simp only [if_neg h0]
      by_cases h1 : s2 = 1
      · simp only [if_pos h1]
        exact ⟨_, _, rfl, rfl, rfl, hI0⟩
      · simp only [if_neg h1]
        by_cases h2 : s2 = 2
        · simp only [if_pos h2]
          exact ⟨_, _, rfl, rfl, rfl, hI0⟩
        · simp only [if_neg h2]
          by_cases h3 : s2 = 3
          · simp only [if_pos h3]
            cases td.testBit j with
            | true => exact ⟨1, 1, rfl, rfl, rfl, hI0⟩
            | false => exact ⟨0, 0, rfl, rfl, rfl, hI0⟩
          · simp only [if_neg h3]
            exact ⟨_, _, rfl, rfl, rfl, hI0⟩
  · rw [e1, e2]
    exact ⟨-1, -1, rfl, rfl, rfl, hI0⟩
theorem eq_ofRope : EQ_ofRope zi_Inv := by
  intro iv av s1 s2 hI
  have hI0 := hI
  obtain ⟨nb, nr, sp, td, np, nq, kd, nd, fr, to, lg, pb, pm, qb, qm, qi, hW, hV, hV2, hP, hP1, hP2, hQ, hQ2, hS0, hS1, hS2, hS3, hT, hF, hH⟩ := hI
  have hnr := hW.2.2.1
  unfold M_X6_ofRope M_X7_ofRope
  rw [hV.2.1, hV2.2.1, zi_inL _ (zi_m1 nr (by omega)), Option.bind_some]
  rcases zi_rng s1 (n := nr) (by omega) with ⟨j, hj, rfl, h⟩ | ⟨h1, h2⟩ | ⟨h1, h2, h3⟩
  · obtain ⟨k1, k2, k3⟩ := hV.2.2.2.2.2 j hj
    obtain ⟨k4, k5, k6⟩ := hV2.2.2.2.2.2 j hj
    rw [if_neg (nI_pos (by omega)), if_pos (nI_lt hj (by omega)), if_pos (show 0 ≤ (nI j).toInt ∧ (nI j).toInt ≤ (nr : Int) - 1 by omega), if_neg (show ¬ (1 : Int32) = 0 by decide)]
    simp only [q_gB (show j < 9 by omega) (show 9 < 2 ^ 31 by decide), nI_clamp (show j < 2 ^ 31 by omega), k1, k2, k3, k4, k5, k6]
    by_cases h0 : s2 = 0
    · simp only [if_pos h0]
      exact ⟨_, _, rfl, rfl, rfl, hI0⟩
    · simp only [if_neg h0]
      by_cases h1 : s2 = 1
      · simp only [if_pos h1]
        exact ⟨_, _, rfl, rfl, rfl, hI0⟩
      · simp only [if_neg h1]
        by_cases h2 : s2 = 2
        · simp only [if_pos h2]
          exact ⟨_, _, rfl, rfl, rfl, hI0⟩
        · simp only [if_neg h2]
          exact ⟨_, _, rfl, rfl, rfl, hI0⟩
  · rw [if_pos h1, if_neg (show ¬ (0 ≤ s1.toInt ∧ s1.toInt ≤ (nr : Int) - 1) by omega), if_pos (show (0 : Int32) = 0 from rfl)]
    exact ⟨_, _, rfl, rfl, rfl, hI0⟩
  · rw [if_neg h1, if_neg (show ¬ s1 < nI nr by rw [Int32.lt_iff_toInt_lt, nI_toInt (by omega)]; omega), if_neg (show ¬ (0 ≤ s1.toInt ∧ s1.toInt ≤ (nr : Int) - 1) by omega), if_pos (show (0 : Int32) = 0 from rfl)]
    exact ⟨_, _, rfl, rfl, rfl, hI0⟩
theorem zi_x1 : ∀ td, td < 64 → ∀ b, b < 6 → nI td ^^^ nI (2 ^ b) = nI (td ^^^ 2 ^ b) := by decide +kernel
theorem zi_x2 : ∀ td, td < 64 → ∀ b, b < 6 → nI td &&& (nI (2 ^ b) ^^^ (-1)) = nI (if td.testBit b = true then td ^^^ 2 ^ b else td) := by decide +kernel
theorem zi_x3 : ∀ td, td < 64 → ∀ b, b < 6 → nI td ||| nI (2 ^ b) = nI (if td.testBit b = true then td else td ^^^ 2 ^ b) := by decide +kernel
theorem eq_tie : EQ_tie zi_Inv := by
  intro iv av s1 s2 hI
  have hI0 := hI
  obtain ⟨nb, nr, sp, td, np, nq, kd, nd, fr, to, lg, pb, pm, qb, qm, qi, hW, hV, hV2, hP, hP1, hP2, hQ, hQ2, hS0, hS1, hS2, hS3, hT, hF, hH⟩ := hI
  have hnb := hW.2.1
  have htd := zi_td64 hnb hW.2.2.2.2.1
  have same : zi_Inv (va_up (va_up (va_up iv 0 (upd (iv 0) 8 (iv 0 8))) 1 (upd (iv 1) 8 (nI td))) 45 (upd (iv 45) 4 (nI td))) av := by
    refine ⟨nb, nr, sp, td, np, nq, kd, nd, fr, to, lg, pb, pm, qb, qm, qi, hW, ?_, ?_, hP, hP1, hP2, hQ, hQ2, hS0, hS1, hS2, hS3, hT, hF, hH⟩
    · exact ⟨hV.1, hV.2.1, hV.2.2.1, rfl, hV.2.2.2.2.1, hV.2.2.2.2.2⟩
    · exact ⟨hV2.1, hV2.2.1, hV2.2.2.1, rfl, hV2.2.2.2.2.1, hV2.2.2.2.2.2⟩
  have other : ∀ td' cur, td' < 2 ^ nb → cur = 0 → zi_Inv (va_up (va_up (va_up iv 0 (upd (iv 0) 8 cur)) 1 (upd (iv 1) 8 (nI td'))) 45 (upd (iv 45) 4 (nI td'))) av := by
    intro td' cur h1 h2
    obtain ⟨w1, w2, w3, w4, w5, w6⟩ := hW
    refine ⟨nb, nr, sp, td', np, nq, kd, nd, fr, to, lg, pb, pm, qb, qm, qi, ⟨w1, w2, w3, w4, h1, w6⟩, ?_, ?_, hP, hP1, hP2, hQ, hQ2, hS0, hS1, hS2, hS3, hT, hF, Or.inl h2⟩
    · exact ⟨hV.1, hV.2.1, hV.2.2.1, rfl, hV.2.2.2.2.1, hV.2.2.2.2.2⟩
    · exact ⟨hV2.1, hV2.2.1, hV2.2.2.1, rfl, hV2.2.2.2.2.1, hV2.2.2.2.2.2⟩
  unfold M_X6_tie M_X7_tie
  rw [hV.1, hV.2.2.2.1, hV2.1, hV2.2.2.2.1]
  rcases zi_bell hnb s1 with ⟨j, hj, rfl, e1, e2⟩ | ⟨e1, e2⟩
  · have hx : td ^^^ 2 ^ j < 2 ^ nb := Nat.xor_lt_two_pow hW.2.2.2.2.1 (Nat.pow_lt_pow_right (by decide) hj)
    rw [e1, e2, Option.bind_some, Option.bind_some, if_neg (show ¬ (1 : Int32) = 0 by decide), if_pos (show (0 : Int32) = 0 from rfl), zi_tied htd (by omega), zr_isIn (by omega) (by omega), Option.bind_some, Option.bind_some, q_shl j (by omega), zi_x1 td htd j (by omega), zi_x2 td htd j (by omega), zi_x3 td htd j (by omega)]
    simp only [nme]
    unfold bl
    cases h1 : td.testBit j with
    | false =>
      by_cases h2 : s2 = 0
      · rw [if_pos h2]
        exact ⟨_, _, rfl, rfl, rfl, same⟩
      · rw [if_neg h2]
        exact ⟨_, _, rfl, rfl, rfl, other _ 0 hx rfl⟩
    | true =>
      by_cases h2 : s2 = 0
      · rw [if_pos h2]
        exact ⟨_, _, rfl, rfl, rfl, other _ 0 hx rfl⟩
      · rw [if_neg h2]
        exact ⟨_, _, rfl, rfl, rfl, same⟩
  · rw [e1, e2]
    exact ⟨_, _, rfl, rfl, rfl, same⟩
