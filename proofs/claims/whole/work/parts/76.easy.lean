theorem eq_span : EQ_span zi_Inv := by
  intro iv av s1 hI
  obtain ⟨nb, nr, sp, td, np, nq, kd, nd, fr, to, lg, pb, pm, qb, qm, qi, hW, hV, hV2, hP, hP1, hP2, hQ, hQ2, hS0, hS1, hS2, hS3, hT, hF, hH⟩ := hI
  obtain ⟨w1, w2, w3, w4, w5⟩ := hW
  unfold M_X6_span M_X7_span
  rw [hV.1, hV.2.2.1, hV2.1, hV2.2.2.1, zi_inL 5 (by decide), Option.bind_some, zi_noV w2, Option.bind_some]
  have hsame : zi_Inv (va_up (va_up (va_up iv 0 (upd (iv 0) 8 (iv 0 8))) 1 (upd (iv 1) 7 (nI sp))) 45 (upd (iv 45) 9 (nI sp))) av :=
    ⟨nb, nr, sp, td, np, nq, kd, nd, fr, to, lg, pb, pm, qb, qm, qi, ⟨w1, w2, w3, w4, w5⟩, ⟨hV.1, hV.2.1, rfl, hV.2.2.2⟩, ⟨hV2.1, hV2.2.1, rfl, hV2.2.2.2⟩, hP, hP1, hP2, hQ, hQ2, hS0, hS1, hS2, hS3, hT, hF, hH⟩
  rcases zi_rng s1 (n := 6) (by omega) with ⟨j, hj, rfl, h⟩ | ⟨h1, h2⟩ | ⟨h1, h2, h3⟩
  · rw [if_neg (nI_pos (by omega)), if_pos (show nI j ≤ (5 : Int32) from nI_le (b := 5) (by omega) (by decide)), if_pos (show 0 ≤ (nI j).toInt ∧ (nI j).toInt ≤ (5 : Int) by omega), if_neg (show ¬ (1 : Int32) = 0 by decide)]
    by_cases h0 : nb = 0
    · subst h0
      exact ⟨_, _, rfl, rfl, rfl, hsame⟩
    · rw [if_neg h0, if_pos (show (0 : Int32) = 0 from rfl), if_neg (nI_ne0 (by omega) (by omega))]
      refine ⟨_, _, rfl, rfl, rfl, ?_⟩
      exact ⟨nb, nr, j, td, np, nq, kd, nd, fr, to, lg, pb, pm, qb, qm, qi, ⟨Or.inr (by omega), w2, w3, by omega, w5⟩, ⟨hV.1, hV.2.1, rfl, hV.2.2.2⟩, ⟨hV2.1, hV2.2.1, rfl, hV2.2.2.2⟩, hP, hP1, hP2, hQ, hQ2, hS0, hS1, hS2, hS3, hT, hF, Or.inl rfl⟩
  · rw [if_pos h1, if_neg (show ¬ (0 ≤ s1.toInt ∧ s1.toInt ≤ (5 : Int)) by omega), if_pos (show (0 : Int32) = 0 from rfl)]
    exact ⟨_, _, rfl, rfl, rfl, hsame⟩
  · rw [if_neg h1, if_neg (show ¬ s1 ≤ (5 : Int32) by rw [Int32.le_iff_toInt_le]; show ¬ s1.toInt ≤ (5 : Int); omega), if_neg (show ¬ (0 ≤ s1.toInt ∧ s1.toInt ≤ (5 : Int)) by omega), if_pos (show (0 : Int32) = 0 from rfl)]
    exact ⟨_, _, rfl, rfl, rfl, hsame⟩
theorem eq_pull : EQ_pull zi_Inv := by
  intro iv av s1 s2 hI
  obtain ⟨nb, nr, sp, td, np, nq, kd, nd, fr, to, lg, pb, pm, qb, qm, qi, hW, hV, hV2, hP, hP1, hP2, hQ, hQ2, hS0, hS1, hS2, hS3, hT, hF, hH⟩ := hI
  have hnb := hW.2.1
  have hnp := hW.2.2.2.2.2.1
  unfold M_X6_pull M_X7_pull
  rw [hV.1, hP.1, hV2.1, hP2.1, zi_inL 99 (by decide)]
  have hsame : zi_Inv (va_up (va_up (va_up iv 0 (upd (iv 0) 8 (iv 0 8))) 14 (upd (iv 14) 3 (nI np))) 45 (upd (iv 45) 18 (nI np))) (va_up (va_up (va_up (va_up (va_up av 15 (av 15)) 16 (av 16)) 17 (av 17)) 56 (av 56)) 57 (av 57)) :=
    ⟨nb, nr, sp, td, np, nq, kd, nd, fr, to, lg, pb, pm, qb, qm, qi, hW, hV, hV2, ⟨rfl, hP.2⟩, hP1, ⟨rfl, hP2.2⟩, hQ, hQ2, hS0, hS1, hS2, hS3, hT, hF, hH⟩
  rcases zi_bell hnb s1 with ⟨j, hj, rfl, e1, e2⟩ | ⟨e1, e2⟩
  · rw [e1, e2, Option.bind_some, Option.bind_some, Option.bind_some, if_neg (show ¬ (1 : Int32) = 0 by decide), if_pos (show (0 : Int32) = 0 from rfl)]
    rcases zi_rng s2 (n := 100) (by omega) with ⟨m, hm, rfl, h⟩ | ⟨h1, h2⟩ | ⟨h1, h2, h3⟩
    · rw [if_neg (nI_pos (by omega)), if_pos (show nI m < (100 : Int32) from nI_lt (b := 100) (by omega) (by decide)), if_pos (show 0 ≤ (nI m).toInt ∧ (nI m).toInt ≤ (99 : Int) by omega), if_neg (show ¬ (1 : Int32) = 0 by decide)]
      by_cases h6 : np = 6
      · subst h6
        rw [if_neg (show ¬ nI 6 < (6 : Int32) by decide), if_pos (show nI 6 = (6 : Int32) from rfl)]
        exact ⟨_, _, rfl, rfl, rfl, hsame⟩
      · have e3 : ∀ f g h : Nat → Int32, M_X1_add (nI np) f g h (nI j) (nI m) 1 = some (nI (np + 1), upd f np (nI j), upd g np (nI m), upd h np 1) := by
          intro f g h
          unfold M_X1_add
          rw [if_neg (show ¬ (6 : Int32) ≤ nI np from nI_ge (b := 6) (by omega) (by decide)), q_gB (by omega) (by decide), nI_clamp (by omega)]
          simp only [nme]
          rw [q_gB (by omega) (by decide), q_gB (by omega) (by decide), nI_1]
        rw [if_pos (show nI np < (6 : Int32) from nI_lt (b := 6) (by omega) (by decide)), if_neg (show ¬ nI np = (6 : Int32) from fun z => h6 ((nI_eq (b := 6) (by omega) (by decide)).mp z)), e3, Option.bind_some, q_gB (by omega) (by decide), nI_clamp (by omega)]
        simp only [nme]
        rw [q_gB (by omega) (by decide), nI_1]
        refine ⟨_, _, rfl, rfl, rfl, ?_⟩
        obtain ⟨w1, w2, w3, w4, w5, w6, w7, w8, w9, w10, w11⟩ := hW
        have key : ∀ f g : Nat → Int32, (∀ p, p < np → f p = nI (pb p) ∧ g p = nI (pm p)) → zi_P (np + 1) (fun p => if p = np then j else pb p) (fun p => if p = np then m else pm p) (nI (np + 1)) (upd f np (nI j)) (upd g np (nI m)) := by
          intro f g hfg
          refine ⟨rfl, fun p hp => ?_⟩
          by_cases h7 : p = np
          · simp [upd, h7]
          · simp only [upd, if_neg h7]
            exact hfg p (by omega)
        refine ⟨nb, nr, sp, td, np + 1, nq, kd, nd, fr, to, lg, fun p => if p = np then j else pb p, fun p => if p = np then m else pm p, qb, qm, qi, ⟨by omega, w2, w3, w4, w5, by omega, w7, w8, w9, fun p hp => ?_, w11⟩, hV, hV2, key _ _ hP.2, fun p hp => ?_, key _ _ hP2.2, hQ, hQ2, hS0, hS1, hS2, hS3, hT, hF, Or.inl rfl⟩
        · by_cases h7 : p = np
          · simp only [if_pos h7]
            exact ⟨hj, hm⟩
          · simp only [if_neg h7]
            exact w10 p (by omega)
        · show upd (av 17) np 1 p = nI 1
          by_cases h7 : p = np
          · subst h7
            rw [pk_us]
            rfl
          · rw [pk_un h7]
            exact hP1 p (by omega)
    · rw [if_pos h1, if_neg (show ¬ (0 ≤ s2.toInt ∧ s2.toInt ≤ (99 : Int)) by omega), if_pos (show (0 : Int32) = 0 from rfl)]
      exact ⟨_, _, rfl, rfl, rfl, hsame⟩
    · rw [if_neg h1, if_neg (show ¬ s2 < (100 : Int32) by rw [Int32.lt_iff_toInt_lt]; show ¬ s2.toInt < (100 : Int); omega), if_neg (show ¬ (0 ≤ s2.toInt ∧ s2.toInt ≤ (99 : Int)) by omega), if_pos (show (0 : Int32) = 0 from rfl)]
      exact ⟨_, _, rfl, rfl, rfl, hsame⟩
  · rw [e1, e2]
    exact ⟨_, _, rfl, rfl, rfl, hsame⟩
theorem eq_undo : EQ_undo zi_Inv := by
  intro iv av s1 hI
  obtain ⟨nb, nr, sp, td, np, nq, kd, nd, fr, to, lg, pb, pm, qb, qm, qi, hW, hV, hV2, hP, hP1, hP2, hQ, hQ2, hS0, hS1, hS2, hS3, hT, hF, hH⟩ := hI
  have hnp := hW.2.2.2.2.2.1
  unfold M_X6_undo M_X7_undo
  rw [hP.1, hP2.1, zi_inL (a := s1) (hi := (nI np).toInt64) (np : Int) (by rw [Int32.toInt_toInt64, nI_toInt (by omega)]), Option.bind_some]
  have hsame : zi_Inv (va_up (va_up (va_up iv 0 (upd (iv 0) 8 (iv 0 8))) 14 (upd (iv 14) 3 (nI np))) 45 (upd (iv 45) 18 (nI np))) av :=
    ⟨nb, nr, sp, td, np, nq, kd, nd, fr, to, lg, pb, pm, qb, qm, qi, hW, hV, hV2, ⟨rfl, hP.2⟩, hP1, ⟨rfl, hP2.2⟩, hQ, hQ2, hS0, hS1, hS2, hS3, hT, hF, hH⟩
  rcases zi_rng s1 (n := np + 1) (by omega) with ⟨j, hj, rfl, h⟩ | ⟨h1, h2⟩ | ⟨h1, h2, h3⟩
  · rw [if_neg (nI_pos (by omega)), if_pos (nI_le (by omega) (by omega)), if_pos (show 0 ≤ (nI j).toInt ∧ (nI j).toInt ≤ (np : Int) by omega), if_neg (show ¬ (1 : Int32) = 0 by decide), pk_sub (by omega)]
    simp only [nme]
    refine ⟨_, _, rfl, rfl, rfl, ?_⟩
    obtain ⟨w1, w2, w3, w4, w5, w6, w7, w8, w9, w10, w11⟩ := hW
    exact ⟨nb, nr, sp, td, np - j, nq, kd, nd, fr, to, lg, pb, pm, qb, qm, qi, ⟨by omega, w2, w3, w4, w5, by omega, w7, w8, w9, fun p hp => w10 p (by omega), w11⟩, hV, hV2, ⟨rfl, fun p hp => hP.2 p (by omega)⟩, fun p hp => hP1 p (by omega), ⟨rfl, fun p hp => hP2.2 p (by omega)⟩, hQ, hQ2, hS0, hS1, hS2, hS3, hT, hF, Or.inl rfl⟩
  · rw [if_pos h1, if_neg (show ¬ (0 ≤ s1.toInt ∧ s1.toInt ≤ (np : Int)) by omega), if_pos (show (0 : Int32) = 0 from rfl)]
    exact ⟨_, _, rfl, rfl, rfl, hsame⟩
  · rw [if_neg h1, if_neg (show ¬ s1 ≤ nI np by rw [Int32.le_iff_toInt_le, nI_toInt (by omega)]; omega), if_neg (show ¬ (0 ≤ s1.toInt ∧ s1.toInt ≤ (np : Int)) by omega), if_pos (show (0 : Int32) = 0 from rfl)]
    exact ⟨_, _, rfl, rfl, rfl, hsame⟩
theorem eq_back : EQ_back zi_Inv := by
  intro iv av s1 hI
  obtain ⟨nb, nr, sp, td, np, nq, kd, nd, fr, to, lg, pb, pm, qb, qm, qi, hW, hV, hV2, hP, hP1, hP2, hQ, hQ2, hS0, hS1, hS2, hS3, hT, hF, hH⟩ := hI
  have hnq := hW.2.2.2.2.2.2.1
  unfold M_X6_back M_X7_back
  rw [hQ.1, hQ2.1, zi_inL (a := s1) (hi := (nI nq).toInt64) (nq : Int) (by rw [Int32.toInt_toInt64, nI_toInt (by omega)]), Option.bind_some]
  have hsame : zi_Inv (va_up (va_up iv 22 (upd (iv 22) 3 (nI nq))) 45 (upd (iv 45) 25 (nI nq))) av :=
    ⟨nb, nr, sp, td, np, nq, kd, nd, fr, to, lg, pb, pm, qb, qm, qi, hW, hV, hV2, hP, hP1, hP2, ⟨rfl, hQ.2⟩, ⟨rfl, hQ2.2⟩, hS0, hS1, hS2, hS3, hT, hF, hH⟩
  rcases zi_rng s1 (n := nq + 1) (by omega) with ⟨j, hj, rfl, h⟩ | ⟨h1, h2⟩ | ⟨h1, h2, h3⟩
  · rw [if_neg (nI_pos (by omega)), if_pos (nI_le (by omega) (by omega)), if_pos (show 0 ≤ (nI j).toInt ∧ (nI j).toInt ≤ (nq : Int) by omega), if_neg (show ¬ (1 : Int32) = 0 by decide), pk_sub (by omega)]
    simp only [nme]
    refine ⟨_, _, rfl, rfl, rfl, ?_⟩
    obtain ⟨w1, w2, w3, w4, w5, w6, w7, w8, w9, w10, w11⟩ := hW
    exact ⟨nb, nr, sp, td, np, nq - j, kd, nd, fr, to, lg, pb, pm, qb, qm, qi, ⟨by omega, w2, w3, w4, w5, w6, by omega, w8, w9, w10, fun q hq => w11 q (by omega)⟩, hV, hV2, hP, hP1, hP2, ⟨rfl, fun p hp => hQ.2 p (by omega)⟩, ⟨rfl, fun p hp => hQ2.2 p (by omega)⟩, hS0, hS1, hS2, hS3, hT, hF, hH⟩
  · rw [if_pos h1, if_neg (show ¬ (0 ≤ s1.toInt ∧ s1.toInt ≤ (nq : Int)) by omega), if_pos (show (0 : Int32) = 0 from rfl)]
    exact ⟨_, _, rfl, rfl, rfl, hsame⟩
  · rw [if_neg h1, if_neg (show ¬ s1 ≤ nI nq by rw [Int32.le_iff_toInt_le, nI_toInt (by omega)]; omega), if_neg (show ¬ (0 ≤ s1.toInt ∧ s1.toInt ≤ (nq : Int)) by omega), if_pos (show (0 : Int32) = 0 from rfl)]
    exact ⟨_, _, rfl, rfl, rfl, hsame⟩
theorem zi_bl (x : Int32) : ∃ i : Nat, i ≤ 1 ∧ bl x = nI i ∧ vp_nar .boolean (bl x) = nI i := by
  unfold bl
  by_cases h : x = 0
  · exact ⟨0, by omega, if_pos h, by rw [if_pos h]; rfl⟩
  · exact ⟨1, by omega, if_neg h, by rw [if_neg h]; rfl⟩
theorem eq_reading : EQ_reading zi_Inv := by
  intro iv av s1 s2 s3 hI
  obtain ⟨nb, nr, sp, td, np, nq, kd, nd, fr, to, lg, pb, pm, qb, qm, qi, hW, hV, hV2, hP, hP1, hP2, hQ, hQ2, hS0, hS1, hS2, hS3, hT, hF, hH⟩ := hI
  have hnb := hW.2.1
  have hnq := hW.2.2.2.2.2.2.1
  obtain ⟨i, hi, ei, ei2⟩ := zi_bl s3
  unfold M_X6_reading M_X7_reading
  rw [hV.1, hQ.1, hV2.1, hQ2.1, zi_inL 399 (by decide), ei2]
  have hsame : zi_Inv (va_up (va_up iv 22 (upd (iv 22) 3 (nI nq))) 45 (upd (iv 45) 25 (nI nq))) (va_up (va_up (va_up (va_up (va_up (va_up av 23 (av 23)) 24 (av 24)) 25 (av 25)) 62 (av 62)) 63 (av 63)) 64 (av 64)) :=
    ⟨nb, nr, sp, td, np, nq, kd, nd, fr, to, lg, pb, pm, qb, qm, qi, hW, hV, hV2, hP, hP1, hP2, ⟨rfl, hQ.2⟩, ⟨rfl, hQ2.2⟩, hS0, hS1, hS2, hS3, hT, hF, hH⟩
  rcases zi_bell hnb s1 with ⟨j, hj, rfl, e1, e2⟩ | ⟨e1, e2⟩
  · rw [e1, e2, Option.bind_some, Option.bind_some, Option.bind_some, if_neg (show ¬ (1 : Int32) = 0 by decide), if_pos (show (0 : Int32) = 0 from rfl)]
    rcases zi_rng s2 (n := 400) (by omega) with ⟨m, hm, rfl, h⟩ | ⟨h1, h2⟩ | ⟨h1, h2, h3⟩
    · rw [if_neg (nI_pos (by omega)), if_pos (show nI m < (400 : Int32) from nI_lt (b := 400) (by omega) (by decide)), if_pos (show 0 ≤ (nI m).toInt ∧ (nI m).toInt ≤ (399 : Int) by omega), if_neg (show ¬ (1 : Int32) = 0 by decide)]
      by_cases h6 : nq = 6
      · subst h6
        rw [if_neg (show ¬ nI 6 < (6 : Int32) by decide), if_pos (show nI 6 = (6 : Int32) from rfl)]
        exact ⟨_, _, rfl, rfl, rfl, hsame⟩
      · have e3 : ∀ f g h : Nat → Int32, M_X2_add (nI nq) f g h (nI j) (nI m) (bl s3) = some (nI (nq + 1), upd f nq (nI j), upd g nq (nI m), upd h nq (nI i)) := by
          intro f g h
          unfold M_X2_add
          rw [if_neg (show ¬ (6 : Int32) ≤ nI nq from nI_ge (b := 6) (by omega) (by decide)), q_gB (by omega) (by decide), nI_clamp (by omega), ei2]
          simp only [nme]
          rw [q_gB (by omega) (by decide), q_gB (by omega) (by decide), nI_1]
        rw [if_pos (show nI nq < (6 : Int32) from nI_lt (b := 6) (by omega) (by decide)), if_neg (show ¬ nI nq = (6 : Int32) from fun z => h6 ((nI_eq (b := 6) (by omega) (by decide)).mp z)), e3, Option.bind_some, q_gB (by omega) (by decide), nI_clamp (by omega)]
        simp only [nme]
        rw [q_gB (by omega) (by decide), q_gB (by omega) (by decide), nI_1]
        refine ⟨_, _, rfl, rfl, rfl, ?_⟩
        obtain ⟨w1, w2, w3, w4, w5, w6, w7, w8, w9, w10, w11⟩ := hW
        have key : ∀ f g h : Nat → Int32, (∀ p, p < nq → f p = nI (qb p) ∧ g p = nI (qm p) ∧ h p = nI (qi p)) → zi_Q (nq + 1) (fun p => if p = nq then j else qb p) (fun p => if p = nq then m else qm p) (fun p => if p = nq then i else qi p) (nI (nq + 1)) (upd f nq (nI j)) (upd g nq (nI m)) (upd h nq (nI i)) := by
          intro f g h hfg
          refine ⟨rfl, fun p hp => ?_⟩
          by_cases h7 : p = nq
          · simp [upd, h7]
          · simp only [upd, if_neg h7]
            exact hfg p (by omega)
        refine ⟨nb, nr, sp, td, np, nq + 1, kd, nd, fr, to, lg, pb, pm, fun p => if p = nq then j else qb p, fun p => if p = nq then m else qm p, fun p => if p = nq then i else qi p, ⟨by omega, w2, w3, w4, w5, w6, by omega, w8, w9, w10, fun p hp => ?_⟩, hV, hV2, hP, hP1, hP2, key _ _ _ hQ.2, key _ _ _ hQ2.2, hS0, hS1, hS2, hS3, hT, hF, hH⟩
        by_cases h7 : p = nq
        · simp only [if_pos h7]
          exact ⟨hj, hm, hi⟩
        · simp only [if_neg h7]
          exact w11 p (by omega)
    · rw [if_pos h1, if_neg (show ¬ (0 ≤ s2.toInt ∧ s2.toInt ≤ (399 : Int)) by omega), if_pos (show (0 : Int32) = 0 from rfl)]
      exact ⟨_, _, rfl, rfl, rfl, hsame⟩
    · rw [if_neg h1, if_neg (show ¬ s2 < (400 : Int32) by rw [Int32.lt_iff_toInt_lt]; show ¬ s2.toInt < (400 : Int); omega), if_neg (show ¬ (0 ≤ s2.toInt ∧ s2.toInt ≤ (399 : Int)) by omega), if_pos (show (0 : Int32) = 0 from rfl)]
      exact ⟨_, _, rfl, rfl, rfl, hsame⟩
  · rw [e1, e2]
    exact ⟨_, _, rfl, rfl, rfl, hsame⟩
theorem zi_kd {k : Nat} (h : k ≤ 2) : k = 0 ∨ k = 1 ∨ k = 2 := by omega
theorem eq_hail : EQ_hail zi_Inv := by
  intro iv av s1 hI
  obtain ⟨nb, nr, sp, td, np, nq, kd, nd, fr, to, lg, pb, pm, qb, qm, qi, hW, hV, hV2, hP, hP1, hP2, hQ, hQ2, hS0, hS1, hS2, hS3, hT, hF, hH⟩ := hI
  have hnb := hW.2.1
  unfold M_X6_hail M_X7_hail
  rw [hV.1, hV2.1, hT]
  rcases zi_bell hnb s1 with ⟨j, hj, rfl, e1, e2⟩ | ⟨e1, e2⟩
  · rw [e1, e2, Option.bind_some, Option.bind_some, if_neg (show ¬ (1 : Int32) = 0 by decide), if_pos (show (0 : Int32) = 0 from rfl), q_gB (by omega) (by decide), q_gB (by omega) (by decide), nI_clamp (by omega), (hV.2.2.2.2.1 j hj).1, (hV2.2.2.2.2.1 j hj).1]
    by_cases h2 : nI (kd j) = 2
    · simp only [if_pos h2, M_X6_deafHailed, M_X6_leave, M_X7_traced, nme, Option.bind_some]
      rw [q_gB (by omega) (by decide)]
      exact ⟨_, _, rfl, rfl, rfl, ⟨nb, nr, sp, td, np, nq, kd, nd, fr, to, lg, pb, pm, qb, qm, qi, hW, hV, hV2, hP, hP1, hP2, hQ, hQ2, hS0, hS1, hS2, hS3, rfl, hF, hH⟩⟩
    · simp only [if_neg h2, M_X6_lentHailed, M_X6_leave, M_X7_traced, nme, Option.bind_some]
      rw [q_gB (by omega) (by decide)]
      exact ⟨_, _, rfl, rfl, rfl, ⟨nb, nr, sp, td, np, nq, kd, nd, fr, to, lg, pb, pm, qb, qm, qi, hW, hV, hV2, hP, hP1, hP2, hQ, hQ2, hS0, hS1, hS2, hS3, rfl, hF, hH⟩⟩
  · rw [e1, e2]
    exact ⟨_, _, rfl, rfl, rfl, ⟨nb, nr, sp, td, np, nq, kd, nd, fr, to, lg, pb, pm, qb, qm, qi, hW, hV, hV2, hP, hP1, hP2, hQ, hQ2, hS0, hS1, hS2, hS3, rfl, hF, hH⟩⟩
theorem eq_as : EQ_as zi_Inv := by
  intro iv av s1 s2 hI
  obtain ⟨nb, nr, sp, td, np, nq, kd, nd, fr, to, lg, pb, pm, qb, qm, qi, hW, hV, hV2, hP, hP1, hP2, hQ, hQ2, hS0, hS1, hS2, hS3, hT, hF, hH⟩ := hI
  have hnb := hW.2.1
  unfold M_X6_as M_X7_as
  rw [hV.1, hV2.1]
  rcases zi_bell hnb s1 with ⟨j, hj, rfl, e1, e2⟩ | ⟨e1, e2⟩
  · rw [e1, e2, Option.bind_some, Option.bind_some, if_neg (show ¬ (1 : Int32) = 0 by decide), if_pos (show (0 : Int32) = 0 from rfl), zi_inL 2 (by decide), Option.bind_some, q_gB (by omega) (by decide), q_gB (by omega) (by decide), nI_clamp (by omega), (hV.2.2.2.2.1 j hj).1, (hV2.2.2.2.2.1 j hj).1]
    rcases zi_rng s2 (n := 3) (by omega) with ⟨m, hm, rfl, h⟩ | ⟨h1, h2⟩ | ⟨h1, h2, h3⟩
    · rw [if_neg (nI_pos (by omega)), if_pos (show nI m ≤ (2 : Int32) from nI_le (b := 2) (by omega) (by decide)), if_pos (show 0 ≤ (nI m).toInt ∧ (nI m).toInt ≤ (2 : Int) by omega), if_neg (show ¬ (1 : Int32) = 0 by decide)]
      by_cases h2 : nI (kd j) < nI m
      · simp only [if_pos h2]
        exact ⟨_, _, rfl, rfl, rfl, ⟨nb, nr, sp, td, np, nq, kd, nd, fr, to, lg, pb, pm, qb, qm, qi, hW, hV, hV2, hP, hP1, hP2, hQ, hQ2, hS0, hS1, hS2, hS3, hT, rfl, hH⟩⟩
      · simp only [if_neg h2]
        exact ⟨_, _, rfl, rfl, rfl, ⟨nb, nr, sp, td, np, nq, kd, nd, fr, to, lg, pb, pm, qb, qm, qi, hW, hV, hV2, hP, hP1, hP2, hQ, hQ2, hS0, hS1, hS2, hS3, hT, rfl, hH⟩⟩
    · rw [if_pos h1, if_neg (show ¬ (0 ≤ s2.toInt ∧ s2.toInt ≤ (2 : Int)) by omega), if_pos (show (0 : Int32) = 0 from rfl)]
      exact ⟨_, _, rfl, rfl, rfl, ⟨nb, nr, sp, td, np, nq, kd, nd, fr, to, lg, pb, pm, qb, qm, qi, hW, hV, hV2, hP, hP1, hP2, hQ, hQ2, hS0, hS1, hS2, hS3, hT, rfl, hH⟩⟩
    · rw [if_neg h1, if_neg (show ¬ s2 ≤ (2 : Int32) by rw [Int32.le_iff_toInt_le]; show ¬ s2.toInt ≤ (2 : Int); omega), if_neg (show ¬ (0 ≤ s2.toInt ∧ s2.toInt ≤ (2 : Int)) by omega), if_pos (show (0 : Int32) = 0 from rfl)]
      exact ⟨_, _, rfl, rfl, rfl, ⟨nb, nr, sp, td, np, nq, kd, nd, fr, to, lg, pb, pm, qb, qm, qi, hW, hV, hV2, hP, hP1, hP2, hQ, hQ2, hS0, hS1, hS2, hS3, hT, rfl, hH⟩⟩
  · rw [e1, e2]
    exact ⟨_, _, rfl, rfl, rfl, ⟨nb, nr, sp, td, np, nq, kd, nd, fr, to, lg, pb, pm, qb, qm, qi, hW, hV, hV2, hP, hP1, hP2, hQ, hQ2, hS0, hS1, hS2, hS3, hT, rfl, hH⟩⟩
theorem eq_tell : EQ_tell zi_Inv := by
  intro iv av s1 hI
  obtain ⟨nb, nr, sp, td, np, nq, kd, nd, fr, to, lg, pb, pm, qb, qm, qi, hW, hV, hV2, hP, hP1, hP2, hQ, hQ2, hS0, hS1, hS2, hS3, hT, hF, hH⟩ := hI
  have hnb := hW.2.1
  unfold M_X6_tell M_X7_tell
  rw [hV.1, hV2.1, hT]
  rcases zi_bell hnb s1 with ⟨j, hj, rfl, e1, e2⟩ | ⟨e1, e2⟩
  · obtain ⟨k1, k2⟩ := hV.2.2.2.2.1 j hj
    obtain ⟨k3, k4⟩ := hV2.2.2.2.2.1 j hj
    rw [e1, e2, Option.bind_some, Option.bind_some, if_neg (show ¬ (1 : Int32) = 0 by decide), if_pos (show (0 : Int32) = 0 from rfl)]
    simp only [M_X6_bellTells, M_X6_greatTells, M_X6_deafTells, M_X6_leave, M_X7_traced, nme, Option.bind_some, q_gB (show j < 6 by omega) (show 6 < 2 ^ 31 by decide), nI_clamp (show j < 2 ^ 31 by omega), k1, k2, k3, k4]
    rcases zi_kd (hW.2.2.2.2.2.2.2.1 j hj).1 with h | h | h
    · rw [h]
      exact ⟨_, _, rfl, rfl, rfl, ⟨nb, nr, sp, td, np, nq, kd, nd, fr, to, lg, pb, pm, qb, qm, qi, hW, hV, hV2, hP, hP1, hP2, hQ, hQ2, hS0, hS1, hS2, hS3, rfl, hF, hH⟩⟩
    · rw [h]
      exact ⟨_, _, rfl, rfl, rfl, ⟨nb, nr, sp, td, np, nq, kd, nd, fr, to, lg, pb, pm, qb, qm, qi, hW, hV, hV2, hP, hP1, hP2, hQ, hQ2, hS0, hS1, hS2, hS3, rfl, hF, hH⟩⟩
    · rw [h]
      refine ⟨_, _, rfl, rfl, ?_, ⟨nb, nr, sp, td, np, nq, kd, nd, fr, to, lg, pb, pm, qb, qm, qi, hW, hV, hV2, hP, hP1, hP2, hQ, hQ2, hS0, hS1, hS2, hS3, rfl, hF, hH⟩⟩
      show nI (nd j) + (100 : Int32) + nI (nd j) = (2 : Int32) * nI (nd j) + (100 : Int32)
      have e3 : (2 : Int32) * nI (nd j) = nI (2 * nd j) := pk_mul 2 _
      have e4 : ∀ x, nI x + (100 : Int32) = nI (x + 100) := fun x => nI_add x 100
      rw [e3, e4, e4, nI_add]
      exact congrArg nI (by omega)
  · rw [e1, e2]
    exact ⟨_, _, rfl, rfl, rfl, ⟨nb, nr, sp, td, np, nq, kd, nd, fr, to, lg, pb, pm, qb, qm, qi, hW, hV, hV2, hP, hP1, hP2, hQ, hQ2, hS0, hS1, hS2, hS3, rfl, hF, hH⟩⟩
