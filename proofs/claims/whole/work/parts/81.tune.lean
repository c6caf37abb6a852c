theorem zi_notes {nb i n kk : Nat} (hnb : nb ≤ 6) (hk : kk < 4) (hi : i + n ≤ 60) {b b2 : Int32} (hb : b = nI nb) (hb2 : b2 = nI nb) {cells sh : Nat → Int32} (hc : ∀ x, x < n → cells (i + x) = sh (60 * kk + i + x)) :
    ∃ (fl : Nat) (z z' : Int32), L_X6_tune_80 (nI kk) (nI i) (nI n) b cells 1000 0 = some (fl, z) ∧ L_X7_tune_89 (nI kk) (nI i) (nI n) b2 sh 1000 0 = some (fl, z') ∧ (¬ fl = 0 → ∀ x, x < n → ∃ j, j < nb ∧ cells (i + x) = nI j) := by
  have key : ∀ d f k, k + d = n → d < f → (∀ x, x < k → ∃ j, j < nb ∧ cells (i + x) = nI j) → ∃ (fl : Nat) (z z' : Int32), L_X6_tune_80 (nI kk) (nI i) (nI n) b cells f (nI k) = some (fl, z) ∧ L_X7_tune_89 (nI kk) (nI i) (nI n) b2 sh f (nI k) = some (fl, z') ∧ (¬ fl = 0 → ∀ x, x < n → ∃ j, j < nb ∧ cells (i + x) = nI j) := by
    intro d
    induction d with
    | zero =>
      intro f k hk1 hf hold
      cases f with
      | zero => exact absurd hf (Nat.not_lt_zero _)
      | succ f =>
        have e : k = n := by omega
        subst e
        refine ⟨1, nI k, nI k, ?_, ?_, fun _ => hold⟩
        · rw [L_X6_tune_80, if_pos (nI_le (Nat.le_refl _) (by omega))]
        · rw [L_X7_tune_89, if_pos (nI_le (Nat.le_refl _) (by omega))]
    | succ d ih =>
      intro f k hk1 hf hold
      cases f with
      | zero => exact absurd hf (Nat.not_lt_zero _)
      | succ f =>
        rw [L_X6_tune_80, L_X7_tune_89, if_neg (nI_ge (by omega) (by omega)), if_neg (nI_ge (by omega) (by omega)), q_gB hk (by decide), nI_add, q_gB (by omega) (by decide), nI_clamp (by omega), zi_60, nI_add, nI_add, q_gB (by omega) (by decide), nI_clamp (by omega), ← hc k (by omega)]
        simp only [nme]
        rcases zi_bellV hnb hb hb2 (cells (i + k)) with ⟨j, hj, ej, e1, e2⟩ | ⟨e1, e2⟩
        · rw [e1, e2, Option.bind_some, Option.bind_some, if_neg (show ¬ (1 : Int32) = 0 by decide), if_pos (show (0 : Int32) = 0 from rfl), nI_1]
          refine ih f (k + 1) (by omega) (by omega) (fun x hx => ?_)
          by_cases h : x = k
          · subst h
            exact ⟨j, hj, ej⟩
          · exact hold x (by omega)
        · rw [e1, e2, Option.bind_some, Option.bind_some, if_pos (show (0 : Int32) = 0 from rfl), if_neg (show ¬ (1 : Int32) = 0 by decide)]
          exact ⟨0, nI k, nI k, rfl, rfl, fun z => absurd rfl z⟩
  exact key n 1000 0 (by omega) (by omega) (fun x hx => absurd hx (Nat.not_lt_zero _))
theorem zi_whole {h : Nat → Nat → Bool} {nb i n kk : Nat} (hnb : nb ≤ 6) (hk : kk < 4) (hi : i + n ≤ 60) (hn : 1 ≤ n) {rang pe cells sh : Nat → Int32} (hr : ∀ k, k < 400 → rang k = nI (zb_set (h k) 6)) (hp : ∀ k, k < 400 → pe k = nI (zb_set (h k) 6)) (hc : ∀ x, x < n → cells (i + x) = sh (60 * kk + i + x)) (hb : ∀ x, x < n → ∃ j, j < nb ∧ cells (i + x) = nI j) :
    ∃ (fl : Nat) (a a' z : Int32), L_X6_wholeAt_12 (nI i) (nI n) rang cells 1000 0 0 = some (fl, a, z) ∧ L_X7_tune_139 (nI kk) (nI i) (nI n) sh pe 1000 0 0 = some (fl, a', z) := by
  have key : ∀ d f k x, k + d = 400 → d < f → x < n → ∃ (fl : Nat) (a a' z : Int32), L_X6_wholeAt_12 (nI i) (nI n) rang cells f (nI x) (nI k) = some (fl, a, z) ∧ L_X7_tune_139 (nI kk) (nI i) (nI n) sh pe f (nI x) (nI k) = some (fl, a', z) := by
    intro d
    induction d with
    | zero =>
      intro f k x hk1 hf hx
      cases f with
      | zero => exact absurd hf (Nat.not_lt_zero _)
      | succ f =>
        have e : k = 400 := by omega
        subst e
        refine ⟨1, nI x, nI x, nI 400, ?_, ?_⟩
        · rw [L_X6_wholeAt_12, if_pos (show (400 : Int32) ≤ nI 400 by decide)]
        · rw [L_X7_tune_139, if_pos (show (400 : Int32) ≤ nI 400 by decide)]
    | succ d ih =>
      intro f k x hk1 hf hx
      cases f with
      | zero => exact absurd hf (Nat.not_lt_zero _)
      | succ f =>
        obtain ⟨j, hj, ej⟩ := hb x hx
        have hj6 : j < 6 := by omega
        rw [L_X6_wholeAt_12, L_X7_tune_139, if_neg (show ¬ (400 : Int32) ≤ nI k from nI_ge (b := 400) (by omega) (by omega)), if_neg (show ¬ (400 : Int32) ≤ nI k from nI_ge (b := 400) (by omega) (by omega)), nI_add, q_gB (by omega) (by decide), nI_clamp (by omega), zi_60, nI_add, nI_add, q_gB (by omega) (by decide), q_gB (by omega) (by decide), nI_clamp (by omega), nI_clamp (by omega), ← hc x hx, ej, zc_rangAt (by omega) (by omega) (zi_set31 _) (hr k (by omega)), hp k (by omega), zr_isIn (zi_set31 _) (by omega), Option.bind_some, Option.bind_some, zi_setBit hj6]
        simp only [nme]
        cases h1 : h k j with
        | false =>
          rw [if_neg (show ¬ (false = true) by decide), if_pos (show (0 : Int32) = 0 from rfl), if_pos (show (0 : Int32) = 0 from rfl), nI_1]
          exact ih f (k + 1) x (by omega) (by omega) hx
        | true =>
          rw [if_pos (show (true = true) from rfl), if_neg (show ¬ (1 : Int32) = 0 by decide), if_neg (show ¬ (1 : Int32) = 0 by decide), nI_1]
          by_cases h2 : x + 1 = n
          · rw [h2, if_pos rfl, if_pos rfl]
            exact ⟨0, _, _, _, rfl, rfl⟩
          · rw [if_neg (fun z => h2 ((nI_eq (by omega) (by omega)).mp z)), if_neg (fun z => h2 ((nI_eq (by omega) (by omega)).mp z)), nI_1]
            exact ih f (k + 1) (x + 1) (by omega) (by omega) (by omega)
  exact key 400 1000 0 0 (by omega) (by omega) hn
theorem eq_tune : EQ_tune zi_Inv := by
  intro iv av s1 s2 s3 s4 kk hkk hk4 hI
  have hS := zi_getS hI hk4
  obtain ⟨nb, nr, sp, td, np, nq, kd, nd, fr, to, lg, pb, pm, qb, qm, qi, hW, hV, hV2, hP, hP1, hP2, hQ, hQ2, hS0, hS1, hS2, hS3, hT, hF, hH⟩ := hI
  have hnb := hW.2.1
  have hd : ∀ x : Int32, zi_Inv (va_up (va_up (va_up iv 0 (upd (upd (iv 0) 8 (iv 0 8)) 10 x)) 26 (upd (iv 26) 5 (iv 26 5))) 45 (upd (iv 45) 0 x)) (va_up (va_up (va_up (va_up (va_up (va_up (va_up (va_up av 27 (av 27)) 28 (av 28)) 29 (av 29)) 30 (av 30)) 58 (av 58)) 59 (av 59)) 60 (av 60)) 61 (av 61)) := fun x => ⟨nb, nr, sp, td, np, nq, kd, nd, fr, to, lg, pb, pm, qb, qm, qi, hW, hV, hV2, hP, hP1, hP2, hQ, hQ2, hS0, hS1, hS2, hS3, hT, rfl, hH⟩
  unfold M_X6_tune M_X7_tune
  rcases zi_sheetNo s1 with ⟨j, hj, rfl, e1, e2⟩ | ⟨e1, e2⟩
  · have ej := zi_kk hj hkk
    subst ej
    rw [e1, e2, Option.bind_some, Option.bind_some, if_neg (show ¬ (1 : Int32) = 0 by decide), if_pos (show (0 : Int32) = 0 from rfl)]
    rcases zi_lane s2 with ⟨l, hl, rfl, e3, e4⟩ | ⟨e3, e4⟩
    · rw [e3, e4, Option.bind_some, Option.bind_some, if_neg (show ¬ (1 : Int32) = 0 by decide), if_neg (show ¬ (1 : Int32) = 0 by decide)]
      by_cases h0 : nb = 0
      · have ez : M_X6_hasNoValley (iv 1 5) = some 1 := by rw [hV.1, zi_noV hnb, if_pos h0]
        have ez2 : iv 45 1 = 0 := by rw [hV2.1, h0]; rfl
        rw [ez, Option.bind_some, if_neg (show ¬ (1 : Int32) = 0 by decide), if_pos ez2]
        exact ⟨_, _, rfl, rfl, rfl, hd 0⟩
      · have ez : M_X6_hasNoValley (iv 1 5) = some 0 := by rw [hV.1, zi_noV hnb, if_neg h0]
        have ez2 : ¬ iv 45 1 = 0 := by rw [hV2.1]; exact nI_ne0 (by omega) (by omega)
        rw [ez, Option.bind_some, if_pos (show (0 : Int32) = 0 from rfl), if_neg ez2, q_gB hj (by decide)]
        rcases zi_barred hS hj (sz := av 65) (la := av 66) rfl rfl (nI l) s3 s4 (iv 45 0) with ⟨N, i, n, hN, hsz, rfl, rfl, hin, hc, b1, b2⟩ | ⟨f, b1, b2, b3, b4⟩
        · rw [b1, b2, Option.bind_some, Option.bind_some, if_pos (show (0 : Int32) = 0 from rfl), if_pos (show (0 : Int32) ≤ 0 by decide)]
          have ein : M_X7_in (nI n).toInt64 1 8 = some (if 1 ≤ n ∧ n ≤ 8 then 1 else 0) := by
            rw [zi_in, Int32.toInt_toInt64, nI_toInt (by omega), show (1 : Int64).toInt = 1 from by decide, show (8 : Int64).toInt = 8 from by decide]
            by_cases h : 1 ≤ n ∧ n ≤ 8
            · rw [if_pos h, if_pos (by omega)]
            · rw [if_neg h, if_neg (by omega)]
          rw [ein, Option.bind_some]
          by_cases hn1 : 1 ≤ n
          · rw [if_neg (show ¬ nI n < (1 : Int32) from nI_nlt (b := 1) hn1 (by omega))]
            by_cases hn8 : n ≤ 8
            · rw [if_pos (show nI n ≤ (8 : Int32) from nI_le (b := 8) hn8 (by decide)), if_pos (show 1 ≤ n ∧ n ≤ 8 from ⟨hn1, hn8⟩), if_neg (show ¬ (1 : Int32) = 0 by decide)]
              have hc2 : ∀ x, x < n → av (38 + 2 * j) (i + x) = av 67 (60 * j + i + x) := by
                intro x hx
                rw [hc (i + x) (by omega)]
                exact congrArg (av 67) (by omega)
              obtain ⟨fl, z, z', k1, k2, k3⟩ := zi_notes hnb hj (i := i) (n := n) (by omega) hV.1 hV2.1 hc2
              rw [k1, k2, Option.bind_some, Option.bind_some]
              by_cases hfl : fl = 0
              · rw [if_pos hfl, if_pos hfl]
                exact ⟨_, _, rfl, rfl, rfl, hd 0⟩
              · rw [if_neg hfl, if_neg hfl, q_gB hj (by decide)]
                unfold M_X6_wholeAt
                obtain ⟨u, h1, h2, h3⟩ := zi_heard hW hV hP hP1 hH (iv 26 5) (av 28) (av 29) (av 30)
                obtain ⟨v, g1, g3⟩ := zi_goP hW hV2 hP2 (av 60) (av 61) (av 59) (av 58)
                obtain ⟨fl2, a, a', zz, m1, m2⟩ := zi_whole hnb hj (i := i) (n := n) (by omega) hn1 h3 g3 hc2 (k3 hfl)
                rw [h1, g1, Option.bind_some, Option.bind_some, m1, m2, Option.bind_some, Option.bind_some]
                by_cases hf2 : fl2 = 0
                · rw [if_pos hf2, if_pos hf2]
                  exact ⟨_, _, rfl, rfl, rfl, ⟨nb, nr, sp, td, np, nq, kd, nd, fr, to, lg, pb, pm, qb, qm, qi, hW, hV, hV2, hP, hP1, hP2, hQ, hQ2, hS0, hS1, hS2, hS3, hT, rfl, Or.inr ⟨h2, h3⟩⟩⟩
                · rw [if_neg hf2, if_neg hf2]
                  exact ⟨_, _, rfl, rfl, rfl, ⟨nb, nr, sp, td, np, nq, kd, nd, fr, to, lg, pb, pm, qb, qm, qi, hW, hV, hV2, hP, hP1, hP2, hQ, hQ2, hS0, hS1, hS2, hS3, hT, rfl, Or.inr ⟨h2, h3⟩⟩⟩
            · rw [if_neg (show ¬ nI n ≤ (8 : Int32) from nI_ge (a := 8) (by omega) (by omega)), if_neg (show ¬ (1 ≤ n ∧ n ≤ 8) from fun z => hn8 z.2), if_pos (show (0 : Int32) = 0 from rfl)]
              exact ⟨_, _, rfl, rfl, rfl, hd 0⟩
          · rw [if_pos (show nI n < (1 : Int32) from nI_lt (b := 1) (by omega) (by decide)), if_neg (show ¬ (1 ≤ n ∧ n ≤ 8) from fun z => hn1 z.1), if_pos (show (0 : Int32) = 0 from rfl)]
            exact ⟨_, _, rfl, rfl, rfl, hd 0⟩
        · rw [b1, b4, Option.bind_some, Option.bind_some, if_neg b2, if_neg b3]
          exact ⟨_, _, rfl, rfl, rfl, hd f⟩
    · rw [e3, e4]
      exact ⟨_, _, rfl, rfl, rfl, hd 0⟩
  · rw [e1, e2]
    exact ⟨_, _, rfl, rfl, rfl, hd 0⟩
