theorem zi_m1s : ∀ n, n < 61 → ((nI n).toInt64 - (1 : Int64)).toInt = (n : Int) - 1 := by decide +kernel
theorem zi_60 (k : Nat) : (60 : Int32) * nI k = nI (60 * k) := pk_mul 60 k
theorem zi_neg1 : ¬ (0 : Int32) ≤ -1 := by decide
theorem zi_getS {iv av : Nat → Nat → Int32} (hI : zi_Inv iv av) {k : Nat} (hk : k < 4) : zi_S (iv (37 + 2 * k) 1) (iv (37 + 2 * k) 2) (av (38 + 2 * k)) (av 65 k) (av 66 k) (fun j => av 67 (60 * k + j)) := by
  obtain ⟨nb, nr, sp, td, np, nq, kd, nd, fr, to, lg, pb, pm, qb, qm, qi, hW, hV, hV2, hP, hP1, hP2, hQ, hQ2, hS0, hS1, hS2, hS3, hT, hF, hH⟩ := hI
  rcases (show k = 0 ∨ k = 1 ∨ k = 2 ∨ k = 3 by omega) with rfl | rfl | rfl | rfl
  · simp only [Nat.mul_zero, Nat.add_zero, Nat.zero_add]
    exact hS0
  · exact hS1
  · exact hS2
  · exact hS3
theorem zi_putS {iv av iv' av' : Nat → Nat → Int32} (hI : zi_Inv iv av) (h1 : ∀ a, a = 1 ∨ a = 14 ∨ a = 22 → iv' a = iv a) (h2 : iv' 0 9 = iv 0 9) (h3 : iv' 0 8 = iv 0 8) (h4 : ∀ f, f ≠ 0 → iv' 45 f = iv 45 f) (h5 : ∀ a, a < 36 ∨ (46 ≤ a ∧ a < 65) → av' a = av a) (h6 : iv' 0 10 = iv' 45 0) (h7 : ∀ k, k < 4 → zi_S (iv' (37 + 2 * k) 1) (iv' (37 + 2 * k) 2) (av' (38 + 2 * k)) (av' 65 k) (av' 66 k) (fun j => av' 67 (60 * k + j))) : zi_Inv iv' av' := by
  obtain ⟨nb, nr, sp, td, np, nq, kd, nd, fr, to, lg, pb, pm, qb, qm, qi, hW, hV, hV2, hP, hP1, hP2, hQ, hQ2, hS0, hS1, hS2, hS3, hT, hF, hH⟩ := hI
  have g0 := h7 0 (by omega)
  simp only [Nat.mul_zero, Nat.add_zero, Nat.zero_add] at g0
  refine ⟨nb, nr, sp, td, np, nq, kd, nd, fr, to, lg, pb, pm, qb, qm, qi, hW, ?_, ?_, ?_, ?_, ?_, ?_, ?_, g0, h7 1 (by omega), h7 2 (by omega), h7 3 (by omega), ?_, h6, ?_⟩
  · rw [h1 1 (by omega), h5 2 (by omega), h5 3 (by omega), h5 4 (by omega), h5 5 (by omega), h5 6 (by omega)]
    exact hV
  · rw [h4 1 (by omega), h4 5 (by omega), h4 9 (by omega), h4 4 (by omega), h5 46 (by omega), h5 47 (by omega), h5 48 (by omega), h5 49 (by omega), h5 50 (by omega)]
    exact hV2
  · rw [h1 14 (by omega), h5 15 (by omega), h5 16 (by omega)]
    exact hP
  · rw [h5 17 (by omega)]
    exact hP1
  · rw [h4 18 (by omega), h5 56 (by omega), h5 57 (by omega)]
    exact hP2
  · rw [h1 22 (by omega), h5 23 (by omega), h5 24 (by omega), h5 25 (by omega)]
    exact hQ
  · rw [h4 25 (by omega), h5 62 (by omega), h5 63 (by omega), h5 64 (by omega)]
    exact hQ2
  · rw [h2, h4 33 (by omega)]
    exact hT
  · rw [h3, h5 27 (by omega)]
    exact hH
/-- nothing but the fault has changed -/
theorem zi_onlyF {iv av iv' av' : Nat → Nat → Int32} (hI : zi_Inv iv av) (h1 : ∀ a, a ≠ 0 → a ≠ 45 → iv' a = iv a) (h2 : iv' 0 9 = iv 0 9) (h3 : iv' 0 8 = iv 0 8) (h4 : ∀ f, f ≠ 0 → iv' 45 f = iv 45 f) (h5 : ∀ a, a ≠ 68 → av' a = av a) (h6 : iv' 0 10 = iv' 45 0) : zi_Inv iv' av' := by
  refine zi_putS hI (fun a ha => h1 a (by omega) (by omega)) h2 h3 h4 (fun a ha => h5 a (by omega)) h6 (fun k hk => ?_)
  rw [h1 (37 + 2 * k) (by omega) (by omega), h5 (38 + 2 * k) (by omega), h5 65 (by omega), h5 66 (by omega), h5 67 (by omega)]
  exact zi_getS hI hk
theorem zi_sumT {a b : Int32} : (a.toInt64 + b.toInt64).toInt = a.toInt + b.toInt := by
  have h1 := Int32.le_toInt a
  have h2 := Int32.toInt_lt a
  have h3 := Int32.le_toInt b
  have h4 := Int32.toInt_lt b
  rw [Int64.toInt_add, Int32.toInt_toInt64, Int32.toInt_toInt64]
  exact Int.bmod_eq_of_le (by omega) (by omega)
theorem zi_beyond {N : Nat} (hN : N ≤ 60) (a b : Int32) : (∃ i n, a = nI i ∧ b = nI n ∧ i + n ≤ N ∧ M_X3_hasCells (nI N) a b = some 1 ∧ M_X7_isBeyond a b.toInt64 (nI N) = some 0) ∨ (M_X3_hasCells (nI N) a b = some 0 ∧ M_X7_isBeyond a b.toInt64 (nI N) = some 1) := by
  unfold M_X3_hasCells M_X7_isBeyond
  have e1 : (lg_cmp b.toInt64 0 < 0) ↔ b.toInt < 0 := by
    rw [lg_cmp_lt, Int64.lt_iff_toInt_lt, Int32.toInt_toInt64]
    rfl
  have e2 : (lg_cmp (a.toInt64 + b.toInt64) (nI N).toInt64 ≤ 0) ↔ a.toInt + b.toInt ≤ N := by
    rw [lg_cmp_le, Int64.le_iff_toInt_le, zi_sumT, Int32.toInt_toInt64, nI_toInt (by omega)]
  simp only [e1, e2]
  rcases zi_rng a (n := N + 1) (by omega) with ⟨i, hi, rfl, ha⟩ | ⟨h1, h2⟩ | ⟨h1, h2, h3⟩
  · rw [if_neg (nI_pos (by omega)), if_neg (nI_pos (by omega)), if_neg (nI_nlt (by omega) (by omega))]
    rcases zi_rng b (n := N - i + 1) (by omega) with ⟨n, hn, rfl, hb⟩ | ⟨h4, h5⟩ | ⟨h4, h5, h6⟩
    · refine Or.inl ⟨i, n, rfl, rfl, by omega, ?_, ?_⟩
      · rw [if_neg (nI_pos (by omega)), pk_sub (by omega), if_neg (nI_nlt (by omega) (by omega))]
      · rw [if_neg (by omega), if_pos (by omega)]
    · refine Or.inr ⟨if_pos h4, if_pos h5⟩
    · refine Or.inr ⟨?_, ?_⟩
      · rw [if_neg h4, pk_sub (by omega), if_pos (by rw [Int32.lt_iff_toInt_lt, nI_toInt (by omega)]; omega)]
      · rw [if_neg (by omega), if_neg (by omega)]
  · exact Or.inr ⟨if_pos h1, if_pos h1⟩
  · have hb0 := Int32.le_toInt b
    refine Or.inr ⟨?_, ?_⟩
    · rw [if_neg h1, if_pos (by rw [Int32.lt_iff_toInt_lt, nI_toInt (by omega)]; omega)]
    · rw [if_neg h1]
      by_cases h4 : b.toInt < 0
      · rw [if_pos h4]
      · rw [if_neg h4, if_neg (by omega)]
/-- cells of a sheet as a call names them: they are there, or the same fault on both sides -/
theorem zi_barred {lane size size2 lane2 : Int32} {cells cells2 : Nat → Int32} (hS : zi_S lane size cells size2 lane2 cells2) {kk : Nat} (hk : kk < 4) {sz la : Nat → Int32} (h1 : sz kk = size2) (h2 : la kk = lane2) (a2 a3 a4 fa : Int32) :
    (∃ N i n, N ≤ 60 ∧ size = nI N ∧ a3 = nI i ∧ a4 = nI n ∧ i + n ≤ N ∧ (∀ j, j < N → cells j = cells2 j) ∧ M_X3_faultOfCells lane size a2 a3 a4 = some 0 ∧ M_X7_cellsBarred fa sz la (nI kk) a2 a3 a4.toInt64 = some (0, fa)) ∨ (∃ f : Int32, M_X3_faultOfCells lane size a2 a3 a4 = some f ∧ ¬ f = 0 ∧ ¬ (0 : Int32) ≤ -10 - f ∧ M_X7_cellsBarred fa sz la (nI kk) a2 a3 a4.toInt64 = some (-10 - f, f)) := by
  have e1 : (0 ≤ lg_cmp a4.toInt64 0) ↔ 0 ≤ a4.toInt := by
    rw [lg_cmp_ge, Int64.le_iff_toInt_le, Int32.toInt_toInt64]
    rfl
  have e2 : (0 ≤ a4) ↔ 0 ≤ a4.toInt := by
    rw [Int32.le_iff_toInt_le]
    rfl
  unfold M_X3_faultOfCells M_X3_faultOfLane M_X3_hasRow M_X7_cellsBarred M_X7_failed
  simp only [q_gB hk (show 4 < 2 ^ 31 by decide), nI_clamp (show kk < 2 ^ 31 by omega), h1, h2, e1, e2]
  obtain ⟨hs, rfl | ⟨N, l, hN, hl, rfl, rfl, rfl, hc⟩⟩ := hS
  · rw [← hs]
    exact Or.inr ⟨1, rfl, by decide, by decide, rfl⟩
  · rw [← hs, if_neg (nI_pos (by omega)), if_neg (show ¬ nI N = -1 from fun z => by
      have h3 : (nI N).toInt = (-1 : Int32).toInt := by rw [z]
      rw [nI_toInt (by omega), show (-1 : Int32).toInt = -1 from by decide] at h3
      omega), Option.bind_some, if_neg (show ¬ (1 : Int32) = 0 by decide)]
    by_cases h4 : nI l = a2
    · rw [if_pos h4, if_pos h4, Option.bind_some, if_pos (show (0 : Int32) = 0 from rfl), if_pos (nI_pos' (by omega))]
      by_cases h5 : 0 ≤ a4.toInt
      · rw [if_pos h5, if_pos h5]
        rcases zi_beyond hN a3 a4 with ⟨i, n, rfl, rfl, h6, h7, h8⟩ | ⟨h7, h8⟩
        · rw [h7, h8]
          exact Or.inl ⟨N, i, n, hN, rfl, rfl, rfl, h6, hc, rfl, rfl⟩
        · rw [h7, h8]
          exact Or.inr ⟨3, rfl, by decide, by decide, rfl⟩
      · rw [if_neg h5, if_neg h5]
        exact Or.inr ⟨4, rfl, by decide, by decide, rfl⟩
    · rw [if_neg h4, if_neg h4]
      exact Or.inr ⟨2, rfl, by decide, by decide, rfl⟩
theorem zi_hasRow {lane size size2 lane2 : Int32} {cells cells2 : Nat → Int32} (hS : zi_S lane size cells size2 lane2 cells2) : size2 = size ∧ ((size = -1 ∧ M_X3_hasRow size = some 0) ∨ (∃ N l : Nat, N ≤ 60 ∧ l ≤ 2 ∧ size = nI N ∧ lane = nI l ∧ lane2 = nI l ∧ (∀ j, j < N → cells j = cells2 j) ∧ M_X3_hasRow size = some 1)) := by
  obtain ⟨hs, rfl | ⟨N, l, hN, hl, rfl, rfl, rfl, hc⟩⟩ := hS
  · exact ⟨hs.symm, Or.inl ⟨rfl, rfl⟩⟩
  · refine ⟨hs.symm, Or.inr ⟨N, l, hN, hl, rfl, rfl, rfl, hc, ?_⟩⟩
    unfold M_X3_hasRow
    rw [if_neg]
    intro z
    have h3 : (nI N).toInt = (-1 : Int32).toInt := by rw [z]
    rw [nI_toInt (by omega), show (-1 : Int32).toInt = -1 from by decide] at h3
    omega
/-- what a call may do to one sheet -/
theorem zi_oneS {iv av iv' av' : Nat → Nat → Int32} (hI : zi_Inv iv av) {kk : Nat} (hk : kk < 4) (h1 : ∀ a, a ≠ 0 → a ≠ 45 → a ≠ 37 + 2 * kk → iv' a = iv a) (h2 : iv' 0 9 = iv 0 9) (h3 : iv' 0 8 = iv 0 8) (h4 : ∀ f, f ≠ 0 → iv' 45 f = iv 45 f) (h5 : ∀ a, a ≠ 38 + 2 * kk → a ≠ 65 → a ≠ 66 → a ≠ 67 → a ≠ 68 → av' a = av a) (h6 : iv' 0 10 = iv' 45 0) (h8 : ∀ k, k ≠ kk → av' 65 k = av 65 k ∧ av' 66 k = av 66 k) (h9 : ∀ j, j < 60 * kk ∨ 60 * kk + 60 ≤ j → av' 67 j = av 67 j) (h10 : zi_S (iv' (37 + 2 * kk) 1) (iv' (37 + 2 * kk) 2) (av' (38 + 2 * kk)) (av' 65 kk) (av' 66 kk) (fun j => av' 67 (60 * kk + j))) : zi_Inv iv' av' := by
  refine zi_putS hI (fun a ha => h1 a (by omega) (by omega) (by omega)) h2 h3 h4 (fun a ha => h5 a (by omega) (by omega) (by omega) (by omega) (by omega)) h6 (fun k hk2 => ?_)
  by_cases h : k = kk
  · subst h
    exact h10
  · obtain ⟨g1, g2⟩ := h8 k h
    rw [h1 (37 + 2 * k) (by omega) (by omega) (by omega), h5 (38 + 2 * k) (by omega) (by omega) (by omega) (by omega) (by omega), g1, g2]
    obtain ⟨s1, s2⟩ := zi_getS hI hk2
    refine ⟨s1, ?_⟩
    rcases s2 with s2 | ⟨n, l, s3, s4, s5, s6, s7, s8⟩
    · exact Or.inl s2
    · refine Or.inr ⟨n, l, s3, s4, s5, s6, s7, fun j hj => ?_⟩
      show _ = av' 67 (60 * k + j)
      rw [h9 (60 * k + j) (by omega)]
      exact s8 j hj
theorem zi_up {α : Type} {f : Nat → α} {k j : Nat} {v : α} (h : j ≠ k) : va_up f k v j = f j := if_neg h
theorem zi_us {α : Type} {f : Nat → α} {k : Nat} {v : α} : va_up f k v k = v := if_pos rfl
theorem eq_lose : EQ_lose zi_Inv := by
  intro iv av s1 kk hkk hk4 hI
  have hS := zi_getS hI hk4
  obtain ⟨e0, hr⟩ := zi_hasRow hS
  unfold M_X6_lose M_X7_lose
  have fin : ∀ x : Int32, x = -1 → zi_Inv (va_up iv (37 + 2 * kk) (upd (iv (37 + 2 * kk)) 2 x)) (va_up av 65 (upd (av 65) kk (-1))) := by
    intro x hx
    obtain ⟨-, -, -, -, -, -, -, -, -, -, -, -, -, -, -, -, -, -, -, -, -, -, -, -, -, -, -, -, -, hF, -⟩ := id hI
    refine zi_oneS hI hk4 (fun a h1 h2 h3 => zi_up h3) (by rw [zi_up (by omega)]) (by rw [zi_up (by omega)]) (fun f _ => by rw [zi_up (by omega)]) (fun a h1 h2 h3 h4 h5 => zi_up h2) (by rw [zi_up (by omega), zi_up (by omega)]; exact hF) (fun k hk => ⟨by rw [zi_us, pk_un hk], by rw [zi_up (by omega)]⟩) (fun j hj => by rw [zi_up (by omega)]) ?_
    rw [zi_us, zi_us, pk_us, pk_us]
    exact ⟨hx, Or.inl hx⟩
  rcases zi_sheetNo s1 with ⟨j, hj, rfl, e1, e2⟩ | ⟨e1, e2⟩
  · have ej : j = kk := by
      have := hkk (decide_eq_true ⟨by rw [nI_toInt (by omega)]; omega, by rw [nI_toInt (by omega)]; omega⟩)
      rw [nI_clamp (by omega)] at this
      exact this
    subst ej
    rw [e1, e2, Option.bind_some, Option.bind_some, if_neg (show ¬ (1 : Int32) = 0 by decide), if_pos (show (0 : Int32) = 0 from rfl)]
    simp only [q_gB hj (show 4 < 2 ^ 31 by decide), nI_clamp (show j < 2 ^ 31 by omega), e0, nme]
    rcases hr with ⟨h1, h2⟩ | ⟨N, l, hN, hl, h1, h3, h4, hc, h2⟩
    · rw [h2, Option.bind_some, if_pos (show (0 : Int32) = 0 from rfl), h1, if_neg zi_neg1]
      exact ⟨_, _, rfl, rfl, rfl, fin _ rfl⟩
    · rw [h2, Option.bind_some, if_neg (show ¬ (1 : Int32) = 0 by decide), h1, if_pos (nI_pos' (by omega))]
      exact ⟨_, _, rfl, rfl, rfl, fin _ rfl⟩
  · rw [e1, e2]
    refine ⟨_, _, rfl, rfl, rfl, ?_⟩
    obtain ⟨-, -, -, -, -, -, -, -, -, -, -, -, -, -, -, -, -, -, -, -, -, -, -, -, -, -, -, -, -, hF, -⟩ := id hI
    refine zi_oneS hI hk4 (fun a h1 h2 h3 => zi_up h3) (by rw [zi_up (by omega)]) (by rw [zi_up (by omega)]) (fun f _ => by rw [zi_up (by omega)]) (fun a h1 h2 h3 h4 h5 => zi_up h2) (by rw [zi_up (by omega), zi_up (by omega)]; exact hF) (fun k hk => ⟨by rw [zi_us], by rw [zi_up (by omega)]⟩) (fun j hj => by rw [zi_up (by omega)]) ?_
    rw [zi_us, zi_us, pk_us, pk_un (by omega), zi_up (by omega), zi_up (by omega), zi_up (by omega)]
    exact hS
