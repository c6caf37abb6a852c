theorem zi_kk {j kk : Nat} (hj : j < 4) (hkk : inb (nI j) 4 = true → Int32.toNatClampNeg (nI j) = kk) : j = kk := by
  have := hkk (decide_eq_true ⟨by rw [nI_toInt (by omega)]; omega, by rw [nI_toInt (by omega)]; omega⟩)
  rw [nI_clamp (by omega)] at this
  exact this
theorem zi_hF {iv av : Nat → Nat → Int32} (hI : zi_Inv iv av) : iv 0 10 = iv 45 0 := by
  obtain ⟨nb, nr, sp, td, np, nq, kd, nd, fr, to, lg, pb, pm, qb, qm, qi, hW, hV, hV2, hP, hP1, hP2, hQ, hQ2, hS0, hS1, hS2, hS3, hT, hF, hH⟩ := hI
  exact hF
/-- a call that changes cells of one sheet (and the hands), and the fault -/
theorem zi_cellsS {iv av iv' av' : Nat → Nat → Int32} (hI : zi_Inv iv av) {kk : Nat} (hk : kk < 4) (h1 : ∀ a, a ≠ 0 → a ≠ 45 → iv' a = iv a) (h2 : iv' 0 9 = iv 0 9) (h3 : iv' 0 8 = iv 0 8) (h4 : ∀ f, f ≠ 0 → iv' 45 f = iv 45 f) (h5 : ∀ a, a ≠ 38 + 2 * kk → a ≠ 67 → a ≠ 68 → av' a = av a) (h6 : iv' 0 10 = iv' 45 0) (h9 : ∀ j, j < 60 * kk ∨ 60 * kk + 60 ≤ j → av' 67 j = av 67 j) (h10 : ∀ N : Nat, N ≤ 60 → iv (37 + 2 * kk) 2 = nI N → (∀ j, j < N → av (38 + 2 * kk) j = av 67 (60 * kk + j)) → ∀ j, j < N → av' (38 + 2 * kk) j = av' 67 (60 * kk + j)) : zi_Inv iv' av' := by
  have hS := zi_getS hI hk
  refine zi_oneS hI hk (fun a g1 g2 _ => h1 a g1 g2) h2 h3 h4 (fun a g1 g2 g3 g4 g5 => h5 a g1 g4 g5) h6 (fun k _ => by rw [h5 65 (by omega) (by omega) (by omega), h5 66 (by omega) (by omega) (by omega)]; exact ⟨rfl, rfl⟩) h9 ?_
  rw [h1 (37 + 2 * kk) (by omega) (by omega), h5 65 (by omega) (by omega) (by omega), h5 66 (by omega) (by omega) (by omega)]
  obtain ⟨s1, s2⟩ := hS
  refine ⟨s1, ?_⟩
  rcases s2 with s2 | ⟨n, l, s3, s4, s5, s6, s7, s8⟩
  · exact Or.inl s2
  · exact Or.inr ⟨n, l, s3, s4, s5, s6, s7, h10 n s3 s5 s8⟩
theorem eq_cell : EQ_cell zi_Inv := by
  intro iv av s1 s2 s3 kk hkk hk4 hI
  have hS := zi_getS hI hk4
  obtain ⟨e0, hr⟩ := zi_hasRow hS
  have hd : ∀ x : Int32, zi_Inv (va_up (va_up iv 0 (upd (iv 0) 10 x)) 45 (upd (iv 45) 0 x)) av := fun x => zi_onlyF hI (fun a h1 h2 => by rw [zi_up h2, zi_up h1]) (by rw [zi_up (by omega), zi_us, pk_un (by omega)]) (by rw [zi_up (by omega), zi_us, pk_un (by omega)]) (fun f hf => by rw [zi_us, pk_un hf]) (fun a _ => rfl) (by rw [zi_us, zi_up (by omega), zi_us, pk_us, pk_us])
  unfold M_X6_cell M_X7_cell
  rcases zi_sheetNo s1 with ⟨j, hj, rfl, e1, e2⟩ | ⟨e1, e2⟩
  · have ej := zi_kk hj hkk
    subst ej
    rw [e1, e2, Option.bind_some, Option.bind_some, if_neg (show ¬ (1 : Int32) = 0 by decide), if_pos (show (0 : Int32) = 0 from rfl)]
    rcases zi_lane s3 with ⟨l, hl, rfl, e3, e4⟩ | ⟨e3, e4⟩
    · rw [e3, e4, Option.bind_some, Option.bind_some, if_neg (show ¬ (1 : Int32) = 0 by decide), if_neg (show ¬ (1 : Int32) = 0 by decide)]
      unfold M_X3_faultOfLane M_X7_noCell
      simp only [q_gB hj (show 4 < 2 ^ 31 by decide), nI_clamp (show j < 2 ^ 31 by omega), e0]
      rcases hr with ⟨h1, h2⟩ | ⟨N, l2, hN, hl2, h1, h3, h4, hc, h2⟩
      · rw [h2, h1, if_pos (show (-1 : Int32) < 0 by decide)]
        exact ⟨_, _, rfl, rfl, rfl, hd _⟩
      · rw [h2, h1, Option.bind_some, if_neg (show ¬ (1 : Int32) = 0 by decide), if_neg (nI_pos (by omega)), h3, h4]
        by_cases h5 : nI l2 = nI l
        · rw [if_pos h5, if_pos h5, Option.bind_some, if_pos (show (0 : Int32) = 0 from rfl), if_pos (nI_pos' (by omega)), zi_inL _ (zi_m1s N (by omega)), Option.bind_some]
          unfold M_X3_hasCell
          rcases zi_rng s2 (n := N) (by omega) with ⟨i, hi, rfl, ha⟩ | ⟨g1, g2⟩ | ⟨g1, g2, g3⟩
          · rw [if_neg (nI_pos (by omega)), if_neg (nI_ge hi (by omega)), Option.bind_some, if_neg (show ¬ (1 : Int32) = 0 by decide), if_pos (show 0 ≤ (nI i).toInt ∧ (nI i).toInt ≤ (N : Int) - 1 by omega), if_neg (show ¬ (1 : Int32) = 0 by decide), Option.bind_some, if_pos (show (0 : Int32) ≤ 0 by decide), zi_60, nI_add, q_gB (by omega) (by decide), q_gB (by omega) (by decide), nI_clamp (by omega), nI_clamp (by omega)]
            refine ⟨_, _, rfl, rfl, ?_, hd _⟩
            show (av (38 + 2 * j) i).toInt64 = (av 67 (60 * j + i)).toInt64
            rw [hc i hi]
          · rw [if_pos g1, if_neg (show ¬ (0 ≤ s2.toInt ∧ s2.toInt ≤ (N : Int) - 1) by omega)]
            exact ⟨_, _, rfl, rfl, rfl, hd _⟩
          · rw [if_neg g1, if_pos g2, if_neg (show ¬ (0 ≤ s2.toInt ∧ s2.toInt ≤ (N : Int) - 1) by omega)]
            exact ⟨_, _, rfl, rfl, rfl, hd _⟩
        · rw [if_neg h5, if_neg h5]
          exact ⟨_, _, rfl, rfl, rfl, hd _⟩
    · rw [e3, e4]
      exact ⟨_, _, rfl, rfl, rfl, hd _⟩
  · rw [e1, e2]
    exact ⟨_, _, rfl, rfl, rfl, hd _⟩
theorem eq_put : EQ_put zi_Inv := by
  intro iv av s1 s2 s3 kk hkk hk4 hI
  have hS := zi_getS hI hk4
  obtain ⟨e0, hr⟩ := zi_hasRow hS
  have hd : ∀ x : Int32, zi_Inv (va_up (va_up iv 0 (upd (iv 0) 10 x)) 45 (upd (iv 45) 0 x)) (va_up (va_up av (38 + 2 * kk) (av (38 + 2 * kk))) 67 (av 67)) := fun x => zi_onlyF hI (fun a h1 h2 => by rw [zi_up h2, zi_up h1]) (by rw [zi_up (by omega), zi_us, pk_un (by omega)]) (by rw [zi_up (by omega), zi_us, pk_un (by omega)]) (fun f hf => by rw [zi_us, pk_un hf]) (fun a _ => by
    by_cases h1 : a = 67
    · rw [h1, zi_us]
    · by_cases h2 : a = 38 + 2 * kk
      · rw [zi_up h1, h2, zi_us]
      · rw [zi_up h1, zi_up h2]) (by rw [zi_us, zi_up (by omega), zi_us, pk_us, pk_us])
  unfold M_X6_put M_X7_put
  rcases zi_sheetNo s1 with ⟨j, hj, rfl, e1, e2⟩ | ⟨e1, e2⟩
  · have ej := zi_kk hj hkk
    subst ej
    rw [e1, e2, Option.bind_some, Option.bind_some, if_neg (show ¬ (1 : Int32) = 0 by decide), if_pos (show (0 : Int32) = 0 from rfl)]
    unfold M_X7_noCell
    simp only [q_gB hj (show 4 < 2 ^ 31 by decide), nI_clamp (show j < 2 ^ 31 by omega), e0]
    rcases hr with ⟨h1, h2⟩ | ⟨N, l2, hN, hl2, h1, h3, h4, hc, h2⟩
    · rw [h2, h1, if_neg zi_neg1]
      exact ⟨_, _, rfl, rfl, rfl, hd _⟩
    · rw [h2, h1, Option.bind_some, if_neg (show ¬ (1 : Int32) = 0 by decide), if_pos (nI_pos' (by omega)), zi_inL _ (zi_m1s N (by omega)), Option.bind_some, h3, h4]
      unfold M_X3_hasCell
      rcases zi_rng s2 (n := N) (by omega) with ⟨i, hi, rfl, ha⟩ | ⟨g1, g2⟩ | ⟨g1, g2, g3⟩
      · have fin : ∀ x : Int32, zi_Inv (va_up (va_up iv 0 (upd (iv 0) 10 0)) 45 (upd (iv 45) 0 0)) (va_up (va_up av (38 + 2 * j) (upd (av (38 + 2 * j)) i x)) 67 (upd (av 67) (60 * j + i) x)) := by
          intro x
          refine zi_cellsS hI hj (fun a h1 h2 => by rw [zi_up h2, zi_up h1]) (by rw [zi_up (by omega), zi_us, pk_un (by omega)]) (by rw [zi_up (by omega), zi_us, pk_un (by omega)]) (fun f hf => by rw [zi_us, pk_un hf]) (fun a g1 g2 g3 => by rw [zi_up g2, zi_up g1]) (by rw [zi_us, zi_up (by omega), zi_us, pk_us, pk_us]) (fun q hq => by rw [zi_us, pk_un (by omega)]) (fun N2 _ _ hold q hq => ?_)
          rw [zi_us, zi_up (by omega), zi_us]
          by_cases h6 : q = i
          · subst h6
            rw [pk_us, pk_us]
          · rw [pk_un h6, pk_un (by omega)]
            exact hold q hq
        rw [if_neg (nI_pos (by omega)), if_neg (nI_ge hi (by omega)), Option.bind_some, if_neg (show ¬ (1 : Int32) = 0 by decide), if_pos (show 0 ≤ (nI i).toInt ∧ (nI i).toInt ≤ (N : Int) - 1 by omega), if_neg (show ¬ (1 : Int32) = 0 by decide), Option.bind_some, if_pos (show (0 : Int32) ≤ 0 by decide), zi_60, nI_add]
        simp only [q_gB (show 60 * j + i < 240 by omega) (show 240 < 2 ^ 31 by decide), q_gB (show i < 60 by omega) (show 60 < 2 ^ 31 by decide), nI_clamp (show i < 2 ^ 31 by omega), nI_clamp (show 60 * j + i < 2 ^ 31 by omega)]
        unfold M_X3_cutToLane
        simp only [nme]
        by_cases h6 : nI l2 = 0
        · simp only [if_pos h6]
          exact ⟨_, _, rfl, rfl, rfl, fin _⟩
        · simp only [if_neg h6]
          by_cases h7 : nI l2 = 1
          · simp only [if_pos h7]
            exact ⟨_, _, rfl, rfl, rfl, fin _⟩
          · simp only [if_neg h7]
            exact ⟨_, _, rfl, rfl, rfl, fin _⟩
      · rw [if_pos g1, if_neg (show ¬ (0 ≤ s2.toInt ∧ s2.toInt ≤ (N : Int) - 1) by omega)]
        exact ⟨_, _, rfl, rfl, rfl, hd _⟩
      · rw [if_neg g1, if_pos g2, if_neg (show ¬ (0 ≤ s2.toInt ∧ s2.toInt ≤ (N : Int) - 1) by omega)]
        exact ⟨_, _, rfl, rfl, rfl, hd _⟩
  · rw [e1, e2]
    exact ⟨_, _, rfl, rfl, rfl, hd _⟩
theorem zi_wipe {j n : Nat} (hj : j < 4) (hn : n ≤ 60) (sh : Nat → Int32) : ∃ z, L_X7_sheet_65 (nI j) (nI n) 1000 0 sh = some (z, zf_put sh (fun _ => 0) (60 * j) n) := by
  have key : ∀ d f k, k + d = n → d < f → L_X7_sheet_65 (nI j) (nI n) f (nI k) (zf_put sh (fun _ => 0) (60 * j) k) = some (nI n, zf_put sh (fun _ => 0) (60 * j) n) := by
    intro d
    induction d with
    | zero =>
      intro f k hk1 hf
      cases f with
      | zero => exact absurd hf (Nat.not_lt_zero _)
      | succ f =>
        have e : k = n := by omega
        subst e
        rw [L_X7_sheet_65, if_pos (nI_le (Nat.le_refl _) (by omega))]
    | succ d ih =>
      intro f k hk1 hf
      cases f with
      | zero => exact absurd hf (Nat.not_lt_zero _)
      | succ f =>
        rw [L_X7_sheet_65, if_neg (nI_ge (by omega) (by omega)), zi_60, nI_add, q_gB (by omega) (by decide), nI_clamp (by omega)]
        simp only [nme]
        rw [nI_1, zf_put_succ sh (fun _ => 0) (60 * j) k]
        exact ih f (k + 1) (by omega) (by omega)
  have h1 := key n 1000 0 (by omega) (by omega)
  have e0 : zf_put sh (fun _ => 0) (60 * j) 0 = sh := by
    funext q
    rw [zf_put_at, if_neg (by omega)]
  rw [e0] at h1
  exact ⟨_, h1⟩
theorem eq_sheet : EQ_sheet zi_Inv := by
  intro iv av s1 s2 s3 kk hkk hk4 hI
  have hS := zi_getS hI hk4
  have hd : ∀ x : Int32, zi_Inv (va_up (va_up (va_up iv 0 (upd (iv 0) 10 x)) (37 + 2 * kk) (upd (upd (iv (37 + 2 * kk)) 1 (iv (37 + 2 * kk) 1)) 2 (iv (37 + 2 * kk) 2))) 45 (upd (iv 45) 0 x)) (va_up (va_up (va_up (va_up av (38 + 2 * kk) (av (38 + 2 * kk))) 65 (av 65)) 66 (av 66)) 67 (av 67)) := by
    intro x
    have e1 : upd (upd (iv (37 + 2 * kk)) 1 (iv (37 + 2 * kk) 1)) 2 (iv (37 + 2 * kk) 2) = iv (37 + 2 * kk) := by
      rw [zf_upd_same (i := 1) rfl, zf_upd_same (i := 2) rfl]
    rw [e1]
    refine zi_onlyF hI (fun a h1 h2 => ?_) (by rw [zi_up (by omega), zi_up (by omega), zi_us, pk_un (by omega)]) (by rw [zi_up (by omega), zi_up (by omega), zi_us, pk_un (by omega)]) (fun f hf => by rw [zi_us, pk_un hf]) (fun a _ => ?_) (by rw [zi_us, zi_up (by omega), zi_up (by omega), zi_us, pk_us, pk_us])
    · rw [zi_up h2]
      by_cases h3 : a = 37 + 2 * kk
      · rw [h3, zi_us]
      · rw [zi_up h3, zi_up h1]
    · by_cases h1 : a = 67
      · rw [h1, zi_us]
      · rw [zi_up h1]
        by_cases h2 : a = 66
        · rw [h2, zi_us]
        · rw [zi_up h2]
          by_cases h3 : a = 65
          · rw [h3, zi_us]
          · rw [zi_up h3]
            by_cases h4 : a = 38 + 2 * kk
            · rw [h4, zi_us]
            · rw [zi_up h4]
  unfold M_X6_sheet M_X7_sheet
  rcases zi_sheetNo s1 with ⟨j, hj, rfl, e1, e2⟩ | ⟨e1, e2⟩
  · have ej := zi_kk hj hkk
    subst ej
    rw [e1, e2, Option.bind_some, Option.bind_some, if_neg (show ¬ (1 : Int32) = 0 by decide), if_pos (show (0 : Int32) = 0 from rfl)]
    rcases zi_lane s2 with ⟨l, hl, rfl, e3, e4⟩ | ⟨e3, e4⟩
    · rw [e3, e4, Option.bind_some, Option.bind_some, if_neg (show ¬ (1 : Int32) = 0 by decide), if_neg (show ¬ (1 : Int32) = 0 by decide)]
      by_cases h1 : s3 ≤ 60
      · by_cases h2 : 0 ≤ s3
        · obtain ⟨n, hn, rfl⟩ : ∃ n : Nat, n ≤ 60 ∧ s3 = nI n := by
            have g1 := Int32.le_iff_toInt_le.mp h1
            have g2 := Int32.le_iff_toInt_le.mp h2
            rw [show (60 : Int32).toInt = 60 from by decide] at g1
            rw [show (0 : Int32).toInt = 0 from by decide] at g2
            refine ⟨s3.toInt.toNat, by omega, Int32.toInt_inj.mp ?_⟩
            rw [nI_toInt (by omega)]
            omega
          obtain ⟨z, hz⟩ := zi_wipe hj hn (av 67)
          simp only [if_pos h1, if_pos h2, q_gB hj (show 4 < 2 ^ 31 by decide), nI_clamp (show j < 2 ^ 31 by omega), nme, hz]
          unfold M_X3_begin
          rw [zc_fill 60 0 _ (by decide)]
          refine ⟨_, _, rfl, rfl, rfl, ?_⟩
          refine zi_oneS hI hj (fun a h1 h2 h3 => by rw [zi_up h2, zi_up h3, zi_up h1]) (by rw [zi_up (by omega), zi_up (by omega), zi_us, pk_un (by omega)]) (by rw [zi_up (by omega), zi_up (by omega), zi_us, pk_un (by omega)]) (fun f hf => by rw [zi_us, pk_un hf]) (fun a h1 h2 h3 h4 h5 => by rw [zi_up h4, zi_up h3, zi_up h2, zi_up h1]) (by rw [zi_us, zi_up (by omega), zi_up (by omega), zi_us, pk_us, pk_us]) (fun k hk => ?_) (fun q hq => ?_) ?_
          · rw [zi_up (by omega), zi_up (by omega), zi_us, zi_up (by omega), zi_us]
            exact ⟨pk_un hk, pk_un hk⟩
          · rw [zi_us]
            show zf_put (av 67) (fun _ => 0) (60 * j) n q = _
            rw [zf_put_at, if_neg (by omega)]
          · rw [zi_up (by omega), zi_us, zi_up (by omega), zi_up (by omega), zi_up (by omega), zi_us, zi_up (by omega), zi_up (by omega), zi_us, zi_up (by omega), zi_us, zi_us]
            refine ⟨?_, Or.inr ⟨n, l, hn, by omega, ?_, ?_, ?_, fun q hq => ?_⟩⟩
            · rw [pk_us]
              exact pk_us.symm
            · exact pk_us
            · exact (pk_un (by omega)).trans pk_us
            · exact pk_us
            · show zf_fill (fun _ => 0) _ 60 q = zf_put (av 67) (fun _ => 0) (60 * j) n (60 * j + q)
              rw [zf_fill_in (by omega), zf_put_at, if_pos (by omega)]
        · simp only [if_pos h1, if_neg h2]
          exact ⟨_, _, rfl, rfl, rfl, hd _⟩
      · simp only [if_neg h1]
        exact ⟨_, _, rfl, rfl, rfl, hd _⟩
    · rw [e3, e4]
      exact ⟨_, _, rfl, rfl, rfl, hd _⟩
  · rw [e1, e2]
    exact ⟨_, _, rfl, rfl, rfl, hd _⟩
