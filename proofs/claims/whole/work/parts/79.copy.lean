theorem zi_take {k i n : Nat} (h1 : 60 * k + i + n ≤ 240) (hn : n ≤ 60) (sh hands : Nat → Int32) : ∃ z, L_X7_copy_107 (nI k) (nI i) (nI n) sh 1000 0 hands = some (z, zf_fill (fun x => sh (60 * k + i + x)) hands n) := by
  have key : ∀ d f x, x + d = n → d < f → L_X7_copy_107 (nI k) (nI i) (nI n) sh f (nI x) (zf_fill (fun x => sh (60 * k + i + x)) hands x) = some (nI n, zf_fill (fun x => sh (60 * k + i + x)) hands n) := by
    intro d
    induction d with
    | zero =>
      intro f x hk1 hf
      cases f with
      | zero => exact absurd hf (Nat.not_lt_zero _)
      | succ f =>
        have e : x = n := by omega
        subst e
        rw [L_X7_copy_107, if_pos (nI_le (Nat.le_refl _) (by omega))]
    | succ d ih =>
      intro f x hk1 hf
      cases f with
      | zero => exact absurd hf (Nat.not_lt_zero _)
      | succ f =>
        rw [L_X7_copy_107, if_neg (nI_ge (by omega) (by omega)), zi_60, nI_add, nI_add, q_gB (by omega) (by decide), q_gB (by omega) (by decide), nI_clamp (by omega), nI_clamp (by omega)]
        simp only [nme]
        rw [nI_1, zf_fill_succ (fun x => sh (60 * k + i + x)) hands x]
        exact ih f (x + 1) (by omega) (by omega)
  have h2 := key n 1000 0 (by omega) (by omega)
  rw [zf_fill_0] at h2
  exact ⟨_, h2⟩
theorem zi_lay {k i n : Nat} (h1 : 60 * k + i + n ≤ 240) (hn : n ≤ 60) (sh hands : Nat → Int32) : ∃ z, L_X7_copy_144 (nI k) (nI i) (nI n) hands 1000 0 sh = some (z, zf_put sh hands (60 * k + i) n) := by
  have key : ∀ d f x, x + d = n → d < f → L_X7_copy_144 (nI k) (nI i) (nI n) hands f (nI x) (zf_put sh hands (60 * k + i) x) = some (nI n, zf_put sh hands (60 * k + i) n) := by
    intro d
    induction d with
    | zero =>
      intro f x hk1 hf
      cases f with
      | zero => exact absurd hf (Nat.not_lt_zero _)
      | succ f =>
        have e : x = n := by omega
        subst e
        rw [L_X7_copy_144, if_pos (nI_le (Nat.le_refl _) (by omega))]
    | succ d ih =>
      intro f x hk1 hf
      cases f with
      | zero => exact absurd hf (Nat.not_lt_zero _)
      | succ f =>
        rw [L_X7_copy_144, if_neg (nI_ge (by omega) (by omega)), zi_60, nI_add, nI_add, q_gB (by omega) (by decide), q_gB (by omega) (by decide), nI_clamp (by omega), nI_clamp (by omega)]
        simp only [nme]
        rw [nI_1, zf_put_succ sh hands (60 * k + i) x]
        exact ih f (x + 1) (by omega) (by omega)
  have h2 := key n 1000 0 (by omega) (by omega)
  have e0 : zf_put sh hands (60 * k + i) 0 = sh := by
    funext q
    rw [zf_put_at, if_neg (by omega)]
  rw [e0] at h2
  exact ⟨_, h2⟩
theorem eq_copy_s : EQ_copy_s zi_Inv := by
  intro iv av s1 s2 s3 s4 s5 kk hkk hk4 hkk2 hI
  have hS := zi_getS hI hk4
  obtain ⟨e0, hr⟩ := zi_hasRow hS
  have hd : ∀ x : Int32, zi_Inv (va_up (va_up iv 0 (upd (iv 0) 10 x)) 45 (upd (iv 45) 0 x)) (va_up (va_up (va_up av (38 + 2 * kk) (av (38 + 2 * kk))) 67 (av 67)) 68 (av 68)) := fun x => zi_onlyF hI (fun a h1 h2 => by rw [zi_up h2, zi_up h1]) (by rw [zi_up (by omega), zi_us, pk_un (by omega)]) (by rw [zi_up (by omega), zi_us, pk_un (by omega)]) (fun f hf => by rw [zi_us, pk_un hf]) (fun a ha => by
    rw [zi_up ha]
    by_cases h1 : a = 67
    · rw [h1, zi_us]
    · by_cases h2 : a = 38 + 2 * kk
      · rw [zi_up h1, h2, zi_us]
      · rw [zi_up h1, zi_up h2]) (by rw [zi_us, zi_up (by omega), zi_us, pk_us, pk_us])
  unfold M_X6_copy_s M_X7_copy
  rcases zi_sheetNo s1 with ⟨j, hj, rfl, e1, e2⟩ | ⟨e1, e2⟩
  · have ej := zi_kk hj hkk
    subst ej
    rw [e1, e2, Option.bind_some, Option.bind_some, if_neg (show ¬ (1 : Int32) = 0 by decide), if_pos (show (0 : Int32) = 0 from rfl)]
    rcases zi_sheetNo s3 with ⟨j3, hj3, rfl, e3, e4⟩ | ⟨e3, e4⟩
    · have ej3 := zi_kk hj3 hkk2
      subst ej3
      rw [e3, e4, Option.bind_some, Option.bind_some, if_neg (show ¬ (1 : Int32) = 0 by decide), if_pos (show (0 : Int32) = 0 from rfl)]
      simp only [q_gB hj (show 4 < 2 ^ 31 by decide), nI_clamp (show j3 < 2 ^ 31 by omega), e0]
      rcases hr with ⟨h1, h2⟩ | ⟨N, l2, hN, hl2, h1, h3, h4, hc, h2⟩
      · rw [h2, h1, if_pos (show (-1 : Int32) < 0 by decide)]
        exact ⟨_, _, rfl, rfl, rfl, hd _⟩
      · rw [h2, h1]
        simp only [Option.bind_some]
        rw [if_neg (show ¬ (1 : Int32) = 0 by decide), if_neg (nI_pos (by omega)), if_pos (nI_pos' (by omega)), if_pos trivial]
        rcases zi_beyond hN s2 s5 with ⟨i, n, rfl, rfl, h6, h7, h8⟩ | ⟨h7, h8⟩
        · rw [h7, h8, Option.bind_some, Option.bind_some, if_neg (show ¬ (1 : Int32) = 0 by decide), if_pos (show (0 : Int32) = 0 from rfl)]
          rcases zi_beyond hN s4 (nI n) with ⟨i4, n4, rfl, hn4, g6, g7, g8⟩ | ⟨g7, g8⟩
          · have en : n4 = n := ((nI_eq (by omega) (by omega)).mp hn4).symm
            subst en
            obtain ⟨z1, hz1⟩ := zi_take (k := j3) (i := i) (n := n4) (by omega) (by omega) (av 67) (av 68)
            obtain ⟨z2, hz2⟩ := zi_lay (k := j3) (i := i4) (n := n4) (by omega) (by omega) (av 67) (zf_fill (fun x => av 67 (60 * j3 + i + x)) (av 68) n4)
            rw [g7, g8, Option.bind_some, Option.bind_some, if_neg (show ¬ (1 : Int32) = 0 by decide), if_pos (show (0 : Int32) = 0 from rfl), hz1, Option.bind_some, hz2, Option.bind_some]
            have eg : ∀ {α : Type} (x : Option α), gB (decide (0 ≤ (nI i).toInt ∧ 0 ≤ (nI i4).toInt ∧ 0 ≤ (nI n4).toInt ∧ (nI i).toInt + (nI n4).toInt ≤ ((60 : Nat) : Int) ∧ (nI i4).toInt + (nI n4).toInt ≤ ((60 : Nat) : Int))) x = x := by
              intro α x
              unfold gB
              rw [if_pos]
              refine decide_eq_true ?_
              rw [nI_toInt (by omega), nI_toInt (by omega), nI_toInt (by omega)]
              omega
            rw [eg, nI_clamp (by omega), nI_clamp (by omega), nI_clamp (by omega)]
            simp only [nme]
            refine ⟨_, _, rfl, rfl, rfl, ?_⟩
            refine zi_cellsS hI hj (fun a h1 h2 => by rw [zi_up h2, zi_up h1]) (by rw [zi_up (by omega), zi_us, pk_un (by omega)]) (by rw [zi_up (by omega), zi_us, pk_un (by omega)]) (fun f hf => by rw [zi_us, pk_un hf]) (fun a g1 g2 g3 => by rw [zi_up g3, zi_up g2, zi_up g1]) (by rw [zi_us, zi_up (by omega), zi_us, pk_us, pk_us]) (fun q hq => ?_) (fun N2 hN2 hsz hold q hq => ?_)
            · rw [zi_up (by omega), zi_us]
              show zf_put (av 67) _ (60 * j3 + i4) n4 q = _
              rw [zf_put_at, if_neg (by omega)]
            · have eN : N2 = N := by
                rw [h1] at hsz
                exact ((nI_eq (by omega) (by omega)).mp hsz).symm
              subst eN
              rw [zi_up (by omega), zi_up (by omega), zi_us, zi_up (by omega), zi_us]
              show va_cpy (av (38 + 2 * j3)) (av (38 + 2 * j3)) i i4 n4 q = zf_put (av 67) (zf_fill (fun x => av 67 (60 * j3 + i + x)) (av 68) n4) (60 * j3 + i4) n4 (60 * j3 + q)
              rw [zf_put_at]
              by_cases h9 : i4 ≤ q ∧ q < i4 + n4
              · rw [pk_cpy_in h9.1 h9.2, if_pos (by omega), zf_fill_in (by omega), hold _ (by omega)]
                exact congrArg (av 67) (by omega)
              · rw [pk_cpy_out (by omega), if_neg (by omega)]
                exact hold q hq
          · rw [g7, g8]
            exact ⟨_, _, rfl, rfl, rfl, hd _⟩
        · rw [h7, h8]
          exact ⟨_, _, rfl, rfl, rfl, hd _⟩
    · rw [e3, e4]
      exact ⟨_, _, rfl, rfl, rfl, hd _⟩
  · rw [e1, e2]
    exact ⟨_, _, rfl, rfl, rfl, hd _⟩
theorem eq_copy_d : EQ_copy_d zi_Inv := by
  intro iv av s1 s2 s3 s4 s5 kk hkk hk4 kf hkf hf4 hne hI
  obtain ⟨e0, hr⟩ := zi_hasRow (zi_getS hI hk4)
  obtain ⟨e0f, hrf⟩ := zi_hasRow (zi_getS hI hf4)
  have hd : ∀ x : Int32, zi_Inv (va_up (va_up iv 0 (upd (iv 0) 10 x)) 45 (upd (iv 45) 0 x)) (va_up (va_up (va_up av (38 + 2 * kf) (av (38 + 2 * kf))) 67 (av 67)) 68 (av 68)) := fun x => zi_onlyF hI (fun a h1 h2 => by rw [zi_up h2, zi_up h1]) (by rw [zi_up (by omega), zi_us, pk_un (by omega)]) (by rw [zi_up (by omega), zi_us, pk_un (by omega)]) (fun f hf => by rw [zi_us, pk_un hf]) (fun a ha => by
    rw [zi_up ha]
    by_cases h1 : a = 67
    · rw [h1, zi_us]
    · by_cases h2 : a = 38 + 2 * kf
      · rw [zi_up h1, h2, zi_us]
      · rw [zi_up h1, zi_up h2]) (by rw [zi_us, zi_up (by omega), zi_us, pk_us, pk_us])
  unfold M_X6_copy_d M_X7_copy
  rcases zi_sheetNo s1 with ⟨j, hj, rfl, e1, e2⟩ | ⟨e1, e2⟩
  · have ej := zi_kk hj hkk
    subst ej
    rw [e1, e2, Option.bind_some, Option.bind_some, if_neg (show ¬ (1 : Int32) = 0 by decide), if_pos (show (0 : Int32) = 0 from rfl)]
    rcases zi_sheetNo s3 with ⟨j3, hj3, rfl, e3, e4⟩ | ⟨e3, e4⟩
    · have ej3 := zi_kk hj3 hkf
      subst ej3
      rw [e3, e4, Option.bind_some, Option.bind_some, if_neg (show ¬ (1 : Int32) = 0 by decide), if_pos (show (0 : Int32) = 0 from rfl)]
      simp only [q_gB hj (show 4 < 2 ^ 31 by decide), q_gB hj3 (show 4 < 2 ^ 31 by decide), nI_clamp (show j < 2 ^ 31 by omega), nI_clamp (show j3 < 2 ^ 31 by omega), e0, e0f]
      rcases hr with ⟨h1, h2⟩ | ⟨N, l2, hN, hl2, h1, h3, h4, hc, h2⟩
      · rw [h2, h1, if_pos (show (-1 : Int32) < 0 by decide)]
        exact ⟨_, _, rfl, rfl, rfl, hd _⟩
      · rw [h2, h1, h3, h4]
        simp only [Option.bind_some]
        rw [if_neg (show ¬ (1 : Int32) = 0 by decide), if_neg (nI_pos (by omega))]
        rcases hrf with ⟨f1, f2⟩ | ⟨NF, lF, hNF, hlF, f1, f3, f4, fc, f2⟩
        · rw [f2, f1, if_neg zi_neg1]
          exact ⟨_, _, rfl, rfl, rfl, hd _⟩
        · rw [f2, f1, f3, f4]
          simp only [Option.bind_some]
          rw [if_neg (show ¬ (1 : Int32) = 0 by decide), if_pos (nI_pos' (by omega))]
          by_cases hl : nI l2 = nI lF
          · rw [if_pos hl, if_pos hl]
            rcases zi_beyond hN s2 s5 with ⟨i, n, rfl, rfl, h6, h7, h8⟩ | ⟨h7, h8⟩
            · rw [h7, h8, Option.bind_some, Option.bind_some, if_neg (show ¬ (1 : Int32) = 0 by decide), if_pos (show (0 : Int32) = 0 from rfl)]
              rcases zi_beyond hNF s4 (nI n) with ⟨i4, n4, rfl, hn4, g6, g7, g8⟩ | ⟨g7, g8⟩
              · have en : n4 = n := ((nI_eq (by omega) (by omega)).mp hn4).symm
                subst en
                obtain ⟨z1, hz1⟩ := zi_take (k := j) (i := i) (n := n4) (by omega) (by omega) (av 67) (av 68)
                obtain ⟨z2, hz2⟩ := zi_lay (k := j3) (i := i4) (n := n4) (by omega) (by omega) (av 67) (zf_fill (fun x => av 67 (60 * j + i + x)) (av 68) n4)
                rw [g7, g8, Option.bind_some, Option.bind_some, if_neg (show ¬ (1 : Int32) = 0 by decide), if_pos (show (0 : Int32) = 0 from rfl), hz1, Option.bind_some, hz2, Option.bind_some]
                have eg : ∀ {α : Type} (x : Option α), gB (decide (0 ≤ (nI i).toInt ∧ 0 ≤ (nI i4).toInt ∧ 0 ≤ (nI n4).toInt ∧ (nI i).toInt + (nI n4).toInt ≤ ((60 : Nat) : Int) ∧ (nI i4).toInt + (nI n4).toInt ≤ ((60 : Nat) : Int))) x = x := by
                  intro α x
                  unfold gB
                  rw [if_pos]
                  refine decide_eq_true ?_
                  rw [nI_toInt (by omega), nI_toInt (by omega), nI_toInt (by omega)]
                  omega
                rw [eg, nI_clamp (by omega), nI_clamp (by omega), nI_clamp (by omega)]
                simp only [nme]
                refine ⟨_, _, rfl, rfl, rfl, ?_⟩
                refine zi_cellsS hI hj3 (fun a h1 h2 => by rw [zi_up h2, zi_up h1]) (by rw [zi_up (by omega), zi_us, pk_un (by omega)]) (by rw [zi_up (by omega), zi_us, pk_un (by omega)]) (fun f hf => by rw [zi_us, pk_un hf]) (fun a g1 g2 g3 => by rw [zi_up g3, zi_up g2, zi_up g1]) (by rw [zi_us, zi_up (by omega), zi_us, pk_us, pk_us]) (fun q hq => ?_) (fun N2 hN2 hsz hold q hq => ?_)
                · rw [zi_up (by omega), zi_us]
                  show zf_put (av 67) _ (60 * j3 + i4) n4 q = _
                  rw [zf_put_at, if_neg (by omega)]
                · have eN : N2 = NF := by
                    rw [f1] at hsz
                    exact ((nI_eq (by omega) (by omega)).mp hsz).symm
                  subst eN
                  rw [zi_up (by omega), zi_up (by omega), zi_us, zi_up (by omega), zi_us]
                  show va_cpy (av (38 + 2 * j)) (av (38 + 2 * j3)) i i4 n4 q = zf_put (av 67) (zf_fill (fun x => av 67 (60 * j + i + x)) (av 68) n4) (60 * j3 + i4) n4 (60 * j3 + q)
                  rw [zf_put_at]
                  by_cases h9 : i4 ≤ q ∧ q < i4 + n4
                  · rw [pk_cpy_in h9.1 h9.2, if_pos (by omega), zf_fill_in (by omega), hc _ (by omega)]
                    exact congrArg (av 67) (by omega)
                  · rw [pk_cpy_out (by omega), if_neg (by omega)]
                    exact hold q hq
              · rw [g7, g8]
                exact ⟨_, _, rfl, rfl, rfl, hd _⟩
            · rw [h7, h8]
              exact ⟨_, _, rfl, rfl, rfl, hd _⟩
          · rw [if_neg hl, if_neg hl]
            exact ⟨_, _, rfl, rfl, rfl, hd _⟩
    · rw [e3, e4]
      exact ⟨_, _, rfl, rfl, rfl, hd _⟩
  · rw [e1, e2]
    exact ⟨_, _, rfl, rfl, rfl, hd _⟩
