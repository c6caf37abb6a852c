theorem zv_text {cells sh : Nat → Int32} {i n base : Nat} (hin : i + n ≤ 60) (hbase : base + n ≤ 240) (hc : ∀ p, p < n → cells (i + p) = sh (base + p)) (k ne t f l rk rn rf rt rl : Nat → Int32) :
    ∃ (u : Int32 × Int32 × Int32 × Int32 × Int32 × Int32 × (Nat → Int32) × (Nat → Int32) × (Nat → Int32) × (Nat → Int32) × (Nat → Int32)) (w : Int32 × Int32 × Int32 × Int32 × (Nat → Int32) × (Nat → Int32) × (Nat → Int32) × (Nat → Int32) × (Nat → Int32)), M_X4_firstFault cells k ne t f l (nI i) (nI n) = some u ∧ M_X7_readsValley sh rk rn rf rt rl (nI base) (nI n) = some w ∧
      ((∃ B R : Nat, 2 ≤ B ∧ B ≤ 6 ∧ R ≤ 8 ∧ u.1 = -9 ∧ u.2.2.1 = nI B ∧ u.2.2.2.1 = nI R ∧ u.2.2.2.2.1 = 2 ∧ u.2.2.2.2.2.1 = 0 ∧ w.1 = 1 ∧ w.2.2.1 = nI B ∧ w.2.2.2.1 = nI R ∧ zv_B B u.2.2.2.2.2.2.1 u.2.2.2.2.2.2.2.1 w.2.2.2.2.1 w.2.2.2.2.2.1 ∧ zv_R R B u.2.2.2.2.2.2.2.2.2.1 u.2.2.2.2.2.2.2.2.1 u.2.2.2.2.2.2.2.2.2.2 w.2.2.2.2.2.2.1 w.2.2.2.2.2.2.2.1 w.2.2.2.2.2.2.2.2) ∨
       (∃ q : Nat, q ≤ 60 ∧ u.1 = nI q ∧ w.1 = 0 ∧ w.2.1 = nI q)) := by
  unfold M_X4_firstFault M_X7_readsValley M_X5_begin
  rw [Option.bind_some]
  by_cases hn : 0 < n
  · have ec : M_X7_codeAt 0 sh (nI base) (nI n) = some (sh (base + 0)) := zv_codeIn (p := 0) hn hbase
    rw [ec, Option.bind_some, ← hc 0 hn]
    by_cases h118 : cells (i + 0) = 118
    · have e1 : M_X4_goesOnWith 0 0 0 k ne t f l (cells (i + 0)) = some (1, 1, 0, 0, k, ne, t, f, l) := by
        unfold M_X4_goesOnWith
        rw [if_pos (show (0 : Int32) = 0 from rfl), if_pos h118]
      obtain ⟨u, w, v, k1, k2, k3, k4⟩ := zv_bells hin hbase hc t f l rf rt rl (n - 1) 1 0 999 1000 k ne rk rn (by omega) (by omega) (by omega) (by omega) (fun b hb => absurd hb (Nat.not_lt_zero _))
      have e2 : L_X4_firstFault_15 (nI i) (nI n) cells 1000 0 0 0 0 k ne t f l = some u := (zv_go (g := 999) (p := 0) hin hn e1).trans k1
      rw [if_pos h118]
      simp only [nme]
      rw [e2, Option.bind_some, show (0 : Int32) + 1 = nI 1 from rfl, show L_X7_readsValley_50 (nI base) (nI n) sh 1000 1 (nI 1) 0 rk rn = some w from k2, Option.bind_some, show L_X7_readsValley_91 (nI base) (nI n) w.2.2.1 sh 1000 w.1 w.2.1 0 rf rt rl = some v from k3, Option.bind_some]
      rcases k4 with ⟨B, R, q1, q2, q3, q4, q5, q6, q7, q8, q9, q10, q11, q12⟩ | ⟨q, q1, q2, q3, q4⟩
      · rw [if_neg q4, if_pos q5, q6, if_neg (show ¬ nI B < (2 : Int32) from nI_nlt (b := 2) q1 (by omega)), q8, zv_g1]
        exact ⟨_, _, rfl, rfl, Or.inl ⟨B, R, q1, q2, q3, rfl, rfl, q7, rfl, rfl, rfl, q9, q10, q11, q12⟩⟩
      · rw [q2, zv_g0]
        rcases q4 with ⟨g1, g2⟩ | ⟨g1, g2, g3⟩
        · rw [if_pos g1]
          exact ⟨_, _, rfl, rfl, Or.inr ⟨q, by omega, g2, rfl, q3⟩⟩
        · rw [if_neg g1]
          by_cases g4 : u.2.2.1 = 1
          · rw [if_pos g4, if_pos (by rcases g3 with g3 | g3; exact absurd g4 g3; exact g3)]
            exact ⟨_, _, rfl, rfl, Or.inr ⟨q, by omega, by rw [g2], rfl, q3⟩⟩
          · rw [if_neg g4]
            exact ⟨_, _, rfl, rfl, Or.inr ⟨q, by omega, by rw [g2], rfl, q3⟩⟩
    · have e1 : M_X4_goesOnWith 0 0 0 k ne t f l (cells (i + 0)) = some (0, 1, 0, 0, k, ne, t, f, l) := by
        unfold M_X4_goesOnWith
        rw [if_pos (show (0 : Int32) = 0 from rfl), if_neg h118]
      obtain ⟨u, e2, e3, e4⟩ := zv_fail (g := 999) (p := 0) hin hn e1
      have e2' : L_X4_firstFault_15 (nI i) (nI n) cells 1000 0 0 0 0 k ne t f l = some u := e2
      rw [if_neg h118]
      simp only [nme]
      rw [e2', Option.bind_some, if_pos e3, show L_X7_readsValley_50 (nI base) (nI n) sh 1000 0 (0 + 0) 0 rk rn = some (0, 0 + 0, 0, rk, rn) from zv_stop50 _ _ _ _, Option.bind_some, show L_X7_readsValley_91 (nI base) (nI n) 0 sh 1000 0 (0 + 0) 0 rf rt rl = some (0, 0 + 0, 0, rf, rt, rl) from zv_stop91 _ _ _ _ _, Option.bind_some, zv_g0]
      exact ⟨_, _, rfl, rfl, Or.inr ⟨0, by omega, e4, rfl, rfl⟩⟩
  · have ec : M_X7_codeAt 0 sh (nI base) (nI n) = some (-9) := zv_codeOut (p := 0) (by omega) (by omega)
    have e2 : L_X4_firstFault_15 (nI i) (nI n) cells 1000 0 0 0 0 k ne t f l = some (1, nI 0, 0, 0, 0, k, ne, t, f, l) := zv_end (g := 999) (p := 0) (by omega) (by omega) (by omega) _ _ _ _ _ _ _
    rw [ec, Option.bind_some, if_neg (show ¬ (-9 : Int32) = 118 by decide)]
    simp only [nme]
    rw [e2, Option.bind_some, if_neg (show ¬ (1 : Nat) = 0 by decide), if_neg (show ¬ (0 : Int32) = 1 by decide), show L_X7_readsValley_50 (nI base) (nI n) sh 1000 0 (0 + 0) 0 rk rn = some (0, 0 + 0, 0, rk, rn) from zv_stop50 _ _ _ _, Option.bind_some, show L_X7_readsValley_91 (nI base) (nI n) 0 sh 1000 0 (0 + 0) 0 rf rt rl = some (0, 0 + 0, 0, rf, rt, rl) from zv_stop91 _ _ _ _ _, Option.bind_some, zv_g0]
    refine ⟨_, _, rfl, rfl, Or.inr ⟨n, by omega, rfl, rfl, ?_⟩⟩
    rw [show n = 0 by omega]
    rfl
theorem zv_become (b r s t : Int32) (k k' n n' f f' o o' l l' : Nat → Int32) : M_X5_become b r s t k k' n n' f f' o o' l l' = some (b, r, s, t, va_cpy k k' 0 0 6, va_cpy n n' 0 0 6, va_cpy f f' 0 0 8, va_cpy o o' 0 0 8, va_cpy l l' 0 0 8) := by
  have g6 : ∀ {α : Type} (y : Option α), gB (decide (0 ≤ ((0 : Int32)).toInt ∧ 0 ≤ ((0 : Int32)).toInt ∧ 0 ≤ ((6 : Int32)).toInt ∧ ((0 : Int32)).toInt + ((6 : Int32)).toInt ≤ ((6 : Nat) : Int) ∧ ((0 : Int32)).toInt + ((6 : Int32)).toInt ≤ ((6 : Nat) : Int))) y = y := fun y => if_pos (by decide)
  have g8 : ∀ {α : Type} (y : Option α), gB (decide (0 ≤ ((0 : Int32)).toInt ∧ 0 ≤ ((0 : Int32)).toInt ∧ 0 ≤ ((8 : Int32)).toInt ∧ ((0 : Int32)).toInt + ((8 : Int32)).toInt ≤ ((9 : Nat) : Int) ∧ ((0 : Int32)).toInt + ((8 : Int32)).toInt ≤ ((9 : Nat) : Int))) y = y := fun y => if_pos (by decide)
  unfold M_X5_become
  rw [g6]
  simp only [nme]
  rw [g6, g8, g8, g8]
  rfl
theorem zv_copyB {B : Nat} (hB : B ≤ 6) (rk rn k n : Nat → Int32) : ∃ z, L_X7_valley_98 (nI B) rk rn 1000 0 k n = some (z, zf_fill rk k B, zf_fill rn n B) := by
  have key : ∀ d g x, x + d = B → d < g → L_X7_valley_98 (nI B) rk rn g (nI x) (zf_fill rk k x) (zf_fill rn n x) = some (nI B, zf_fill rk k B, zf_fill rn n B) := by
    intro d
    induction d with
    | zero =>
      intro g x hx hg
      cases g with
      | zero => exact absurd hg (Nat.not_lt_zero _)
      | succ g =>
        have e : x = B := by omega
        subst e
        rw [L_X7_valley_98, if_pos (nI_le (Nat.le_refl _) (by omega))]
    | succ d ih =>
      intro g x hx hg
      cases g with
      | zero => exact absurd hg (Nat.not_lt_zero _)
      | succ g =>
        rw [L_X7_valley_98, if_neg (nI_ge (by omega) (by omega)), q_gB (by omega) (by decide), q_gB (by omega) (by decide), nI_clamp (by omega)]
        simp only [nme]
        rw [q_gB (by omega) (by decide), q_gB (by omega) (by decide), nI_1, zf_fill_succ rk k x, zf_fill_succ rn n x]
        exact ih g (x + 1) (by omega) (by omega)
  have h1 := key B 1000 0 (by omega) (by omega)
  rw [zf_fill_0, zf_fill_0] at h1
  exact ⟨_, h1⟩
theorem zv_copyR {R : Nat} (hR : R ≤ 8) (rf rt rl f t l : Nat → Int32) : ∃ z, L_X7_valley_144 (nI R) rf rt rl 1000 0 f t l = some (z, zf_fill rf f R, zf_fill rt t R, zf_fill rl l R) := by
  have key : ∀ d g x, x + d = R → d < g → L_X7_valley_144 (nI R) rf rt rl g (nI x) (zf_fill rf f x) (zf_fill rt t x) (zf_fill rl l x) = some (nI R, zf_fill rf f R, zf_fill rt t R, zf_fill rl l R) := by
    intro d
    induction d with
    | zero =>
      intro g x hx hg
      cases g with
      | zero => exact absurd hg (Nat.not_lt_zero _)
      | succ g =>
        have e : x = R := by omega
        subst e
        rw [L_X7_valley_144, if_pos (nI_le (Nat.le_refl _) (by omega))]
    | succ d ih =>
      intro g x hx hg
      cases g with
      | zero => exact absurd hg (Nat.not_lt_zero _)
      | succ g =>
        rw [L_X7_valley_144, if_neg (nI_ge (by omega) (by omega)), q_gB (by omega) (by decide), q_gB (by omega) (by decide), nI_clamp (by omega)]
        simp only [nme]
        rw [q_gB (by omega) (by decide), q_gB (by omega) (by decide), q_gB (by omega) (by decide), q_gB (by omega) (by decide), nI_1, zf_fill_succ rf f x, zf_fill_succ rt t x, zf_fill_succ rl l x]
        exact ih g (x + 1) (by omega) (by omega)
  have h1 := key R 1000 0 (by omega) (by omega)
  rw [zf_fill_0, zf_fill_0, zf_fill_0] at h1
  exact ⟨_, h1⟩
theorem zv_cl {x : Int32} {n : Nat} (h : x = nI n) (hn : n < 1000) : x = nI x.toNatClampNeg ∧ x.toNatClampNeg = n := by
  subst h
  rw [nI_clamp (by omega)]
  exact ⟨rfl, rfl⟩
theorem eq_valley : EQ_valley zi_Inv := by
  intro iv av s1 s2 s3 s4 kk hkk hk4 hI
  have hS := zi_getS hI hk4
  obtain ⟨nb, nr, sp, td, np, nq, kd, nd, fr, to, lg, pb, pm, qb, qm, qi, hW, hV, hV2, hP, hP1, hP2, hQ, hQ2, hS0, hS1, hS2, hS3, hT, hF, hH⟩ := hI
  unfold M_X6_valley M_X7_valley
  rcases zi_sheetNo s1 with ⟨j, hj, rfl, e1, e2⟩ | ⟨e1, e2⟩
  · have ej := zi_kk hj hkk
    subst ej
    rw [e1, e2, Option.bind_some, Option.bind_some, if_neg (show ¬ (1 : Int32) = 0 by decide), if_pos (show (0 : Int32) = 0 from rfl)]
    rcases zi_lane s2 with ⟨ln, hln, rfl, e3, e4⟩ | ⟨e3, e4⟩
    · rw [e3, e4, Option.bind_some, Option.bind_some, if_neg (show ¬ (1 : Int32) = 0 by decide), if_neg (show ¬ (1 : Int32) = 0 by decide), q_gB hj (by decide)]
      rcases zi_barred hS hj (sz := av 65) (la := av 66) rfl rfl (nI ln) s3 s4 (iv 45 0) with ⟨N, i, n, hN, hsz, rfl, rfl, hin, hc, b1, b2⟩ | ⟨fl, b1, b2, b3, b4⟩
      · have hc2 : ∀ x, x < n → av (38 + 2 * j) (i + x) = av 67 (60 * j + i + x) := by
          intro x hx
          rw [hc (i + x) (by omega)]
          exact congrArg (av 67) (by omega)
        obtain ⟨u, w, k1, k2, k3⟩ := zv_text (i := i) (n := n) (base := 60 * j + i) (by omega) (by omega) hc2 (av 9) (av 10) (av 12) (av 11) (av 13) (av 51) (av 52) (av 53) (av 54) (av 55)
        rw [b1, b2, Option.bind_some, Option.bind_some, if_pos (show (0 : Int32) = 0 from rfl), if_pos (show (0 : Int32) ≤ 0 by decide), q_gB hj (by decide), k1, Option.bind_some, zi_60, nI_add, k2, Option.bind_some]
        rcases k3 with ⟨B, R, q1, q2, q3, q4, q5, q6, q7, q8, q9, q10, q11, q12, q13⟩ | ⟨q, q1, q2, q3, q4⟩
        · obtain ⟨z1, c1⟩ := zv_copyB q2 w.2.2.2.2.1 w.2.2.2.2.2.1 (av 46) (av 47)
          obtain ⟨z2, c2⟩ := zv_copyR q3 w.2.2.2.2.2.2.1 w.2.2.2.2.2.2.2.1 w.2.2.2.2.2.2.2.2 (av 48) (av 49) (av 50)
          rw [if_pos q4, zv_become, Option.bind_some, q9, if_neg (show ¬ (1 : Int32) = 0 by decide), q10, q11, c1, Option.bind_some, c2, Option.bind_some]
          refine ⟨_, _, rfl, rfl, q5, ?_⟩
          have cin : ∀ (g h : Nat → Int32) (x m : Nat), x < m → va_cpy g h 0 0 m x = g x := fun g h x m hx => by
            rw [pk_cpy_in (Nat.zero_le _) (by omega)]
            exact congrArg g (by omega)
          refine ⟨B, R, 2, 0, 0, 0, fun b => (u.2.2.2.2.2.2.1 b).toNatClampNeg, fun b => (u.2.2.2.2.2.2.2.1 b).toNatClampNeg, fun r => (u.2.2.2.2.2.2.2.2.2.1 r).toNatClampNeg, fun r => (u.2.2.2.2.2.2.2.2.1 r).toNatClampNeg, fun r => (u.2.2.2.2.2.2.2.2.2.2 r).toNatClampNeg, pb, pm, qb, qm, qi, ⟨Or.inr q1, q2, q3, by omega, Nat.one_le_two_pow, by omega, by omega, fun b hb => ?_, fun r hr => ?_, fun p hp => absurd hp (Nat.not_lt_zero _), fun p hp => absurd hp (Nat.not_lt_zero _)⟩, ⟨q5, q6, q7, q8, fun b hb => ?_, fun r hr => ?_⟩, ⟨rfl, rfl, rfl, rfl, fun b hb => ?_, fun r hr => ?_⟩, ⟨rfl, fun p hp => absurd hp (Nat.not_lt_zero _)⟩, fun p hp => absurd hp (Nat.not_lt_zero _), ⟨rfl, fun p hp => absurd hp (Nat.not_lt_zero _)⟩, ⟨rfl, fun p hp => absurd hp (Nat.not_lt_zero _)⟩, ⟨rfl, fun p hp => absurd hp (Nat.not_lt_zero _)⟩, hS0, hS1, hS2, hS3, hT, rfl, Or.inl rfl⟩
          · obtain ⟨x, y, g1, g2, g3, g4, g5, g6, g7⟩ := q12 b hb
            show (u.2.2.2.2.2.2.1 b).toNatClampNeg ≤ 2 ∧ 1 ≤ (u.2.2.2.2.2.2.2.1 b).toNatClampNeg ∧ (u.2.2.2.2.2.2.2.1 b).toNatClampNeg ≤ 3
            rw [(zv_cl g4 (by omega)).2, (zv_cl g6 (by omega)).2]
            exact ⟨g1, g2, g3⟩
          · obtain ⟨x, y, z, g1, g2, g3, g4, g5, g6, g7, g8, g9, g10⟩ := q13 r hr
            show (u.2.2.2.2.2.2.2.2.2.1 r).toNatClampNeg < B ∧ (u.2.2.2.2.2.2.2.2.1 r).toNatClampNeg < B ∧ 1 ≤ (u.2.2.2.2.2.2.2.2.2.2 r).toNatClampNeg ∧ (u.2.2.2.2.2.2.2.2.2.2 r).toNatClampNeg ≤ 9
            rw [(zv_cl g5 (by omega)).2, (zv_cl g7 (by omega)).2, (zv_cl g9 (by omega)).2]
            exact ⟨g1, g2, g3, g4⟩
          · obtain ⟨x, y, g1, g2, g3, g4, g5, g6, g7⟩ := q12 b hb
            show va_cpy u.2.2.2.2.2.2.1 (av 2) 0 0 6 b = _ ∧ va_cpy u.2.2.2.2.2.2.2.1 (av 3) 0 0 6 b = _
            rw [cin _ _ _ _ (by omega), cin _ _ _ _ (by omega)]
            exact ⟨(zv_cl g4 (by omega)).1, (zv_cl g6 (by omega)).1⟩
          · obtain ⟨x, y, z, g1, g2, g3, g4, g5, g6, g7, g8, g9, g10⟩ := q13 r hr
            show va_cpy u.2.2.2.2.2.2.2.2.2.1 (av 4) 0 0 8 r = _ ∧ va_cpy u.2.2.2.2.2.2.2.2.1 (av 5) 0 0 8 r = _ ∧ va_cpy u.2.2.2.2.2.2.2.2.2.2 (av 6) 0 0 8 r = _
            rw [cin _ _ _ _ (by omega), cin _ _ _ _ (by omega), cin _ _ _ _ (by omega)]
            exact ⟨(zv_cl g5 (by omega)).1, (zv_cl g7 (by omega)).1, (zv_cl g9 (by omega)).1⟩
          · obtain ⟨x, y, g1, g2, g3, g4, g5, g6, g7⟩ := q12 b hb
            show zf_fill w.2.2.2.2.1 (av 46) B b = nI (u.2.2.2.2.2.2.1 b).toNatClampNeg ∧ zf_fill w.2.2.2.2.2.1 (av 47) B b = nI (u.2.2.2.2.2.2.2.1 b).toNatClampNeg
            rw [zf_fill_in hb, zf_fill_in hb, (zv_cl g4 (by omega)).2, (zv_cl g6 (by omega)).2]
            exact ⟨g5, g7⟩
          · obtain ⟨x, y, z, g1, g2, g3, g4, g5, g6, g7, g8, g9, g10⟩ := q13 r hr
            show zf_fill w.2.2.2.2.2.2.1 (av 48) R r = nI (u.2.2.2.2.2.2.2.2.2.1 r).toNatClampNeg ∧ zf_fill w.2.2.2.2.2.2.2.1 (av 49) R r = nI (u.2.2.2.2.2.2.2.2.1 r).toNatClampNeg ∧ zf_fill w.2.2.2.2.2.2.2.2 (av 50) R r = nI (u.2.2.2.2.2.2.2.2.2.2 r).toNatClampNeg
            rw [zf_fill_in hr, zf_fill_in hr, zf_fill_in hr, (zv_cl g5 (by omega)).2, (zv_cl g7 (by omega)).2, (zv_cl g9 (by omega)).2]
            exact ⟨g6, g8, g10⟩
        · rw [q2, if_neg (zi_n9 (by omega)), q3, if_pos (show (0 : Int32) = 0 from rfl), q4]
          exact ⟨_, _, rfl, rfl, rfl, ⟨nb, nr, sp, td, np, nq, kd, nd, fr, to, lg, pb, pm, qb, qm, qi, hW, hV, hV2, hP, hP1, hP2, hQ, hQ2, hS0, hS1, hS2, hS3, hT, rfl, hH⟩⟩
      · rw [b1, b4, Option.bind_some, Option.bind_some, if_neg b2, if_neg b3]
        exact ⟨_, _, rfl, rfl, rfl, ⟨nb, nr, sp, td, np, nq, kd, nd, fr, to, lg, pb, pm, qb, qm, qi, hW, hV, hV2, hP, hP1, hP2, hQ, hQ2, hS0, hS1, hS2, hS3, hT, rfl, hH⟩⟩
    · rw [e3, e4]
      exact ⟨_, _, rfl, rfl, rfl, ⟨nb, nr, sp, td, np, nq, kd, nd, fr, to, lg, pb, pm, qb, qm, qi, hW, hV, hV2, hP, hP1, hP2, hQ, hQ2, hS0, hS1, hS2, hS3, hT, rfl, hH⟩⟩
  · rw [e1, e2]
    exact ⟨_, _, rfl, rfl, rfl, ⟨nb, nr, sp, td, np, nq, kd, nd, fr, to, lg, pb, pm, qb, qm, qi, hW, hV, hV2, hP, hP1, hP2, hQ, hQ2, hS0, hS1, hS2, hS3, hT, rfl, hH⟩⟩
