theorem zi_bellV {nb : Nat} (hnb : nb ≤ 6) {b b2 : Int32} (h : b = nI nb) (h2 : b2 = nI nb) (a : Int32) : (∃ j, j < nb ∧ a = nI j ∧ M_X5_hasBell b a = some 1 ∧ M_X7_noBell b2 a = some 0) ∨ (M_X5_hasBell b a = some 0 ∧ M_X7_noBell b2 a = some 1) := by
  subst h h2
  exact zi_bell hnb a
theorem zi_okC {nb nr sp td np nq : Nat} {kd nd fr to lg pb pm qb qm qi : Nat → Nat} (hW : zi_W nb nr sp td np nq kd nd fr to lg pb pm qb qm qi) : zb_ok (zi_C nb nr sp td np kd nd fr to lg pb pm) := by
  obtain ⟨w1, w2, w3, w4, w5, w6, w7, w8, w9, w10, w11⟩ := hW
  refine ⟨w2, w4, w8, fun r hr hon => w9 r (of_decide_eq_true hon), fun m b => ?_⟩
  show zb_pd pb pm (fun _ => 1) m b np ≤ 100
  have := zb_sum_max (f := fun p => if pm p = m ∧ pb p = b then 1 else 0) (k := 1) (n := np) (fun i _ => by split <;> omega)
  show zb_sum (fun p => if pm p = m ∧ pb p = b then 1 else 0) np ≤ 100
  omega
theorem zi_mask : ∀ n, n < 9 → ((1 : Int32) <<< (nI n &&& 31)) - 1 = nI (2 ^ n - 1) := by decide +kernel
theorem zi_allRopes {nr : Nat} (h : nr ≤ 8) : M_X5_allRopes (nI nr) = some (nI (2 ^ nr - 1)) := by
  unfold M_X5_allRopes
  rw [zi_mask nr (by omega)]
theorem zi_maskLt {n : Nat} (h : n ≤ 8) : 2 ^ n - 1 < 256 := by
  have := Nat.pow_le_pow_right (n := 2) (by decide) h
  omega
theorem zi_VC {nb nr sp td np : Nat} {kd nd fr to lg pb pm : Nat → Nat} {b r s t : Int32} {k n f o l : Nat → Int32} (hV : zi_V nb nr sp td kd nd fr to lg b r s t k n f o l) : zc_V (zi_C nb nr sp td np kd nd fr to lg pb pm) b s k n f l o := by
  obtain ⟨v1, v2, v3, v4, v5, v6⟩ := hV
  exact ⟨v1, v3, v5, fun r _ hon => v6 r (of_decide_eq_true hon)⟩
theorem zi_PC {nb nr sp td np nq : Nat} {kd nd fr to lg pb pm qb qm qi : Nat → Nat} (hW : zi_W nb nr sp td np nq kd nd fr to lg pb pm qb qm qi) {c : Int32} {b m t : Nat → Int32} (hP : zi_P np pb pm c b m) (hP1 : ∀ p, p < np → t p = nI 1) : zc_P (zi_C nb nr sp td np kd nd fr to lg pb pm) c b m t := by
  obtain ⟨w1, w2, w3, w4, w5, w6, w7, w8, w9, w10, w11⟩ := hW
  exact ⟨np, pb, pm, fun _ => 1, w6, hP.1, fun p hp => ⟨(hP.2 p hp).1, (w10 p hp).1, (hP.2 p hp).2, (w10 p hp).2, hP1 p hp⟩, fun _ _ => rfl⟩
theorem zi_heard {nb nr sp td np nq : Nat} {kd nd fr to lg pb pm qb qm qi : Nat → Nat} (hW : zi_W nb nr sp td np nq kd nd fr to lg pb pm qb qm qi) {b r s t cnt cur : Int32} {k n f o l pbs pms pts rang : Nat → Int32} (hV : zi_V nb nr sp td kd nd fr to lg b r s t k n f o l) (hP : zi_P np pb pm cnt pbs pms) (hP1 : ∀ p, p < np → pts p = nI 1) (hH : zi_H (zi_C nb nr sp td np kd nd fr to lg pb pm) cur rang) (ld : Int32) (uw ct cb : Nat → Int32) :
    ∃ u : Int32 × Int32 × (Nat → Int32) × (Nat → Int32) × (Nat → Int32) × (Nat → Int32), M_X6_heardNow cur b r s t ld cnt rang uw ct cb pms k pbs pts n f l o = some u ∧ u.1 = 1 ∧ ∀ k, k < 400 → u.2.2.1 k = nI (zb_set (zb_H (zi_C nb nr sp td np kd nd fr to lg pb pm) k) 6) := by
  have ok := zi_okC hW
  have htd := zi_td64 hW.2.1 hW.2.2.2.2.1
  have hnr := hW.2.2.1
  unfold M_X6_heardNow
  rcases hH with rfl | ⟨rfl, hr⟩
  · obtain ⟨u, h1, h2⟩ := zc_play ok (e := 400) (by decide) (zi_VC hV) (zi_PC hW hP hP1) (tied := t) ⟨td, by omega, hV.2.2.2.1, fun _ _ => rfl⟩ (ropes := nI (2 ^ nr - 1)) ⟨2 ^ nr - 1, by have := zi_maskLt hnr; omega, rfl, fun r _ => Nat.testBit_two_pow_sub_one nr r⟩ rang uw ct cb
    refine ⟨(1, u.1, u.2.1, u.2.2.1, u.2.2.2.1, u.2.2.2.2), ?_, rfl, h2⟩
    rw [if_pos rfl, hV.2.1, zi_allRopes hnr, Option.bind_some]
    show (M_X0_play _ _ _ _ _ _ _ _ _ _ _ _ _ _ _ _ _ (nI 400)).bind _ = _
    rw [h1]
    rfl
  · exact ⟨(1, ld, rang, uw, ct, cb), if_neg (by decide), rfl, hr⟩
theorem zi_RV {nb nr sp td np : Nat} {kd nd fr to lg pb pm : Nat → Nat} {b r s t : Int32} {k n f o l : Nat → Int32} (hnr : nr ≤ 8) (hV : zi_V nb nr sp td kd nd fr to lg b r s t k n f o l) : zr_V (zi_C nb nr sp td np kd nd fr to lg pb pm) nr b s (-9) k n f l o := by
  obtain ⟨v1, v2, v3, v4, v5, v6⟩ := hV
  refine ⟨by omega, v1, v3, v5, fun r _ hon => v6 r (of_decide_eq_true hon), fun r hr => ⟨fun hon => ⟨of_decide_eq_true hon, ?_⟩, fun z => decide_eq_true z.1⟩⟩
  intro z
  have h3 : (nI r).toInt = (-9 : Int32).toInt := by rw [z]
  rw [nI_toInt (by omega), show (-9 : Int32).toInt = -9 from by decide] at h3
  omega
theorem zi_RP {nb nr sp td np nq : Nat} {kd nd fr to lg pb pm qb qm qi : Nat → Nat} (hW : zi_W nb nr sp td np nq kd nd fr to lg pb pm qb qm qi) {c : Int32} {b m : Nat → Int32} (hP : zi_P np pb pm c b m) : zr_P (zi_C nb nr sp td np kd nd fr to lg pb pm) (-9) c b m := by
  obtain ⟨w1, w2, w3, w4, w5, w6, w7, w8, w9, w10, w11⟩ := hW
  exact Or.inl ⟨by decide, np, pb, pm, w6, hP.1, fun p hp => ⟨(hP.2 p hp).1, (w10 p hp).1, (hP.2 p hp).2, (w10 p hp).2⟩, fun _ _ _ => rfl⟩
theorem zi_goP {nb nr sp td np nq : Nat} {kd nd fr to lg pb pm qb qm qi : Nat → Nat} (hW : zi_W nb nr sp td np nq kd nd fr to lg pb pm qb qm qi) {b r s t cnt : Int32} {k n f o l pbs pms : Nat → Int32} (hV : zi_V nb nr sp td kd nd fr to lg b r s t k n f o l) (hP : zi_P np pb pm cnt pbs pms) (lr hs sw pe : Nat → Int32) :
    ∃ v : (Nat → Int32) × (Nat → Int32) × (Nat → Int32) × (Nat → Int32), M_X7_goPulls b t r s cnt lr hs sw pe pbs pms k n l f o = some v ∧ ∀ k, k < 400 → v.2.2.2 k = nI (zb_set (zb_H (zi_C nb nr sp td np kd nd fr to lg pb pm) k) 6) := by
  have ok := zi_okC hW
  have htd := zi_td64 hW.2.1 hW.2.2.2.2.1
  have hnr := hW.2.2.1
  obtain ⟨v, h1, h2⟩ := zr_go ok (e := 400) (by decide) (zi_RV (np := np) (pb := pb) (pm := pm) hnr hV) (zi_RP hW hP) (tied := t) ⟨td, by omega, hV.2.2.2.1, fun _ _ => rfl⟩ lr hs sw pe
  refine ⟨v, ?_, h2⟩
  unfold M_X7_goPulls
  rw [hV.2.1]
  show (M_X7_go _ _ _ _ _ _ _ _ _ _ _ _ _ _ _ _ (nI 400) _ _).bind _ = _
  rw [h1]
  rfl
theorem zi_set31 (f : Nat → Bool) : zb_set f 6 < 2 ^ 31 := by
  have := zb_set_lt f 6
  omega
theorem zi_setBit {f : Nat → Bool} {b : Nat} (hb : b < 6) : (zb_set f 6).testBit b = f b := by
  rw [zb_set_bit, decide_eq_true hb, Bool.true_and]
/-- how often a bell rings -/
def zn_cnt (h : Nat → Nat → Bool) (b n : Nat) : Nat := zb_sum (fun k => (h k b).toNat) n
theorem zi_rings6 {h : Nat → Nat → Bool} {b : Nat} (hb : b < 6) {rang : Nat → Int32} (hr : ∀ k, k < 400 → rang k = nI (zb_set (h k) 6)) : L_X6_rings_23 (nI b) rang 1000 0 0 = some (nI (zn_cnt h b 400), nI 400) := by
  have key : ∀ d f k, k + d = 400 → d < f → L_X6_rings_23 (nI b) rang f (nI (zn_cnt h b k)) (nI k) = some (nI (zn_cnt h b 400), nI 400) := by
    intro d
    induction d with
    | zero =>
      intro f k hk1 hf
      cases f with
      | zero => exact absurd hf (Nat.not_lt_zero _)
      | succ f =>
        have e : k = 400 := by omega
        subst e
        rw [L_X6_rings_23, if_pos (show (400 : Int32) ≤ nI 400 by decide)]
    | succ d ih =>
      intro f k hk1 hf
      cases f with
      | zero => exact absurd hf (Nat.not_lt_zero _)
      | succ f =>
        have := ih f (k + 1) (by omega) (by omega)
        rw [L_X6_rings_23, if_neg (show ¬ (400 : Int32) ≤ nI k from nI_ge (b := 400) (by omega) (by omega)), zc_rangAt (by omega) (by omega) (zi_set31 _) (hr k (by omega)), Option.bind_some, zi_setBit hb]
        simp only [nme]
        unfold zn_cnt at this ⊢
        rw [zb_sum.eq_2 _ k] at this
        cases h1 : h k b with
        | false =>
          rw [h1] at this
          rw [if_neg (show ¬ (false = true) by decide), if_pos (show (0 : Int32) = 0 from rfl), nI_1]
          exact this
        | true =>
          rw [h1] at this
          rw [if_pos (show (true = true) from rfl), if_neg (show ¬ (1 : Int32) = 0 by decide), nI_1, nI_1]
          exact this
  exact key 400 1000 0 (by omega) (by omega)
theorem zi_rings7 {h : Nat → Nat → Bool} {b : Nat} (hb : b < 6) {pe : Nat → Int32} (hr : ∀ k, k < 400 → pe k = nI (zb_set (h k) 6)) : L_X7_rings_18 (nI b) pe 1000 0 0 = some (nI (zn_cnt h b 400), nI 400) := by
  have key : ∀ d f k, k + d = 400 → d < f → L_X7_rings_18 (nI b) pe f (nI (zn_cnt h b k)) (nI k) = some (nI (zn_cnt h b 400), nI 400) := by
    intro d
    induction d with
    | zero =>
      intro f k hk1 hf
      cases f with
      | zero => exact absurd hf (Nat.not_lt_zero _)
      | succ f =>
        have e : k = 400 := by omega
        subst e
        rw [L_X7_rings_18, if_pos (show (400 : Int32) ≤ nI 400 by decide)]
    | succ d ih =>
      intro f k hk1 hf
      cases f with
      | zero => exact absurd hf (Nat.not_lt_zero _)
      | succ f =>
        have := ih f (k + 1) (by omega) (by omega)
        rw [L_X7_rings_18, if_neg (show ¬ (400 : Int32) ≤ nI k from nI_ge (b := 400) (by omega) (by omega)), q_gB (by omega) (by decide), nI_clamp (by omega), hr k (by omega), q_bit (zi_set31 _) (by omega), zi_setBit hb, nI_add, nI_1]
        simp only [nme]
        unfold zn_cnt at this ⊢
        rw [zb_sum.eq_2 _ k] at this
        exact this
  exact key 400 1000 0 (by omega) (by omega)
theorem eq_rings : EQ_rings zi_Inv := by
  intro iv av s1 hI
  obtain ⟨nb, nr, sp, td, np, nq, kd, nd, fr, to, lg, pb, pm, qb, qm, qi, hW, hV, hV2, hP, hP1, hP2, hQ, hQ2, hS0, hS1, hS2, hS3, hT, hF, hH⟩ := hI
  unfold M_X6_rings M_X7_rings
  rcases zi_bellV hW.2.1 hV.1 hV2.1 s1 with ⟨j, hj, rfl, e1, e2⟩ | ⟨e1, e2⟩
  · have hj6 : j < 6 := Nat.lt_of_lt_of_le hj hW.2.1
    obtain ⟨u, h1, h2, h3⟩ := zi_heard hW hV hP hP1 hH (iv 26 5) (av 28) (av 29) (av 30)
    obtain ⟨v, g1, g3⟩ := zi_goP hW hV2 hP2 (av 60) (av 61) (av 59) (av 58)
    rw [e1, e2, Option.bind_some, Option.bind_some, if_neg (show ¬ (1 : Int32) = 0 by decide), if_pos (show (0 : Int32) = 0 from rfl), h1, g1, Option.bind_some, Option.bind_some, zi_rings6 hj6 h3, zi_rings7 hj6 g3]
    exact ⟨_, _, rfl, rfl, rfl, ⟨nb, nr, sp, td, np, nq, kd, nd, fr, to, lg, pb, pm, qb, qm, qi, hW, hV, hV2, hP, hP1, hP2, hQ, hQ2, hS0, hS1, hS2, hS3, hT, hF, Or.inr ⟨h2, h3⟩⟩⟩
  · rw [e1, e2]
    exact ⟨_, _, rfl, rfl, rfl, ⟨nb, nr, sp, td, np, nq, kd, nd, fr, to, lg, pb, pm, qb, qm, qi, hW, hV, hV2, hP, hP1, hP2, hQ, hQ2, hS0, hS1, hS2, hS3, hT, hF, hH⟩⟩
/-- the k-th time: both sides go on alike -/
theorem zi_at {h : Nat → Nat → Bool} {b : Nat} (hb : b < 6) {rang pe : Nat → Int32} (hr : ∀ k, k < 400 → rang k = nI (zb_set (h k) 6)) (hp : ∀ k, k < 400 → pe k = nI (zb_set (h k) 6)) {K : Nat} (hK : K < 2 ^ 31) :
    ∃ (fl : Nat) (a a' z : Int32), L_X6_ringsAt_28 (nI b) rang 1000 (nI K) 0 = some (fl, a, z) ∧ L_X7_ringsAt_23 (nI b) (nI K) pe 1000 0 0 = some (fl, a', z) := by
  have key : ∀ d f k n, k + d = 400 → d < f → n ≤ K → ∃ (fl : Nat) (a a' z : Int32), L_X6_ringsAt_28 (nI b) rang f (nI (K - n)) (nI k) = some (fl, a, z) ∧ L_X7_ringsAt_23 (nI b) (nI K) pe f (nI n) (nI k) = some (fl, a', z) := by
    intro d
    induction d with
    | zero =>
      intro f k n hk1 hf hn
      cases f with
      | zero => exact absurd hf (Nat.not_lt_zero _)
      | succ f =>
        have e : k = 400 := by omega
        subst e
        refine ⟨1, nI (K - n), nI n, nI 400, ?_, ?_⟩
        · rw [L_X6_ringsAt_28, if_pos (show (400 : Int32) ≤ nI 400 by decide)]
        · rw [L_X7_ringsAt_23, if_pos (show (400 : Int32) ≤ nI 400 by decide)]
    | succ d ih =>
      intro f k n hk1 hf hn
      cases f with
      | zero => exact absurd hf (Nat.not_lt_zero _)
      | succ f =>
        rw [L_X6_ringsAt_28, L_X7_ringsAt_23, if_neg (show ¬ (400 : Int32) ≤ nI k from nI_ge (b := 400) (by omega) (by omega)), if_neg (show ¬ (400 : Int32) ≤ nI k from nI_ge (b := 400) (by omega) (by omega)), zc_rangAt (by omega) (by omega) (zi_set31 _) (hr k (by omega)), Option.bind_some, zi_setBit hb, q_gB (by omega) (by decide), nI_clamp (by omega), hp k (by omega), zr_isIn (zi_set31 _) (by omega), Option.bind_some, zi_setBit hb]
        simp only [nme]
        cases h1 : h k b with
        | false =>
          rw [if_neg (show ¬ (false = true) by decide), if_pos (show (0 : Int32) = 0 from rfl), if_pos (show (0 : Int32) = 0 from rfl), nI_1]
          exact ih f (k + 1) n (by omega) (by omega) hn
        | true =>
          rw [if_pos (show (true = true) from rfl), if_neg (show ¬ (1 : Int32) = 0 by decide), if_neg (show ¬ (1 : Int32) = 0 by decide)]
          by_cases h2 : n = K
          · subst h2
            rw [Nat.sub_self, if_pos (show nI 0 = 0 from rfl), if_pos rfl]
            exact ⟨0, _, _, _, rfl, rfl⟩
          · rw [if_neg (nI_ne0 (by omega) (by omega)), if_neg (fun z => h2 ((nI_eq (by omega) (by omega)).mp z)), nI_1, nI_1, show K - n = (K - (n + 1)) + 1 by omega, pk_m1]
            exact ih f (k + 1) (n + 1) (by omega) (by omega) (by omega)
  have := key 400 1000 0 0 (by omega) (by omega) (Nat.zero_le _)
  rw [Nat.sub_zero] at this
  exact this
theorem eq_ringsAt : EQ_ringsAt zi_Inv := by
  intro iv av s1 s2 hI
  obtain ⟨nb, nr, sp, td, np, nq, kd, nd, fr, to, lg, pb, pm, qb, qm, qi, hW, hV, hV2, hP, hP1, hP2, hQ, hQ2, hS0, hS1, hS2, hS3, hT, hF, hH⟩ := hI
  unfold M_X6_ringsAt M_X7_ringsAt
  rcases zi_bellV hW.2.1 hV.1 hV2.1 s1 with ⟨j, hj, rfl, e1, e2⟩ | ⟨e1, e2⟩
  · have hj6 : j < 6 := Nat.lt_of_lt_of_le hj hW.2.1
    rw [e1, e2, Option.bind_some, Option.bind_some, if_neg (show ¬ (1 : Int32) = 0 by decide), if_pos (show (0 : Int32) = 0 from rfl)]
    by_cases h0 : 0 ≤ s2
    · obtain ⟨K, hK, rfl⟩ : ∃ K : Nat, K < 2 ^ 31 ∧ s2 = nI K := nI_of (by
        intro z
        have h4 := Int32.le_iff_toInt_le.mp h0
        have h5 := Int32.lt_iff_toInt_lt.mp z
        omega)
      obtain ⟨u, h1, h2, h3⟩ := zi_heard hW hV hP hP1 hH (iv 26 5) (av 28) (av 29) (av 30)
      obtain ⟨v, g1, g3⟩ := zi_goP hW hV2 hP2 (av 60) (av 61) (av 59) (av 58)
      obtain ⟨fl, a, a', z, k1, k2⟩ := zi_at hj6 h3 g3 hK
      rw [if_pos h0, if_pos h0, h1, g1, Option.bind_some, Option.bind_some, k1, k2, Option.bind_some, Option.bind_some]
      by_cases hfl : fl = 0
      · rw [if_pos hfl, if_pos hfl]
        exact ⟨_, _, rfl, rfl, rfl, ⟨nb, nr, sp, td, np, nq, kd, nd, fr, to, lg, pb, pm, qb, qm, qi, hW, hV, hV2, hP, hP1, hP2, hQ, hQ2, hS0, hS1, hS2, hS3, hT, hF, Or.inr ⟨h2, h3⟩⟩⟩
      · rw [if_neg hfl, if_neg hfl]
        exact ⟨_, _, rfl, rfl, rfl, ⟨nb, nr, sp, td, np, nq, kd, nd, fr, to, lg, pb, pm, qb, qm, qi, hW, hV, hV2, hP, hP1, hP2, hQ, hQ2, hS0, hS1, hS2, hS3, hT, hF, Or.inr ⟨h2, h3⟩⟩⟩
    · rw [if_neg h0, if_neg h0]
      exact ⟨_, _, rfl, rfl, rfl, ⟨nb, nr, sp, td, np, nq, kd, nd, fr, to, lg, pb, pm, qb, qm, qi, hW, hV, hV2, hP, hP1, hP2, hQ, hQ2, hS0, hS1, hS2, hS3, hT, hF, hH⟩⟩
  · rw [e1, e2]
    exact ⟨_, _, rfl, rfl, rfl, ⟨nb, nr, sp, td, np, nq, kd, nd, fr, to, lg, pb, pm, qb, qm, qi, hW, hV, hV2, hP, hP1, hP2, hQ, hQ2, hS0, hS1, hS2, hS3, hT, hF, hH⟩⟩
theorem eq_peal : EQ_peal zi_Inv := by
  intro iv av s1 hI
  obtain ⟨nb, nr, sp, td, np, nq, kd, nd, fr, to, lg, pb, pm, qb, qm, qi, hW, hV, hV2, hP, hP1, hP2, hQ, hQ2, hS0, hS1, hS2, hS3, hT, hF, hH⟩ := hI
  have hnb := hW.2.1
  unfold M_X6_peal M_X7_peal
  rw [zi_inL 399 (by decide), Option.bind_some]
  rcases zi_rng s1 (n := 400) (by omega) with ⟨m, hm, rfl, h⟩ | ⟨k1, k2⟩ | ⟨k1, k2, k3⟩
  · rw [if_neg (nI_pos (by omega)), if_pos (show nI m < (400 : Int32) from nI_lt (b := 400) (by omega) (by decide)), if_pos (show 0 ≤ (nI m).toInt ∧ (nI m).toInt ≤ (399 : Int) by omega), if_neg (show ¬ (1 : Int32) = 0 by decide)]
    by_cases h0 : nb = 0
    · have ez : M_X6_hasNoValley (iv 1 5) = some 1 := by rw [hV.1, zi_noV hnb, if_pos h0]
      have ez2 : iv 45 1 = 0 := by rw [hV2.1, h0]; rfl
      rw [ez, Option.bind_some, if_neg (show ¬ (1 : Int32) = 0 by decide), if_pos ez2]
      exact ⟨_, _, rfl, rfl, rfl, ⟨nb, nr, sp, td, np, nq, kd, nd, fr, to, lg, pb, pm, qb, qm, qi, hW, hV, hV2, hP, hP1, hP2, hQ, hQ2, hS0, hS1, hS2, hS3, hT, hF, hH⟩⟩
    · have ez : M_X6_hasNoValley (iv 1 5) = some 0 := by rw [hV.1, zi_noV hnb, if_neg h0]
      have ez2 : ¬ iv 45 1 = 0 := by rw [hV2.1]; exact nI_ne0 (by omega) (by omega)
      obtain ⟨u, h1, h2, h3⟩ := zi_heard hW hV hP hP1 hH (iv 26 5) (av 28) (av 29) (av 30)
      obtain ⟨v, g1, g3⟩ := zi_goP hW hV2 hP2 (av 60) (av 61) (av 59) (av 58)
      rw [ez, Option.bind_some, if_pos (show (0 : Int32) = 0 from rfl), if_neg ez2, h1, g1, Option.bind_some, Option.bind_some, q_gB (by omega) (by decide), q_gB (by omega) (by decide), nI_clamp (by omega)]
      refine ⟨_, _, rfl, rfl, ?_, ⟨nb, nr, sp, td, np, nq, kd, nd, fr, to, lg, pb, pm, qb, qm, qi, hW, hV, hV2, hP, hP1, hP2, hQ, hQ2, hS0, hS1, hS2, hS3, hT, hF, Or.inr ⟨h2, h3⟩⟩⟩
      show u.2.2.1 m = v.2.2.2 m
      rw [h3 m hm, g3 m hm]
  · rw [if_pos k1, if_neg (show ¬ (0 ≤ s1.toInt ∧ s1.toInt ≤ (399 : Int)) by omega), if_pos (show (0 : Int32) = 0 from rfl)]
    exact ⟨_, _, rfl, rfl, rfl, ⟨nb, nr, sp, td, np, nq, kd, nd, fr, to, lg, pb, pm, qb, qm, qi, hW, hV, hV2, hP, hP1, hP2, hQ, hQ2, hS0, hS1, hS2, hS3, hT, hF, hH⟩⟩
  · rw [if_neg k1, if_neg (show ¬ s1 < (400 : Int32) by rw [Int32.lt_iff_toInt_lt]; show ¬ s1.toInt < (400 : Int); omega), if_neg (show ¬ (0 ≤ s1.toInt ∧ s1.toInt ≤ (399 : Int)) by omega), if_pos (show (0 : Int32) = 0 from rfl)]
    exact ⟨_, _, rfl, rfl, rfl, ⟨nb, nr, sp, td, np, nq, kd, nd, fr, to, lg, pb, pm, qb, qm, qi, hW, hV, hV2, hP, hP1, hP2, hQ, hQ2, hS0, hS1, hS2, hS3, hT, hF, hH⟩⟩
/-- the last minute below n in which a bell rings -/
def zn_last (h : Nat → Nat → Bool) : Nat → Int32
  | 0 => -9
  | n + 1 => if zb_set (h n) 6 = 0 then zn_last h n else nI n
theorem zi_last6 {h : Nat → Nat → Bool} {rang : Nat → Int32} (hr : ∀ k, k < 400 → rang k = nI (zb_set (h k) 6)) : M_X0_lastMinute rang = some (zn_last h 400) := by
  have key : ∀ (n f : Nat) (x : Int32), n ≤ 400 → n < f → x.toInt = (n : Int) - 1 → ∃ (fl : Nat) (z : Int32), L_X0_lastMinute_4 rang f x = some (fl, z) ∧ (if fl = 0 then z else -9) = zn_last h n := by
    intro n
    induction n with
    | zero =>
      intro f x hn hf hx
      cases f with
      | zero => exact absurd hf (Nat.not_lt_zero _)
      | succ f =>
        refine ⟨1, x, ?_, rfl⟩
        rw [L_X0_lastMinute_4, if_pos (by rw [Int32.lt_iff_toInt_lt, hx]; decide)]
    | succ n ih =>
      intro f x hn hf hx
      cases f with
      | zero => exact absurd hf (Nat.not_lt_zero _)
      | succ f =>
        have ex : x = nI n := by
          apply Int32.toInt_inj.mp
          rw [hx, nI_toInt (by omega)]
          omega
        subst ex
        rw [L_X0_lastMinute_4, if_neg (nI_pos (by omega)), q_gB (by omega) (by decide), nI_clamp (by omega), hr n (by omega)]
        have h31 := zi_set31 (h n)
        by_cases h1 : zb_set (h n) 6 = 0
        · obtain ⟨fl, z, h2, h3⟩ := ih f (nI n + (-1)) (by omega) (by omega) (zr_back1 (by omega))
          refine ⟨fl, z, ?_, ?_⟩
          · rw [h1, if_pos (show nI 0 = 0 from rfl)]
            exact h2
          · rw [zn_last, if_pos h1]
            exact h3
        · refine ⟨0, nI n, ?_, ?_⟩
          · rw [if_neg (nI_ne0 (by omega) h31)]
          · rw [zn_last, if_neg h1]
            rfl
  obtain ⟨fl, z, h1, h2⟩ := key 400 1000 399 (by omega) (by omega) (by decide)
  unfold M_X0_lastMinute
  rw [h1, Option.bind_some, ← h2]
  by_cases h3 : fl = 0
  · rw [if_pos h3, if_pos h3]
  · rw [if_neg h3, if_neg h3]
theorem zi_last7 {h : Nat → Nat → Bool} {pe : Nat → Int32} (hr : ∀ k, k < 400 → pe k = nI (zb_set (h k) 6)) : M_X7_lastNow pe = some (zn_last h 400) := by
  have key : ∀ d f k, k + d = 400 → d < f → L_X7_lastNow_5 pe f (zn_last h k) (nI k) = some (zn_last h 400, nI 400) := by
    intro d
    induction d with
    | zero =>
      intro f k hk1 hf
      cases f with
      | zero => exact absurd hf (Nat.not_lt_zero _)
      | succ f =>
        have e : k = 400 := by omega
        subst e
        rw [L_X7_lastNow_5, if_pos (show (400 : Int32) ≤ nI 400 by decide)]
    | succ d ih =>
      intro f k hk1 hf
      cases f with
      | zero => exact absurd hf (Nat.not_lt_zero _)
      | succ f =>
        have := ih f (k + 1) (by omega) (by omega)
        have h31 := zi_set31 (h k)
        rw [L_X7_lastNow_5, if_neg (show ¬ (400 : Int32) ≤ nI k from nI_ge (b := 400) (by omega) (by omega)), q_gB (by omega) (by decide), nI_clamp (by omega), hr k (by omega)]
        simp only [nme]
        rw [nI_1]
        rw [zn_last] at this
        by_cases h1 : zb_set (h k) 6 = 0
        · rw [if_pos h1] at this
          rw [h1, if_pos (show nI 0 ≤ 0 by decide)]
          exact this
        · rw [if_neg h1] at this
          rw [if_neg (nI_nle (by omega) h31)]
          exact this
  unfold M_X7_lastNow
  show (L_X7_lastNow_5 pe 1000 (zn_last h 0) (nI 0)).bind _ = _
  rw [key 400 1000 0 (by omega) (by omega)]
  rfl
theorem eq_stops : EQ_stops zi_Inv := by
  intro iv av hI
  obtain ⟨nb, nr, sp, td, np, nq, kd, nd, fr, to, lg, pb, pm, qb, qm, qi, hW, hV, hV2, hP, hP1, hP2, hQ, hQ2, hS0, hS1, hS2, hS3, hT, hF, hH⟩ := hI
  have hnb := hW.2.1
  unfold M_X6_stops M_X7_stops
  by_cases h0 : nb = 0
  · have ez : M_X6_hasNoValley (iv 1 5) = some 1 := by rw [hV.1, zi_noV hnb, if_pos h0]
    have ez2 : iv 45 1 = 0 := by rw [hV2.1, h0]; rfl
    rw [ez, Option.bind_some, if_neg (show ¬ (1 : Int32) = 0 by decide), if_pos ez2]
    exact ⟨_, _, rfl, rfl, rfl, ⟨nb, nr, sp, td, np, nq, kd, nd, fr, to, lg, pb, pm, qb, qm, qi, hW, hV, hV2, hP, hP1, hP2, hQ, hQ2, hS0, hS1, hS2, hS3, hT, hF, hH⟩⟩
  · have ez : M_X6_hasNoValley (iv 1 5) = some 0 := by rw [hV.1, zi_noV hnb, if_neg h0]
    have ez2 : ¬ iv 45 1 = 0 := by rw [hV2.1]; exact nI_ne0 (by omega) (by omega)
    obtain ⟨u, h1, h2, h3⟩ := zi_heard hW hV hP hP1 hH (iv 26 5) (av 28) (av 29) (av 30)
    obtain ⟨v, g1, g3⟩ := zi_goP hW hV2 hP2 (av 60) (av 61) (av 59) (av 58)
    rw [ez, Option.bind_some, if_pos (show (0 : Int32) = 0 from rfl), if_neg ez2, h1, g1, Option.bind_some, Option.bind_some, zi_last6 h3, zi_last7 g3, Option.bind_some, Option.bind_some]
    exact ⟨_, _, rfl, rfl, rfl, ⟨nb, nr, sp, td, np, nq, kd, nd, fr, to, lg, pb, pm, qb, qm, qi, hW, hV, hV2, hP, hP1, hP2, hQ, hQ2, hS0, hS1, hS2, hS3, hT, hF, Or.inr ⟨h2, h3⟩⟩⟩
