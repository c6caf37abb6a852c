theorem zi_rungP {nb nr sp td np nq : Nat} {kd nd fr to lg pb pm qb qm qi : Nat → Nat} (hW : zi_W nb nr sp td np nq kd nd fr to lg pb pm qb qm qi) {b r p t : Int32} {k n f o l : Nat → Int32} (hV : zi_V nb nr sp td kd nd fr to lg b r p t k n f o l) {cnt : Int32} {pbs pms : Nat → Int32} (hP : zi_P np pb pm cnt pbs pms) (lr hs sw pe : Nat → Int32) :
    ∃ v : Int32 × (Nat → Int32) × (Nat → Int32) × (Nat → Int32) × (Nat → Int32), M_X7_rung b t r p cnt lr hs sw pe pbs pms k n l f o (-9) (-9) = some v ∧ v.1 = nI (zn_or (zb_H (zi_C nb nr sp td np kd nd fr to lg pb pm)) 100) := by
  have htd := zi_td64 hW.2.1 hW.2.2.2.2.1
  obtain ⟨v, h1, h2⟩ := zr_go (zi_okC hW) (e := 100) (by decide) (zi_RV (np := np) (pb := pb) (pm := pm) hW.2.2.1 hV) (zi_RP hW hP) (tied := t) ⟨td, by omega, hV.2.2.2.1, fun _ _ => rfl⟩ lr hs sw pe
  unfold M_X7_rung
  refine ⟨(nI (zn_or (zb_H (zi_C nb nr sp td np kd nd fr to lg pb pm)) 100), v.1, v.2.1, v.2.2.1, v.2.2.2), ?_, ?_⟩
  · rw [hV.2.1]
    show (M_X7_go b t (nI nr) p cnt lr hs sw pe pbs pms k n l f o (nI 100) (-9) (-9)).bind _ = _
    rw [h1, Option.bind_some, zi_before7 h2, Option.bind_some]
  · rfl
theorem zi_rungW {nb nr sp td np nq : Nat} {kd nd fr to lg pb pm qb qm qi : Nat → Nat} (hW : zi_W nb nr sp td np nq kd nd fr to lg pb pm qb qm qi) {b r p t : Int32} {k n f o l : Nat → Int32} (hV : zi_V nb nr sp td kd nd fr to lg b r p t k n f o l) {cnt : Int32} {pbs pms : Nat → Int32} (hP : zi_P np pb pm cnt pbs pms) {x : Nat} (hx : x < nr) (lr hs sw pe : Nat → Int32) :
    ∃ v : Int32 × (Nat → Int32) × (Nat → Int32) × (Nat → Int32) × (Nat → Int32), M_X7_rung b t r p cnt lr hs sw pe pbs pms k n l f o (-9) (nI x) = some v ∧ v.1 = nI (zn_or (zb_H (zi_CW nb nr sp td np x kd nd fr to lg pb pm)) 100) := by
  obtain ⟨v, h1, h2⟩ := zi_goWithout hW hV hP hx (e := 100) (by decide) lr hs sw pe
  unfold M_X7_rung
  refine ⟨(nI (zn_or (zb_H (zi_CW nb nr sp td np x kd nd fr to lg pb pm)) 100), v.1, v.2.1, v.2.2.1, v.2.2.2), ?_, ?_⟩
  · show (M_X7_go b t r p cnt lr hs sw pe pbs pms k n l f o (nI 100) (-9) (nI x)).bind _ = _
    rw [h1, Option.bind_some, zi_before7 h2, Option.bind_some]
  · rfl
theorem zi_cutL {nb nr sp td np nq : Nat} {kd nd fr to lg pb pm qb qm qi : Nat → Nat} (hW : zi_W nb nr sp td np nq kd nd fr to lg pb pm qb qm qi) {b r p t b2 r2 p2 t2 : Int32} {k n f o l k2 n2 f2 o2 l2 : Nat → Int32} (hV : zi_V nb nr sp td kd nd fr to lg b r p t k n f o l) (hV2 : zi_V nb nr sp td kd nd fr to lg b2 r2 p2 t2 k2 n2 f2 o2 l2) {cnt cnt2 : Int32} {pbs pms pts pbs2 pms2 : Nat → Int32} (hP : zi_P np pb pm cnt pbs pms) (hP1 : ∀ p, p < np → pts p = nI 1) (hP2 : zi_P np pb pm cnt2 pbs2 pms2) (x1 : Int32) :
    ∀ (d g i : Nat) (st tld : Int32) (tr tu tc tcb lr hs sw pe : Nat → Int32), i + d = nr → d < g →
      ∃ (u : Int32 × Int32 × Int32 × (Nat → Int32) × (Nat → Int32) × (Nat → Int32) × (Nat → Int32)) (v : Int32 × Int32 × (Nat → Int32) × (Nat → Int32) × (Nat → Int32) × (Nat → Int32)), L_X6_cut_27 x1 b r p t cnt pms k pbs pts n f l o g st (nI i) tld tr tu tc tcb = some u ∧ L_X7_cut_26 x1 b2 t2 r2 p2 cnt2 pbs2 pms2 k2 n2 l2 f2 o2 g st (nI i) lr hs sw pe = some v ∧ u.1 = v.1 := by
  have hnr := hW.2.2.1
  intro d
  induction d with
  | zero =>
    intro g i st tld tr tu tc tcb lr hs sw pe hi hg
    cases g with
    | zero => exact absurd hg (Nat.not_lt_zero _)
    | succ g =>
      rw [L_X6_cut_27, L_X7_cut_26, if_pos (show r ≤ nI i by rw [hV.2.1]; exact nI_le (by omega) (by omega)), if_pos (show r2 ≤ nI i by rw [hV2.2.1]; exact nI_le (by omega) (by omega))]
      exact ⟨_, _, rfl, rfl, rfl⟩
  | succ d ih =>
    intro g i st tld tr tu tc tcb lr hs sw pe hi hg
    cases g with
    | zero => exact absurd hg (Nat.not_lt_zero _)
    | succ g =>
      obtain ⟨u1, e1, e2⟩ := zi_playWithout hW hV hP hP1 (x := i) (e := 100) (by omega) (by decide) tr tu tc tcb
      obtain ⟨v1, e3, e4⟩ := zi_rungW hW hV2 hP2 (x := i) (by omega) lr hs sw pe
      have e1' : M_X6_playWithout b r p t cnt tr tu tc tcb pms k pbs pts n f l o (nI i) 100 = some u1 := e1
      have ho := zn_or_lt (zb_H (zi_CW nb nr sp td np i kd nd fr to lg pb pm)) 100
      rw [L_X6_cut_27, L_X7_cut_26, if_neg (show ¬ r ≤ nI i by rw [hV.2.1]; exact nI_ge (by omega) (by omega)), if_neg (show ¬ r2 ≤ nI i by rw [hV2.2.1]; exact nI_ge (by omega) (by omega)), e1', Option.bind_some, zi_before6 e2, Option.bind_some, zi_pc6 _ ho, Option.bind_some, e3, Option.bind_some, e4, zi_pc7 _ ho, Option.bind_some]
      simp only [nme, nI_1]
      by_cases hc : x1 ≤ nI (zn_pc (zn_or (zb_H (zi_CW nb nr sp td np i kd nd fr to lg pb pm)) 100))
      · rw [if_pos hc, if_pos hc, Int32.or_zero]
        exact ih g (i + 1) _ _ _ _ _ _ _ _ _ _ (by omega) (by omega)
      · rw [if_neg hc, if_neg hc]
        exact ih g (i + 1) _ _ _ _ _ _ _ _ _ _ (by omega) (by omega)
theorem eq_cut : EQ_cut zi_Inv := by
  intro iv av hI
  obtain ⟨nb, nr, sp, td, np, nq, kd, nd, fr, to, lg, pb, pm, qb, qm, qi, hW, hV, hV2, hP, hP1, hP2, hQ, hQ2, hS0, hS1, hS2, hS3, hT, hF, hH⟩ := hI
  have hnb := hW.2.1
  have hnr := hW.2.2.1
  unfold M_X6_cut M_X7_cut
  by_cases h0 : nb = 0
  · have ez : M_X6_hasNoValley (iv 1 5) = some 1 := by rw [hV.1, zi_noV hnb, if_pos h0]
    have ez2 : iv 45 1 = 0 := by rw [hV2.1, h0]; rfl
    rw [ez, Option.bind_some, if_neg (show ¬ (1 : Int32) = 0 by decide), if_pos ez2]
    exact ⟨_, _, rfl, rfl, rfl, ⟨nb, nr, sp, td, np, nq, kd, nd, fr, to, lg, pb, pm, qb, qm, qi, hW, hV, hV2, hP, hP1, hP2, hQ, hQ2, hS0, hS1, hS2, hS3, hT, hF, hH⟩⟩
  · have ez : M_X6_hasNoValley (iv 1 5) = some 0 := by rw [hV.1, zi_noV hnb, if_neg h0]
    have ez2 : ¬ iv 45 1 = 0 := by rw [hV2.1]; exact nI_ne0 (by omega) (by omega)
    have ho := zn_or_lt (zb_H (zi_C nb nr sp td np kd nd fr to lg pb pm)) 100
    obtain ⟨u0, h1, h2, h3⟩ := zi_heard hW hV hP hP1 hH (iv 26 5) (av 28) (av 29) (av 30)
    obtain ⟨v0, g1, g2⟩ := zi_rungP hW hV2 hP2 (av 60) (av 61) (av 59) (av 58)
    obtain ⟨u, v, k1, k2, k3⟩ := zi_cutL hW hV hV2 hP hP1 hP2 (nI (zn_pc (zn_or (zb_H (zi_C nb nr sp td np kd nd fr to lg pb pm)) 100))) nr 1000 0 0 (iv 31 5) (av 32) (av 33) (av 34) (av 35) v0.2.1 v0.2.2.1 v0.2.2.2.1 v0.2.2.2.2 (by omega) (by omega)
    rw [ez, Option.bind_some, if_pos (show (0 : Int32) = 0 from rfl), if_neg ez2, h1, g1, Option.bind_some, Option.bind_some, zi_before6 (fun k hk => h3 k (by omega)), Option.bind_some, g2, zi_pc6 _ ho, zi_pc7 _ ho, Option.bind_some, Option.bind_some]
    rw [show nI 0 = (0 : Int32) from rfl] at k1 k2
    rw [k1, k2, Option.bind_some, Option.bind_some]
    exact ⟨_, _, rfl, rfl, k3, ⟨nb, nr, sp, td, np, nq, kd, nd, fr, to, lg, pb, pm, qb, qm, qi, hW, hV, hV2, hP, hP1, hP2, hQ, hQ2, hS0, hS1, hS2, hS3, hT, hF, Or.inr ⟨h2, h3⟩⟩⟩
/-! the fewest to be tied -/
theorem zi_p1 : ∀ s, s < 64 → ∀ d, d < 64 → ¬ s &&& d = 0 → (s ^^^ (s &&& d)) < s ∧ zn_pc (s ^^^ (s &&& d)) < zn_pc s ∧ d ||| (s ^^^ (s &&& d)) = d ||| s := by decide +kernel
theorem zi_p2 : ∀ a, a < 64 → ∀ s, s < 64 → s &&& a = s → zn_pc s = zn_pc a → s = a := by decide +kernel
theorem zi_p3 : ∀ nb, nb < 7 → ∀ d, d < 2 ^ nb → ∀ s, s < 2 ^ nb → s &&& d = 0 → s &&& ((2 ^ nb - 1) ^^^ d) = s := by decide +kernel
theorem zi_p4 : ∀ nb, nb < 7 → ∀ d, d < 2 ^ nb → nI (2 ^ nb - 1) &&& (nI d ^^^ -1) = nI ((2 ^ nb - 1) ^^^ d) ∧ d ||| ((2 ^ nb - 1) ^^^ d) = 2 ^ nb - 1 ∧ ((2 ^ nb - 1) ^^^ d) < 2 ^ nb ∧ ((2 ^ nb - 1) ^^^ d) &&& d = 0 := by decide +kernel
theorem zi_p5 : ∀ nb, nb < 7 → ∀ b, b < nb → (2 ^ nb - 1).testBit b = true := by decide +kernel
def zn_L (nb nr sp td np : Nat) (kd nd fr to lg pb pm : Nat → Nat) : Int32 := zn_last (zb_H (zi_C nb nr sp td np kd nd fr to lg pb pm)) 400
theorem zn_last_none {h : Nat → Nat → Bool} (e : ∀ k b, h k b = false) : ∀ n, zn_last h n = -9 := by
  intro n
  induction n with
  | zero => rfl
  | succ n ih =>
    have e0 : zb_set (h n) 6 = 0 := by
      apply Nat.eq_of_testBit_eq
      intro i
      rw [zb_set_bit, e, Bool.and_false, Nat.zero_testBit]
    rw [zn_last, if_pos e0, ih]
theorem zi_WT {nb nr sp td np nq : Nat} {kd nd fr to lg pb pm qb qm qi : Nat → Nat} (hW : zi_W nb nr sp td np nq kd nd fr to lg pb pm qb qm qi) {s : Nat} (hs : s < 2 ^ nb) : zi_W nb nr sp (td ||| s) np nq kd nd fr to lg pb pm qb qm qi := by
  obtain ⟨w1, w2, w3, w4, w5, w6⟩ := hW
  exact ⟨w1, w2, w3, w4, Nat.or_lt_two_pow w5 hs, w6⟩
theorem zi_lastTied {nb nr sp td np nq : Nat} {kd nd fr to lg pb pm qb qm qi : Nat → Nat} (hW : zi_W nb nr sp td np nq kd nd fr to lg pb pm qb qm qi) {b r p t : Int32} {k n f o l : Nat → Int32} (hV : zi_V nb nr sp td kd nd fr to lg b r p t k n f o l) {cnt : Int32} {pbs pms pts : Nat → Int32} (hP : zi_P np pb pm cnt pbs pms) (hP1 : ∀ p, p < np → pts p = nI 1) {s : Nat} (hs : s < 2 ^ nb) (ra uw ct cb : Nat → Int32) :
    ∃ u : Int32 × Int32 × (Nat → Int32) × (Nat → Int32) × (Nat → Int32) × (Nat → Int32), M_X6_lastMinuteTied b r p t cnt ra uw ct cb pms k pbs pts n f l o (nI s) = some u ∧ u.1 = zn_L nb nr sp (td ||| s) np kd nd fr to lg pb pm := by
  have hnr := hW.2.2.1
  have hW' := zi_WT hW hs
  have htd := zi_td64 hW'.2.1 hW'.2.2.2.2.1
  have hV' : zi_V nb nr sp (td ||| s) kd nd fr to lg b r p (nI (td ||| s)) k n f o l := ⟨hV.1, hV.2.1, hV.2.2.1, rfl, hV.2.2.2.2⟩
  obtain ⟨w, h1, h2⟩ := zc_play (zi_okC hW') (e := 400) (by decide) (zi_VC hV') (zi_PC hW' hP hP1) (tied := nI (td ||| s)) ⟨td ||| s, by omega, rfl, fun _ _ => rfl⟩ (ropes := nI (2 ^ nr - 1)) ⟨2 ^ nr - 1, by have := zi_maskLt hnr; omega, rfl, fun r _ => Nat.testBit_two_pow_sub_one nr r⟩ ra uw ct cb
  unfold M_X6_lastMinuteTied
  refine ⟨(zn_L nb nr sp (td ||| s) np kd nd fr to lg pb pm, w.1, w.2.1, w.2.2.1, w.2.2.2.1, w.2.2.2.2), ?_, rfl⟩
  rw [hV.2.1, zi_allRopes hnr, Option.bind_some, hV.2.2.2.1, q_or]
  show (M_X0_play ra uw ct cb cnt pms b p k pbs pts n f l o (nI (td ||| s)) (nI (2 ^ nr - 1)) (nI 400)).bind _ = _
  rw [h1, Option.bind_some, zi_last6 h2, Option.bind_some]
  rfl
def zn_IC (ok : Nat → Prop) (i : Nat) (best : Int32) : Prop := (best = -9 ∧ ∀ m, m < i → ¬ ok m) ∨ ∃ s, s < i ∧ best = nI s ∧ ok s ∧ ∀ m, m < i → ok m → zn_pc s ≤ zn_pc m ∧ (zn_pc m = zn_pc s → s ≤ m)
theorem zi_stillC {nb nr sp td np nq : Nat} {kd nd fr to lg pb pm qb qm qi : Nat → Nat} (hW : zi_W nb nr sp td np nq kd nd fr to lg pb pm qb qm qi) {b r p t : Int32} {k n f o l : Nat → Int32} (hV : zi_V nb nr sp td kd nd fr to lg b r p t k n f o l) {cnt : Int32} {pbs pms pts : Nat → Int32} (hP : zi_P np pb pm cnt pbs pms) (hP1 : ∀ p, p < np → pts p = nI 1) (x1 : Int32) :
    ∀ (d g i : Nat) (best tld : Int32) (tr tu tc tcb : Nat → Int32), i + d = 2 ^ nb → d < g → zn_IC (fun m => ¬ x1 < zn_L nb nr sp (td ||| m) np kd nd fr to lg pb pm) i best →
      ∃ (u : Int32 × Int32 × Int32 × (Nat → Int32) × (Nat → Int32) × (Nat → Int32) × (Nat → Int32)), L_X6_still_29 x1 b r p t cnt pms k pbs pts n f l o g best (nI i) tld tr tu tc tcb = some u ∧ zn_IC (fun m => ¬ x1 < zn_L nb nr sp (td ||| m) np kd nd fr to lg pb pm) (2 ^ nb) u.1 := by
  have hnb := hW.2.1
  obtain ⟨h64, h1p⟩ := zi_p64 hnb
  have a1 := (zi_all hnb hV.1).1
  intro d
  induction d with
  | zero =>
    intro g i best tld tr tu tc tcb hi hg hI
    cases g with
    | zero => exact absurd hg (Nat.not_lt_zero _)
    | succ g =>
      rw [L_X6_still_29, a1, Option.bind_some, if_pos (nI_lt (by omega) (by omega))]
      refine ⟨_, rfl, ?_⟩
      rw [← hi]
      exact hI
  | succ d ih =>
    intro g i best tld tr tu tc tcb hi hg hI
    cases g with
    | zero => exact absurd hg (Nat.not_lt_zero _)
    | succ g =>
      obtain ⟨u1, e1, e2⟩ := zi_lastTied hW hV hP hP1 (s := i) (by omega) tr tu tc tcb
      rw [L_X6_still_29, a1, Option.bind_some, if_neg (nI_nlt (by omega) (by omega)), e1]
      simp only [nme, nI_1]
      rcases hI with ⟨rfl, hno⟩ | ⟨s, hs, rfl, hok, hmin⟩
      · rw [zi_isFewer9, Option.bind_some, if_neg (show ¬ (1 : Int32) = 0 by decide), Option.bind_some, e2]
        by_cases hc : x1 < zn_L nb nr sp (td ||| i) np kd nd fr to lg pb pm
        · rw [if_pos hc]
          refine ih g (i + 1) _ _ _ _ _ _ (by omega) (by omega) (Or.inl ⟨rfl, fun m hm => ?_⟩)
          by_cases h : m = i
          · subst h
            exact fun z => z hc
          · exact hno m (by omega)
        · rw [if_neg hc]
          refine ih g (i + 1) _ _ _ _ _ _ (by omega) (by omega) (Or.inr ⟨i, by omega, rfl, hc, fun m hm hm2 => ?_⟩)
          by_cases h : m = i
          · subst h
            exact ⟨Nat.le_refl _, fun _ => Nat.le_refl _⟩
          · exact absurd hm2 (hno m (by omega))
      · rw [zi_isFewer (by omega) (by omega), Option.bind_some]
        by_cases h : zn_pc s ≤ zn_pc i
        · rw [if_pos h, if_pos (show (0 : Int32) = 0 from rfl)]
          refine ih g (i + 1) _ _ _ _ _ _ (by omega) (by omega) (Or.inr ⟨s, by omega, rfl, hok, fun m hm hm2 => ?_⟩)
          by_cases h4 : m = i
          · subst h4
            exact ⟨h, fun _ => by omega⟩
          · exact hmin m (by omega) hm2
        · rw [if_neg h, if_neg (show ¬ (1 : Int32) = 0 by decide), Option.bind_some, e2]
          by_cases hc : x1 < zn_L nb nr sp (td ||| i) np kd nd fr to lg pb pm
          · rw [if_pos hc]
            refine ih g (i + 1) _ _ _ _ _ _ (by omega) (by omega) (Or.inr ⟨s, by omega, rfl, hok, fun m hm hm2 => ?_⟩)
            by_cases h4 : m = i
            · subst h4
              exact absurd hc hm2
            · exact hmin m (by omega) hm2
          · rw [if_neg hc]
            refine ih g (i + 1) _ _ _ _ _ _ (by omega) (by omega) (Or.inr ⟨i, by omega, rfl, hc, fun m hm hm2 => ?_⟩)
            by_cases h4 : m = i
            · subst h4
              exact ⟨Nat.le_refl _, fun _ => Nat.le_refl _⟩
            · have := (hmin m (by omega) hm2).1
              exact ⟨by omega, fun z => by omega⟩
def zn_IR (ok : Nat → Prop) (td A i s : Nat) : Prop := (s = A ∧ ∀ m, m < i → m &&& td = 0 → ok m → zn_pc A ≤ zn_pc m) ∨ (s < i ∧ s &&& td = 0 ∧ ok s ∧ ∀ m, m < i → m &&& td = 0 → ok m → zn_pc s ≤ zn_pc m ∧ (zn_pc m = zn_pc s → s ≤ m))
theorem zi_stillR {nb nr sp td np nq : Nat} {kd nd fr to lg pb pm qb qm qi : Nat → Nat} (hW : zi_W nb nr sp td np nq kd nd fr to lg pb pm qb qm qi) {b r p t : Int32} {k n f o l : Nat → Int32} (hV : zi_V nb nr sp td kd nd fr to lg b r p t k n f o l) {cnt : Int32} {pbs pms : Nat → Int32} (hP : zi_P np pb pm cnt pbs pms) (x1 : Int32) {A : Nat} (hA : A < 64) :
    ∀ (d g i s : Nat) (tt : Int32) (lr hs sw pe : Nat → Int32), i + d = 2 ^ nb → d < g → zn_IR (fun m => ¬ x1 < zn_L nb nr sp (td ||| m) np kd nd fr to lg pb pm) td A i s →
      ∃ (s' : Nat) (v : Int32 × Int32 × Int32 × (Nat → Int32) × (Nat → Int32) × (Nat → Int32) × (Nat → Int32)), L_X7_still_42 x1 (nI td) b r p cnt pbs pms k n l f o g (nI s) (nI i) tt lr hs sw pe = some v ∧ v.1 = nI s' ∧ zn_IR (fun m => ¬ x1 < zn_L nb nr sp (td ||| m) np kd nd fr to lg pb pm) td A (2 ^ nb) s' := by
  have hnb := hW.2.1
  obtain ⟨h64, h1p⟩ := zi_p64 hnb
  have htd := zi_td64 hnb hW.2.2.2.2.1
  have a1 := (zi_all hnb hV.1).2
  intro d
  induction d with
  | zero =>
    intro g i s tt lr hs sw pe hi hg hI
    cases g with
    | zero => exact absurd hg (Nat.not_lt_zero _)
    | succ g =>
      rw [L_X7_still_42, a1, Option.bind_some, if_pos (nI_lt (by omega) (by omega))]
      refine ⟨s, _, rfl, rfl, ?_⟩
      rw [← hi]
      exact hI
  | succ d ih =>
    intro g i s tt lr hs sw pe hi hg hI
    cases g with
    | zero => exact absurd hg (Nat.not_lt_zero _)
    | succ g =>
      have hs64 : s < 64 := by
        rcases hI with ⟨rfl, -⟩ | ⟨h, -⟩
        · exact hA
        · omega
      have hW' := zi_WT hW (s := i) (by omega)
      have hV' : zi_V nb nr sp (td ||| i) kd nd fr to lg b r p (nI (td ||| i)) k n f o l := ⟨hV.1, hV.2.1, hV.2.2.1, rfl, hV.2.2.2.2⟩
      obtain ⟨v1, e1, e2⟩ := zi_goP hW' hV' hP lr hs sw pe
      have eL : M_X7_lastNow v1.2.2.2 = some (zn_L nb nr sp (td ||| i) np kd nd fr to lg pb pm) := zi_last7 e2
      have hand : nI i &&& nI td = 0 ↔ i &&& td = 0 := by
        rw [q_and]
        exact zi_eq0 (Nat.lt_of_le_of_lt Nat.and_le_left (by omega))
      have q1 := zn_pc_le s
      have q2 := zn_pc_le i
      rw [L_X7_still_42, a1, Option.bind_some, if_neg (nI_nlt (by omega) (by omega)), zi_pc7 i (by omega), zi_pc7 s hs64]
      simp only [nme, nI_1, Option.bind_some, q_or]
      rw [e1]
      simp only [Option.bind_some]
      rw [eL]
      simp only [Option.bind_some]
      by_cases h1 : i &&& td = 0
      · rw [if_pos (hand.mpr h1)]
        by_cases h2 : zn_pc s ≤ zn_pc i
        · rw [if_pos (nI_le h2 (by omega))]
          refine ih g (i + 1) s _ _ _ _ _ (by omega) (by omega) ?_
          rcases hI with ⟨rfl, hmin⟩ | ⟨h3, h4, h5, hmin⟩
          · refine Or.inl ⟨rfl, fun m hm g1 g2 => ?_⟩
            by_cases h6 : m = i
            · subst h6
              exact h2
            · exact hmin m (by omega) g1 g2
          · refine Or.inr ⟨by omega, h4, h5, fun m hm g1 g2 => ?_⟩
            by_cases h6 : m = i
            · subst h6
              exact ⟨h2, fun _ => by omega⟩
            · exact hmin m (by omega) g1 g2
        · rw [if_neg (nI_ge (by omega) (by omega))]
          by_cases hc : x1 < zn_L nb nr sp (td ||| i) np kd nd fr to lg pb pm
          · rw [if_pos hc]
            refine ih g (i + 1) s _ _ _ _ _ (by omega) (by omega) ?_
            rcases hI with ⟨rfl, hmin⟩ | ⟨h3, h4, h5, hmin⟩
            · refine Or.inl ⟨rfl, fun m hm g1 g2 => ?_⟩
              by_cases h6 : m = i
              · subst h6
                exact absurd hc g2
              · exact hmin m (by omega) g1 g2
            · refine Or.inr ⟨by omega, h4, h5, fun m hm g1 g2 => ?_⟩
              by_cases h6 : m = i
              · subst h6
                exact absurd hc g2
              · exact hmin m (by omega) g1 g2
          · rw [if_neg hc]
            refine ih g (i + 1) i _ _ _ _ _ (by omega) (by omega) (Or.inr ⟨by omega, h1, hc, fun m hm g1 g2 => ?_⟩)
            by_cases h6 : m = i
            · subst h6
              exact ⟨Nat.le_refl _, fun _ => Nat.le_refl _⟩
            · have h7 : zn_pc s ≤ zn_pc m := by
                rcases hI with ⟨rfl, hmin⟩ | ⟨h3, h4, h5, hmin⟩
                · exact hmin m (by omega) g1 g2
                · exact (hmin m (by omega) g1 g2).1
              exact ⟨by omega, fun z => by omega⟩
      · rw [if_neg (fun z => h1 (hand.mp z))]
        refine ih g (i + 1) s _ _ _ _ _ (by omega) (by omega) ?_
        rcases hI with ⟨rfl, hmin⟩ | ⟨h3, h4, h5, hmin⟩
        · refine Or.inl ⟨rfl, fun m hm g1 g2 => ?_⟩
          by_cases h6 : m = i
          · subst h6
            exact absurd g1 h1
          · exact hmin m (by omega) g1 g2
        · refine Or.inr ⟨by omega, h4, h5, fun m hm g1 g2 => ?_⟩
          by_cases h6 : m = i
          · subst h6
            exact absurd g1 h1
          · exact hmin m (by omega) g1 g2
theorem eq_still : EQ_still zi_Inv := by
  intro iv av s1 hI
  obtain ⟨nb, nr, sp, td, np, nq, kd, nd, fr, to, lg, pb, pm, qb, qm, qi, hW, hV, hV2, hP, hP1, hP2, hQ, hQ2, hS0, hS1, hS2, hS3, hT, hF, hH⟩ := hI
  have hnb := hW.2.1
  have hnr := hW.2.2.1
  have htd2 := hW.2.2.2.2.1
  obtain ⟨h64, h1p⟩ := zi_p64 hnb
  unfold M_X6_still M_X7_still
  rw [zi_inL 398 (by decide), Option.bind_some]
  rcases zi_rng s1 (n := 399) (by omega) with ⟨m, hm, rfl, h⟩ | ⟨k1, k2⟩ | ⟨k1, k2, k3⟩
  · rw [if_neg (nI_pos (by omega)), if_pos (show nI m < (399 : Int32) from nI_lt (b := 399) (by omega) (by decide)), if_pos (show 0 ≤ (nI m).toInt ∧ (nI m).toInt ≤ (398 : Int) by omega), if_neg (show ¬ (1 : Int32) = 0 by decide)]
    by_cases h0 : nb = 0
    · have ez : M_X6_hasNoValley (iv 1 5) = some 1 := by rw [hV.1, zi_noV hnb, if_pos h0]
      have ez2 : iv 45 1 = 0 := by rw [hV2.1, h0]; rfl
      rw [ez, Option.bind_some, if_neg (show ¬ (1 : Int32) = 0 by decide), if_pos ez2]
      exact ⟨_, _, rfl, rfl, rfl, ⟨nb, nr, sp, td, np, nq, kd, nd, fr, to, lg, pb, pm, qb, qm, qi, hW, hV, hV2, hP, hP1, hP2, hQ, hQ2, hS0, hS1, hS2, hS3, hT, hF, hH⟩⟩
    · have ez : M_X6_hasNoValley (iv 1 5) = some 0 := by rw [hV.1, zi_noV hnb, if_neg h0]
      have ez2 : ¬ iv 45 1 = 0 := by rw [hV2.1]; exact nI_ne0 (by omega) (by omega)
      obtain ⟨p1, p2, p3, p4⟩ := zi_p4 nb (by omega) td htd2
      obtain ⟨u, c1, c2⟩ := zi_stillC hW hV hP hP1 (nI m) (2 ^ nb) 1000 0 (-9) (iv 31 5) (av 32) (av 33) (av 34) (av 35) (by omega) (by omega) (Or.inl ⟨rfl, fun m hm => absurd hm (Nat.not_lt_zero _)⟩)
      obtain ⟨s', v, d1, d2, d3⟩ := zi_stillR hW hV2 hP2 (nI m) (A := (2 ^ nb - 1) ^^^ td) (by omega) (2 ^ nb) 1000 0 ((2 ^ nb - 1) ^^^ td) (nI td) (av 60) (av 61) (av 59) (av 58) (by omega) (by omega) (Or.inl ⟨rfl, fun m hm => absurd hm (Nat.not_lt_zero _)⟩)
      rw [show nI 0 = (0 : Int32) from rfl] at c1 d1
      rw [ez, Option.bind_some, if_pos (show (0 : Int32) = 0 from rfl), if_neg ez2, (zi_all hnb hV2.1).2, Option.bind_some, hV2.2.2.2.1, p1, c1]
      simp only [nme]
      rw [d1, Option.bind_some, Option.bind_some]
      refine ⟨_, _, rfl, rfl, ?_, ⟨nb, nr, sp, td, np, nq, kd, nd, fr, to, lg, pb, pm, qb, qm, qi, hW, hV, hV2, hP, hP1, hP2, hQ, hQ2, hS0, hS1, hS2, hS3, hT, hF, hH⟩⟩
      show u.1 = v.1
      have okA : ¬ nI m < zn_L nb nr sp (td ||| ((2 ^ nb - 1) ^^^ td)) np kd nd fr to lg pb pm := by
        have e9 : zn_L nb nr sp (td ||| ((2 ^ nb - 1) ^^^ td)) np kd nd fr to lg pb pm = -9 := by
          unfold zn_L
          refine zn_last_none (fun k b => ?_) 400
          rw [p2]
          by_cases hb : b < nb
          · rw [zb_H_eq]
            have e8 : zb_td (zi_C nb nr sp (2 ^ nb - 1) np kd nd fr to lg pb pm) b = true := zi_p5 nb (by omega) b hb
            unfold zb_rg
            rw [e8]
            simp
          · exact zb_H_nb (show nb ≤ b by omega)
        rw [e9, Int32.lt_iff_toInt_lt, nI_toInt (by omega), show (-9 : Int32).toInt = -9 from by decide]
        omega
      rcases c2 with ⟨-, hno⟩ | ⟨s, hs, hus, hok, hmin⟩
      · exact absurd okA (hno _ p3)
      · have hdis : s &&& td = 0 := by
          refine Classical.byContradiction (fun hne => ?_)
          obtain ⟨f1, f2, f3⟩ := zi_p1 s (by omega) td (zi_td64 hnb htd2) hne
          have := (hmin (s ^^^ (s &&& td)) (by omega) (by show ¬ nI m < zn_L nb nr sp (td ||| (s ^^^ (s &&& td))) np kd nd fr to lg pb pm; rw [f3]; exact hok)).1
          omega
        rw [hus, d2]
        refine congrArg nI ?_
        rcases d3 with ⟨rfl, hminR⟩ | ⟨t1, t2, t3, hminR⟩
        · have g1 := hminR s hs hdis hok
          have g2 := (hmin _ p3 okA).1
          exact zi_p2 _ (by omega) s (by omega) (zi_p3 nb (by omega) td htd2 s hs hdis) (by omega)
        · obtain ⟨g1, g2⟩ := hmin s' t1 t3
          obtain ⟨g3, g4⟩ := hminR s hs hdis hok
          have g5 := g2 (by omega)
          have g6 := g4 (by omega)
          omega
  · rw [if_pos k1, if_neg (show ¬ (0 ≤ s1.toInt ∧ s1.toInt ≤ (398 : Int)) by omega), if_pos (show (0 : Int32) = 0 from rfl)]
    exact ⟨_, _, rfl, rfl, rfl, ⟨nb, nr, sp, td, np, nq, kd, nd, fr, to, lg, pb, pm, qb, qm, qi, hW, hV, hV2, hP, hP1, hP2, hQ, hQ2, hS0, hS1, hS2, hS3, hT, hF, hH⟩⟩
  · rw [if_neg k1, if_neg (show ¬ s1 < (399 : Int32) by rw [Int32.lt_iff_toInt_lt]; show ¬ s1.toInt < (399 : Int); omega), if_neg (show ¬ (0 ≤ s1.toInt ∧ s1.toInt ≤ (398 : Int)) by omega), if_pos (show (0 : Int32) = 0 from rfl)]
    exact ⟨_, _, rfl, rfl, rfl, ⟨nb, nr, sp, td, np, nq, kd, nd, fr, to, lg, pb, pm, qb, qm, qi, hW, hV, hV2, hP, hP1, hP2, hQ, hQ2, hS0, hS1, hS2, hS3, hT, hF, hH⟩⟩
