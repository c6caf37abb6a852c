/-- the bells that ring ahead of minute n, as a set -/
def zn_or (h : Nat → Nat → Bool) : Nat → Nat
  | 0 => 0
  | n + 1 => zn_or h n ||| zb_set (h n) 6
theorem zn_or_lt (h : Nat → Nat → Bool) : ∀ n, zn_or h n < 64 := by
  intro n
  induction n with
  | zero =>
    show 0 < 64
    decide
  | succ n ih => exact Nat.or_lt_two_pow (n := 6) ih (zb_set_lt _ 6)
theorem zn_or_cong {h h' : Nat → Nat → Bool} : ∀ {n : Nat}, (∀ k, k < n → ∀ b, h k b = h' k b) → zn_or h n = zn_or h' n := by
  intro n
  induction n with
  | zero => intro _; rfl
  | succ n ih =>
    intro e
    rw [zn_or, zn_or, ih (fun k hk => e k (by omega)), zb_set_cong (fun b _ => e n (by omega) b)]
theorem zi_before6 {h : Nat → Nat → Bool} {rang : Nat → Int32} (hr : ∀ k, k < 100 → rang k = nI (zb_set (h k) 6)) : M_X0_bellsBefore rang 100 = some (nI (zn_or h 100)) := by
  have key : ∀ d f k, k + d = 100 → d < f → L_X0_bellsBefore_4 100 rang f (nI (zn_or h k)) (nI k) = some (nI (zn_or h 100), nI 100) := by
    intro d
    induction d with
    | zero =>
      intro f k hk1 hf
      cases f with
      | zero => exact absurd hf (Nat.not_lt_zero _)
      | succ f =>
        have e : k = 100 := by omega
        subst e
        rw [L_X0_bellsBefore_4, if_pos (show (100 : Int32) ≤ nI 100 by decide)]
    | succ d ih =>
      intro f k hk1 hf
      cases f with
      | zero => exact absurd hf (Nat.not_lt_zero _)
      | succ f =>
        rw [L_X0_bellsBefore_4, if_neg (show ¬ (100 : Int32) ≤ nI k from nI_ge (b := 100) (by omega) (by omega)), q_gB (by omega) (by decide), nI_clamp (by omega), hr k (by omega), q_or, nI_1]
        exact ih f (k + 1) (by omega) (by omega)
  unfold M_X0_bellsBefore
  show (L_X0_bellsBefore_4 100 rang 1000 (nI (zn_or h 0)) (nI 0)).bind _ = _
  rw [key 100 1000 0 (by omega) (by omega)]
  rfl
theorem zi_before7 {h : Nat → Nat → Bool} {pe : Nat → Int32} (hr : ∀ k, k < 100 → pe k = nI (zb_set (h k) 6)) : L_X7_rung_13 pe 1000 0 0 = some (nI (zn_or h 100), nI 100) := by
  have key : ∀ d f k, k + d = 100 → d < f → L_X7_rung_13 pe f (nI (zn_or h k)) (nI k) = some (nI (zn_or h 100), nI 100) := by
    intro d
    induction d with
    | zero =>
      intro f k hk1 hf
      cases f with
      | zero => exact absurd hf (Nat.not_lt_zero _)
      | succ f =>
        have e : k = 100 := by omega
        subst e
        rw [L_X7_rung_13, if_pos (show (100 : Int32) ≤ nI 100 by decide)]
    | succ d ih =>
      intro f k hk1 hf
      cases f with
      | zero => exact absurd hf (Nat.not_lt_zero _)
      | succ f =>
        rw [L_X7_rung_13, if_neg (show ¬ (100 : Int32) ≤ nI k from nI_ge (b := 100) (by omega) (by omega)), q_gB (by omega) (by decide), nI_clamp (by omega), hr k (by omega), q_or]
        simp only [nme]
        rw [nI_1]
        exact ih f (k + 1) (by omega) (by omega)
  exact key 100 1000 0 (by omega) (by omega)
def zn_pc (s : Nat) : Nat := zb_sum (fun i => (s.testBit i).toNat) 6
theorem zi_pc6 : ∀ s, s < 64 → M_J6_bitCount_0f7a4 (nI s) = some (nI (zn_pc s)) := by decide +kernel
theorem zi_pc7 : ∀ s, s < 64 → M_X7_bits (nI s) = some (nI (zn_pc s)) := by decide +kernel
theorem zn_pc_le (s : Nat) : zn_pc s ≤ 6 := by
  have := zb_sum_max (f := fun i => (s.testBit i).toNat) (k := 1) (n := 6) (fun i _ => Bool.toNat_le _)
  unfold zn_pc
  omega
/-! a set of bells, each pulled as often as it needs, at minute 0 -/
def zi_CS (nb nr sp td s : Nat) (kd nd fr to lg : Nat → Nat) : zb_C := (nb, sp, kd, nd, (fun b => td.testBit b), (fun r => decide (r < nr)), fr, to, lg, fun m b => if m = 0 ∧ b < nb ∧ s.testBit b = true then (if kd b = 0 then nd b else nd b + 1) else 0)
theorem zi_okS {nb nr sp td np nq : Nat} {kd nd fr to lg pb pm qb qm qi : Nat → Nat} (hW : zi_W nb nr sp td np nq kd nd fr to lg pb pm qb qm qi) (s : Nat) : zb_ok (zi_CS nb nr sp td s kd nd fr to lg) := by
  obtain ⟨w1, w2, w3, w4, w5, w6, w7, w8, w9, w10, w11⟩ := hW
  refine ⟨w2, w4, w8, fun r hr hon => w9 r (of_decide_eq_true hon), fun m b => ?_⟩
  show (if m = 0 ∧ b < nb ∧ s.testBit b = true then (if kd b = 0 then nd b else nd b + 1) else 0) ≤ 100
  by_cases h : m = 0 ∧ b < nb ∧ s.testBit b = true
  · rw [if_pos h]
    have := (w8 b h.2.1).2.2
    split <;> omega
  · rw [if_neg h]
    exact Nat.zero_le _
theorem zi_pdCong {pb pm pt pb' pm' pt' : Nat → Nat} {m b n : Nat} (h : ∀ p, p < n → pb p = pb' p ∧ pm p = pm' p ∧ pt p = pt' p) : zb_pd pb pm pt m b n = zb_pd pb' pm' pt' m b n := by
  unfold zb_pd
  refine zb_sum_cong (fun p hp => ?_)
  obtain ⟨h1, h2, h3⟩ := h p hp
  rw [h1, h2, h3]
theorem zi_playSetL {nb s : Nat} (hnb : nb ≤ 6) (hs : s < 2 ^ 31) {kinds needs : Nat → Int32} {kd nd : Nat → Nat} (hk : ∀ b, b < nb → kinds b = nI (kd b) ∧ kd b ≤ 2 ∧ needs b = nI (nd b)) (ba ma ta : Nat → Int32) :
    ∃ (u : Int32 × Int32 × (Nat → Int32) × (Nat → Int32) × (Nat → Int32)) (np : Nat) (pb pt : Nat → Nat), L_X6_playSet_10 (nI s) (nI nb) kinds needs 1000 0 0 ba ma ta = some u ∧ np ≤ 6 ∧ u.2.1 = nI np ∧ (∀ p, p < np → u.2.2.1 p = nI (pb p) ∧ pb p < nb ∧ u.2.2.2.1 p = nI 0 ∧ u.2.2.2.2 p = nI (pt p)) ∧ ∀ m b, zb_pd pb (fun _ => 0) pt m b np = if m = 0 ∧ b < nb ∧ s.testBit b = true then (if kd b = 0 then nd b else nd b + 1) else 0 := by
  have key : ∀ d f k np pb pt ba ma ta, k + d = nb → d < f → np ≤ k → (∀ p, p < np → ba p = nI (pb p) ∧ pb p < nb ∧ ma p = nI 0 ∧ ta p = nI (pt p)) → (∀ m b, zb_pd pb (fun _ => 0) pt m b np = if m = 0 ∧ b < k ∧ s.testBit b = true then (if kd b = 0 then nd b else nd b + 1) else 0) →
      ∃ (u : Int32 × Int32 × (Nat → Int32) × (Nat → Int32) × (Nat → Int32)) (nq : Nat) (qb qt : Nat → Nat), L_X6_playSet_10 (nI s) (nI nb) kinds needs f (nI k) (nI np) ba ma ta = some u ∧ nq ≤ 6 ∧ u.2.1 = nI nq ∧ (∀ p, p < nq → u.2.2.1 p = nI (qb p) ∧ qb p < nb ∧ u.2.2.2.1 p = nI 0 ∧ u.2.2.2.2 p = nI (qt p)) ∧ ∀ m b, zb_pd qb (fun _ => 0) qt m b nq = if m = 0 ∧ b < nb ∧ s.testBit b = true then (if kd b = 0 then nd b else nd b + 1) else 0 := by
    intro d
    induction d with
    | zero =>
      intro f k np pb pt ba ma ta hk1 hf hnp hp hpl
      cases f with
      | zero => exact absurd hf (Nat.not_lt_zero _)
      | succ f =>
        have e : k = nb := by omega
        subst e
        refine ⟨(nI k, nI np, ba, ma, ta), np, pb, pt, ?_, by omega, rfl, hp, hpl⟩
        rw [L_X6_playSet_10, if_pos (nI_le (Nat.le_refl _) (by omega))]
    | succ d ih =>
      intro f k np pb pt ba ma ta hk1 hf hnp hp hpl
      cases f with
      | zero => exact absurd hf (Nat.not_lt_zero _)
      | succ f =>
        obtain ⟨h1, h2, h3⟩ := hk k (by omega)
        rw [L_X6_playSet_10, if_neg (nI_ge (by omega) (by omega))]
        simp only [nme]
        by_cases h4 : s.testBit k = true
        · rw [if_neg (fun z => by rw [(q_bit0 hs (by omega)).mp z] at h4; cases h4), zc_swingsFor (by omega) h1 h2 h3, Option.bind_some]
          have e3 : ∀ (x : Int32), M_X1_add (nI np) ba ma ta (nI k) 0 x = some (nI (np + 1), upd ba np (nI k), upd ma np 0, upd ta np x) := by
            intro x
            unfold M_X1_add
            rw [if_neg (show ¬ (6 : Int32) ≤ nI np from nI_ge (b := 6) (by omega) (by decide)), q_gB (by omega) (by decide), nI_clamp (by omega)]
            simp only [nme]
            rw [q_gB (by omega) (by decide), q_gB (by omega) (by decide), nI_1]
          rw [e3, Option.bind_some, nI_1]
          refine ih f (k + 1) (np + 1) (fun p => if p = np then k else pb p) (fun p => if p = np then (if kd k = 0 then nd k else nd k + 1) else pt p) _ _ _ (by omega) (by omega) (by omega) (fun p hp1 => ?_) (fun m b => ?_)
          · by_cases h7 : p = np
            · subst h7
              simp only [pk_us, if_true]
              exact ⟨trivial, by omega, rfl, trivial⟩
            · simp only [pk_un h7, if_neg h7]
              exact hp p (by omega)
          · have e4 : zb_pd (fun p => if p = np then k else pb p) (fun _ => 0) (fun p => if p = np then (if kd k = 0 then nd k else nd k + 1) else pt p) m b (np + 1) = zb_pd pb (fun _ => 0) pt m b np + (if 0 = m ∧ k = b then (if kd k = 0 then nd k else nd k + 1) else 0) := by
              have e5 : zb_pd (fun p => if p = np then k else pb p) (fun _ => 0) (fun p => if p = np then (if kd k = 0 then nd k else nd k + 1) else pt p) m b np = zb_pd pb (fun _ => 0) pt m b np := zi_pdCong (fun p hp1 => by
                have h7 : ¬ p = np := by omega
                simp only [if_neg h7]
                exact ⟨trivial, trivial, trivial⟩)
              unfold zb_pd at e5 ⊢
              rw [zb_sum, e5]
              simp only [if_true]
            rw [e4, hpl]
            by_cases hm : m = 0
            · by_cases hb : b = k
              · subst hb
                rw [if_neg (show ¬ (m = 0 ∧ b < b ∧ s.testBit b = true) from fun z => absurd z.2.1 (Nat.lt_irrefl b)), if_pos (show 0 = m ∧ b = b from ⟨hm.symm, rfl⟩), if_pos (show m = 0 ∧ b < b + 1 ∧ s.testBit b = true from ⟨hm, by omega, h4⟩), Nat.zero_add]
              · have h8 : (m = 0 ∧ b < k ∧ s.testBit b = true) ↔ (m = 0 ∧ b < k + 1 ∧ s.testBit b = true) := ⟨fun z => ⟨z.1, by omega, z.2.2⟩, fun z => ⟨z.1, by omega, z.2.2⟩⟩
                simp only [h8]
                rw [if_neg (show ¬ (0 = m ∧ k = b) from fun z => hb z.2.symm), Nat.add_zero]
            · rw [if_neg (fun z => hm z.1), if_neg (fun z => hm z.1.symm), if_neg (fun z => hm z.1)]
        · have h5 : s.testBit k = false := by simpa using h4
          rw [if_pos ((q_bit0 hs (by omega)).mpr h5), nI_1]
          refine ih f (k + 1) np pb pt ba ma ta (by omega) (by omega) (by omega) hp (fun m b => ?_)
          rw [hpl]
          by_cases hb : b = k
          · subst hb
            rw [if_neg (by omega), if_neg (fun z => h4 z.2.2)]
          · have h8 : (m = 0 ∧ b < k ∧ s.testBit b = true) ↔ (m = 0 ∧ b < k + 1 ∧ s.testBit b = true) := ⟨fun z => ⟨z.1, by omega, z.2.2⟩, fun z => ⟨z.1, by omega, z.2.2⟩⟩
            simp only [h8]
  exact key nb 1000 0 0 (fun _ => 0) (fun _ => 0) ba ma ta (by omega) (by omega) (Nat.le_refl _) (fun p hp => absurd hp (Nat.not_lt_zero _)) (fun m b => by
    rw [if_neg (by omega)]
    rfl)
theorem zi_VS {nb nr sp td s : Nat} {kd nd fr to lg : Nat → Nat} {b r p t : Int32} {k n f o l : Nat → Int32} (hV : zi_V nb nr sp td kd nd fr to lg b r p t k n f o l) : zc_V (zi_CS nb nr sp td s kd nd fr to lg) b p k n f l o := by
  obtain ⟨v1, v2, v3, v4, v5, v6⟩ := hV
  exact ⟨v1, v3, v5, fun r _ hon => v6 r (of_decide_eq_true hon)⟩
/-- the class's course by a set -/
theorem zi_playSet {nb nr sp td np nq : Nat} {kd nd fr to lg pb pm qb qm qi : Nat → Nat} (hW : zi_W nb nr sp td np nq kd nd fr to lg pb pm qb qm qi) {b r p t : Int32} {k n f o l : Nat → Int32} (hV : zi_V nb nr sp td kd nd fr to lg b r p t k n f o l) {s e : Nat} (hs : s < 2 ^ 31) (he : e ≤ 400) (ba ma ta ra uw ct cb : Nat → Int32) :
    ∃ u : Int32 × (Nat → Int32) × (Nat → Int32) × (Nat → Int32) × Int32 × (Nat → Int32) × (Nat → Int32) × (Nat → Int32) × (Nat → Int32), M_X6_playSet b r p t k n ba ma ta ra uw ct cb f l o (nI s) (nI e) = some u ∧ ∀ m, m < e → u.2.2.2.2.2.1 m = nI (zb_set (zb_H (zi_CS nb nr sp td s kd nd fr to lg) m) 6) := by
  have hnb := hW.2.1
  have htd := zi_td64 hnb hW.2.2.2.2.1
  have hnr := hW.2.2.1
  obtain ⟨u, np2, pb2, pt2, h1, h2, h3, h4, h5⟩ := zi_playSetL hnb hs (kinds := k) (needs := n) (kd := kd) (nd := nd) (fun x hx => ⟨(hV.2.2.2.2.1 x hx).1, (hW.2.2.2.2.2.2.2.1 x hx).1, (hV.2.2.2.2.1 x hx).2⟩) ba ma ta
  obtain ⟨w, g1, g2⟩ := zc_play (zi_okS hW s) he (zi_VS hV) (count := u.2.1) (pbells := u.2.2.1) (pmins := u.2.2.2.1) (ptimes := u.2.2.2.2) ⟨np2, pb2, fun _ => 0, pt2, h2, h3, fun p hp => ⟨(h4 p hp).1, (h4 p hp).2.1, (h4 p hp).2.2.1, (show (0 : Nat) < 100 by decide), (h4 p hp).2.2.2⟩, fun m b => (h5 m b).symm⟩ (tied := t) ⟨td, by omega, hV.2.2.2.1, fun _ _ => rfl⟩ (ropes := nI (2 ^ nr - 1)) ⟨2 ^ nr - 1, by have := zi_maskLt hnr; omega, rfl, fun r _ => Nat.testBit_two_pow_sub_one nr r⟩ ra uw ct cb
  refine ⟨(u.2.1, u.2.2.1, u.2.2.2.1, u.2.2.2.2, w.1, w.2.1, w.2.2.1, w.2.2.2.1, w.2.2.2.2), ?_, g2⟩
  unfold M_X6_playSet
  rw [hV.1, h1, Option.bind_some, hV.2.1, zi_allRopes hnr, Option.bind_some, ← hV.1, g1]
  rfl
theorem zi_ringEarly {nb nr sp td np nq : Nat} {kd nd fr to lg pb pm qb qm qi : Nat → Nat} (hW : zi_W nb nr sp td np nq kd nd fr to lg pb pm qb qm qi) {b r p t : Int32} {k n f o l : Nat → Int32} (hV : zi_V nb nr sp td kd nd fr to lg b r p t k n f o l) {s : Nat} (hs : s < 2 ^ 31) (ba ma ta ra uw ct cb : Nat → Int32) :
    ∃ u : Int32 × Int32 × Int32 × (Nat → Int32) × (Nat → Int32) × (Nat → Int32) × (Nat → Int32) × (Nat → Int32) × (Nat → Int32) × (Nat → Int32), M_X6_ringEarlyBy b r p t k n ba ma ta ra uw ct cb f l o (nI s) = some u ∧ u.1 = nI (zn_or (zb_H (zi_CS nb nr sp td s kd nd fr to lg)) 100) := by
  obtain ⟨u, h1, h2⟩ := zi_playSet hW hV hs (e := 100) (by decide) ba ma ta ra uw ct cb
  unfold M_X6_ringEarlyBy
  refine ⟨(nI (zn_or (zb_H (zi_CS nb nr sp td s kd nd fr to lg)) 100), u.1, u.2.2.2.2.1, u.2.1, u.2.2.1, u.2.2.2.1, u.2.2.2.2.2.1, u.2.2.2.2.2.2.1, u.2.2.2.2.2.2.2.1, u.2.2.2.2.2.2.2.2), ?_, ?_⟩
  · show (M_X6_playSet b r p t k n ba ma ta ra uw ct cb f l o (nI s) (nI 100)).bind _ = _
    rw [h1, Option.bind_some, zi_before6 h2, Option.bind_some]
  · rfl
theorem zi_RS {nb nr sp td s : Nat} {kd nd fr to lg : Nat → Nat} {b r p t : Int32} {k n f o l : Nat → Int32} (hnr : nr ≤ 8) (hV : zi_V nb nr sp td kd nd fr to lg b r p t k n f o l) : zr_V (zi_CS nb nr sp td s kd nd fr to lg) nr b p (-9) k n f l o := by
  obtain ⟨v1, v2, v3, v4, v5, v6⟩ := hV
  refine ⟨by omega, v1, v3, v5, fun r _ hon => v6 r (of_decide_eq_true hon), fun r hr => ⟨fun hon => ⟨of_decide_eq_true hon, ?_⟩, fun z => decide_eq_true z.1⟩⟩
  intro z
  have h3 : (nI r).toInt = (-9 : Int32).toInt := by rw [z]
  rw [nI_toInt (by omega), show (-9 : Int32).toInt = -9 from by decide] at h3
  omega
theorem zi_PS {nb nr sp td s : Nat} {kd nd fr to lg : Nat → Nat} (hs : s < 2 ^ 31) (c : Int32) (b m : Nat → Int32) : zr_P (zi_CS nb nr sp td s kd nd fr to lg) (nI s) c b m := by
  refine Or.inr ⟨s, hs, rfl, fun m b hb => ?_⟩
  show (if m = 0 ∧ b < nb ∧ s.testBit b = true then (if kd b = 0 then nd b else nd b + 1) else 0) = _
  by_cases h : m = 0 ∧ s.testBit b = true
  · rw [if_pos ⟨h.1, hb, h.2⟩, if_pos h]
    rfl
  · rw [if_neg (fun z => h ⟨z.1, z.2.2⟩), if_neg h]
/-- the reference's course by a set -/
theorem zi_goSet {nb nr sp td np nq : Nat} {kd nd fr to lg pb pm qb qm qi : Nat → Nat} (hW : zi_W nb nr sp td np nq kd nd fr to lg pb pm qb qm qi) {b r p t : Int32} {k n f o l : Nat → Int32} (hV : zi_V nb nr sp td kd nd fr to lg b r p t k n f o l) {s e : Nat} (hs : s < 2 ^ 31) (he : e ≤ 400) (cnt : Int32) (lr hs2 sw pe pbs pms : Nat → Int32) :
    ∃ v : (Nat → Int32) × (Nat → Int32) × (Nat → Int32) × (Nat → Int32), M_X7_go b t r p cnt lr hs2 sw pe pbs pms k n l f o (nI e) (nI s) (-9) = some v ∧ ∀ m, m < e → v.2.2.2 m = nI (zb_set (zb_H (zi_CS nb nr sp td s kd nd fr to lg) m) 6) := by
  have htd := zi_td64 hW.2.1 hW.2.2.2.2.1
  have hnr := hW.2.2.1
  obtain ⟨v, h1, h2⟩ := zr_go (zi_okS hW s) he (zi_RS (s := s) hnr hV) (zi_PS hs cnt pbs pms) (tied := t) ⟨td, by omega, hV.2.2.2.1, fun _ _ => rfl⟩ lr hs2 sw pe
  refine ⟨v, ?_, h2⟩
  rw [hV.2.1]
  exact h1
theorem zi_rungSet {nb nr sp td np nq : Nat} {kd nd fr to lg pb pm qb qm qi : Nat → Nat} (hW : zi_W nb nr sp td np nq kd nd fr to lg pb pm qb qm qi) {b r p t : Int32} {k n f o l : Nat → Int32} (hV : zi_V nb nr sp td kd nd fr to lg b r p t k n f o l) {s : Nat} (hs : s < 2 ^ 31) (cnt : Int32) (lr hs2 sw pe pbs pms : Nat → Int32) :
    ∃ v : Int32 × (Nat → Int32) × (Nat → Int32) × (Nat → Int32) × (Nat → Int32), M_X7_rung b t r p cnt lr hs2 sw pe pbs pms k n l f o (nI s) (-9) = some v ∧ v.1 = nI (zn_or (zb_H (zi_CS nb nr sp td s kd nd fr to lg)) 100) := by
  obtain ⟨v, h1, h2⟩ := zi_goSet hW hV hs (e := 100) (by decide) cnt lr hs2 sw pe pbs pms
  unfold M_X7_rung
  refine ⟨(nI (zn_or (zb_H (zi_CS nb nr sp td s kd nd fr to lg)) 100), v.1, v.2.1, v.2.2.1, v.2.2.2), ?_, ?_⟩
  · show (M_X7_go b t r p cnt lr hs2 sw pe pbs pms k n l f o (nI 100) (nI s) (-9)).bind _ = _
    rw [h1, Option.bind_some, zi_before7 h2, Option.bind_some]
  · rfl
theorem zi_all {nb : Nat} (h : nb ≤ 6) {b : Int32} (hb : b = nI nb) : M_X5_allBells b = some (nI (2 ^ nb - 1)) ∧ M_X7_all b = some (nI (2 ^ nb - 1)) := by
  subst hb
  unfold M_X5_allBells M_X7_all
  rw [zi_mask nb (by omega)]
  exact ⟨rfl, rfl⟩
theorem zi_p64 {nb : Nat} (h : nb ≤ 6) : 2 ^ nb ≤ 64 ∧ 1 ≤ 2 ^ nb := ⟨Nat.pow_le_pow_right (n := 2) (by decide) h, Nat.one_le_two_pow⟩
