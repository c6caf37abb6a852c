def zr_P (c : zb_C) (pulled pulls : Int32) (pullOf pullAt : Nat → Int32) : Prop :=
  (pulled < 0 ∧ ∃ (np : Nat) (pb pm : Nat → Nat), np ≤ 6 ∧ pulls = nI np ∧ (∀ p, p < np → pullOf p = nI (pb p) ∧ pb p < zb_nb c ∧ pullAt p = nI (pm p) ∧ pm p < 100) ∧ ∀ m b, b < zb_nb c → zb_pl c m b = zb_pd pb pm (fun _ => 1) m b np) ∨
  (∃ s : Nat, s < 2 ^ 31 ∧ pulled = nI s ∧ ∀ m b, b < zb_nb c → zb_pl c m b = if m = 0 ∧ s.testBit b = true then zb_ne c b else 0)
/-- all swings of a minute -/
theorem zr_swings {c : zb_C} (ok : zb_ok c) {nr m : Nat} (hm : m < 400) {bells span without pulled pulls : Int32} {kinds needs from_ lasts to_ hs pe sw pullOf pullAt : Nat → Int32} (hV : zr_V c nr bells span without kinds needs from_ lasts to_) (hP : zr_P c pulled pulls pullOf pullAt) (hpe : ∀ k, k < m → pe k = nI (zb_set (zb_H c k) 6)) (hhs : ∀ b, b < zb_nb c → hs b = nI (zb_si c (zb_H c) b m)) :
    ∃ sw' hs', M_X7_swingAll bells (nI nr) pulls pullOf (zr_sw sw m (fun _ => 0)) pullAt kinds needs lasts pe from_ to_ hs (nI m) pulled without = some (sw', hs') ∧ (∀ b, b < zb_nb c → sw' (6 * b + m % 6) = nI (zb_cn c (zb_H c) m b)) ∧ (∀ b k, b < zb_nb c → k % 6 ≠ m % 6 → sw' (6 * b + k % 6) = sw (6 * b + k % 6)) ∧ (∀ b, b < zb_nb c → hs' b = nI (zb_si c (zb_H c) b m + zb_by c (zb_H c) m b)) := by
  have hnb := ok.1
  have hb0 : bells = nI (zb_nb c) := hV.2.1
  have hk : ∀ b, b < zb_nb c → kinds b = nI (zb_kd c b) ∧ zb_kd c b ≤ 2 ∧ needs b = nI (zb_nd c b) := fun b hb => ⟨(hV.2.2.2.1 b hb).1, (ok.2.2.1 b hb).1, (hV.2.2.2.1 b hb).2⟩
  have fin : ∀ g : Nat → Nat, (∀ b, b < zb_nb c → g b = zb_pl c m b) → ∀ z1 z2, L_X7_swingAll_3 (nI m) pulled pulls pullOf pullAt 1000 0 (zr_sw sw m (fun _ => 0)) = some (z1, z2) → ∀ z3, L_X7_swingAll_64 (nI m) pulled bells kinds needs 1000 0 z2 = some (z3, zr_sw sw m g) → ∃ sw' hs', M_X7_swingAll bells (nI nr) pulls pullOf (zr_sw sw m (fun _ => 0)) pullAt kinds needs lasts pe from_ to_ hs (nI m) pulled without = some (sw', hs') ∧ (∀ b, b < zb_nb c → sw' (6 * b + m % 6) = nI (zb_cn c (zb_H c) m b)) ∧ (∀ b k, b < zb_nb c → k % 6 ≠ m % 6 → sw' (6 * b + k % 6) = sw (6 * b + k % 6)) ∧ (∀ b, b < zb_nb c → hs' b = nI (zb_si c (zb_H c) b m + zb_by c (zb_H c) m b)) := by
    intro g hg z1 z2 e1 z3 e2
    obtain ⟨z4, e3⟩ := zr_ropes ok hm (without := without) (sw := sw) (g := g) hV hpe hhs
    refine ⟨zr_sw sw m (fun b => g b + (if zb_kd c b = 2 then (zb_si c (zb_H c) b m + zb_by c (zb_H c) m b) / 2 - zb_si c (zb_H c) b m / 2 else zb_by c (zb_H c) m b)), (fun j => if j < zb_nb c then nI (zb_si c (zb_H c) j m + zb_by c (zb_H c) m j) else hs j), ?_, fun b hb => ?_, fun b k hb hne => ?_, fun b hb => ?_⟩
    · unfold M_X7_swingAll
      rw [e1, Option.bind_some, e2, Option.bind_some, e3, Option.bind_some]
    · show zr_sw sw m _ (6 * b + m % 6) = _
      rw [zr_sw_at (by omega), hg b hb]
      rfl
    · have e6 : k % 6 < 6 := Nat.mod_lt _ (by decide)
      show zr_sw sw m _ (6 * b + k % 6) = _
      unfold zr_sw
      rw [if_neg (by omega)]
    · show (if b < zb_nb c then _ else hs b) = _
      rw [if_pos hb]
  rcases hP with ⟨hneg, np, pb, pm, hnp, rfl, hp, hpl⟩ | ⟨s, hs1, rfl, hpl⟩
  · refine fin (fun b => zb_pd pb pm (fun _ => 1) m b np) (fun b hb => (hpl m b hb).symm) _ _ (zr_pulls hnb hnp hm hneg hp) 0 ?_
    show L_X7_swingAll_64 (nI m) pulled bells kinds needs (999 + 1) 0 _ = _
    rw [L_X7_swingAll_64]
    by_cases h1 : bells ≤ 0
    · rw [if_pos h1]
    · rw [if_neg h1, if_pos hneg]
  · obtain ⟨z3, e3⟩ := zr_setPulls (nb := zb_nb c) (m := m) (s := s) hnb hm hs1 (kinds := kinds) (needs := needs) (sw := sw) (kd := zb_kd c) (nd := zb_nd c) hk
    refine fin (fun b => if b < zb_nb c ∧ m = 0 ∧ s.testBit b = true then (if zb_kd c b = 0 then zb_nd c b else zb_nd c b + 1) else 0) (fun b hb => ?_) 0 (zr_sw sw m (fun _ => 0)) ?_ z3 (by rw [hb0]; exact e3)
    · rw [hpl m b hb]
      by_cases h1 : m = 0 ∧ s.testBit b = true
      · rw [if_pos h1, if_pos ⟨hb, h1⟩]
        rfl
      · rw [if_neg h1, if_neg (fun z => h1 z.2)]
    · show L_X7_swingAll_3 (nI m) (nI s) pulls pullOf pullAt (999 + 1) 0 _ = _
      rw [L_X7_swingAll_3]
      by_cases h1 : pulls ≤ 0
      · rw [if_pos h1]
      · rw [if_neg h1, if_pos (nI_pos' hs1)]
theorem zr_back1 {k : Nat} (hk : k < 100000) : (nI k + (-1)).toInt = (k : Int) - 1 := by
  cases k with
  | zero => decide
  | succ k =>
    rw [pk_m1, nI_toInt (by omega)]
    omega
/-- does a bell ring -/
theorem zr_doesRing {c : zb_C} (ok : zb_ok c) {nr m b : Nat} (hm : m < 400) {bells span without tied : Int32} {kinds needs from_ lasts to_ lr sw : Nat → Int32} (hV : zr_V c nr bells span without kinds needs from_ lasts to_) (hT : zc_T c tied) (hb : b < zb_nb c) (hlr : (lr b).toInt = (zb_la (zb_H c) b m : Int) - 1) (hsw : ∀ k, k ≤ m → m ≤ k + 5 → sw (6 * b + k % 6) = nI (zb_cn c (zb_H c) k b)) :
    M_X7_doesRing tied span lr sw kinds needs (nI b) (nI m) = some (if zb_H c m b = true then 1 else 0) := by
  have hnb := ok.1
  have hsp := ok.2.1
  obtain ⟨td, htd, rfl, htb⟩ := hT
  have hspan : span = nI (zb_sp c) := hV.2.2.1
  subst hspan
  have key : ∀ d n j acc (x4 : Int32), j + d = zb_sp c + 1 → d < n → x4.toInt = (m : Int) - j → ∃ z, L_X7_doesRing_5 (nI b) (nI m) (nI (zb_sp c)) lr sw n (nI acc) x4 = some (nI (acc + zb_sum (fun i => zb_win c (zb_H c) m b (j + i)) d), z) := by
    intro d
    induction d with
    | zero =>
      intro n j acc x4 hj hn hx
      cases n with
      | zero => exact absurd hn (Nat.not_lt_zero _)
      | succ n =>
        refine ⟨x4, ?_⟩
        rw [L_X7_doesRing_5]
        by_cases h1 : x4 < 0
        · rw [if_pos h1]
          rfl
        · rw [if_neg h1, if_pos]
          · rfl
          · rw [Int32.lt_iff_toInt_lt, pk_sub_toInt (by omega) (by omega), hx]
            omega
    | succ d ih =>
      intro n j acc x4 hj hn hx
      cases n with
      | zero => exact absurd hn (Nat.not_lt_zero _)
      | succ n =>
        by_cases h1 : j ≤ m
        · have ex : x4 = nI (m - j) := by
            apply Int32.toInt_inj.mp
            rw [hx, nI_toInt (by omega)]
            omega
          subst ex
          have h2 : ¬ nI (m - j) < nI m - nI (zb_sp c) := by
            rw [Int32.lt_iff_toInt_lt, pk_sub_toInt (by omega) (by omega), nI_toInt (by omega)]
            omega
          by_cases h3 : zb_la (zb_H c) b m ≤ m - j
          · have h4 : ¬ nI (m - j) ≤ lr b := by
              rw [Int32.le_iff_toInt_le, hlr, nI_toInt (by omega)]
              omega
            obtain ⟨z, h5⟩ := ih n (j + 1) (acc + zb_cn c (zb_H c) (m - j) b) (nI (m - j) + (-1)) (by omega) (by omega) (by rw [zr_back1 (by omega)]; omega)
            refine ⟨z, ?_⟩
            have e6 : (m - j) % 6 < 6 := Nat.mod_lt _ (by decide)
            rw [L_X7_doesRing_5, if_neg (nI_pos (by omega)), if_neg h2, q_gB (by omega) (by decide), nI_clamp (by omega), if_neg h4, zc_rem6 (by omega), zc_6mul, nI_add, q_gB (by omega) (by decide), nI_clamp (by omega), hsw (m - j) (by omega) (by omega), nI_add]
            simp only [nme]
            rw [h5, zb_sum_left]
            have e7 : zb_win c (zb_H c) m b (j + 0) = zb_cn c (zb_H c) (m - j) b := if_pos ⟨h1, h3⟩
            have e8 : (fun i => zb_win c (zb_H c) m b (j + 1 + i)) = (fun i => zb_win c (zb_H c) m b (j + (i + 1))) := by
              funext i
              rw [show j + 1 + i = j + (i + 1) by omega]
            rw [e7, e8, Nat.add_assoc]
          · refine ⟨nI (m - j), ?_⟩
            have h4 : nI (m - j) ≤ lr b := by
              rw [Int32.le_iff_toInt_le, hlr, nI_toInt (by omega)]
              omega
            rw [L_X7_doesRing_5, if_neg (nI_pos (by omega)), if_neg h2, q_gB (by omega) (by decide), nI_clamp (by omega), if_pos h4, zb_sum_0 (f := fun i => zb_win c (zb_H c) m b (j + i)) (fun i _ => by
              show zb_win c (zb_H c) m b (j + i) = 0
              unfold zb_win
              rw [if_neg (by omega)])]
            rfl
        · refine ⟨x4, ?_⟩
          rw [L_X7_doesRing_5, if_pos (by rw [Int32.lt_iff_toInt_lt, hx]; show (m : Int) - j < 0; omega), zb_sum_0 (f := fun i => zb_win c (zb_H c) m b (j + i)) (fun i _ => by
              show zb_win c (zb_H c) m b (j + i) = 0
              unfold zb_win
              rw [if_neg (by omega)])]
          rfl
  obtain ⟨z, h1⟩ := key (zb_sp c + 1) 1000 0 0 (nI m) (by omega) (by omega) (by rw [nI_toInt (by omega)]; omega)
  have e0 : zb_sum (fun i => zb_win c (zb_H c) m b (0 + i)) (zb_sp c + 1) = zb_ws c (zb_H c) m b := by
    unfold zb_ws
    refine zb_sum_cong (fun i _ => ?_)
    rw [Nat.zero_add]
  rw [e0, Nat.zero_add] at h1
  have hw := zb_ws_le ok (zb_H c) m b
  have hne : zb_ne c b ≤ 4 := by
    have := (ok.2.2.1 b hb).2.2
    unfold zb_ne
    split <;> omega
  unfold M_X7_doesRing
  show ((L_X7_doesRing_5 _ _ _ _ _ 1000 (nI 0) (nI m)).bind _) = _
  rw [h1, Option.bind_some, zr_isIn htd (by omega), Option.bind_some, htb b hb]
  have hH := zb_H_eq c m b
  rw [decide_eq_true hb, Bool.true_and] at hH
  unfold zb_rg at hH
  cases h2 : zb_td c b with
  | true =>
    rw [h2] at hH
    have hH2 : zb_H c m b = false := hH
    rw [hH2]
    rfl
  | false =>
    rw [h2, Bool.not_false, Bool.true_and] at hH
    rw [if_neg (show ¬ (false = true) by decide), if_pos (show (0 : Int32) = 0 from rfl), zr_needs (by omega) (hV.2.2.2.1 b hb).1 (ok.2.2.1 b hb).1 (hV.2.2.2.1 b hb).2, Option.bind_some]
    show (if nI (zb_ws c (zb_H c) m b) < nI (zb_ne c b) then some (0 : Int32) else some 1) = _
    by_cases h3 : zb_ne c b ≤ zb_ws c (zb_H c) m b
    · rw [if_neg (nI_nlt h3 (by omega)), hH, decide_eq_true h3]
      rfl
    · rw [if_pos (nI_lt (by omega) (by omega)), hH, decide_eq_false h3]
      rfl
theorem zr_peals {c : zb_C} (ok : zb_ok c) {nr m : Nat} (hm : m < 400) {bells span without tied : Int32} {kinds needs from_ lasts to_ lr sw pe : Nat → Int32} (hV : zr_V c nr bells span without kinds needs from_ lasts to_) (hT : zc_T c tied) (hlr : ∀ b, b < zb_nb c → (lr b).toInt = (zb_la (zb_H c) b m : Int) - 1) (hsw : ∀ b, b < zb_nb c → ∀ k, k ≤ m → m ≤ k + 5 → sw (6 * b + k % 6) = nI (zb_cn c (zb_H c) k b)) (hpe : pe m = 0) :
    L_X7_go_117 (nI m) bells tied span lr sw kinds needs 1000 0 pe = some (bells, upd pe m (nI (zb_set (zb_H c m) 6))) := by
  have hnb := ok.1
  have hb0 : bells = nI (zb_nb c) := hV.2.1
  subst hb0
  have key : ∀ d n k, k + d = zb_nb c → d < n → L_X7_go_117 (nI m) (nI (zb_nb c)) tied span lr sw kinds needs n (nI k) (upd pe m (nI (zb_set (zb_H c m) k))) = some (nI (zb_nb c), upd pe m (nI (zb_set (zb_H c m) (zb_nb c)))) := by
    intro d
    induction d with
    | zero =>
      intro n k hk1 hn
      cases n with
      | zero => exact absurd hn (Nat.not_lt_zero _)
      | succ n =>
        have e : k = zb_nb c := by omega
        subst e
        rw [L_X7_go_117, if_pos (nI_le (Nat.le_refl _) (by omega))]
    | succ d ih =>
      intro n k hk1 hn
      cases n with
      | zero => exact absurd hn (Nat.not_lt_zero _)
      | succ n =>
        rw [L_X7_go_117, if_neg (nI_ge (by omega) (by omega)), zr_doesRing ok hm hV hT (by omega) (hlr k (by omega)) (hsw k (by omega)), Option.bind_some]
        have := ih n (k + 1) (by omega) (by omega)
        cases h1 : zb_H c m k with
        | false =>
          rw [if_neg (show ¬ (false = true) by decide), if_pos (show (0 : Int32) = 0 from rfl)]
          simp only [nme]
          rw [nI_1]
          have e1 : zb_set (zb_H c m) (k + 1) = zb_set (zb_H c m) k := by
            rw [zb_set, h1]
            simp
          rw [e1] at this
          exact this
        | true =>
          rw [if_pos (show (true = true) from rfl), if_neg (show ¬ (1 : Int32) = 0 by decide), q_gB (by omega) (by decide), q_gB (by omega) (by decide), nI_clamp (by omega), pk_us, q_shl k (by omega), q_or]
          simp only [nme]
          rw [nI_1, zf_upd_twice]
          have e1 : zb_set (zb_H c m) (k + 1) = zb_set (zb_H c m) k ||| 2 ^ k := by
            rw [zb_set, if_pos h1]
          rw [e1] at this
          exact this
  have h1 := key (zb_nb c) 1000 0 (by omega) (by omega)
  rw [zf_upd_same (show pe m = nI (zb_set (zb_H c m) 0) from hpe)] at h1
  rw [zb_set_ext (f := zb_H c m) hnb (fun b hb => zb_H_nb hb)] at h1
  exact h1
theorem zr_after {c : zb_C} (ok : zb_ok c) {m : Nat} (hm : m < 400) {lr hs pe : Nat → Int32} (hpe : pe m = nI (zb_set (zb_H c m) 6)) :
    L_X7_go_160 (nI m) (nI (zb_nb c)) pe 1000 0 lr hs = some (nI (zb_nb c), (fun j => if j < zb_nb c ∧ zb_H c m j = true then nI m else lr j), (fun j => if j < zb_nb c ∧ zb_H c m j = true then 0 else hs j)) := by
  have hnb := ok.1
  have hset : zb_set (zb_H c m) 6 < 2 ^ 31 := by
    have := zb_set_lt (zb_H c m) 6
    omega
  have key : ∀ d n k, k + d = zb_nb c → d < n → L_X7_go_160 (nI m) (nI (zb_nb c)) pe n (nI k) (fun j => if j < k ∧ zb_H c m j = true then nI m else lr j) (fun j => if j < k ∧ zb_H c m j = true then 0 else hs j) = some (nI (zb_nb c), (fun j => if j < zb_nb c ∧ zb_H c m j = true then nI m else lr j), (fun j => if j < zb_nb c ∧ zb_H c m j = true then 0 else hs j)) := by
    intro d
    induction d with
    | zero =>
      intro n k hk1 hn
      cases n with
      | zero => exact absurd hn (Nat.not_lt_zero _)
      | succ n =>
        have e : k = zb_nb c := by omega
        subst e
        rw [L_X7_go_160, if_pos (nI_le (Nat.le_refl _) (by omega))]
    | succ d ih =>
      intro n k hk1 hn
      cases n with
      | zero => exact absurd hn (Nat.not_lt_zero _)
      | succ n =>
        have hbit : (zb_set (zb_H c m) 6).testBit k = zb_H c m k := by
          rw [zb_set_bit, decide_eq_true (by omega), Bool.true_and]
        have step : ∀ (v : Int32) (f : Nat → Int32), zb_H c m k = true → upd (fun j => if j < k ∧ zb_H c m j = true then v else f j) k v = (fun j => if j < k + 1 ∧ zb_H c m j = true then v else f j) := by
          intro v f h1
          funext j
          by_cases hj : j = k
          · subst hj
            rw [pk_us, if_pos ⟨by omega, h1⟩]
          · rw [pk_un hj]
            have h8 : (j < k ∧ zb_H c m j = true) ↔ (j < k + 1 ∧ zb_H c m j = true) := ⟨fun z => ⟨by omega, z.2⟩, fun z => ⟨by omega, z.2⟩⟩
            simp only [h8]
        have stay : ∀ (v : Int32) (f : Nat → Int32), zb_H c m k = false → (fun j => if j < k ∧ zb_H c m j = true then v else f j) = (fun j => if j < k + 1 ∧ zb_H c m j = true then v else f j) := by
          intro v f h1
          funext j
          by_cases hj : j = k
          · subst hj
            rw [h1, if_neg (by simp), if_neg (by simp)]
          · have h8 : (j < k ∧ zb_H c m j = true) ↔ (j < k + 1 ∧ zb_H c m j = true) := ⟨fun z => ⟨by omega, z.2⟩, fun z => ⟨by omega, z.2⟩⟩
            simp only [h8]
        have := ih n (k + 1) (by omega) (by omega)
        rw [L_X7_go_160, if_neg (nI_ge (by omega) (by omega)), q_gB (by omega) (by decide), nI_clamp (by omega), hpe, zr_isIn hset (by omega), Option.bind_some, hbit]
        cases h1 : zb_H c m k with
        | false =>
          rw [if_neg (show ¬ (false = true) by decide), if_pos (show (0 : Int32) = 0 from rfl), q_gB (by omega) (by decide), q_gB (by omega) (by decide), nI_clamp (by omega), zf_upd_same rfl]
          simp only [nme]
          rw [if_pos trivial, q_gB (by omega) (by decide), q_gB (by omega) (by decide), zf_upd_same (f := fun j => if j < k ∧ zb_H c m j = true then (0 : Int32) else hs j) (i := k) rfl, nI_1]
          rw [← stay _ _ h1, ← stay _ _ h1] at this
          exact this
        | true =>
          rw [if_pos (show (true = true) from rfl), if_neg (show ¬ (1 : Int32) = 0 by decide), q_gB (by omega) (by decide), nI_clamp (by omega)]
          simp only [nme]
          rw [if_neg (show ¬ (1 : Int32) = 0 by decide), q_gB (by omega) (by decide), nI_1, step _ _ h1, step _ _ h1]
          exact this
  have h1 := key (zb_nb c) 1000 0 (by omega) (by omega)
  have e0 : (fun j => if j < 0 ∧ zb_H c m j = true then nI m else lr j) = lr := by
    funext j
    rw [if_neg (by omega)]
  have e1 : (fun j => if j < 0 ∧ zb_H c m j = true then 0 else hs j) = hs := by
    funext j
    rw [if_neg (by omega)]
  rw [e0, e1] at h1
  exact h1
def zr_I (c : zb_C) (m : Nat) (lr hs sw pe : Nat → Int32) : Prop :=
  (∀ k, k < m → pe k = nI (zb_set (zb_H c k) 6)) ∧ (∀ b, b < zb_nb c → (lr b).toInt = (zb_la (zb_H c) b m : Int) - 1) ∧ (∀ b, b < zb_nb c → hs b = nI (zb_si c (zb_H c) b m)) ∧ (∀ b, b < zb_nb c → ∀ k, k < m → m ≤ k + 6 → sw (6 * b + k % 6) = nI (zb_cn c (zb_H c) k b))
/-- the reference's course is the bells' course -/
theorem zr_go {c : zb_C} (ok : zb_ok c) {e nr : Nat} (he : e ≤ 400) {bells span without pulled pulls tied : Int32} {kinds needs from_ lasts to_ pullOf pullAt : Nat → Int32} (hV : zr_V c nr bells span without kinds needs from_ lasts to_) (hP : zr_P c pulled pulls pullOf pullAt) (hT : zc_T c tied) (lr hs sw pe : Nat → Int32) :
    ∃ u : (Nat → Int32) × (Nat → Int32) × (Nat → Int32) × (Nat → Int32), M_X7_go bells tied (nI nr) span pulls lr hs sw pe pullOf pullAt kinds needs lasts from_ to_ (nI e) pulled without = some u ∧ ∀ k, k < e → u.2.2.2 k = nI (zb_set (zb_H c k) 6) := by
  have hnb := ok.1
  have hb0 : bells = nI (zb_nb c) := hV.2.1
  have key : ∀ d n m lr hs sw pe, m + d = e → d < n → zr_I c m lr hs sw pe → ∃ u : Int32 × (Nat → Int32) × (Nat → Int32) × (Nat → Int32) × (Nat → Int32), L_X7_go_59 (nI e) pulled without bells tied (nI nr) span pulls pullOf pullAt kinds needs lasts from_ to_ n (nI m) lr hs sw pe = some u ∧ ∀ k, k < e → u.2.2.2.2 k = nI (zb_set (zb_H c k) 6) := by
    intro d
    induction d with
    | zero =>
      intro n m lr hs sw pe hk1 hn hI
      cases n with
      | zero => exact absurd hn (Nat.not_lt_zero _)
      | succ n =>
        refine ⟨(nI m, lr, hs, sw, pe), ?_, fun k hk => hI.1 k (by omega)⟩
        rw [L_X7_go_59, if_pos (nI_le (by omega) (by omega))]
    | succ d ih =>
      intro n m lr hs sw pe hk1 hn hI
      cases n with
      | zero => exact absurd hn (Nat.not_lt_zero _)
      | succ n =>
        obtain ⟨i1, i2, i3, i4⟩ := hI
        obtain ⟨sw', hs', s1, s2, s3, s4⟩ := zr_swings ok (m := m) (by omega) (sw := sw) (pe := upd pe m 0) hV hP (fun k hk => by rw [pk_un (by omega)]; exact i1 k hk) i3
        have hsw : ∀ b, b < zb_nb c → ∀ k, k ≤ m → m ≤ k + 5 → sw' (6 * b + k % 6) = nI (zb_cn c (zb_H c) k b) := by
          intro b hb k h1 h2
          by_cases h3 : k = m
          · subst h3
            exact s2 b hb
          · rw [s3 b k hb (by omega)]
            exact i4 b hb k (by omega) (by omega)
        have r1 := zr_peals ok (m := m) (by omega) (pe := upd pe m 0) hV hT i2 hsw pk_us
        rw [zf_upd_twice] at r1
        have r2 := zr_after ok (m := m) (by omega) (lr := lr) (hs := hs') (pe := upd pe m (nI (zb_set (zb_H c m) 6))) pk_us
        have hI' : zr_I c (m + 1) (fun j => if j < zb_nb c ∧ zb_H c m j = true then nI m else lr j) (fun j => if j < zb_nb c ∧ zb_H c m j = true then 0 else hs' j) sw' (upd pe m (nI (zb_set (zb_H c m) 6))) := by
          refine ⟨fun k hk => ?_, fun b hb => ?_, fun b hb => ?_, fun b hb k h1 h2 => hsw b hb k (by omega) (by omega)⟩
          · by_cases h1 : k = m
            · subst h1
              exact pk_us
            · rw [pk_un h1]
              exact i1 k (by omega)
          · show (if b < zb_nb c ∧ zb_H c m b = true then nI m else lr b).toInt = _
            rw [zb_la]
            by_cases h1 : zb_H c m b = true
            · rw [if_pos ⟨hb, h1⟩, if_pos h1, nI_toInt (by omega)]
              omega
            · rw [if_neg (fun z => h1 z.2), if_neg h1, i2 b hb]
          · show (if b < zb_nb c ∧ zb_H c m b = true then 0 else hs' b) = _
            rw [zb_si]
            by_cases h1 : zb_H c m b = true
            · rw [if_pos ⟨hb, h1⟩, if_pos h1]
              rfl
            · rw [if_neg (fun z => h1 z.2), if_neg h1, s4 b hb]
        obtain ⟨u, h1, h2⟩ := ih n (m + 1) _ _ _ _ (by omega) (by omega) hI'
        refine ⟨u, ?_, h2⟩
        rw [L_X7_go_59, if_neg (nI_ge (by omega) (by omega)), q_gB (by omega) (by decide), nI_clamp (by omega)]
        simp only [nme]
        rw [zr_zero (by omega), Option.bind_some, s1, Option.bind_some, r1, Option.bind_some]
        rw [hb0] at h1 ⊢
        rw [r2, Option.bind_some, nI_1]
        exact h1
  have f1 : ∀ d n k, k + d = 6 → d < n → L_X7_go_3 n (nI k) (zf_fill (fun _ => -1) lr k) (zf_fill (fun _ => 0) hs k) = some (nI 6, zf_fill (fun _ => -1) lr 6, zf_fill (fun _ => 0) hs 6) := by
    intro d
    induction d with
    | zero =>
      intro n k hk1 hn
      cases n with
      | zero => exact absurd hn (Nat.not_lt_zero _)
      | succ n =>
        have e : k = 6 := by omega
        subst e
        rw [L_X7_go_3, if_pos (show (6 : Int32) ≤ nI 6 from nI_le (Nat.le_refl _) (by omega))]
    | succ d ih =>
      intro n k hk1 hn
      cases n with
      | zero => exact absurd hn (Nat.not_lt_zero _)
      | succ n =>
        rw [L_X7_go_3, if_neg (show ¬ (6 : Int32) ≤ nI k from nI_ge (b := 6) (by omega) (by omega)), q_gB (by omega) (by decide), nI_clamp (by omega)]
        simp only [nme]
        rw [q_gB (by omega) (by decide), nI_1, zf_fill_succ (fun _ => -1) lr k, zf_fill_succ (fun _ => 0) hs k]
        exact ih n (k + 1) (by omega) (by omega)
  have f2 : ∀ d n k, k + d = 36 → d < n → L_X7_go_35 n (nI k) (zf_fill (fun _ => 0) sw k) = some (nI 36, zf_fill (fun _ => 0) sw 36) := by
    intro d
    induction d with
    | zero =>
      intro n k hk1 hn
      cases n with
      | zero => exact absurd hn (Nat.not_lt_zero _)
      | succ n =>
        have e : k = 36 := by omega
        subst e
        rw [L_X7_go_35, if_pos (show (36 : Int32) ≤ nI 36 from nI_le (Nat.le_refl _) (by omega))]
    | succ d ih =>
      intro n k hk1 hn
      cases n with
      | zero => exact absurd hn (Nat.not_lt_zero _)
      | succ n =>
        rw [L_X7_go_35, if_neg (show ¬ (36 : Int32) ≤ nI k from nI_ge (b := 36) (by omega) (by omega)), q_gB (by omega) (by decide), nI_clamp (by omega)]
        simp only [nme]
        rw [nI_1, zf_fill_succ (fun _ => 0) sw k]
        exact ih n (k + 1) (by omega) (by omega)
  have g1 := f1 6 1000 0 (by omega) (by omega)
  have g2 := f2 36 1000 0 (by omega) (by omega)
  rw [zf_fill_0, zf_fill_0] at g1
  rw [zf_fill_0] at g2
  have hI : zr_I c 0 (zf_fill (fun _ => -1) lr 6) (zf_fill (fun _ => 0) hs 6) (zf_fill (fun _ => 0) sw 36) pe := by
    refine ⟨fun k hk => by omega, fun b hb => ?_, fun b hb => ?_, fun b hb k h1 h2 => by omega⟩
    · rw [zf_fill_in (by omega)]
      rfl
    · rw [zf_fill_in (by omega)]
      rfl
  obtain ⟨u, h1, h2⟩ := key e 1000 0 _ _ _ _ (by omega) (by omega) hI
  refine ⟨(u.2.1, u.2.2.1, u.2.2.2.1, u.2.2.2.2), ?_, h2⟩
  unfold M_X7_go
  show ((L_X7_go_3 1000 (nI 0) lr hs).bind _) = _
  rw [g1, Option.bind_some]
  show ((L_X7_go_35 1000 (nI 0) sw).bind _) = _
  rw [g2, Option.bind_some]
  show ((L_X7_go_59 _ _ _ _ _ _ _ _ _ _ _ _ _ _ _ 1000 (nI 0) _ _ _ _).bind _) = _
  rw [h1]
  rfl
