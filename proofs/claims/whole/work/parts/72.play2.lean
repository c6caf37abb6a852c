def zc_V (c : zb_C) (bells span : Int32) (kinds needs from_ lasts to_ : Nat → Int32) : Prop := bells = nI (zb_nb c) ∧ span = nI (zb_sp c) ∧ (∀ b, b < zb_nb c → kinds b = nI (zb_kd c b) ∧ needs b = nI (zb_nd c b)) ∧ (∀ r, r < 9 → zb_on c r = true → from_ r = nI (zb_fr c r) ∧ to_ r = nI (zb_to c r) ∧ lasts r = nI (zb_lg c r))
def zc_P (c : zb_C) (count : Int32) (bells minutes times : Nat → Int32) : Prop := ∃ (np : Nat) (pb pm pt : Nat → Nat), np ≤ 6 ∧ count = nI np ∧ (∀ p, p < np → bells p = nI (pb p) ∧ pb p < zb_nb c ∧ minutes p = nI (pm p) ∧ pm p < 100 ∧ times p = nI (pt p)) ∧ ∀ m b, zb_pl c m b = zb_pd pb pm pt m b np
def zc_T (c : zb_C) (tied : Int32) : Prop := ∃ td : Nat, td < 2 ^ 31 ∧ tied = nI td ∧ ∀ b, b < zb_nb c → td.testBit b = zb_td c b
def zc_R (c : zb_C) (ropes : Int32) : Prop := ∃ ro : Nat, ro < 2 ^ 31 ∧ ropes = nI ro ∧ ∀ r, r < 9 → ro.testBit r = zb_on c r
def zc_I (c : zb_C) (m : Nat) (ld : Int32) (rang uw ct cb : Nat → Int32) : Prop :=
  (∀ k, k < 400 → rang k = if k < m then nI (zb_set (zb_H c k) 6) else 0) ∧
  (∀ b, b < zb_nb c → ∀ d, m ≤ d → d < m + 10 → uw (d % 10 * 6 + b) = nI (zb_due c (zb_H c) m d b)) ∧
  (∀ b, b < zb_nb c → ∀ k, k < m → m ≤ k + 6 → ct (k % 6 * 6 + b) = nI (if zb_la (zb_H c) b m ≤ k then zb_cn c (zb_H c) k b else 0)) ∧
  (∀ b, b < zb_nb c → zb_kd c b = 2 → cb b = nI (zb_si c (zb_H c) b m)) ∧
  (∀ b, b < zb_nb c → ∀ d, m ≤ d → 0 < zb_due c (zb_H c) m d b → (d : Int) ≤ ld.toInt) ∧
  (∀ b, b < zb_nb c → ∀ d, m ≤ d → 0 < zb_pl c d b → (d : Int) ≤ ld.toInt)
theorem zc_due_step {c : zb_C} (ok : zb_ok c) {m d b ro s : Nat} (hro : ∀ r, r < 9 → ro.testBit r = zb_on c r) (hs : ∀ x, x < zb_nb c → s.testBit x = zb_H c m x) (hb : b < zb_nb c) (h1 : m + 1 ≤ d) (h2 : d < m + 11) :
    zb_due c (zb_H c) m d b + zb_sum (fun r => if ro.testBit r = true ∧ s.testBit (zb_fr c r) = true ∧ (m + zb_lg c r) % 10 * 6 + zb_to c r = d % 10 * 6 + b then 1 else 0) 9 = zb_due c (zb_H c) (m + 1) d b := by
  unfold zb_due
  rw [← zb_sum_add]
  refine zb_sum_cong (fun r hr => ?_)
  have hnb := ok.1
  cases hon : zb_on c r with
  | false =>
    have e1 : zb_hit c (zb_H c) d b r = 0 := by
      unfold zb_hit
      rw [if_neg (fun z => by rw [hon] at z; exact absurd z.1 (by decide))]
    simp [e1, hro r hr, hon]
  | true =>
    obtain ⟨g1, g2, g3, g4⟩ := ok.2.2.2.1 r hr hon
    rw [hro r hr, hon, hs _ g1]
    by_cases h3 : d - zb_lg c r < m
    · have hn : ¬ ((m + zb_lg c r) % 10 * 6 + zb_to c r = d % 10 * 6 + b) := by omega
      have h4 : d - zb_lg c r < m + 1 := by omega
      rw [if_pos h3, if_pos h4, if_neg (fun z => hn z.2.2), Nat.add_zero]
    · rw [if_neg h3, Nat.zero_add]
      by_cases h4 : d - zb_lg c r < m + 1
      · rw [if_pos h4]
        unfold zb_hit
        by_cases h5 : zb_lg c r ≤ d
        · have e1 : d - zb_lg c r = m := by omega
          have e2 : (m + zb_lg c r) % 10 * 6 + zb_to c r = d % 10 * 6 + b ↔ zb_to c r = b := by
            rw [show m + zb_lg c r = d by omega]
            omega
          rw [e1, hon]
          by_cases h6 : zb_to c r = b ∧ zb_H c m (zb_fr c r) = true
          · rw [if_pos ⟨rfl, h6.2, e2.mpr h6.1⟩, if_pos ⟨rfl, h6.1, g3, h5, h6.2⟩]
          · rw [if_neg (fun z => h6 ⟨e2.mp z.2.2, z.2.1⟩), if_neg (fun z => h6 ⟨z.2.1, z.2.2.2.2⟩)]
        · rw [if_neg (by omega), if_neg (by omega)]
      · rw [if_neg h4, if_neg (by omega)]
theorem zc_due_far {c : zb_C} (ok : zb_ok c) {m b : Nat} : zb_due c (zb_H c) m (m + 10) b = 0 := by
  unfold zb_due
  refine zb_sum_0 (fun r hr => ?_)
  split
  · unfold zb_hit
    rw [if_neg]
    intro z
    have := ok.2.2.2.1 r hr z.1
    omega
  · rfl
theorem zc_due_in {c : zb_C} (ok : zb_ok c) {m d b : Nat} (h1 : m + 1 ≤ d) (h : 0 < zb_due c (zb_H c) (m + 1) d b) : 0 < zb_due c (zb_H c) m d b ∨ ∃ r, r < 9 ∧ zb_on c r = true ∧ zb_H c m (zb_fr c r) = true ∧ m + zb_lg c r = d := by
  obtain ⟨r, hr, h2⟩ := zb_sum_pos h
  by_cases h3 : d - zb_lg c r < m
  · left
    have h4 := zb_sum_term (f := fun r => if d - zb_lg c r < m then zb_hit c (zb_H c) d b r else 0) hr
    have h5 : d - zb_lg c r < m + 1 := by omega
    simp only [h3, h5, if_true] at h4 h2
    unfold zb_due
    omega
  · right
    by_cases h5 : d - zb_lg c r < m + 1
    · simp only [h5, if_true] at h2
      unfold zb_hit at h2
      by_cases h6 : zb_on c r = true ∧ zb_to c r = b ∧ 1 ≤ zb_lg c r ∧ zb_lg c r ≤ d ∧ zb_H c (d - zb_lg c r) (zb_fr c r) = true
      · obtain ⟨a1, a2, a3, a4, a5⟩ := h6
        rw [show d - zb_lg c r = m by omega] at a5
        exact ⟨r, hr, a1, a5, by omega⟩
      · rw [if_neg h6] at h2
        exact absurd h2 (Nat.lt_irrefl 0)
    · simp only [h5, if_false] at h2
      exact absurd h2 (Nat.lt_irrefl 0)
/-- one minute of the class -/
theorem zc_minute {c : zb_C} (ok : zb_ok c) {m : Nat} (hm : m < 400) {bells span ld tied ropes count : Int32} {kinds needs from_ lasts to_ pbells pmins ptimes rang uw ct cb : Nat → Int32} (hV : zc_V c bells span kinds needs from_ lasts to_) (hP : zc_P c count pbells pmins ptimes) (hT : zc_T c tied) (hR : zc_R c ropes) (hI : zc_I c m ld rang uw ct cb) :
    ∃ u24 u25 u26, M_X0_swingByRopes bells uw kinds cb ct (nI m) = some u24 ∧ M_X0_swingByPulls count pmins pbells u24.2.2 ptimes (nI m) = some u25 ∧ M_X0_ringAll bells span u25 kinds needs rang u24.2.1 (nI m) tied = some u26 ∧
      (u26.2.1 m = 0 → zc_I c (m + 1) ld u26.2.1 u24.1 u26.1 u26.2.2) ∧
      (∃ ld' uw', M_X0_sendOn ld from_ u26.2.1 lasts to_ u24.1 (nI m) ropes = some (ld', uw') ∧ zc_I c (m + 1) ld' u26.2.1 uw' u26.1 u26.2.2) := by
  obtain ⟨rfl, rfl, hk, hro0⟩ := hV
  obtain ⟨np, pb, pm, pt, hnp, rfl, hp, hpl⟩ := hP
  obtain ⟨td, htd, rfl, htb⟩ := hT
  obtain ⟨ro, hro1, rfl, hro⟩ := hR
  obtain ⟨i1, i2, i3, i4, i5, i6⟩ := hI
  have hnb := ok.1
  have hsp := ok.2.1
  have e10 : m % 10 < 10 := Nat.mod_lt _ (by decide)
  have e6 : m % 6 < 6 := Nat.mod_lt _ (by decide)
  have r1 := zc_byRopes (nb := zb_nb c) (m := m) hnb (by omega) (kinds := kinds) (uw := uw) (cb := cb) (ct := ct) (kd := zb_kd c) (si := fun b => zb_si c (zb_H c) b m) (by_ := fun b => zb_by c (zb_H c) m b) (fun b hb => ⟨(hk b hb).1, (ok.2.2.1 b hb).1⟩) (fun b hb h2 => i4 b hb h2) (fun b hb => by rw [i2 b hb m (Nat.le_refl _) (by omega), zb_due_now]) (fun b hb => ⟨by have := zb_si_le c (zb_H c) b m; omega, by have := zb_by_le c (zb_H c) m b; omega⟩)
  have r2 := zc_byPulls (nb := zb_nb c) (np := np) (m := m) hnb hnp hm (bells := pbells) (mins := pmins) (times := ptimes) (ct := zf_put ct (fun b => nI (if zb_kd c b = 2 then (zb_si c (zb_H c) b m + zb_by c (zb_H c) m b) / 2 - zb_si c (zb_H c) b m / 2 else zb_by c (zb_H c) m b)) (m % 6 * 6) (zb_nb c)) (pb := pb) (pm := pm) (pt := pt) (g := fun b => if zb_kd c b = 2 then (zb_si c (zb_H c) b m + zb_by c (zb_H c) m b) / 2 - zb_si c (zb_H c) b m / 2 else zb_by c (zb_H c) m b) hp (fun b hb => by rw [zf_put_at, if_pos (by omega), Nat.add_sub_cancel_left])
  have ecn : ∀ b, (if zb_kd c b = 2 then (zb_si c (zb_H c) b m + zb_by c (zb_H c) m b) / 2 - zb_si c (zb_H c) b m / 2 else zb_by c (zb_H c) m b) + zb_pd pb pm pt m b np = zb_cn c (zb_H c) m b := by
    intro b
    unfold zb_cn
    rw [hpl m b, Nat.add_comm]
  simp only [ecn] at r2
  have ectB : ∀ b, b < zb_nb c → ∀ k, k ≤ m → m ≤ k + 5 → zf_put (zf_put ct (fun b => nI (if zb_kd c b = 2 then (zb_si c (zb_H c) b m + zb_by c (zb_H c) m b) / 2 - zb_si c (zb_H c) b m / 2 else zb_by c (zb_H c) m b)) (m % 6 * 6) (zb_nb c)) (fun b => nI (zb_cn c (zb_H c) m b)) (m % 6 * 6) (zb_nb c) (k % 6 * 6 + b) = nI (if zb_la (zb_H c) b m ≤ k then zb_cn c (zb_H c) k b else 0) := by
    intro b hb k h1 h2
    by_cases h3 : k = m
    · subst h3
      rw [zf_put_at, if_pos (by omega), Nat.add_sub_cancel_left, if_pos (zb_la_le _ _ _)]
    · rw [zf_put_at, if_neg (by omega), zf_put_at, if_neg (by omega)]
      exact i3 b hb k (by omega) (by omega)
  have r3 := zc_ringAll (nb := zb_nb c) (sp := zb_sp c) (m := m) (td := td) hnb hsp hm htd (kinds := kinds) (needs := needs) (rang := rang) (cb := (fun j => if j < zb_nb c ∧ zb_kd c j = 2 then nI (zb_si c (zb_H c) j m + zb_by c (zb_H c) m j) else cb j)) (kd := zb_kd c) (nd := zb_nd c) (ws := fun b => zb_ws c (zb_H c) m b) (cv := fun b j => if zb_la (zb_H c) b m ≤ m - j then zb_cn c (zb_H c) (m - j) b else 0) (r := zb_H c m)
    (fun b hb => ⟨(hk b hb).1, (ok.2.2.1 b hb).1, (hk b hb).2, (ok.2.2.1 b hb).2.2⟩) (fun b hb j h1 h2 => ectB b hb (m - j) (by omega) (by omega))
    (fun b hb => by
      have := zb_ws_le ok (zb_H c) m b
      refine ⟨?_, by omega⟩
      unfold zb_ws
      refine zb_sum_cong (fun j _ => ?_)
      unfold zb_win
      by_cases h1 : j ≤ m
      · by_cases h2 : zb_la (zb_H c) b m ≤ m - j
        · rw [if_pos h1, if_pos h2, if_pos ⟨h1, h2⟩]
        · rw [if_pos h1, if_neg h2, if_neg (fun z => h2 z.2)]
      · rw [if_neg h1, if_neg (fun z => h1 z.1)])
    (fun b hb => by
      rw [zb_H_eq, decide_eq_true hb, Bool.true_and, htb b hb]
      rfl)
    (by rw [i1 m hm, if_neg (Nat.lt_irrefl _)])
  refine ⟨_, _, _, r1, r2, r3, ?_⟩
  have eset : zb_set (zb_H c m) (zb_nb c) = zb_set (zb_H c m) 6 := zb_set_ext hnb (fun b hb => zb_H_nb hb)
  have hsb : ∀ x, x < zb_nb c → (zb_set (zb_H c m) (zb_nb c)).testBit x = zb_H c m x := by
    intro x hx
    rw [zb_set_bit, decide_eq_true hx, Bool.true_and]
  have euw : ∀ b, b < zb_nb c → ∀ d, m + 1 ≤ d → d < m + 11 → zf_put uw (fun _ => 0) (m % 10 * 6) (zb_nb c) (d % 10 * 6 + b) = nI (zb_due c (zb_H c) m d b) := by
    intro b hb d h1 h2
    by_cases h3 : d = m + 10
    · subst h3
      rw [zf_put_at, if_pos (by omega), zc_due_far ok]
      rfl
    · rw [zf_put_at, if_neg (by omega)]
      exact i2 b hb d (by omega) (by omega)
  have j1 : ∀ k, k < 400 → upd rang m (nI (zb_set (zb_H c m) (zb_nb c))) k = if k < m + 1 then nI (zb_set (zb_H c k) 6) else 0 := by
    intro k hk4
    by_cases h1 : k = m
    · subst h1
      rw [pk_us, if_pos (by omega), eset]
    · rw [pk_un h1, i1 k hk4]
      by_cases h2 : k < m
      · rw [if_pos h2, if_pos (by omega)]
      · rw [if_neg h2, if_neg (by omega)]
  have j3 : ∀ b, b < zb_nb c → ∀ k, k < m + 1 → m + 1 ≤ k + 6 → (fun j => if j % 6 < zb_nb c ∧ j < 36 ∧ zb_H c m (j % 6) = true then 0 else zf_put (zf_put ct (fun b => nI (if zb_kd c b = 2 then (zb_si c (zb_H c) b m + zb_by c (zb_H c) m b) / 2 - zb_si c (zb_H c) b m / 2 else zb_by c (zb_H c) m b)) (m % 6 * 6) (zb_nb c)) (fun b => nI (zb_cn c (zb_H c) m b)) (m % 6 * 6) (zb_nb c) j) (k % 6 * 6 + b) = nI (if zb_la (zb_H c) b (m + 1) ≤ k then zb_cn c (zb_H c) k b else 0) := by
    intro b hb k h1 h2
    have e7 : k % 6 < 6 := Nat.mod_lt _ (by decide)
    have e8 : (k % 6 * 6 + b) % 6 = b := by omega
    show (if (k % 6 * 6 + b) % 6 < zb_nb c ∧ k % 6 * 6 + b < 36 ∧ zb_H c m ((k % 6 * 6 + b) % 6) = true then 0 else _) = _
    rw [e8, zb_la]
    by_cases h3 : zb_H c m b = true
    · rw [if_pos ⟨hb, by omega, h3⟩, if_pos h3, if_neg (by omega)]
      rfl
    · rw [if_neg (fun z => h3 z.2.2), if_neg h3]
      exact ectB b hb k (by omega) (by omega)
  have j4 : ∀ b, b < zb_nb c → zb_kd c b = 2 → (fun j => if j < zb_nb c ∧ zb_H c m j = true then 0 else (fun j => if j < zb_nb c ∧ zb_kd c j = 2 then nI (zb_si c (zb_H c) j m + zb_by c (zb_H c) m j) else cb j) j) b = nI (zb_si c (zb_H c) b (m + 1)) := by
    intro b hb h1
    show (if b < zb_nb c ∧ zb_H c m b = true then 0 else (if b < zb_nb c ∧ zb_kd c b = 2 then nI (zb_si c (zb_H c) b m + zb_by c (zb_H c) m b) else cb b)) = _
    rw [zb_si]
    by_cases h3 : zb_H c m b = true
    · rw [if_pos ⟨hb, h3⟩, if_pos h3]
      rfl
    · rw [if_neg (fun z => h3 z.2), if_neg h3, if_pos ⟨hb, h1⟩]
  constructor
  · intro hz
    have hz2 : nI (zb_set (zb_H c m) (zb_nb c)) = 0 := by
      have : upd rang m (nI (zb_set (zb_H c m) (zb_nb c))) m = 0 := hz
      rw [pk_us] at this
      exact this
    have hlt : zb_set (zb_H c m) (zb_nb c) < 2 ^ 6 := by
      rw [eset]
      exact zb_set_lt _ _
    have hz3 : zb_set (zb_H c m) (zb_nb c) = 0 := (nI_eq (b := 0) (by omega) (by decide)).mp hz2
    have hno : ∀ x, x < zb_nb c → zb_H c m x = false := by
      intro x hx
      rw [← hsb x hx, hz3]
      exact Nat.zero_testBit x
    refine ⟨j1, fun b hb d h1 h2 => ?_, j3, j4, fun b hb d h1 h2 => ?_, fun b hb d h1 h2 => i6 b hb d (by omega) h2⟩
    · show zf_put uw (fun _ => 0) (m % 10 * 6) (zb_nb c) (d % 10 * 6 + b) = _
      rw [euw b hb d h1 (by omega), ← zc_due_step ok hro hsb hb h1 (by omega), zb_sum_0 (fun r hr => ?_), Nat.add_zero]
      rw [if_neg]
      intro z
      have hon : zb_on c r = true := by rw [← hro r hr]; exact z.1
      have g1 := (ok.2.2.2.1 r hr hon).1
      rw [hsb _ g1, hno _ g1] at z
      exact absurd z.2.1 (by decide)
    · rcases zc_due_in ok h1 h2 with h3 | ⟨r, hr, hon, h4, h5⟩
      · exact i5 b hb d (by omega) h3
      · rw [hno _ (ok.2.2.2.1 r hr hon).1] at h4
        cases h4
  · obtain ⟨ld', s1, s2, s3⟩ := zc_sendOn (m := m) (ro := ro) (s := zb_set (zb_H c m) (zb_nb c)) hm hro1 (by rw [eset]; have := zb_set_lt (zb_H c m) 6; omega) (from_ := from_) (rang := upd rang m (nI (zb_set (zb_H c m) (zb_nb c)))) (lasts := lasts) (to_ := to_) (uw := zf_put uw (fun _ => 0) (m % 10 * 6) (zb_nb c)) (fr := zb_fr c) (to := zb_to c) (lg := zb_lg c) (ld := ld) pk_us (fun r hr h1 => by
      have hon : zb_on c r = true := by rw [← hro r hr]; exact h1
      obtain ⟨g1, g2, g3, g4⟩ := ok.2.2.2.1 r hr hon
      obtain ⟨g5, g6, g7⟩ := hro0 r hr hon
      exact ⟨g5, by omega, g6, by omega, g7, g4⟩)
    refine ⟨ld', _, s1, j1, fun b hb d h1 h2 => ?_, j3, j4, fun b hb d h1 h2 => ?_, fun b hb d h1 h2 => Int.le_trans (i6 b hb d (by omega) h2) s2⟩
    · show zf_put uw (fun _ => 0) (m % 10 * 6) (zb_nb c) (d % 10 * 6 + b) + nI _ = _
      rw [euw b hb d h1 (by omega), nI_add, zc_due_step ok hro hsb hb h1 (by omega)]
    · rcases zc_due_in ok h1 h2 with h3 | ⟨r, hr, hon, h4, h5⟩
      · exact Int.le_trans (i5 b hb d (by omega) h3) s2
      · have := s3 r hr (by rw [hro r hr]; exact hon) (by rw [hsb _ (ok.2.2.2.1 r hr hon).1]; exact h4)
        rw [h5] at this
        exact this
/-- the class's course is the bells' course -/
theorem zc_play {c : zb_C} (ok : zb_ok c) {e : Nat} (he : e ≤ 400) {bells span tied ropes count : Int32} {kinds needs from_ lasts to_ pbells pmins ptimes : Nat → Int32} (hV : zc_V c bells span kinds needs from_ lasts to_) (hP : zc_P c count pbells pmins ptimes) (hT : zc_T c tied) (hR : zc_R c ropes) (rang uw ct cb : Nat → Int32) :
    ∃ u : Int32 × (Nat → Int32) × (Nat → Int32) × (Nat → Int32) × (Nat → Int32), M_X0_play rang uw ct cb count pmins bells span kinds pbells ptimes needs from_ lasts to_ tied ropes (nI e) = some u ∧ ∀ k, k < e → u.2.1 k = nI (zb_set (zb_H c k) 6) := by
  have key : ∀ d n m ld rang uw ct cb, m + d = e → d < n → zc_I c m ld rang uw ct cb → ∃ u : Int32 × Int32 × (Nat → Int32) × (Nat → Int32) × (Nat → Int32) × (Nat → Int32), L_X0_play_43 tied ropes (nI e) count pmins bells span kinds pbells ptimes needs from_ lasts to_ n (nI m) ld rang uw ct cb = some u ∧ ∀ k, k < e → u.2.2.1 k = nI (zb_set (zb_H c k) 6) := by
    intro d
    induction d with
    | zero =>
      intro n m ld rang uw ct cb hk1 hn hI
      cases n with
      | zero => exact absurd hn (Nat.not_lt_zero _)
      | succ n =>
        refine ⟨(nI m, ld, rang, uw, ct, cb), ?_, fun k hk => ?_⟩
        · rw [L_X0_play_43, if_pos (nI_le (by omega) (by omega))]
        · show rang k = _
          rw [hI.1 k (by omega), if_pos (by omega)]
    | succ d ih =>
      intro n m ld rang uw ct cb hk1 hn hI
      cases n with
      | zero => exact absurd hn (Nat.not_lt_zero _)
      | succ n =>
        by_cases hld : ld < nI m
        · have h1 : ld.toInt < (m : Int) := by
            have := Int32.lt_iff_toInt_lt.mp hld
            rw [nI_toInt (by omega)] at this
            exact this
          have hq := zb_quiet ok (m := m) (fun d hd b hb => Nat.eq_zero_of_not_pos (fun z => by
            have := hI.2.2.2.2.1 b hb d hd z
            omega)) (fun d hd b hb => Nat.eq_zero_of_not_pos (fun z => by
            have := hI.2.2.2.2.2 b hb d hd z
            omega))
          refine ⟨(nI m, ld, rang, uw, ct, cb), ?_, fun k hk => ?_⟩
          · rw [L_X0_play_43, if_neg (nI_ge (by omega) (by omega)), if_pos hld]
          · show rang k = _
            rw [hI.1 k (by omega)]
            by_cases h2 : k < m
            · rw [if_pos h2]
            · rw [if_neg h2]
              have e0 : zb_set (zb_H c k) 6 = 0 := by
                apply Nat.eq_of_testBit_eq
                intro i
                rw [zb_set_bit, hq k (by omega), Bool.and_false, Nat.zero_testBit]
              rw [e0]
              rfl
        · obtain ⟨u24, u25, u26, r1, r2, r3, r4, ld', uw', r5, r6⟩ := zc_minute ok (m := m) (by omega) hV hP hT hR hI
          by_cases hz : u26.2.1 m = 0
          · obtain ⟨u, h1, h2⟩ := ih n (m + 1) ld _ _ _ _ (by omega) (by omega) (r4 hz)
            refine ⟨u, ?_, h2⟩
            rw [L_X0_play_43, if_neg (nI_ge (by omega) (by omega)), if_neg hld, r1, Option.bind_some, r2, Option.bind_some, r3, Option.bind_some, q_gB (by omega) (by decide), nI_clamp (by omega), if_pos hz]
            simp only [nme]
            rw [nI_1]
            exact h1
          · obtain ⟨u, h1, h2⟩ := ih n (m + 1) ld' _ _ _ _ (by omega) (by omega) r6
            refine ⟨u, ?_, h2⟩
            rw [L_X0_play_43, if_neg (nI_ge (by omega) (by omega)), if_neg hld, r1, Option.bind_some, r2, Option.bind_some, r3, Option.bind_some, q_gB (by omega) (by decide), nI_clamp (by omega), if_neg hz, r5, Option.bind_some]
            simp only [nme]
            rw [nI_1]
            exact h1
  obtain ⟨np, pb, pm, pt, hnp, hcnt, hp, hpl⟩ := hP
  obtain ⟨ld, h1, h2⟩ := zc_lastP hnp (mins := pmins) (pm := pm) (fun p hp1 => ⟨(hp p hp1).2.2.1, (hp p hp1).2.2.2.1⟩)
  have hI : zc_I c 0 ld (zf_fill (fun _ => 0) rang 400) (zf_fill (fun _ => 0) uw 60) (zf_fill (fun _ => 0) ct 36) (zf_fill (fun _ => 0) cb 6) := by
    have hnb := ok.1
    refine ⟨fun k hk => ?_, fun b hb d h3 h4 => ?_, fun b hb k h3 h4 => by omega, fun b hb h3 => ?_, fun b hb d h3 h4 => ?_, fun b hb d h3 h4 => ?_⟩
    · rw [zf_fill_in hk, if_neg (by omega)]
    · have e10 : d % 10 < 10 := Nat.mod_lt _ (by decide)
      rw [zf_fill_in (by omega)]
      have : zb_due c (zb_H c) 0 d b = 0 := by
        unfold zb_due
        exact zb_sum_0 (fun r _ => if_neg (Nat.not_lt_zero _))
      rw [this]
      rfl
    · rw [zf_fill_in (by omega)]
      rfl
    · have : zb_due c (zb_H c) 0 d b = 0 := by
        unfold zb_due
        exact zb_sum_0 (fun r _ => if_neg (Nat.not_lt_zero _))
      omega
    · rw [hpl] at h4
      obtain ⟨p, hp1, h5⟩ := zb_sum_pos h4
      by_cases h6 : pm p = d ∧ pb p = b
      · rw [← h6.1]
        exact h2 p hp1
      · rw [if_neg h6] at h5
        omega
  obtain ⟨u, h3, h4⟩ := key e 1000 0 ld _ _ _ _ (by omega) (by omega) hI
  refine ⟨(u.2.1, u.2.2.1, u.2.2.2.1, u.2.2.2.2.1, u.2.2.2.2.2), ?_, h4⟩
  unfold M_X0_play
  rw [zc_fill 400 0 rang (by decide), Option.bind_some, zc_fill 60 0 uw (by decide), Option.bind_some, zc_fill 36 0 ct (by decide), Option.bind_some, zc_fill 6 0 cb (by decide), Option.bind_some, hcnt, h1, Option.bind_some]
  show ((L_X0_play_43 _ _ _ _ _ _ _ _ _ _ _ _ _ _ 1000 (nI 0) _ _ _ _ _).bind _) = _
  rw [← hcnt, h3]
  rfl
