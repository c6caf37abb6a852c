theorem zb_sum_cut {f : Nat → Nat} {n : Nat} : ∀ {N : Nat}, n ≤ N → (∀ i, n ≤ i → i < N → f i = 0) → zb_sum f n = zb_sum f N := by
  intro N
  induction N with
  | zero =>
    intro h _
    have e : n = 0 := by omega
    subst e
    rfl
  | succ N ih =>
    intro h h2
    by_cases h3 : n = N + 1
    · subst h3
      rfl
    · rw [zb_sum, ih (by omega) (fun i h4 h5 => h2 i h4 (by omega)), h2 N (by omega) (by omega), Nat.add_zero]
/-! the reference's course, loop by loop -/
theorem zr_isIn {s b : Nat} (hs : s < 2 ^ 31) (hb : b < 31) : M_X7_isIn (nI s) (nI b) = some (if s.testBit b = true then 1 else 0) := by
  unfold M_X7_isIn
  cases h : s.testBit b with
  | false => rw [if_neg (fun z => by rw [(q_bit1 hs hb).mp z] at h; cases h)]; rfl
  | true => rw [if_pos ((q_bit1 hs hb).mpr h)]; rfl
theorem zr_needs {kinds needs : Nat → Int32} {b kd nd : Nat} (hb : b < 6) (hk : kinds b = nI kd) (hkd : kd ≤ 2) (hn : needs b = nI nd) : M_X7_needs kinds needs (nI b) = some (nI (if kd = 0 then nd else nd + 1)) := by
  unfold M_X7_needs
  rw [q_gB hb (by decide), nI_clamp (by omega), hk, hn]
  by_cases h : kd = 0
  · subst h
    rw [if_pos (show nI 0 ≤ (0 : Int32) from nI_le (a := 0) (b := 0) (Nat.le_refl _) (by decide)), if_pos rfl, q_gB hb (by decide)]
  · rw [if_neg h, if_neg (nI_nle (by omega) (by omega)), q_gB hb (by decide), nI_1]
def zr_sw (sw : Nat → Int32) (m : Nat) (g : Nat → Nat) : Nat → Int32 := fun j => if j % 6 = m % 6 ∧ j < 36 then nI (g (j / 6)) else sw j
theorem zr_sw_at {sw : Nat → Int32} {m b : Nat} {g : Nat → Nat} (hb : b < 6) : zr_sw sw m g (6 * b + m % 6) = nI (g b) := by
  have e6 : m % 6 < 6 := Nat.mod_lt _ (by decide)
  unfold zr_sw
  rw [if_pos (by omega), show (6 * b + m % 6) / 6 = b by omega]
theorem zr_sw_upd {sw : Nat → Int32} {m b v : Nat} {g g' : Nat → Nat} (hb : b < 6) (h1 : g' b = v) (h2 : ∀ x, x < 6 → x ≠ b → g' x = g x) : upd (zr_sw sw m g) (6 * b + m % 6) (nI v) = zr_sw sw m g' := by
  have e6 : m % 6 < 6 := Nat.mod_lt _ (by decide)
  funext j
  by_cases hj : j = 6 * b + m % 6
  · subst hj
    rw [pk_us, zr_sw_at hb, h1]
  · rw [pk_un hj]
    unfold zr_sw
    by_cases h3 : j % 6 = m % 6 ∧ j < 36
    · rw [if_pos h3, if_pos h3, h2 (j / 6) (by omega) (by omega)]
    · rw [if_neg h3, if_neg h3]
theorem zr_sw_cong {sw : Nat → Int32} {m : Nat} {g g' : Nat → Nat} (h : ∀ x, x < 6 → g x = g' x) : zr_sw sw m g = zr_sw sw m g' := by
  funext j
  unfold zr_sw
  by_cases h3 : j % 6 = m % 6 ∧ j < 36
  · rw [if_pos h3, if_pos h3, h _ (by omega)]
  · rw [if_neg h3, if_neg h3]
theorem zr_zero {m : Nat} (hm : m < 400) (sw : Nat → Int32) : L_X7_go_76 (nI m) 1000 0 sw = some (nI 6, zr_sw sw m (fun _ => 0)) := by
  have e6 : m % 6 < 6 := Nat.mod_lt _ (by decide)
  have key : ∀ d n k, k + d = 6 → d < n → L_X7_go_76 (nI m) n (nI k) (fun j => if j % 6 = m % 6 ∧ j < 6 * k then 0 else sw j) = some (nI 6, zr_sw sw m (fun _ => 0)) := by
    intro d
    induction d with
    | zero =>
      intro n k hk1 hn
      cases n with
      | zero => exact absurd hn (Nat.not_lt_zero _)
      | succ n =>
        have e : k = 6 := by omega
        subst e
        rw [L_X7_go_76, if_pos (show (6 : Int32) ≤ nI 6 from nI_le (Nat.le_refl _) (by omega))]
        rfl
    | succ d ih =>
      intro n k hk1 hn
      cases n with
      | zero => exact absurd hn (Nat.not_lt_zero _)
      | succ n =>
        rw [L_X7_go_76, if_neg (show ¬ (6 : Int32) ≤ nI k from nI_ge (b := 6) (by omega) (by omega)), zc_rem6 (by omega), zc_6mul, nI_add, q_gB (by omega) (by decide), nI_clamp (by omega)]
        simp only [nme]
        rw [nI_1]
        have e1 : upd (fun j => if j % 6 = m % 6 ∧ j < 6 * k then 0 else sw j) (6 * k + m % 6) 0 = (fun j => if j % 6 = m % 6 ∧ j < 6 * (k + 1) then 0 else sw j) := by
          funext j
          by_cases hj : j = 6 * k + m % 6
          · subst hj
            rw [pk_us, if_pos (by omega)]
          · rw [pk_un hj]
            by_cases h1 : j % 6 = m % 6 ∧ j < 6 * k
            · rw [if_pos h1, if_pos (by omega)]
            · rw [if_neg h1, if_neg (by omega)]
        rw [e1]
        exact ih n (k + 1) (by omega) (by omega)
  have h1 := key 6 1000 0 (by omega) (by omega)
  have e0 : (fun j => if j % 6 = m % 6 ∧ j < 6 * 0 then 0 else sw j) = sw := by
    funext j
    rw [if_neg (by omega)]
  rw [e0] at h1
  exact h1
/-- pulls, one swing each -/
theorem zr_pulls {nb np m : Nat} (hnb : nb ≤ 6) (hnp : np ≤ 6) (hm : m < 400) {pullOf pullAt sw : Nat → Int32} {pb pm : Nat → Nat} {x2 : Int32} (hx : x2 < 0) (hp : ∀ p, p < np → pullOf p = nI (pb p) ∧ pb p < nb ∧ pullAt p = nI (pm p) ∧ pm p < 100) :
    L_X7_swingAll_3 (nI m) x2 (nI np) pullOf pullAt 1000 0 (zr_sw sw m (fun _ => 0)) = some (nI np, zr_sw sw m (fun b => zb_pd pb pm (fun _ => 1) m b np)) := by
  have e6 : m % 6 < 6 := Nat.mod_lt _ (by decide)
  have hx2 : ¬ 0 ≤ x2 := by
    intro z
    have h1 := Int32.lt_iff_toInt_lt.mp hx
    have h2 := Int32.le_iff_toInt_le.mp z
    omega
  have key : ∀ d n k, k + d = np → d < n → L_X7_swingAll_3 (nI m) x2 (nI np) pullOf pullAt n (nI k) (zr_sw sw m (fun b => zb_pd pb pm (fun _ => 1) m b k)) = some (nI np, zr_sw sw m (fun b => zb_pd pb pm (fun _ => 1) m b np)) := by
    intro d
    induction d with
    | zero =>
      intro n k hk1 hn
      cases n with
      | zero => exact absurd hn (Nat.not_lt_zero _)
      | succ n =>
        have e : k = np := by omega
        subst e
        rw [L_X7_swingAll_3, if_pos (nI_le (Nat.le_refl _) (by omega))]
    | succ d ih =>
      intro n k hk1 hn
      cases n with
      | zero => exact absurd hn (Nat.not_lt_zero _)
      | succ n =>
        obtain ⟨h1, h2, h3, h4⟩ := hp k (by omega)
        rw [L_X7_swingAll_3, if_neg (nI_ge (by omega) (by omega)), if_neg hx2, q_gB (by omega) (by decide), nI_clamp (by omega), h1, h3, zc_rem6 (by omega), zc_6mul, nI_add, q_gB (by omega) (by decide), q_gB (by omega) (by decide), q_gB (by omega) (by decide), nI_clamp (by omega), zr_sw_at (by omega)]
        by_cases h6 : pm k = m
        · rw [if_pos (by rw [h6])]
          simp only [nme]
          rw [nI_1, nI_1, zr_sw_upd (g' := fun b => zb_pd pb pm (fun _ => 1) m b (k + 1)) (by omega) (by
            show zb_pd pb pm (fun _ => 1) m (pb k) (k + 1) = _
            unfold zb_pd
            rw [zb_sum, if_pos ⟨h6, rfl⟩]) (fun x _ hne => by
            show zb_pd pb pm (fun _ => 1) m x (k + 1) = _
            unfold zb_pd
            rw [zb_sum, if_neg (fun z => hne z.2.symm), Nat.add_zero])]
          exact ih n (k + 1) (by omega) (by omega)
        · rw [if_neg (fun z => h6 ((nI_eq (by omega) (by omega)).mp z))]
          simp only [nme]
          rw [q_gB (by omega) (by decide), nI_1, Int32.add_zero, zr_sw_upd (g' := fun b => zb_pd pb pm (fun _ => 1) m b (k + 1)) (by omega) (by
            show zb_pd pb pm (fun _ => 1) m (pb k) (k + 1) = _
            unfold zb_pd
            rw [zb_sum, if_neg (fun z => h6 z.1), Nat.add_zero]) (fun x _ _ => by
            show zb_pd pb pm (fun _ => 1) m x (k + 1) = _
            unfold zb_pd
            rw [zb_sum, if_neg (fun z => h6 z.1), Nat.add_zero])]
          exact ih n (k + 1) (by omega) (by omega)
  exact key np 1000 0 (by omega) (by omega)
/-- a set of bells, pulled as often as each needs, at minute 0 -/
theorem zr_setPulls {nb m s : Nat} (hnb : nb ≤ 6) (hm : m < 400) (hs : s < 2 ^ 31) {kinds needs sw : Nat → Int32} {kd nd : Nat → Nat} (hk : ∀ b, b < nb → kinds b = nI (kd b) ∧ kd b ≤ 2 ∧ needs b = nI (nd b)) :
    ∃ z, L_X7_swingAll_64 (nI m) (nI s) (nI nb) kinds needs 1000 0 (zr_sw sw m (fun _ => 0)) = some (z, zr_sw sw m (fun b => if b < nb ∧ m = 0 ∧ s.testBit b = true then (if kd b = 0 then nd b else nd b + 1) else 0)) := by
  by_cases hm0 : m = 0
  · subst hm0
    have key : ∀ d n k, k + d = nb → d < n → L_X7_swingAll_64 (nI 0) (nI s) (nI nb) kinds needs n (nI k) (zr_sw sw 0 (fun b => if b < k ∧ s.testBit b = true then (if kd b = 0 then nd b else nd b + 1) else 0)) = some (nI nb, zr_sw sw 0 (fun b => if b < nb ∧ s.testBit b = true then (if kd b = 0 then nd b else nd b + 1) else 0)) := by
      intro d
      induction d with
      | zero =>
        intro n k hk1 hn
        cases n with
        | zero => exact absurd hn (Nat.not_lt_zero _)
        | succ n =>
          have e : k = nb := by omega
          subst e
          rw [L_X7_swingAll_64, if_pos (nI_le (Nat.le_refl _) (by omega))]
      | succ d ih =>
        intro n k hk1 hn
        cases n with
        | zero => exact absurd hn (Nat.not_lt_zero _)
        | succ n =>
          obtain ⟨h1, h2, h3⟩ := hk k (by omega)
          have hat := zr_sw_at (sw := sw) (m := 0) (b := k) (g := fun b => if b < k ∧ s.testBit b = true then (if kd b = 0 then nd b else nd b + 1) else 0) (by omega)
          rw [show 6 * k + 0 % 6 = 6 * k by omega] at hat
          have hup : ∀ v g', g' k = v → (∀ x, x < 6 → x ≠ k → g' x = (fun b => if b < k ∧ s.testBit b = true then (if kd b = 0 then nd b else nd b + 1) else 0) x) → upd (zr_sw sw 0 (fun b => if b < k ∧ s.testBit b = true then (if kd b = 0 then nd b else nd b + 1) else 0)) (6 * k) (nI v) = zr_sw sw 0 g' := by
            intro v g' a1 a2
            have := zr_sw_upd (sw := sw) (m := 0) (b := k) (v := v) (g := fun b => if b < k ∧ s.testBit b = true then (if kd b = 0 then nd b else nd b + 1) else 0) (g' := g') (by omega) a1 a2
            rw [show 6 * k + 0 % 6 = 6 * k by omega] at this
            exact this
          rw [L_X7_swingAll_64, if_neg (nI_ge (by omega) (by omega)), if_neg (nI_pos hs), if_pos (show nI 0 = (0 : Int32) from rfl), zc_6mul, q_gB (by omega) (by decide), zr_isIn hs (by omega), Option.bind_some, nI_clamp (by omega), hat, if_neg (show ¬ (k < k ∧ s.testBit k = true) by omega)]
          cases h5 : s.testBit k with
          | false =>
            rw [if_neg (show ¬ (false = true) by decide), if_pos (show (0 : Int32) = 0 from rfl), q_gB (by omega) (by decide)]
            simp only [nme]
            rw [nI_1, Int32.add_zero, hup 0 (fun b => if b < k + 1 ∧ s.testBit b = true then (if kd b = 0 then nd b else nd b + 1) else 0) (by rw [h5, if_neg (by simp)]) (fun x _ hne => by
              have h8 : (x < k + 1 ∧ s.testBit x = true) ↔ (x < k ∧ s.testBit x = true) := ⟨fun z => ⟨by omega, z.2⟩, fun z => ⟨by omega, z.2⟩⟩
              simp only [h8])]
            exact ih n (k + 1) (by omega) (by omega)
          | true =>
            rw [if_pos (show (true = true) from rfl), if_neg (show ¬ (1 : Int32) = 0 by decide), zr_needs (by omega) h1 h2 h3, Option.bind_some, q_gB (by omega) (by decide)]
            simp only [nme]
            rw [nI_1, nI_add, Nat.zero_add, hup _ (fun b => if b < k + 1 ∧ s.testBit b = true then (if kd b = 0 then nd b else nd b + 1) else 0) (by rw [if_pos ⟨by omega, h5⟩]) (fun x _ hne => by
              have h8 : (x < k + 1 ∧ s.testBit x = true) ↔ (x < k ∧ s.testBit x = true) := ⟨fun z => ⟨by omega, z.2⟩, fun z => ⟨by omega, z.2⟩⟩
              simp only [h8])]
            exact ih n (k + 1) (by omega) (by omega)
    have h1 := key nb 1000 0 (by omega) (by omega)
    refine ⟨nI nb, ?_⟩
    rw [zr_sw_cong (g := fun b => if b < 0 ∧ s.testBit b = true then (if kd b = 0 then nd b else nd b + 1) else 0) (g' := fun _ => 0) (fun x _ => if_neg (by omega))] at h1
    rw [zr_sw_cong (g := fun b => if b < nb ∧ 0 = 0 ∧ s.testBit b = true then (if kd b = 0 then nd b else nd b + 1) else 0) (g' := fun b => if b < nb ∧ s.testBit b = true then (if kd b = 0 then nd b else nd b + 1) else 0) (fun x _ => by simp)]
    exact h1
  · refine ⟨0, ?_⟩
    have e0 : (fun b => if b < nb ∧ m = 0 ∧ s.testBit b = true then (if kd b = 0 then nd b else nd b + 1) else 0) = (fun _ => 0) := by
      funext b
      exact if_neg (fun z => hm0 z.2.1)
    rw [e0]
    show L_X7_swingAll_64 (nI m) (nI s) (nI nb) kinds needs (999 + 1) (nI 0) _ = _
    rw [L_X7_swingAll_64]
    by_cases h1 : nb = 0
    · subst h1
      rw [if_pos (nI_le (Nat.le_refl _) (by omega))]
      rfl
    · rw [if_neg (nI_ge (by omega) (by omega)), if_neg (nI_pos hs), if_neg (nI_ne0 (by omega) (by omega))]
      rfl
theorem zr_byRope {b m si a g : Nat} (hb : b < 6) (hm : m < 400) {hs kinds sw : Nat → Int32} {kd : Nat → Nat} (hk : kinds b = nI (kd b)) (hkd : kd b ≤ 2) (hh : hs b = nI (si + a)) (h1 : si < 100000) (h2 : a < 100000) {G G' : Nat → Nat} (hG : G b = g + (if kd b = 2 then (si + a) / 2 - si / 2 else a)) (hG1 : G' b = g + (if kd b = 2 then (si + (a + 1)) / 2 - si / 2 else a + 1)) (hG2 : ∀ x, x < 6 → x ≠ b → G' x = G x) :
    M_X7_swingByRope hs kinds (zr_sw sw m G) (nI b) (nI m) = some (upd hs b (nI (si + (a + 1))), zr_sw sw m G') := by
  have e6 : m % 6 < 6 := Nat.mod_lt _ (by decide)
  unfold M_X7_swingByRope
  rw [q_gB hb (by decide), q_gB hb (by decide), nI_clamp (by omega), hh, nI_1, zc_rem6 (by omega), zc_6mul, nI_add, nI_clamp (by omega), zr_sw_at hb, nI_1]
  simp only [nme]
  rw [q_gB hb (by decide), hk, pk_us]
  have eup : upd (zr_sw sw m G) (6 * b + m % 6) (nI (G b + 1)) = zr_sw sw m (fun x => if x = b then G b + 1 else G x) := zr_sw_upd hb (if_pos rfl) (fun x _ hne => if_neg hne)
  by_cases h3 : kd b = 2
  · rw [h3, if_neg (show ¬ nI 2 < (2 : Int32) by decide), q_gB hb (by decide)]
    rw [h3, if_pos rfl] at hG hG1
    have e2 : nI (si + a + 1) - nI (si + a + 1) / (2 : Int32) * (2 : Int32) = nI ((si + a + 1) % 2) := pk_rem (d := 2) (by omega) (by decide) (by decide)
    rw [e2]
    by_cases h4 : (si + a + 1) % 2 = 0
    · rw [h4, if_pos (show nI 0 = (0 : Int32) from rfl), q_gB (by omega) (by decide), q_gB (by omega) (by decide), eup]
      have e3 : zr_sw sw m (fun x => if x = b then G b + 1 else G x) = zr_sw sw m G' := zr_sw_cong (fun x hx => by
        show (if x = b then G b + 1 else G x) = G' x
        by_cases h5 : x = b
        · subst h5
          rw [if_pos rfl]
          omega
        · rw [if_neg h5, hG2 x hx h5])
      rw [e3]
      rfl
    · rw [if_neg (nI_ne0 (by omega) (by omega))]
      have e3 : zr_sw sw m G = zr_sw sw m G' := zr_sw_cong (fun x hx => by
        by_cases h5 : x = b
        · subst h5
          omega
        · rw [hG2 x hx h5])
      rw [e3]
      rfl
  · rw [if_pos (show nI (kd b) < (2 : Int32) from nI_lt (b := 2) (by omega) (by decide)), q_gB (by omega) (by decide), q_gB (by omega) (by decide), eup]
    rw [if_neg h3] at hG hG1
    have e3 : zr_sw sw m (fun x => if x = b then G b + 1 else G x) = zr_sw sw m G' := zr_sw_cong (fun x hx => by
      show (if x = b then G b + 1 else G x) = G' x
      by_cases h5 : x = b
      · subst h5
        rw [if_pos rfl]
        omega
      · rw [if_neg h5, hG2 x hx h5])
    rw [e3]
    rfl
def zr_V (c : zb_C) (nr : Nat) (bells span : Int32) (without : Int32) (kinds needs from_ lasts to_ : Nat → Int32) : Prop := nr ≤ 9 ∧ bells = nI (zb_nb c) ∧ span = nI (zb_sp c) ∧ (∀ b, b < zb_nb c → kinds b = nI (zb_kd c b) ∧ needs b = nI (zb_nd c b)) ∧ (∀ r, r < 9 → zb_on c r = true → from_ r = nI (zb_fr c r) ∧ to_ r = nI (zb_to c r) ∧ lasts r = nI (zb_lg c r)) ∧ ∀ r, r < 9 → (zb_on c r = true ↔ r < nr ∧ nI r ≠ without)
/-- the swings by ropes -/
theorem zr_ropes {c : zb_C} (ok : zb_ok c) {nr m : Nat} (hm : m < 400) {bells span without : Int32} {kinds needs from_ lasts to_ hs pe sw : Nat → Int32} {g : Nat → Nat} (hV : zr_V c nr bells span without kinds needs from_ lasts to_) (hpe : ∀ k, k < m → pe k = nI (zb_set (zb_H c k) 6)) (hhs : ∀ b, b < zb_nb c → hs b = nI (zb_si c (zb_H c) b m)) :
    ∃ z, L_X7_swingAll_122 (nI m) without (nI nr) kinds lasts pe from_ to_ 1000 0 (zr_sw sw m g) hs = some (z, zr_sw sw m (fun b => g b + (if zb_kd c b = 2 then (zb_si c (zb_H c) b m + zb_by c (zb_H c) m b) / 2 - zb_si c (zb_H c) b m / 2 else zb_by c (zb_H c) m b)), (fun j => if j < zb_nb c then nI (zb_si c (zb_H c) j m + zb_by c (zb_H c) m j) else hs j)) := by
  obtain ⟨hnr, -, -, hk, hro, hon⟩ := hV
  have hnb := ok.1
  have key : ∀ d n k, k + d = nr → d < n → L_X7_swingAll_122 (nI m) without (nI nr) kinds lasts pe from_ to_ n (nI k) (zr_sw sw m (fun b => g b + (if zb_kd c b = 2 then (zb_si c (zb_H c) b m + zb_sum (zb_hit c (zb_H c) m b) k) / 2 - zb_si c (zb_H c) b m / 2 else zb_sum (zb_hit c (zb_H c) m b) k))) (fun j => if j < zb_nb c then nI (zb_si c (zb_H c) j m + zb_sum (zb_hit c (zb_H c) m j) k) else hs j) = some (nI nr, zr_sw sw m (fun b => g b + (if zb_kd c b = 2 then (zb_si c (zb_H c) b m + zb_sum (zb_hit c (zb_H c) m b) nr) / 2 - zb_si c (zb_H c) b m / 2 else zb_sum (zb_hit c (zb_H c) m b) nr)), (fun j => if j < zb_nb c then nI (zb_si c (zb_H c) j m + zb_sum (zb_hit c (zb_H c) m j) nr) else hs j)) := by
    intro d
    induction d with
    | zero =>
      intro n k hk1 hn
      cases n with
      | zero => exact absurd hn (Nat.not_lt_zero _)
      | succ n =>
        have e : k = nr := by omega
        subst e
        rw [L_X7_swingAll_122, if_pos (nI_le (Nat.le_refl _) (by omega))]
    | succ d ih =>
      intro n k hk1 hn
      cases n with
      | zero => exact absurd hn (Nat.not_lt_zero _)
      | succ n =>
        have skip : (∀ b, zb_hit c (zb_H c) m b k = 0) → L_X7_swingAll_122 (nI m) without (nI nr) kinds lasts pe from_ to_ n (nI (k + 1)) (zr_sw sw m (fun b => g b + (if zb_kd c b = 2 then (zb_si c (zb_H c) b m + zb_sum (zb_hit c (zb_H c) m b) k) / 2 - zb_si c (zb_H c) b m / 2 else zb_sum (zb_hit c (zb_H c) m b) k))) (fun j => if j < zb_nb c then nI (zb_si c (zb_H c) j m + zb_sum (zb_hit c (zb_H c) m j) k) else hs j) = some (nI nr, zr_sw sw m (fun b => g b + (if zb_kd c b = 2 then (zb_si c (zb_H c) b m + zb_sum (zb_hit c (zb_H c) m b) nr) / 2 - zb_si c (zb_H c) b m / 2 else zb_sum (zb_hit c (zb_H c) m b) nr)), (fun j => if j < zb_nb c then nI (zb_si c (zb_H c) j m + zb_sum (zb_hit c (zb_H c) m j) nr) else hs j)) := by
          intro hz
          have e1 : ∀ b, zb_sum (zb_hit c (zb_H c) m b) k = zb_sum (zb_hit c (zb_H c) m b) (k + 1) := by
            intro b
            rw [zb_sum.eq_2 _ k, hz b, Nat.add_zero]
          have := ih n (k + 1) (by omega) (by omega)
          simp only [← e1] at this
          exact this
        rw [L_X7_swingAll_122, if_neg (nI_ge (by omega) (by omega)), q_gB (by omega) (by decide), nI_clamp (by omega)]
        simp only [nme]
        by_cases h1 : nI k = without
        · have h0 : zb_on c k = false := by
            cases h : zb_on c k with
            | false => rfl
            | true => exact absurd h1 ((hon k (by omega)).mp h).2
          rw [if_pos h1, nI_1]
          refine skip (fun b => ?_)
          unfold zb_hit
          rw [if_neg (fun z => by rw [h0] at z; exact absurd z.1 (by decide))]
        · have h0 : zb_on c k = true := (hon k (by omega)).mpr ⟨by omega, h1⟩
          obtain ⟨g1, g2, g3, g4⟩ := ok.2.2.2.1 k (by omega) h0
          obtain ⟨g5, g6, g7⟩ := hro k (by omega) h0
          rw [if_neg h1, g7]
          by_cases h2 : m < zb_lg c k
          · rw [if_pos (pk_sneg (by omega) h2), nI_1]
            refine skip (fun b => ?_)
            unfold zb_hit
            rw [if_neg (by omega)]
          · have hset : zb_set (zb_H c (m - zb_lg c k)) 6 < 2 ^ 31 := by
              have := zb_set_lt (zb_H c (m - zb_lg c k)) 6
              omega
            have hbit : (zb_set (zb_H c (m - zb_lg c k)) 6).testBit (zb_fr c k) = zb_H c (m - zb_lg c k) (zb_fr c k) := by
              rw [zb_set_bit, decide_eq_true (by omega), Bool.true_and]
            rw [pk_sub (by omega), if_neg (nI_pos (by omega)), q_gB (by omega) (by decide), q_gB (by omega) (by decide), nI_clamp (by omega), hpe _ (by omega), g5, zr_isIn hset (by omega), Option.bind_some, hbit]
            cases h3 : zb_H c (m - zb_lg c k) (zb_fr c k) with
            | false =>
              rw [if_neg (show ¬ (false = true) by decide), if_pos (show (0 : Int32) = 0 from rfl), nI_1]
              refine skip (fun b => ?_)
              unfold zb_hit
              rw [if_neg (fun z => by rw [h3] at z; exact absurd z.2.2.2.2 (by decide))]
            | true =>
              have hhit : ∀ b, zb_hit c (zb_H c) m b k = if zb_to c k = b then 1 else 0 := by
                intro b
                unfold zb_hit
                by_cases h4 : zb_to c k = b
                · rw [if_pos h4, if_pos ⟨h0, h4, g3, by omega, h3⟩]
                · rw [if_neg h4, if_neg (fun z => h4 z.2.1)]
              have hA : zb_sum (zb_hit c (zb_H c) m (zb_to c k)) k < 100000 := by
                have := zb_sum_max (f := zb_hit c (zb_H c) m (zb_to c k)) (k := 1) (n := k) (fun i _ => by unfold zb_hit; split <;> omega)
                omega
              have hS : zb_si c (zb_H c) (zb_to c k) m < 100000 := by
                have := zb_si_le c (zb_H c) (zb_to c k) m
                omega
              rw [if_pos (show (true = true) from rfl), if_neg (show ¬ (1 : Int32) = 0 by decide), q_gB (by omega) (by decide), g6, zr_byRope (b := zb_to c k) (m := m) (si := zb_si c (zb_H c) (zb_to c k) m) (a := zb_sum (zb_hit c (zb_H c) m (zb_to c k)) k) (g := g (zb_to c k)) (by omega) hm (kd := zb_kd c) (hk _ g2).1 (ok.2.2.1 _ g2).1 (by rw [if_pos g2]) hS hA (G := fun b => g b + (if zb_kd c b = 2 then (zb_si c (zb_H c) b m + zb_sum (zb_hit c (zb_H c) m b) k) / 2 - zb_si c (zb_H c) b m / 2 else zb_sum (zb_hit c (zb_H c) m b) k)) (G' := fun b => g b + (if zb_kd c b = 2 then (zb_si c (zb_H c) b m + zb_sum (zb_hit c (zb_H c) m b) (k + 1)) / 2 - zb_si c (zb_H c) b m / 2 else zb_sum (zb_hit c (zb_H c) m b) (k + 1))) rfl (by
                show g (zb_to c k) + _ = _
                rw [zb_sum.eq_2 _ k, hhit, if_pos rfl]) (fun x _ hne => by
                show g x + _ = g x + _
                rw [zb_sum.eq_2 _ k, hhit, if_neg (Ne.symm hne), Nat.add_zero]), Option.bind_some]
              rw [nI_1]
              have e2 : upd (fun j => if j < zb_nb c then nI (zb_si c (zb_H c) j m + zb_sum (zb_hit c (zb_H c) m j) k) else hs j) (zb_to c k) (nI (zb_si c (zb_H c) (zb_to c k) m + (zb_sum (zb_hit c (zb_H c) m (zb_to c k)) k + 1))) = (fun j => if j < zb_nb c then nI (zb_si c (zb_H c) j m + zb_sum (zb_hit c (zb_H c) m j) (k + 1)) else hs j) := by
                funext j
                by_cases hj : j = zb_to c k
                · subst hj
                  rw [pk_us, if_pos g2, zb_sum.eq_2 _ k, hhit, if_pos rfl]
                · rw [pk_un hj]
                  by_cases h5 : j < zb_nb c
                  · rw [if_pos h5, if_pos h5, zb_sum.eq_2 _ k, hhit, if_neg (Ne.symm hj), Nat.add_zero]
                  · rw [if_neg h5, if_neg h5]
              have := ih n (k + 1) (by omega) (by omega)
              rw [← e2] at this
              exact this
  have h1 := key nr 1000 0 (by omega) (by omega)
  have e9 : ∀ b, zb_sum (zb_hit c (zb_H c) m b) nr = zb_by c (zb_H c) m b := by
    intro b
    unfold zb_by
    refine zb_sum_cut hnr (fun i h2 h3 => ?_)
    unfold zb_hit
    rw [if_neg]
    intro z
    have := ((hon i h3).mp z.1).1
    omega
  simp only [e9] at h1
  have e0 : (fun j => if j < zb_nb c then nI (zb_si c (zb_H c) j m + zb_sum (zb_hit c (zb_H c) m j) 0) else hs j) = hs := by
    funext j
    by_cases h2 : j < zb_nb c
    · rw [if_pos h2, hhs j h2]
      rfl
    · rw [if_neg h2]
  have e1 : zr_sw sw m (fun b => g b + (if zb_kd c b = 2 then (zb_si c (zb_H c) b m + zb_sum (zb_hit c (zb_H c) m b) 0) / 2 - zb_si c (zb_H c) b m / 2 else zb_sum (zb_hit c (zb_H c) m b) 0)) = zr_sw sw m g := by
    refine zr_sw_cong (fun x _ => ?_)
    show g x + (if zb_kd c x = 2 then (zb_si c (zb_H c) x m + 0) / 2 - zb_si c (zb_H c) x m / 2 else 0) = g x
    split <;> omega
  rw [e0, e1] at h1
  exact ⟨nI nr, h1⟩
