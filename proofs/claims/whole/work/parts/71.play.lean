def zf_fill (f g : Nat → Int32) (i : Nat) : Nat → Int32 := fun k => if k < i then f k else g k
theorem zf_fill_0 (f g : Nat → Int32) : zf_fill f g 0 = g := by
  funext k
  exact if_neg (Nat.not_lt_zero k)
theorem zf_fill_in {f g : Nat → Int32} {i k : Nat} (h : k < i) : zf_fill f g i k = f k := if_pos h
theorem zf_fill_out {f g : Nat → Int32} {i k : Nat} (h : i ≤ k) : zf_fill f g i k = g k := if_neg (by omega)
theorem zf_fill_succ (f g : Nat → Int32) (i : Nat) : upd (zf_fill f g i) i (f i) = zf_fill f g (i + 1) := by
  funext k
  by_cases h : k = i
  · subst h
    rw [pk_us, zf_fill_in (by omega)]
  · rw [pk_un h]
    by_cases h2 : k < i
    · rw [zf_fill_in h2, zf_fill_in (by omega)]
    · rw [zf_fill_out (by omega), zf_fill_out (by omega)]
def zf_put (f g : Nat → Int32) (a n : Nat) : Nat → Int32 := fun j => if a ≤ j ∧ j < a + n then g (j - a) else f j
theorem zf_put_at {f g : Nat → Int32} {a n j : Nat} : zf_put f g a n j = if a ≤ j ∧ j < a + n then g (j - a) else f j := rfl
theorem zf_put_succ (f g : Nat → Int32) (a n : Nat) : upd (zf_put f g a n) (a + n) (g n) = zf_put f g a (n + 1) := by
  funext j
  by_cases h : j = a + n
  · subst h
    rw [pk_us, zf_put_at, if_pos (by omega), Nat.add_sub_cancel_left]
  · rw [pk_un h, zf_put_at, zf_put_at]
    by_cases h2 : a ≤ j ∧ j < a + n
    · rw [if_pos h2, if_pos (by omega)]
    · rw [if_neg h2, if_neg (by omega)]
theorem zf_upd_same {f : Nat → Int32} {i : Nat} {x : Int32} (h : f i = x) : upd f i x = f := by
  funext j
  by_cases hj : j = i
  · subst hj
    rw [pk_us, h]
  · rw [pk_un hj]
theorem zf_upd_twice (f : Nat → Int32) (i : Nat) (x y : Int32) : upd (upd f i x) i y = upd f i y := by
  funext j
  by_cases hj : j = i
  · subst hj
    rw [pk_us, pk_us]
  · rw [pk_un hj, pk_un hj, pk_un hj]
theorem zb_sum_add {f g : Nat → Nat} : ∀ {n : Nat}, zb_sum (fun i => f i + g i) n = zb_sum f n + zb_sum g n := by
  intro n
  induction n with
  | zero => rfl
  | succ n ih =>
    rw [zb_sum, zb_sum, zb_sum, ih]
    omega
theorem zb_set_ext {f : Nat → Bool} {n N : Nat} (hn : n ≤ N) (h : ∀ b, n ≤ b → f b = false) : zb_set f n = zb_set f N := by
  apply Nat.eq_of_testBit_eq
  intro i
  rw [zb_set_bit, zb_set_bit]
  by_cases h1 : i < n
  · have h2 : i < N := by omega
    simp [h1, h2]
  · rw [h i (by omega), Bool.and_false, Bool.and_false]
/-! the course of the class, loop by loop -/
theorem zc_fill (nn : Nat) (v : Int32) (p : Nat → Int32) (hnn : nn < 1000) : M_J7_fill_53178 nn p v = some (zf_fill (fun _ => v) p nn) := by
  have key : ∀ d n k, k + d = nn → d < n → L_J7_fill_53178_5 nn v (nI nn) n (nI k) (zf_fill (fun _ => v) p k) = some (nI nn, zf_fill (fun _ => v) p nn) := by
    intro d
    induction d with
    | zero =>
      intro n k hk hn
      cases n with
      | zero => exact absurd hn (Nat.not_lt_zero _)
      | succ n =>
        have e : k = nn := by omega
        subst e
        rw [L_J7_fill_53178_5, if_pos (nI_le (Nat.le_refl _) (by omega))]
    | succ d ih =>
      intro n k hk hn
      cases n with
      | zero => exact absurd hn (Nat.not_lt_zero _)
      | succ n =>
        rw [L_J7_fill_53178_5, if_neg (nI_ge (by omega) (by omega)), q_gB (by omega) (by omega)]
        simp only [nme]
        rw [nI_clamp (by omega), nI_1, zf_fill_succ (fun _ => v) p k]
        exact ih n (k + 1) (by omega) (by omega)
  have h1 := key nn 1000 0 (by omega) hnn
  rw [zf_fill_0] at h1
  unfold M_J7_fill_53178
  simp only [nme]
  show ((L_J7_fill_53178_5 nn v (nI nn) 1000 (nI 0) p).bind _) = _
  rw [h1]
  rfl
theorem zc_lastP {np : Nat} (hnp : np ≤ 6) {mins : Nat → Int32} {pm : Nat → Nat} (hm : ∀ p, p < np → mins p = nI (pm p) ∧ pm p < 100) : ∃ ld, M_X1_lastMinute (nI np) mins = some ld ∧ ∀ p, p < np → (pm p : Int) ≤ ld.toInt := by
  have key : ∀ d n k x, k + d = np → d < n → ∃ ld, L_X1_lastMinute_5 (nI np) mins n x (nI k) = some (ld, nI np) ∧ x.toInt ≤ ld.toInt ∧ ∀ p, k ≤ p → p < np → (pm p : Int) ≤ ld.toInt := by
    intro d
    induction d with
    | zero =>
      intro n k x hk hn
      cases n with
      | zero => exact absurd hn (Nat.not_lt_zero _)
      | succ n =>
        have e : k = np := by omega
        subst e
        refine ⟨x, ?_, Int.le_refl _, fun p h1 h2 => by omega⟩
        rw [L_X1_lastMinute_5, if_pos (nI_le (Nat.le_refl _) (by omega))]
    | succ d ih =>
      intro n k x hk hn
      cases n with
      | zero => exact absurd hn (Nat.not_lt_zero _)
      | succ n =>
        obtain ⟨h1, h2⟩ := hm k (by omega)
        have e1 : (nI (pm k)).toInt = (pm k : Int) := nI_toInt (by omega)
        obtain ⟨ld, h3, h4, h5⟩ := ih n (k + 1) (if x < mins k then mins k else x) (by omega) (by omega)
        refine ⟨ld, ?_, ?_, ?_⟩
        · rw [L_X1_lastMinute_5, if_neg (nI_ge (by omega) (by omega)), q_gB (by omega) (by omega)]
          simp only [nme]
          rw [nI_clamp (by omega), nI_1]
          exact h3
        · split at h4
          · rename_i h6
            have := Int32.lt_iff_toInt_lt.mp h6
            omega
          · exact h4
        · intro p h6 h7
          by_cases h8 : p = k
          · subst h8
            split at h4
            · rw [h1, e1] at h4
              exact h4
            · rename_i h9
              have h10 : ¬ x.toInt < (mins p).toInt := fun z => h9 (Int32.lt_iff_toInt_lt.mpr z)
              rw [h1, e1] at h10
              omega
          · exact h5 p (by omega) h7
  obtain ⟨ld, h1, -, h2⟩ := key np 1000 0 (-9) (by omega) (by omega)
  refine ⟨ld, ?_, fun p hp => h2 p (Nat.zero_le _) hp⟩
  unfold M_X1_lastMinute
  show ((L_X1_lastMinute_5 (nI np) mins 1000 (-9) (nI 0)).bind _) = _
  rw [h1]
  rfl
theorem zc_counted {kinds cb : Nat → Int32} {b kd si s : Nat} (hb : b < 6) (hk : kinds b = nI kd) (hkd : kd ≤ 2) (hc : kd = 2 → cb b = nI si) (h1 : si < 100000) (h2 : s < 100000) : M_X0_countedOf kinds cb (nI b) (nI s) = some (nI (if kd = 2 then (si + s) / 2 - si / 2 else s), if kd = 2 then upd cb b (nI (si + s)) else cb) := by
  unfold M_X0_countedOf
  rw [q_gB hb (by decide), nI_clamp (by omega), hk]
  by_cases h : kd = 2
  · subst h
    rw [if_pos rfl, if_pos rfl, if_pos (show nI 2 = (2 : Int32) from rfl), hc rfl]
    rw [q_gB hb (by decide)]
    simp only [nme]
    rw [q_gB hb (by decide), nI_add]
    have e1 : nI (si + s) / (2 : Int32) = nI ((si + s) / 2) := pk_div (d := 2) (by omega) (by decide) (by decide)
    have e2 : nI si / (2 : Int32) = nI (si / 2) := pk_div (d := 2) (by omega) (by decide) (by decide)
    rw [e1, e2, pk_sub (by omega)]
  · rw [if_neg h, if_neg h, if_neg]
    intro z
    exact h ((nI_eq (b := 2) (by omega) (by decide)).mp z)
theorem zc_rem6 {m : Nat} (h : m < 100000) : nI m - nI m / (6 : Int32) * (6 : Int32) = nI (m % 6) := pk_rem (d := 6) (by omega) (by decide) (by decide)
theorem zc_rem10 {m : Nat} (h : m < 100000) : nI m - nI m / (10 : Int32) * (10 : Int32) = nI (m % 10) := pk_rem (d := 10) (by omega) (by decide) (by decide)
theorem zc_mul6 (m : Nat) : nI m * (6 : Int32) = nI (m * 6) := pk_mul m 6
theorem zc_6mul (m : Nat) : (6 : Int32) * nI m = nI (6 * m) := pk_mul 6 m
/-- the swings that lie on the ropes for minute m come to the bells -/
theorem zc_byRopes {nb m : Nat} (hnb : nb ≤ 6) (hm : m < 100000) {kinds uw cb ct : Nat → Int32} {kd si by_ : Nat → Nat} (hk : ∀ b, b < nb → kinds b = nI (kd b) ∧ kd b ≤ 2) (hc : ∀ b, b < nb → kd b = 2 → cb b = nI (si b)) (hu : ∀ b, b < nb → uw (m % 10 * 6 + b) = nI (by_ b)) (hs : ∀ b, b < nb → si b < 100000 ∧ by_ b < 100000) :
    M_X0_swingByRopes (nI nb) uw kinds cb ct (nI m) = some (zf_put uw (fun _ => 0) (m % 10 * 6) nb, (fun j => if j < nb ∧ kd j = 2 then nI (si j + by_ j) else cb j), zf_put ct (fun b => nI (if kd b = 2 then (si b + by_ b) / 2 - si b / 2 else by_ b)) (m % 6 * 6) nb) := by
  have key : ∀ d n k, k + d = nb → d < n → L_X0_swingByRopes_19 (nI (m % 10 * 6)) (nI (m % 6 * 6)) (nI nb) kinds n (nI k) (zf_put uw (fun _ => 0) (m % 10 * 6) k) (fun j => if j < k ∧ kd j = 2 then nI (si j + by_ j) else cb j) (zf_put ct (fun b => nI (if kd b = 2 then (si b + by_ b) / 2 - si b / 2 else by_ b)) (m % 6 * 6) k) = some (nI nb, zf_put uw (fun _ => 0) (m % 10 * 6) nb, (fun j => if j < nb ∧ kd j = 2 then nI (si j + by_ j) else cb j), zf_put ct (fun b => nI (if kd b = 2 then (si b + by_ b) / 2 - si b / 2 else by_ b)) (m % 6 * 6) nb) := by
    intro d
    induction d with
    | zero =>
      intro n k hk1 hn
      cases n with
      | zero => exact absurd hn (Nat.not_lt_zero _)
      | succ n =>
        have e : k = nb := by omega
        subst e
        rw [L_X0_swingByRopes_19, if_pos (nI_le (Nat.le_refl _) (by omega))]
    | succ d ih =>
      intro n k hk1 hn
      cases n with
      | zero => exact absurd hn (Nat.not_lt_zero _)
      | succ n =>
        obtain ⟨h1, h2⟩ := hk k (by omega)
        obtain ⟨h3, h4⟩ := hs k (by omega)
        have e10 : m % 10 < 10 := Nat.mod_lt _ (by decide)
        have e6 : m % 6 < 6 := Nat.mod_lt _ (by decide)
        rw [L_X0_swingByRopes_19, if_neg (nI_ge (by omega) (by omega)), nI_add, nI_add, q_gB (by omega) (by decide), nI_clamp (by omega)]
        have e1 : zf_put uw (fun _ => 0) (m % 10 * 6) k (m % 10 * 6 + k) = nI (by_ k) := by
          rw [zf_put_at, if_neg (by omega), hu k (by omega)]
        rw [e1, zc_counted (si := si k) (kd := kd k) (by omega) h1 h2 (fun z => by rw [if_neg (by omega), hc k (by omega) z]) h3 h4]
        simp only [Option.bind_some, nme]
        rw [q_gB (by omega) (by decide), nI_clamp (by omega), q_gB (by omega) (by decide), nI_1, zf_put_succ ct (fun b => nI (if kd b = 2 then (si b + by_ b) / 2 - si b / 2 else by_ b)) (m % 6 * 6) k, zf_put_succ uw (fun _ => 0) (m % 10 * 6) k]
        have e2 : (if kd k = 2 then upd (fun j => if j < k ∧ kd j = 2 then nI (si j + by_ j) else cb j) k (nI (si k + by_ k)) else (fun j => if j < k ∧ kd j = 2 then nI (si j + by_ j) else cb j)) = (fun j => if j < k + 1 ∧ kd j = 2 then nI (si j + by_ j) else cb j) := by
          funext j
          by_cases hj : j = k
          · subst hj
            by_cases h5 : kd j = 2
            · rw [if_pos h5, if_pos ⟨by omega, h5⟩]
              exact pk_us
            · rw [if_neg h5]
              show (if j < j ∧ kd j = 2 then _ else cb j) = (if j < j + 1 ∧ kd j = 2 then _ else cb j)
              rw [if_neg (fun z => h5 z.2), if_neg (fun z => h5 z.2)]
          · have h6 : (j < k ∧ kd j = 2) ↔ (j < k + 1 ∧ kd j = 2) := ⟨fun z => ⟨by omega, z.2⟩, fun z => ⟨by omega, z.2⟩⟩
            by_cases h5 : kd k = 2
            · rw [if_pos h5, pk_un hj]
              simp only [h6]
            · rw [if_neg h5]
              simp only [h6]
        rw [e2]
        exact ih n (k + 1) (by omega) (by omega)
  have h1 := key nb 1000 0 (by omega) (by omega)
  unfold M_X0_swingByRopes
  rw [zc_rem10 hm, zc_rem6 hm, zc_mul6, zc_mul6]
  simp only [nme]
  have e0 : zf_put uw (fun _ => 0) (m % 10 * 6) 0 = uw := by
    funext j
    rw [zf_put_at, if_neg (by omega)]
  have e1 : zf_put ct (fun b => nI (if kd b = 2 then (si b + by_ b) / 2 - si b / 2 else by_ b)) (m % 6 * 6) 0 = ct := by
    funext j
    rw [zf_put_at, if_neg (by omega)]
  have e2 : (fun j => if j < 0 ∧ kd j = 2 then nI (si j + by_ j) else cb j) = cb := by
    funext j
    rw [if_neg (by omega)]
  rw [e0, e1, e2] at h1
  show ((L_X0_swingByRopes_19 _ _ _ _ 1000 (nI 0) _ _ _).bind _) = _
  rw [h1]
  rfl
/-- pulls -/
def zb_pd (pb pm pt : Nat → Nat) (m b n : Nat) : Nat := zb_sum (fun p => if pm p = m ∧ pb p = b then pt p else 0) n
theorem zc_byPulls {nb np m : Nat} (hnb : nb ≤ 6) (hnp : np ≤ 6) (hm : m < 400) {bells mins times ct : Nat → Int32} {pb pm pt g : Nat → Nat} (hp : ∀ p, p < np → bells p = nI (pb p) ∧ pb p < nb ∧ mins p = nI (pm p) ∧ pm p < 100 ∧ times p = nI (pt p)) (hct : ∀ b, b < nb → ct (m % 6 * 6 + b) = nI (g b)) :
    M_X0_swingByPulls (nI np) mins bells ct times (nI m) = some (zf_put ct (fun b => nI (g b + zb_pd pb pm pt m b np)) (m % 6 * 6) nb) := by
  have e6 : m % 6 < 6 := Nat.mod_lt _ (by decide)
  have key : ∀ d n k, k + d = np → d < n → L_X0_swingByPulls_11 (nI m) (nI (m % 6 * 6)) (nI np) mins bells times n (nI k) (zf_put ct (fun b => nI (g b + zb_pd pb pm pt m b k)) (m % 6 * 6) nb) = some (nI np, zf_put ct (fun b => nI (g b + zb_pd pb pm pt m b np)) (m % 6 * 6) nb) := by
    intro d
    induction d with
    | zero =>
      intro n k hk1 hn
      cases n with
      | zero => exact absurd hn (Nat.not_lt_zero _)
      | succ n =>
        have e : k = np := by omega
        subst e
        rw [L_X0_swingByPulls_11, if_pos (nI_le (Nat.le_refl _) (by omega))]
    | succ d ih =>
      intro n k hk1 hn
      cases n with
      | zero => exact absurd hn (Nat.not_lt_zero _)
      | succ n =>
        obtain ⟨h1, h2, h3, h4, h5⟩ := hp k (by omega)
        rw [L_X0_swingByPulls_11, if_neg (nI_ge (by omega) (by omega)), q_gB (by omega) (by decide), nI_clamp (by omega), h3]
        by_cases h6 : pm k = m
        · rw [h6, if_pos rfl, q_gB (by omega) (by decide), h1, nI_add, q_gB (by omega) (by decide), q_gB (by omega) (by decide), q_gB (by omega) (by decide), nI_clamp (by omega)]
          simp only [nme]
          rw [nI_1]
          have e1 : upd (zf_put ct (fun b => nI (g b + zb_pd pb pm pt m b k)) (m % 6 * 6) nb) (m % 6 * 6 + pb k) (zf_put ct (fun b => nI (g b + zb_pd pb pm pt m b k)) (m % 6 * 6) nb (m % 6 * 6 + pb k) + times k) = zf_put ct (fun b => nI (g b + zb_pd pb pm pt m b (k + 1))) (m % 6 * 6) nb := by
            funext j
            by_cases hj : j = m % 6 * 6 + pb k
            · subst hj
              rw [pk_us, zf_put_at, zf_put_at, if_pos (by omega), if_pos (by omega), h5, nI_add, Nat.add_sub_cancel_left]
              unfold zb_pd
              rw [zb_sum, if_pos ⟨h6, rfl⟩, Nat.add_assoc]
            · rw [pk_un hj, zf_put_at, zf_put_at]
              by_cases h7 : m % 6 * 6 ≤ j ∧ j < m % 6 * 6 + nb
              · rw [if_pos h7, if_pos h7]
                unfold zb_pd
                rw [zb_sum, if_neg (by omega), Nat.add_zero]
              · rw [if_neg h7, if_neg h7]
          rw [e1]
          exact ih n (k + 1) (by omega) (by omega)
        · rw [if_neg (fun z => h6 ((nI_eq (by omega) (by omega)).mp z))]
          simp only [nme]
          rw [nI_1]
          have e1 : zf_put ct (fun b => nI (g b + zb_pd pb pm pt m b k)) (m % 6 * 6) nb = zf_put ct (fun b => nI (g b + zb_pd pb pm pt m b (k + 1))) (m % 6 * 6) nb := by
            funext j
            rw [zf_put_at, zf_put_at]
            have e2 : zb_pd pb pm pt m (j - m % 6 * 6) (k + 1) = zb_pd pb pm pt m (j - m % 6 * 6) k := by
              unfold zb_pd
              rw [zb_sum, if_neg (fun z => h6 z.1), Nat.add_zero]
            rw [e2]
          rw [e1]
          exact ih n (k + 1) (by omega) (by omega)
  have h1 := key np 1000 0 (by omega) (by omega)
  unfold M_X0_swingByPulls
  rw [zc_rem6 (by omega), zc_mul6]
  simp only [nme]
  have e0 : zf_put ct (fun b => nI (g b + zb_pd pb pm pt m b 0)) (m % 6 * 6) nb = ct := by
    funext j
    rw [zf_put_at]
    split
    · rename_i h
      have := hct (j - m % 6 * 6) (by omega)
      rw [show m % 6 * 6 + (j - m % 6 * 6) = j by omega] at this
      rw [this]
      rfl
    · rfl
  rw [e0] at h1
  show ((L_X0_swingByPulls_11 _ _ _ _ _ _ 1000 (nI 0) _).bind _) = _
  rw [h1]
  rfl
/-- the swings of the last minutes together -/
theorem zc_together {sp m b : Nat} (hsp : sp ≤ 5) (hm : m < 400) (hb : b < 6) {ct : Nat → Int32} {cv : Nat → Nat} (hct : ∀ j, j ≤ sp → j ≤ m → ct ((m - j) % 6 * 6 + b) = nI (cv j)) : M_X0_countTogether (nI sp) ct (nI b) (nI m) = some (nI (zb_sum (fun j => if j ≤ m then cv j else 0) (sp + 1))) := by
  have key : ∀ d n a acc, a + d = sp + 1 → d < n → ∃ z, L_X0_countTogether_5 (nI b) (nI m) (nI sp) ct n (nI acc) (nI a) = some (nI (acc + zb_sum (fun i => if a + i ≤ m then cv (a + i) else 0) d), z) := by
    intro d
    induction d with
    | zero =>
      intro n a acc ha hn
      cases n with
      | zero => exact absurd hn (Nat.not_lt_zero _)
      | succ n =>
        refine ⟨nI a, ?_⟩
        rw [L_X0_countTogether_5, if_pos (nI_lt (by omega) (by omega))]
        rfl
    | succ d ih =>
      intro n a acc ha hn
      cases n with
      | zero => exact absurd hn (Nat.not_lt_zero _)
      | succ n =>
        rw [zb_sum_left]
        by_cases h1 : a ≤ m
        · obtain ⟨z, h2⟩ := ih n (a + 1) (acc + cv a) (by omega) (by omega)
          refine ⟨z, ?_⟩
          have e6 : (m - a) % 6 < 6 := Nat.mod_lt _ (by decide)
          rw [L_X0_countTogether_5, if_neg (nI_nlt (by omega) (by omega)), if_neg (nI_nlt (by omega) (by omega)), pk_sub h1]
          simp only [nme]
          rw [zc_rem6 (by omega), zc_mul6, nI_add, q_gB (by omega) (by decide), nI_clamp (by omega), hct a (by omega) h1, nI_add, nI_1, h2]
          have e1 : (fun i => if a + 1 + i ≤ m then cv (a + 1 + i) else 0) = (fun i => if a + (i + 1) ≤ m then cv (a + (i + 1)) else 0) := by
            funext i
            rw [show a + 1 + i = a + (i + 1) by omega]
          rw [e1, Nat.add_zero, if_pos h1, Nat.add_assoc]
        · refine ⟨nI a, ?_⟩
          rw [L_X0_countTogether_5, if_neg (nI_nlt (by omega) (by omega)), if_pos (nI_lt (by omega) (by omega)), Nat.add_zero, if_neg h1, zb_sum_0 (fun i _ => if_neg (by omega))]
          rfl
  obtain ⟨z, h1⟩ := key (sp + 1) 1000 0 0 (by omega) (by omega)
  unfold M_X0_countTogether
  show ((L_X0_countTogether_5 _ _ _ _ 1000 (nI 0) (nI 0)).bind _) = _
  rw [h1]
  have e1 : (fun i => if 0 + i ≤ m then cv (0 + i) else 0) = (fun j => if j ≤ m then cv j else 0) := by
    funext i
    rw [Nat.zero_add]
  rw [e1, Nat.zero_add]
  rfl
theorem zc_swingsFor {kinds needs : Nat → Int32} {b kd nd : Nat} (hb : b < 6) (hk : kinds b = nI kd) (hkd : kd ≤ 2) (hn : needs b = nI nd) : M_X5_swingsFor kinds needs (nI b) = some (nI (if kd = 0 then nd else nd + 1)) := by
  unfold M_X5_swingsFor
  rw [q_gB hb (by decide), nI_clamp (by omega), hk, hn]
  by_cases h : kd = 0
  · subst h
    rw [if_pos (show nI 0 = (0 : Int32) from rfl), if_pos rfl, q_gB hb (by decide)]
  · rw [if_neg h, if_neg (nI_ne0 (by omega) (by omega)), q_gB hb (by decide), nI_1]
theorem zc_forget {b : Nat} (hb : b < 6) (ct cb : Nat → Int32) : M_X0_forget ct cb (nI b) = some ((fun j => if j % 6 = b ∧ j < 36 then 0 else ct j), upd cb b 0) := by
  have key : ∀ d n k, k + d = 6 → d < n → L_X0_forget_2 (nI b) n (nI k) (fun j => if j % 6 = b ∧ j < 6 * k then 0 else ct j) = some (nI 6, (fun j => if j % 6 = b ∧ j < 36 then 0 else ct j)) := by
    intro d
    induction d with
    | zero =>
      intro n k hk1 hn
      cases n with
      | zero => exact absurd hn (Nat.not_lt_zero _)
      | succ n =>
        have e : k = 6 := by omega
        subst e
        rw [L_X0_forget_2, if_pos (show (6 : Int32) ≤ nI 6 from nI_le (Nat.le_refl _) (by omega))]
    | succ d ih =>
      intro n k hk1 hn
      cases n with
      | zero => exact absurd hn (Nat.not_lt_zero _)
      | succ n =>
        rw [L_X0_forget_2, if_neg (show ¬ (6 : Int32) ≤ nI k from nI_ge (b := 6) (by omega) (by omega)), zc_mul6, nI_add, q_gB (by omega) (by decide), nI_clamp (by omega)]
        simp only [nme]
        rw [nI_1]
        have e1 : upd (fun j => if j % 6 = b ∧ j < 6 * k then 0 else ct j) (k * 6 + b) 0 = (fun j => if j % 6 = b ∧ j < 6 * (k + 1) then 0 else ct j) := by
          funext j
          by_cases hj : j = k * 6 + b
          · subst hj
            rw [pk_us, if_pos (by omega)]
          · rw [pk_un hj]
            by_cases h1 : j % 6 = b ∧ j < 6 * k
            · rw [if_pos h1, if_pos (by omega)]
            · rw [if_neg h1, if_neg (by omega)]
        rw [e1]
        exact ih n (k + 1) (by omega) (by omega)
  have h1 := key 6 1000 0 (by omega) (by omega)
  have e0 : (fun j => if j % 6 = b ∧ j < 6 * 0 then 0 else ct j) = ct := by
    funext j
    rw [if_neg (by omega)]
  rw [e0] at h1
  unfold M_X0_forget
  show ((L_X0_forget_2 _ 1000 (nI 0) _).bind _) = _
  rw [h1]
  simp only [Option.bind_some, nme]
  rw [q_gB hb (by decide), nI_clamp (by omega)]
/-- each bell rings, or not -/
theorem zc_ringAll {nb sp m td : Nat} (hnb : nb ≤ 6) (hsp : sp ≤ 5) (hm : m < 400) (htd : td < 2 ^ 31) {kinds needs ct rang cb : Nat → Int32} {kd nd ws : Nat → Nat} {cv : Nat → Nat → Nat} {r : Nat → Bool}
    (hk : ∀ b, b < nb → kinds b = nI (kd b) ∧ kd b ≤ 2 ∧ needs b = nI (nd b) ∧ nd b ≤ 3) (hct : ∀ b, b < nb → ∀ j, j ≤ sp → j ≤ m → ct ((m - j) % 6 * 6 + b) = nI (cv b j)) (hws : ∀ b, b < nb → zb_sum (fun j => if j ≤ m then cv b j else 0) (sp + 1) = ws b ∧ ws b < 100000)
    (hr : ∀ b, b < nb → r b = (!td.testBit b && decide ((if kd b = 0 then nd b else nd b + 1) ≤ ws b))) (hrang : rang m = 0) :
    M_X0_ringAll (nI nb) (nI sp) ct kinds needs rang cb (nI m) (nI td) = some ((fun j => if j % 6 < nb ∧ j < 36 ∧ r (j % 6) = true then 0 else ct j), upd rang m (nI (zb_set r nb)), (fun j => if j < nb ∧ r j = true then 0 else cb j)) := by
  have key : ∀ d n k, k + d = nb → d < n → L_X0_ringAll_2 (nI m) (nI td) (nI nb) (nI sp) kinds needs n (nI k) (fun j => if j % 6 < k ∧ j < 36 ∧ r (j % 6) = true then 0 else ct j) (upd rang m (nI (zb_set r k))) (fun j => if j < k ∧ r j = true then 0 else cb j) = some (nI nb, (fun j => if j % 6 < nb ∧ j < 36 ∧ r (j % 6) = true then 0 else ct j), upd rang m (nI (zb_set r nb)), (fun j => if j < nb ∧ r j = true then 0 else cb j)) := by
    intro d
    induction d with
    | zero =>
      intro n k hk1 hn
      cases n with
      | zero => exact absurd hn (Nat.not_lt_zero _)
      | succ n =>
        have e : k = nb := by omega
        subst e
        rw [L_X0_ringAll_2, if_pos (nI_le (Nat.le_refl _) (by omega))]
    | succ d ih =>
      intro n k hk1 hn
      cases n with
      | zero => exact absurd hn (Nat.not_lt_zero _)
      | succ n =>
        obtain ⟨h1, h2, h3, h4⟩ := hk k (by omega)
        obtain ⟨h5, h6⟩ := hws k (by omega)
        have h7 := hr k (by omega)
        have ect : M_X0_countTogether (nI sp) (fun j => if j % 6 < k ∧ j < 36 ∧ r (j % 6) = true then 0 else ct j) (nI k) (nI m) = some (nI (ws k)) := by
          rw [← h5]
          refine zc_together hsp hm (by omega) (fun j hj1 hj2 => ?_)
          rw [if_neg (by omega)]
          exact hct k (by omega) j hj1 hj2
        have keep : r k = false → ((fun j => if j % 6 < k ∧ j < 36 ∧ r (j % 6) = true then 0 else ct j) = (fun j => if j % 6 < k + 1 ∧ j < 36 ∧ r (j % 6) = true then 0 else ct j)) ∧ zb_set r k = zb_set r (k + 1) ∧ ((fun j => if j < k ∧ r j = true then 0 else cb j) = (fun j => if j < k + 1 ∧ r j = true then 0 else cb j)) := by
          intro hf
          refine ⟨?_, ?_, ?_⟩
          · funext j
            by_cases hj : j % 6 = k
            · rw [hj, hf, if_neg (by simp), if_neg (by simp)]
            · have h8 : (j % 6 < k ∧ j < 36 ∧ r (j % 6) = true) ↔ (j % 6 < k + 1 ∧ j < 36 ∧ r (j % 6) = true) := ⟨fun z => ⟨by omega, z.2⟩, fun z => ⟨by omega, z.2⟩⟩
              simp only [h8]
          · rw [zb_set, hf]
            simp
          · funext j
            by_cases hj : j = k
            · subst hj
              rw [hf, if_neg (by simp), if_neg (by simp)]
            · have h8 : (j < k ∧ r j = true) ↔ (j < k + 1 ∧ r j = true) := ⟨fun z => ⟨by omega, z.2⟩, fun z => ⟨by omega, z.2⟩⟩
              simp only [h8]
        rw [L_X0_ringAll_2, if_neg (nI_ge (by omega) (by omega))]
        by_cases h8 : td.testBit k = false
        · rw [if_pos ((q_bit0 htd (by omega)).mpr h8), ect, Option.bind_some, zc_swingsFor (by omega) h1 h2 h3, Option.bind_some]
          by_cases h9 : (if kd k = 0 then nd k else nd k + 1) ≤ ws k
          · have hrt : r k = true := by rw [h7, h8, decide_eq_true h9]; rfl
            rw [if_neg (nI_nlt h9 (by omega)), q_gB (by omega) (by decide), q_gB (by omega) (by decide), nI_clamp (by omega), pk_us, q_shl k (by omega), q_or]
            simp only [nme]
            rw [zc_forget (by omega), Option.bind_some, nI_1, zf_upd_twice]
            have e1 : zb_set r k ||| 2 ^ k = zb_set r (k + 1) := by
              rw [zb_set, if_pos hrt]
            have e2 : (fun j => if j % 6 = k ∧ j < 36 then 0 else (if j % 6 < k ∧ j < 36 ∧ r (j % 6) = true then 0 else ct j)) = (fun j => if j % 6 < k + 1 ∧ j < 36 ∧ r (j % 6) = true then 0 else ct j) := by
              funext j
              by_cases hj : j % 6 = k
              · by_cases hj2 : j < 36
                · rw [if_pos ⟨hj, hj2⟩, if_pos ⟨by omega, hj2, by rw [hj]; exact hrt⟩]
                · rw [if_neg (fun z => hj2 z.2), if_neg (fun z => hj2 z.2.1), if_neg (fun z => hj2 z.2.1)]
              · rw [if_neg (fun z => hj z.1)]
                have h10 : (j % 6 < k ∧ j < 36 ∧ r (j % 6) = true) ↔ (j % 6 < k + 1 ∧ j < 36 ∧ r (j % 6) = true) := ⟨fun z => ⟨by omega, z.2⟩, fun z => ⟨by omega, z.2⟩⟩
                simp only [h10]
            have e3 : upd (fun j => if j < k ∧ r j = true then 0 else cb j) k 0 = (fun j => if j < k + 1 ∧ r j = true then 0 else cb j) := by
              funext j
              by_cases hj : j = k
              · subst hj
                rw [pk_us, if_pos ⟨by omega, hrt⟩]
              · rw [pk_un hj]
                have h10 : (j < k ∧ r j = true) ↔ (j < k + 1 ∧ r j = true) := ⟨fun z => ⟨by omega, z.2⟩, fun z => ⟨by omega, z.2⟩⟩
                simp only [h10]
            rw [e1, e2, e3]
            exact ih n (k + 1) (by omega) (by omega)
          · have hrf : r k = false := by rw [h7, decide_eq_false h9, Bool.and_false]
            have h11 : (if kd k = 0 then nd k else nd k + 1) ≤ 4 := by split <;> omega
            obtain ⟨e1, e2, e3⟩ := keep hrf
            rw [if_pos (nI_lt (by omega) (by omega))]
            simp only [nme]
            rw [nI_1, e1, e2, e3]
            exact ih n (k + 1) (by omega) (by omega)
        · have hrf : r k = false := by
            have h9 : td.testBit k = true := by simpa using h8
            rw [h7, h9]
            rfl
          obtain ⟨e1, e2, e3⟩ := keep hrf
          rw [if_neg (fun z => h8 ((q_bit0 htd (by omega)).mp z))]
          simp only [nme]
          rw [nI_1, e1, e2, e3]
          exact ih n (k + 1) (by omega) (by omega)
  have h1 := key nb 1000 0 (by omega) (by omega)
  have e0 : (fun j => if j % 6 < 0 ∧ j < 36 ∧ r (j % 6) = true then 0 else ct j) = ct := by
    funext j
    rw [if_neg (by omega)]
  have e1 : upd rang m (nI (zb_set r 0)) = rang := zf_upd_same hrang
  have e2 : (fun j => if j < 0 ∧ r j = true then 0 else cb j) = cb := by
    funext j
    rw [if_neg (by omega)]
  rw [e0, e1, e2] at h1
  unfold M_X0_ringAll
  show ((L_X0_ringAll_2 _ _ _ _ _ _ 1000 (nI 0) _ _ _).bind _) = _
  rw [h1]
  rfl
theorem zc_rangAt {rang : Nat → Int32} {m b s : Nat} (hm : m < 400) (hb : b < 31) (hs : s < 2 ^ 31) (h : rang m = nI s) : M_X0_rangAt rang (nI b) (nI m) = some (if s.testBit b = true then 1 else 0) := by
  unfold M_X0_rangAt
  rw [q_gB hm (by decide), nI_clamp (by omega), h]
  cases h1 : s.testBit b with
  | false => rw [if_pos ((q_bit0 hs hb).mpr h1)]; rfl
  | true => rw [if_neg (fun z => by rw [(q_bit0 hs hb).mp z] at h1; cases h1)]; rfl
/-- what rang sends on -/
theorem zc_sendOn {m ro s : Nat} (hm : m < 400) (hro : ro < 2 ^ 31) (hs : s < 2 ^ 31) {from_ rang lasts to_ uw : Nat → Int32} {fr to lg : Nat → Nat} {ld : Int32} (hrang : rang m = nI s)
    (hr : ∀ r, r < 9 → ro.testBit r = true → from_ r = nI (fr r) ∧ fr r < 6 ∧ to_ r = nI (to r) ∧ to r < 6 ∧ lasts r = nI (lg r) ∧ lg r ≤ 9) :
    ∃ ld', M_X0_sendOn ld from_ rang lasts to_ uw (nI m) (nI ro) = some (ld', fun j => uw j + nI (zb_sum (fun r => if ro.testBit r = true ∧ s.testBit (fr r) = true ∧ (m + lg r) % 10 * 6 + to r = j then 1 else 0) 9)) ∧ ld.toInt ≤ ld'.toInt ∧ ∀ r, r < 9 → ro.testBit r = true → s.testBit (fr r) = true → ((m + lg r : Nat) : Int) ≤ ld'.toInt := by
  have key : ∀ d n k ld, k + d = 9 → d < n → ∃ ld', L_X0_sendOn_2 (nI m) (nI ro) from_ rang lasts to_ n (nI k) ld (fun j => uw j + nI (zb_sum (fun r => if ro.testBit r = true ∧ s.testBit (fr r) = true ∧ (m + lg r) % 10 * 6 + to r = j then 1 else 0) k)) = some (nI 9, ld', fun j => uw j + nI (zb_sum (fun r => if ro.testBit r = true ∧ s.testBit (fr r) = true ∧ (m + lg r) % 10 * 6 + to r = j then 1 else 0) 9)) ∧ ld.toInt ≤ ld'.toInt ∧ ∀ r, k ≤ r → r < 9 → ro.testBit r = true → s.testBit (fr r) = true → ((m + lg r : Nat) : Int) ≤ ld'.toInt := by
    intro d
    induction d with
    | zero =>
      intro n k ld hk1 hn
      cases n with
      | zero => exact absurd hn (Nat.not_lt_zero _)
      | succ n =>
        have e : k = 9 := by omega
        subst e
        refine ⟨ld, ?_, Int.le_refl _, fun r h1 h2 => by omega⟩
        rw [L_X0_sendOn_2, if_pos (show (8 : Int32) < nI 9 from nI_lt (a := 8) (by omega) (by omega))]
    | succ d ih =>
      intro n k ld hk1 hn
      cases n with
      | zero => exact absurd hn (Nat.not_lt_zero _)
      | succ n =>
        have skip : ¬ (ro.testBit k = true ∧ s.testBit (fr k) = true) → ((fun j => uw j + nI (zb_sum (fun r => if ro.testBit r = true ∧ s.testBit (fr r) = true ∧ (m + lg r) % 10 * 6 + to r = j then 1 else 0) k)) = (fun j => uw j + nI (zb_sum (fun r => if ro.testBit r = true ∧ s.testBit (fr r) = true ∧ (m + lg r) % 10 * 6 + to r = j then 1 else 0) (k + 1)))) := by
          intro hno
          funext j
          rw [zb_sum.eq_2 _ k, if_neg (fun z => hno ⟨z.1, z.2.1⟩), Nat.add_zero]
        rw [L_X0_sendOn_2, if_neg (show ¬ (8 : Int32) < nI k from nI_nlt (b := k) (a := 8) (by omega) (by omega))]
        by_cases h1 : ro.testBit k = true
        · obtain ⟨h2, h3, h4, h5, h6, h7⟩ := hr k (by omega) h1
          rw [if_neg (fun z => by rw [(q_bit0 hro (by omega)).mp z] at h1; cases h1), q_gB (by omega) (by decide), nI_clamp (by omega), h2, zc_rangAt hm (by omega) hs hrang, Option.bind_some]
          by_cases h8 : s.testBit (fr k) = true
          · rw [if_pos h8, if_neg (show ¬ (1 : Int32) = 0 by decide), q_gB (by omega) (by decide), h6, nI_add]
            simp only [nme]
            have e10 : (m + lg k) % 10 < 10 := Nat.mod_lt _ (by decide)
            rw [q_gB (by omega) (by decide), zc_rem10 (by omega), zc_mul6, h4, nI_add, q_gB (by omega) (by decide), q_gB (by omega) (by decide), nI_clamp (by omega), nI_1]
            obtain ⟨ld', h9, h10, h11⟩ := ih n (k + 1) (if ld < nI (m + lg k) then nI (m + lg k) else ld) (by omega) (by omega)
            have e1 : (nI (m + lg k)).toInt = ((m + lg k : Nat) : Int) := nI_toInt (by omega)
            have e2 : upd (fun j => uw j + nI (zb_sum (fun r => if ro.testBit r = true ∧ s.testBit (fr r) = true ∧ (m + lg r) % 10 * 6 + to r = j then 1 else 0) k)) ((m + lg k) % 10 * 6 + to k) (uw ((m + lg k) % 10 * 6 + to k) + nI (zb_sum (fun r => if ro.testBit r = true ∧ s.testBit (fr r) = true ∧ (m + lg r) % 10 * 6 + to r = (m + lg k) % 10 * 6 + to k then 1 else 0) k) + 1) = (fun j => uw j + nI (zb_sum (fun r => if ro.testBit r = true ∧ s.testBit (fr r) = true ∧ (m + lg r) % 10 * 6 + to r = j then 1 else 0) (k + 1))) := by
              funext j
              by_cases hj : j = (m + lg k) % 10 * 6 + to k
              · subst hj
                rw [pk_us, zb_sum.eq_2 _ k, if_pos ⟨h1, h8, rfl⟩, Int32.add_assoc, nI_1]
              · rw [pk_un hj, zb_sum.eq_2 _ k, if_neg (fun z => hj z.2.2.symm), Nat.add_zero]
            rw [e2]
            refine ⟨ld', h9, ?_, ?_⟩
            · split at h10
              · rename_i h12
                have := Int32.lt_iff_toInt_lt.mp h12
                omega
              · exact h10
            · intro r h12 h13 h14 h15
              by_cases h16 : r = k
              · subst h16
                split at h10
                · rw [e1] at h10
                  exact h10
                · rename_i h17
                  have h18 : ¬ ld.toInt < (nI (m + lg r)).toInt := fun z => h17 (Int32.lt_iff_toInt_lt.mpr z)
                  rw [e1] at h18
                  omega
              · exact h11 r (by omega) h13 h14 h15
          · rw [if_neg h8, if_pos rfl]
            simp only [nme]
            rw [nI_1, skip (fun z => h8 z.2)]
            obtain ⟨ld', h9, h10, h11⟩ := ih n (k + 1) ld (by omega) (by omega)
            refine ⟨ld', h9, h10, fun r h12 h13 h14 h15 => ?_⟩
            by_cases h16 : r = k
            · subst h16; exact absurd h15 h8
            · exact h11 r (by omega) h13 h14 h15
        · have h2 : ro.testBit k = false := by simpa using h1
          rw [if_pos ((q_bit0 hro (by omega)).mpr h2)]
          simp only [nme]
          rw [nI_1, skip (fun z => h1 z.1)]
          obtain ⟨ld', h9, h10, h11⟩ := ih n (k + 1) ld (by omega) (by omega)
          refine ⟨ld', h9, h10, fun r h12 h13 h14 h15 => ?_⟩
          by_cases h16 : r = k
          · subst h16; exact absurd h14 h1
          · exact h11 r (by omega) h13 h14 h15
  obtain ⟨ld', h1, h2, h3⟩ := key 9 1000 0 ld (by omega) (by omega)
  refine ⟨ld', ?_, h2, fun r h4 h5 h6 => h3 r (Nat.zero_le _) h4 h5 h6⟩
  have e0 : (fun j => uw j + nI (zb_sum (fun r => if ro.testBit r = true ∧ s.testBit (fr r) = true ∧ (m + lg r) % 10 * 6 + to r = j then 1 else 0) 0)) = uw := by
    funext j
    exact Int32.add_zero _
  rw [e0] at h1
  unfold M_X0_sendOn
  show ((L_X0_sendOn_2 _ _ _ _ _ _ 1000 (nI 0) _ _).bind _) = _
  rw [h1]
  rfl
