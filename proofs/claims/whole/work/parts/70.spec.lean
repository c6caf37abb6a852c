/-! small naturals as ints: guards, bits, sets -/
theorem q_gB {α : Type} {k n : Nat} {x : Option α} (h : k < n) (hn : n < 2 ^ 31) : gB (inb (nI k) n) x = x := by
  unfold gB inb
  rw [nI_toInt (by omega)]
  exact if_pos (decide_eq_true ⟨by omega, by omega⟩)
theorem q_and1 {x : Nat} (hx : x < 2 ^ 31) : nI x &&& (1 : Int32) = nI (x % 2) := pk_andN (by omega) 1 (by decide)
theorem q_sh31 : ∀ b, b < 31 → ((nI b &&& 31).toBitVec.smod 32).toNat = b := by decide +kernel
theorem q_bit {x b : Nat} (hx : x < 2 ^ 31) (hb : b < 31) : (nI x >>> (nI b &&& 31)) &&& (1 : Int32) = nI (x.testBit b).toNat := by
  rw [pk_shrN hx _ b (q_sh31 b hb), q_and1 (Nat.lt_of_le_of_lt (Nat.div_le_self _ _) hx)]
  exact congrArg nI (Nat.toNat_testBit x b).symm
theorem q_bit0 {x b : Nat} (hx : x < 2 ^ 31) (hb : b < 31) : ((nI x >>> (nI b &&& 31)) &&& (1 : Int32) = 0) ↔ x.testBit b = false := by
  rw [q_bit hx hb]
  cases x.testBit b <;> decide
theorem q_bit1 {x b : Nat} (hx : x < 2 ^ 31) (hb : b < 31) : ((nI x >>> (nI b &&& 31)) &&& (1 : Int32) = 1) ↔ x.testBit b = true := by
  rw [q_bit hx hb]
  cases x.testBit b <;> decide
theorem q_shl : ∀ b, b < 31 → (1 : Int32) <<< (nI b &&& 31) = nI (2 ^ b) := by decide +kernel
theorem q_or (a b : Nat) : nI a ||| nI b = nI (a ||| b) := by
  apply Int32.toBitVec_inj.mp
  rw [Int32.toBitVec_or]
  show BitVec.ofNat 32 a ||| BitVec.ofNat 32 b = BitVec.ofNat 32 (a ||| b)
  exact BitVec.ofNat_or.symm
theorem q_and (a b : Nat) : nI a &&& nI b = nI (a &&& b) := by
  apply Int32.toBitVec_inj.mp
  rw [Int32.toBitVec_and]
  show BitVec.ofNat 32 a &&& BitVec.ofNat 32 b = BitVec.ofNat 32 (a &&& b)
  exact BitVec.ofNat_and.symm
/-- the set, as bits, of the numbers below n of which f says so -/
def zb_set (f : Nat → Bool) : Nat → Nat
  | 0 => 0
  | n + 1 => zb_set f n ||| (if f n = true then 2 ^ n else 0)
theorem zb_set_bit (f : Nat → Bool) : ∀ n i, (zb_set f n).testBit i = (decide (i < n) && f i) := by
  intro n
  induction n with
  | zero => intro i; simp [zb_set]
  | succ n ih =>
    intro i
    rw [zb_set, Nat.testBit_or, ih i]
    by_cases h : i = n
    · subst h
      cases hf : f i <;> simp [hf]
    · have e1 : decide (i < n + 1) = decide (i < n) := by
        by_cases h2 : i < n
        · simp [h2, Nat.lt_succ_of_lt h2]
        · have h3 : ¬ i < n + 1 := by omega
          simp [h2, h3]
      rw [e1]
      cases hf : f n
      · simp
      · simp [Nat.testBit_two_pow, Ne.symm h]
theorem zb_set_lt (f : Nat → Bool) : ∀ n, zb_set f n < 2 ^ n := by
  intro n
  induction n with
  | zero => simp [zb_set]
  | succ n ih =>
    rw [zb_set]
    refine Nat.or_lt_two_pow (Nat.lt_of_lt_of_le ih (Nat.pow_le_pow_right (by decide) (by omega))) ?_
    have h1 : 2 ^ n < 2 ^ (n + 1) := Nat.pow_lt_pow_right (by decide) (by omega)
    split
    · exact h1
    · omega
theorem zb_set_cong {f g : Nat → Bool} : ∀ {n : Nat}, (∀ i, i < n → f i = g i) → zb_set f n = zb_set g n := by
  intro n
  induction n with
  | zero => intro _; rfl
  | succ n ih =>
    intro h
    rw [zb_set, zb_set, ih (fun i hi => h i (by omega)), h n (by omega)]
theorem zb_ext {x y n : Nat} (hx : x < 2 ^ n) (hy : y < 2 ^ n) (h : ∀ i, i < n → x.testBit i = y.testBit i) : x = y := by
  apply Nat.eq_of_testBit_eq
  intro i
  by_cases hi : i < n
  · exact h i hi
  · have h1 : 2 ^ n ≤ 2 ^ i := Nat.pow_le_pow_right (by decide) (by omega)
    rw [Nat.testBit_lt_two_pow (Nat.lt_of_lt_of_le hx h1), Nat.testBit_lt_two_pow (Nat.lt_of_lt_of_le hy h1)]
/-! sums -/
def zb_sum (f : Nat → Nat) : Nat → Nat
  | 0 => 0
  | n + 1 => zb_sum f n + f n
theorem zb_sum_cong {f g : Nat → Nat} : ∀ {n : Nat}, (∀ i, i < n → f i = g i) → zb_sum f n = zb_sum g n := by
  intro n
  induction n with
  | zero => intro _; rfl
  | succ n ih =>
    intro h
    rw [zb_sum, zb_sum, ih (fun i hi => h i (by omega)), h n (by omega)]
theorem zb_sum_le {f g : Nat → Nat} : ∀ {n : Nat}, (∀ i, i < n → f i ≤ g i) → zb_sum f n ≤ zb_sum g n := by
  intro n
  induction n with
  | zero => intro _; exact Nat.le_refl _
  | succ n ih =>
    intro h
    rw [zb_sum, zb_sum]
    exact Nat.add_le_add (ih (fun i hi => h i (by omega))) (h n (by omega))
theorem zb_sum_max {f : Nat → Nat} {k : Nat} : ∀ {n : Nat}, (∀ i, i < n → f i ≤ k) → zb_sum f n ≤ n * k := by
  intro n
  induction n with
  | zero => intro _; exact Nat.zero_le _
  | succ n ih =>
    intro h
    have h1 := ih (fun i hi => h i (by omega))
    have h2 := h n (by omega)
    rw [zb_sum, Nat.succ_mul]
    omega
theorem zb_sum_0 {f : Nat → Nat} {n : Nat} (h : ∀ i, i < n → f i = 0) : zb_sum f n = 0 := by
  have h1 := zb_sum_max (f := f) (k := 0) (n := n) (fun i hi => by rw [h i hi]; exact Nat.le_refl _)
  omega
theorem zb_sum_left (f : Nat → Nat) : ∀ n : Nat, zb_sum f (n + 1) = f 0 + zb_sum (fun i => f (i + 1)) n := by
  intro n
  induction n with
  | zero => simp [zb_sum]
  | succ n ih =>
    rw [zb_sum, ih, zb_sum]
    omega
theorem zb_sum_pos {f : Nat → Nat} : ∀ {n : Nat}, 0 < zb_sum f n → ∃ i, i < n ∧ 0 < f i := by
  intro n
  induction n with
  | zero => intro h; exact absurd h (Nat.lt_irrefl 0)
  | succ n ih =>
    intro h
    rw [zb_sum] at h
    by_cases h1 : 0 < zb_sum f n
    · obtain ⟨i, h2, h3⟩ := ih h1
      exact ⟨i, by omega, h3⟩
    · exact ⟨n, by omega, by omega⟩
theorem zb_sum_term {f : Nat → Nat} : ∀ {n i : Nat}, i < n → f i ≤ zb_sum f n := by
  intro n
  induction n with
  | zero => intro i h; exact absurd h (Nat.not_lt_zero i)
  | succ n ih =>
    intro i h
    rw [zb_sum]
    by_cases h1 : i = n
    · subst h1; omega
    · have := ih (i := i) (by omega)
      omega
/-! the valley, its pulls, and the minutes -/
abbrev zb_C : Type := Nat × Nat × (Nat → Nat) × (Nat → Nat) × (Nat → Bool) × (Nat → Bool) × (Nat → Nat) × (Nat → Nat) × (Nat → Nat) × (Nat → Nat → Nat)
def zb_nb (c : zb_C) : Nat := c.1
def zb_sp (c : zb_C) : Nat := c.2.1
def zb_kd (c : zb_C) : Nat → Nat := c.2.2.1
def zb_nd (c : zb_C) : Nat → Nat := c.2.2.2.1
def zb_td (c : zb_C) : Nat → Bool := c.2.2.2.2.1
def zb_on (c : zb_C) : Nat → Bool := c.2.2.2.2.2.1
def zb_fr (c : zb_C) : Nat → Nat := c.2.2.2.2.2.2.1
def zb_to (c : zb_C) : Nat → Nat := c.2.2.2.2.2.2.2.1
def zb_lg (c : zb_C) : Nat → Nat := c.2.2.2.2.2.2.2.2.1
def zb_pl (c : zb_C) : Nat → Nat → Nat := c.2.2.2.2.2.2.2.2.2
def zb_ok (c : zb_C) : Prop := zb_nb c ≤ 6 ∧ zb_sp c ≤ 5 ∧ (∀ b, b < zb_nb c → zb_kd c b ≤ 2 ∧ 1 ≤ zb_nd c b ∧ zb_nd c b ≤ 3) ∧ (∀ r, r < 9 → zb_on c r = true → zb_fr c r < zb_nb c ∧ zb_to c r < zb_nb c ∧ 1 ≤ zb_lg c r ∧ zb_lg c r ≤ 9) ∧ (∀ m b, zb_pl c m b ≤ 100)
/-- how many swings a bell needs -/
def zb_ne (c : zb_C) (b : Nat) : Nat := if zb_kd c b = 0 then zb_nd c b else zb_nd c b + 1
/-- does rope r swing bell b at minute m -/
def zb_hit (c : zb_C) (h : Nat → Nat → Bool) (m b r : Nat) : Nat := if zb_on c r = true ∧ zb_to c r = b ∧ 1 ≤ zb_lg c r ∧ zb_lg c r ≤ m ∧ h (m - zb_lg c r) (zb_fr c r) = true then 1 else 0
def zb_by (c : zb_C) (h : Nat → Nat → Bool) (m b : Nat) : Nat := zb_sum (zb_hit c h m b) 9
/-- the minute behind the last ahead of m in which bell b rang, or 0 -/
def zb_la (h : Nat → Nat → Bool) (b : Nat) : Nat → Nat
  | 0 => 0
  | m + 1 => if h m b = true then m + 1 else zb_la h b m
/-- swings by ropes since then -/
def zb_si (c : zb_C) (h : Nat → Nat → Bool) (b : Nat) : Nat → Nat
  | 0 => 0
  | m + 1 => if h m b = true then 0 else zb_si c h b m + zb_by c h m b
/-- swings that count, at minute m -/
def zb_cn (c : zb_C) (h : Nat → Nat → Bool) (m b : Nat) : Nat := zb_pl c m b + (if zb_kd c b = 2 then (zb_si c h b m + zb_by c h m b) / 2 - zb_si c h b m / 2 else zb_by c h m b)
def zb_win (c : zb_C) (h : Nat → Nat → Bool) (m b j : Nat) : Nat := if j ≤ m ∧ zb_la h b m ≤ m - j then zb_cn c h (m - j) b else 0
def zb_ws (c : zb_C) (h : Nat → Nat → Bool) (m b : Nat) : Nat := zb_sum (zb_win c h m b) (zb_sp c + 1)
def zb_rg (c : zb_C) (h : Nat → Nat → Bool) (m b : Nat) : Bool := !zb_td c b && decide (zb_ne c b ≤ zb_ws c h m b)
theorem zb_la_le (h : Nat → Nat → Bool) (b : Nat) : ∀ m, zb_la h b m ≤ m := by
  intro m
  induction m with
  | zero => exact Nat.le_refl _
  | succ m ih =>
    rw [zb_la]
    split
    · exact Nat.le_refl _
    · omega
theorem zb_by_le (c : zb_C) (h : Nat → Nat → Bool) (m b : Nat) : zb_by c h m b ≤ 9 := by
  have h1 := zb_sum_max (f := zb_hit c h m b) (k := 1) (n := 9) (fun i _ => by unfold zb_hit; split <;> omega)
  unfold zb_by
  omega
theorem zb_si_le (c : zb_C) (h : Nat → Nat → Bool) (b : Nat) : ∀ m, zb_si c h b m ≤ 9 * m := by
  intro m
  induction m with
  | zero => exact Nat.le_refl _
  | succ m ih =>
    rw [zb_si]
    have h1 := zb_by_le c h m b
    split <;> omega
theorem zb_cn_le {c : zb_C} (ok : zb_ok c) (h : Nat → Nat → Bool) (m b : Nat) : zb_cn c h m b ≤ 109 := by
  have h1 := zb_by_le c h m b
  have h2 := ok.2.2.2.2 m b
  unfold zb_cn
  split <;> omega
theorem zb_ws_le {c : zb_C} (ok : zb_ok c) (h : Nat → Nat → Bool) (m b : Nat) : zb_ws c h m b ≤ 654 := by
  have h1 := zb_sum_max (f := zb_win c h m b) (k := 109) (n := zb_sp c + 1) (fun i _ => by
    unfold zb_win
    split
    · exact zb_cn_le ok h _ _
    · omega)
  have h2 := ok.2.1
  unfold zb_ws
  have h3 : (zb_sp c + 1) * 109 ≤ 6 * 109 := Nat.mul_le_mul_right _ (by omega)
  omega
/-! what is ahead decides -/
theorem zb_hit_cong {c : zb_C} {h h' : Nat → Nat → Bool} {m b r : Nat} (e : ∀ k, k < m → ∀ x, h k x = h' k x) : zb_hit c h m b r = zb_hit c h' m b r := by
  unfold zb_hit
  by_cases h1 : 1 ≤ zb_lg c r ∧ zb_lg c r ≤ m
  · rw [e _ (by omega) _]
  · rw [if_neg (fun z => h1 ⟨z.2.2.1, z.2.2.2.1⟩), if_neg (fun z => h1 ⟨z.2.2.1, z.2.2.2.1⟩)]
theorem zb_by_cong {c : zb_C} {h h' : Nat → Nat → Bool} {m b : Nat} (e : ∀ k, k < m → ∀ x, h k x = h' k x) : zb_by c h m b = zb_by c h' m b := zb_sum_cong (fun r _ => zb_hit_cong e)
theorem zb_la_cong {h h' : Nat → Nat → Bool} {b : Nat} : ∀ {m : Nat}, (∀ k, k < m → ∀ x, h k x = h' k x) → zb_la h b m = zb_la h' b m := by
  intro m
  induction m with
  | zero => intro _; rfl
  | succ m ih =>
    intro e
    rw [zb_la, zb_la, ih (fun k hk => e k (by omega)), e m (by omega)]
theorem zb_si_cong {c : zb_C} {h h' : Nat → Nat → Bool} {b : Nat} : ∀ {m : Nat}, (∀ k, k < m → ∀ x, h k x = h' k x) → zb_si c h b m = zb_si c h' b m := by
  intro m
  induction m with
  | zero => intro _; rfl
  | succ m ih =>
    intro e
    rw [zb_si, zb_si, ih (fun k hk => e k (by omega)), e m (by omega), zb_by_cong (fun k hk => e k (by omega))]
theorem zb_cn_cong {c : zb_C} {h h' : Nat → Nat → Bool} {m b : Nat} (e : ∀ k, k < m → ∀ x, h k x = h' k x) : zb_cn c h m b = zb_cn c h' m b := by
  unfold zb_cn
  rw [zb_si_cong e, zb_by_cong e]
theorem zb_ws_cong {c : zb_C} {h h' : Nat → Nat → Bool} {m b : Nat} (e : ∀ k, k < m → ∀ x, h k x = h' k x) : zb_ws c h m b = zb_ws c h' m b := by
  unfold zb_ws
  refine zb_sum_cong (fun j _ => ?_)
  unfold zb_win
  rw [zb_la_cong e, zb_cn_cong (m := m - j) (fun k hk => e k (by omega))]
theorem zb_rg_cong {c : zb_C} {h h' : Nat → Nat → Bool} {m b : Nat} (e : ∀ k, k < m → ∀ x, h k x = h' k x) : zb_rg c h m b = zb_rg c h' m b := by
  unfold zb_rg
  rw [zb_ws_cong e]
/-! the course -/
def zb_hi (c : zb_C) : Nat → Nat → Nat → Bool
  | 0 => fun _ _ => false
  | m + 1 => fun k b => if k = m then (decide (b < zb_nb c) && zb_rg c (zb_hi c m) m b) else zb_hi c m k b
def zb_H (c : zb_C) (k b : Nat) : Bool := zb_hi c (k + 1) k b
theorem zb_hi_lt (c : zb_C) : ∀ n k b, k < n → zb_hi c n k b = zb_H c k b := by
  intro n
  induction n with
  | zero => intro k b h; exact absurd h (Nat.not_lt_zero k)
  | succ n ih =>
    intro k b h
    by_cases h1 : k = n
    · subst h1; rfl
    · rw [← ih k b (by omega)]
      show (if k = n then _ else zb_hi c n k b) = _
      rw [if_neg h1]
theorem zb_H_eq (c : zb_C) (m b : Nat) : zb_H c m b = (decide (b < zb_nb c) && zb_rg c (zb_H c) m b) := by
  show (if m = m then (decide (b < zb_nb c) && zb_rg c (zb_hi c m) m b) else zb_hi c m m b) = _
  rw [if_pos rfl, zb_rg_cong (h := zb_hi c m) (h' := zb_H c) (fun k hk x => zb_hi_lt c m k x hk)]
theorem zb_H_nb {c : zb_C} {m b : Nat} (h : zb_nb c ≤ b) : zb_H c m b = false := by
  rw [zb_H_eq]
  have h1 : ¬ b < zb_nb c := by omega
  simp [h1]
/-- one course for each valley -/
theorem zb_H_uniq (c : zb_C) (g : Nat → Nat → Bool) (N : Nat) (hg : ∀ m, m < N → ∀ b, g m b = (decide (b < zb_nb c) && zb_rg c g m b)) : ∀ m, m < N → ∀ b, g m b = zb_H c m b := by
  intro m
  induction m using Nat.strongRecOn with
  | ind m ih =>
    intro hm b
    rw [hg m hm b, zb_H_eq, zb_rg_cong (h := g) (h' := zb_H c) (fun k hk x => ih k hk (by omega) x)]
/-- a bell rings only in a minute in which a swing that counts comes -/
theorem zb_pos {c : zb_C} (ok : zb_ok c) {m b : Nat} (h : zb_H c m b = true) : 0 < zb_cn c (zb_H c) m b := by
  have hb : b < zb_nb c := by
    by_cases h1 : b < zb_nb c
    · exact h1
    · rw [zb_H_nb (by omega)] at h; cases h
  have hne : 1 ≤ zb_ne c b := by
    have := (ok.2.2.1 b hb).2.1
    unfold zb_ne
    split <;> omega
  rw [zb_H_eq] at h
  have h0 : decide (b < zb_nb c) = true := decide_eq_true hb
  rw [h0, Bool.true_and] at h
  unfold zb_rg at h
  rw [Bool.and_eq_true] at h
  obtain ⟨htd, hws⟩ := h
  have hws := of_decide_eq_true hws
  refine Nat.pos_of_ne_zero (fun hz => ?_)
  unfold zb_ws at hws
  rw [zb_sum_left] at hws
  have e0 : zb_win c (zb_H c) m b 0 = 0 := by
    unfold zb_win
    rw [Nat.sub_zero, hz]
    split <;> rfl
  rw [e0, Nat.zero_add] at hws
  cases m with
  | zero =>
    rw [zb_sum_0 (fun i _ => by unfold zb_win; rw [if_neg (by omega)])] at hws
    omega
  | succ m =>
    by_cases hr : zb_H c m b = true
    · rw [zb_sum_0 (fun i _ => by
        unfold zb_win
        rw [zb_la, if_pos hr, if_neg (by omega)])] at hws
      omega
    · have h1 : zb_sum (fun i => zb_win c (zb_H c) (m + 1) b (i + 1)) (zb_sp c) ≤ zb_ws c (zb_H c) m b := by
        unfold zb_ws
        rw [zb_sum]
        refine Nat.le_trans (zb_sum_le (g := zb_win c (zb_H c) m b) (fun i _ => ?_)) (Nat.le_add_right _ _)
        unfold zb_win
        rw [zb_la, if_neg hr, show m + 1 - (i + 1) = m - i by omega]
        by_cases h2 : i + 1 ≤ m + 1 ∧ zb_la (zb_H c) b m ≤ m - i
        · rw [if_pos h2, if_pos ⟨by omega, h2.2⟩]
          exact Nat.le_refl _
        · rw [if_neg h2]
          exact Nat.zero_le _
      apply hr
      rw [zb_H_eq, h0, Bool.true_and]
      unfold zb_rg
      rw [htd, Bool.true_and]
      exact decide_eq_true (by omega)
/-- how many swings by ropes, sent ahead of minute m, come to b at minute d -/
def zb_due (c : zb_C) (h : Nat → Nat → Bool) (m d b : Nat) : Nat := zb_sum (fun r => if d - zb_lg c r < m then zb_hit c h d b r else 0) 9
theorem zb_due_now (c : zb_C) (h : Nat → Nat → Bool) (m b : Nat) : zb_due c h m m b = zb_by c h m b := by
  unfold zb_due zb_by
  refine zb_sum_cong (fun r _ => ?_)
  unfold zb_hit
  by_cases h1 : m - zb_lg c r < m
  · rw [if_pos h1]
  · rw [if_neg h1, if_neg (by omega)]
/-- where nothing is to come any more, nothing rings any more -/
theorem zb_quiet {c : zb_C} (ok : zb_ok c) {m : Nat} (h1 : ∀ d, m ≤ d → ∀ b, b < zb_nb c → zb_due c (zb_H c) m d b = 0) (h2 : ∀ d, m ≤ d → ∀ b, b < zb_nb c → zb_pl c d b = 0) : ∀ d, m ≤ d → ∀ b, zb_H c d b = false := by
  intro d
  induction d using Nat.strongRecOn with
  | ind d ih =>
    intro hd b
    cases hH : zb_H c d b with
    | false => rfl
    | true =>
      exfalso
      have hb : b < zb_nb c := by
        by_cases h3 : b < zb_nb c
        · exact h3
        · rw [zb_H_nb (by omega)] at hH; cases hH
      have hp := zb_pos ok hH
      have hz : zb_by c (zb_H c) d b = 0 := by
        refine Nat.eq_zero_of_not_pos (fun hpos => ?_)
        obtain ⟨r, hr, h4⟩ := zb_sum_pos hpos
        by_cases h5 : d - zb_lg c r < m
        · have h6 : zb_hit c (zb_H c) d b r ≤ zb_due c (zb_H c) m d b := by
            have := zb_sum_term (f := fun r => if d - zb_lg c r < m then zb_hit c (zb_H c) d b r else 0) hr
            simp only [h5, if_true] at this
            exact this
          rw [h1 d hd b hb] at h6
          omega
        · unfold zb_hit at h4
          by_cases h7 : zb_on c r = true ∧ zb_to c r = b ∧ 1 ≤ zb_lg c r ∧ zb_lg c r ≤ d ∧ zb_H c (d - zb_lg c r) (zb_fr c r) = true
          · rw [ih (d - zb_lg c r) (by omega) (by omega)] at h7
            exact absurd h7.2.2.2.2 (by decide)
          · rw [if_neg h7] at h4
            omega
      unfold zb_cn at hp
      rw [hz, h2 d hd b hb, Nat.add_zero, Nat.sub_self] at hp
      split at hp <;> omega
