/-! one rope more -/
theorem zb_si_by {c c' : zb_C} {g : Nat → Nat → Bool} {b : Nat} : ∀ {m : Nat}, (∀ k, k < m → zb_by c g k b = zb_by c' g k b) → zb_si c g b m = zb_si c' g b m := by
  intro m
  induction m with
  | zero => intro _; rfl
  | succ m ih =>
    intro e
    rw [zb_si, zb_si, ih (fun k hk => e k (by omega)), e m (by omega)]
theorem zb_rg_by {c c' : zb_C} {g : Nat → Nat → Bool} {m b : Nat} (e1 : zb_sp c = zb_sp c') (e2 : zb_kd c = zb_kd c') (e3 : zb_nd c = zb_nd c') (e4 : zb_td c = zb_td c') (e5 : zb_pl c = zb_pl c') (e : ∀ k, k ≤ m → zb_by c g k b = zb_by c' g k b) : zb_rg c g m b = zb_rg c' g m b := by
  have hcn : ∀ k, k ≤ m → zb_cn c g k b = zb_cn c' g k b := by
    intro k hk
    unfold zb_cn
    rw [e5, e2, zb_si_by (fun j hj => e j (by omega)), e k hk]
  have hws : zb_ws c g m b = zb_ws c' g m b := by
    unfold zb_ws
    rw [e1]
    refine zb_sum_cong (fun j _ => ?_)
    unfold zb_win
    rw [hcn (m - j) (by omega)]
  unfold zb_rg zb_ne
  rw [hws, e2, e3, e4]
theorem zb_H_by {c c' : zb_C} {N : Nat} (e0 : zb_nb c = zb_nb c') (e1 : zb_sp c = zb_sp c') (e2 : zb_kd c = zb_kd c') (e3 : zb_nd c = zb_nd c') (e4 : zb_td c = zb_td c') (e5 : zb_pl c = zb_pl c') (e : ∀ k, k < N → ∀ b, zb_by c (zb_H c') k b = zb_by c' (zb_H c') k b) : ∀ m, m < N → ∀ b, zb_H c m b = zb_H c' m b := by
  intro m hm b
  refine (zb_H_uniq c (zb_H c') N (fun m hm b => ?_) m hm b).symm
  rw [zb_H_eq, e0, zb_rg_by (c := c) (c' := c') e1 e2 e3 e4 e5 (fun k hk => e k (by omega) b)]
def zi_CX (nb sp td np : Nat) (kd nd pb pm : Nat → Nat) (on : Nat → Bool) (fr to lg : Nat → Nat) : zb_C := (nb, sp, kd, nd, (fun b => td.testBit b), on, fr, to, lg, fun m b => zb_pd pb pm (fun _ => 1) m b np)
def zi_C8 (nb nr sp td np : Nat) (kd nd fr to lg pb pm : Nat → Nat) (a b l : Nat) : zb_C := zi_CX nb sp td np kd nd pb pm (fun r => decide (r < nr ∨ r = 8)) (fun r => if r = 8 then a else fr r) (fun r => if r = 8 then b else to r) (fun r => if r = 8 then l else lg r)
def zi_CN (nb nr sp td np : Nat) (kd nd fr to lg pb pm : Nat → Nat) (a b l : Nat) : zb_C := zi_CX nb sp td np kd nd pb pm (fun r => decide (r < nr + 1)) (fun r => if r = nr then a else fr r) (fun r => if r = nr then b else to r) (fun r => if r = nr then l else lg r)
def zn_hit (h : Nat → Nat → Bool) (a b l m x : Nat) : Nat := if b = x ∧ 1 ≤ l ∧ l ≤ m ∧ h (m - l) a = true then 1 else 0
theorem zi_by8 {nb nr sp td np : Nat} {kd nd fr to lg pb pm : Nat → Nat} {a b l : Nat} (hnr : nr ≤ 8) (h : Nat → Nat → Bool) (m x : Nat) : zb_by (zi_C8 nb nr sp td np kd nd fr to lg pb pm a b l) h m x = zb_by (zi_C nb nr sp td np kd nd fr to lg pb pm) h m x + zn_hit h a b l m x := by
  have e1 : zb_hit (zi_C8 nb nr sp td np kd nd fr to lg pb pm a b l) h m x 8 = zn_hit h a b l m x := by
    unfold zb_hit zn_hit
    have e2 : zb_on (zi_C8 nb nr sp td np kd nd fr to lg pb pm a b l) 8 = true := decide_eq_true (Or.inr rfl)
    rw [e2, show zb_fr (zi_C8 nb nr sp td np kd nd fr to lg pb pm a b l) 8 = a from rfl, show zb_to (zi_C8 nb nr sp td np kd nd fr to lg pb pm a b l) 8 = b from rfl, show zb_lg (zi_C8 nb nr sp td np kd nd fr to lg pb pm a b l) 8 = l from rfl]
    by_cases h2 : b = x ∧ 1 ≤ l ∧ l ≤ m ∧ h (m - l) a = true
    · rw [if_pos h2, if_pos ⟨rfl, h2⟩]
    · rw [if_neg h2, if_neg (fun z => h2 z.2)]
  have e3 : zb_hit (zi_C nb nr sp td np kd nd fr to lg pb pm) h m x 8 = 0 := by
    unfold zb_hit
    rw [if_neg]
    intro z
    have := of_decide_eq_true (show decide (8 < nr) = true from z.1)
    omega
  unfold zb_by
  rw [zb_sum.eq_2 _ 8, zb_sum.eq_2 _ 8, e1, e3, Nat.add_zero]
  refine congrArg (· + _) (zb_sum_cong (fun r hr => ?_))
  have hr8 : ¬ r = 8 := by omega
  unfold zb_hit
  rw [show zb_fr (zi_C8 nb nr sp td np kd nd fr to lg pb pm a b l) r = fr r from if_neg hr8, show zb_to (zi_C8 nb nr sp td np kd nd fr to lg pb pm a b l) r = to r from if_neg hr8, show zb_lg (zi_C8 nb nr sp td np kd nd fr to lg pb pm a b l) r = lg r from if_neg hr8]
  have e4 : zb_on (zi_C8 nb nr sp td np kd nd fr to lg pb pm a b l) r = zb_on (zi_C nb nr sp td np kd nd fr to lg pb pm) r := by
    show decide (r < nr ∨ r = 8) = decide (r < nr)
    by_cases h2 : r < nr
    · rw [decide_eq_true h2, decide_eq_true (Or.inl h2)]
    · rw [decide_eq_false h2, decide_eq_false (by omega)]
  rw [e4]
  rfl
theorem zi_byN {nb nr sp td np : Nat} {kd nd fr to lg pb pm : Nat → Nat} {a b l : Nat} (hnr : nr ≤ 8) (h : Nat → Nat → Bool) (m x : Nat) : zb_by (zi_CN nb nr sp td np kd nd fr to lg pb pm a b l) h m x = zb_by (zi_C nb nr sp td np kd nd fr to lg pb pm) h m x + zn_hit h a b l m x := by
  have e1 : zb_hit (zi_CN nb nr sp td np kd nd fr to lg pb pm a b l) h m x nr = zn_hit h a b l m x := by
    unfold zb_hit zn_hit
    have e2 : zb_on (zi_CN nb nr sp td np kd nd fr to lg pb pm a b l) nr = true := decide_eq_true (Nat.lt_succ_self nr)
    rw [e2, show zb_fr (zi_CN nb nr sp td np kd nd fr to lg pb pm a b l) nr = a from by show (if nr = nr then a else fr nr) = a; exact if_pos rfl, show zb_to (zi_CN nb nr sp td np kd nd fr to lg pb pm a b l) nr = b from by show (if nr = nr then b else to nr) = b; exact if_pos rfl, show zb_lg (zi_CN nb nr sp td np kd nd fr to lg pb pm a b l) nr = l from by show (if nr = nr then l else lg nr) = l; exact if_pos rfl]
    by_cases h2 : b = x ∧ 1 ≤ l ∧ l ≤ m ∧ h (m - l) a = true
    · rw [if_pos h2, if_pos ⟨rfl, h2⟩]
    · rw [if_neg h2, if_neg (fun z => h2 z.2)]
  have c1 : zb_by (zi_CN nb nr sp td np kd nd fr to lg pb pm a b l) h m x = zb_sum (zb_hit (zi_CN nb nr sp td np kd nd fr to lg pb pm a b l) h m x) (nr + 1) := by
    unfold zb_by
    refine (zb_sum_cut (by omega) (fun r h2 h3 => ?_)).symm
    unfold zb_hit
    rw [if_neg]
    intro z
    have := of_decide_eq_true (show decide (r < nr + 1) = true from z.1)
    omega
  have c2 : zb_by (zi_C nb nr sp td np kd nd fr to lg pb pm) h m x = zb_sum (zb_hit (zi_C nb nr sp td np kd nd fr to lg pb pm) h m x) nr := by
    unfold zb_by
    refine (zb_sum_cut (by omega) (fun r h2 h3 => ?_)).symm
    unfold zb_hit
    rw [if_neg]
    intro z
    have := of_decide_eq_true (show decide (r < nr) = true from z.1)
    omega
  rw [c1, c2, zb_sum.eq_2 _ nr, e1]
  refine congrArg (· + _) (zb_sum_cong (fun r hr => ?_))
  have hrn : ¬ r = nr := by omega
  unfold zb_hit
  rw [show zb_fr (zi_CN nb nr sp td np kd nd fr to lg pb pm a b l) r = fr r from if_neg hrn, show zb_to (zi_CN nb nr sp td np kd nd fr to lg pb pm a b l) r = to r from if_neg hrn, show zb_lg (zi_CN nb nr sp td np kd nd fr to lg pb pm a b l) r = lg r from if_neg hrn]
  have e4 : zb_on (zi_CN nb nr sp td np kd nd fr to lg pb pm a b l) r = zb_on (zi_C nb nr sp td np kd nd fr to lg pb pm) r := by
    show decide (r < nr + 1) = decide (r < nr)
    rw [decide_eq_true hr, decide_eq_true (by omega)]
  rw [e4]
  rfl
theorem zi_8N {nb nr sp td np : Nat} {kd nd fr to lg pb pm : Nat → Nat} {a b l : Nat} (hnr : nr ≤ 8) : ∀ m x, zb_H (zi_CN nb nr sp td np kd nd fr to lg pb pm a b l) m x = zb_H (zi_C8 nb nr sp td np kd nd fr to lg pb pm a b l) m x := fun m x => zb_H_by (c := zi_CN nb nr sp td np kd nd fr to lg pb pm a b l) (c' := zi_C8 nb nr sp td np kd nd fr to lg pb pm a b l) (N := m + 1) rfl rfl rfl rfl rfl rfl (fun k _ y => by rw [zi_by8 hnr, zi_byN hnr]) m (Nat.lt_succ_self m) x
theorem zi_silent {nb nr sp td np : Nat} {kd nd fr to lg pb pm : Nat → Nat} {a b l : Nat} (hnr : nr ≤ 8) (hs : ∀ k, k < 100 → zb_H (zi_C nb nr sp td np kd nd fr to lg pb pm) k a = false) : ∀ m, m < 100 → ∀ x, zb_H (zi_C8 nb nr sp td np kd nd fr to lg pb pm a b l) m x = zb_H (zi_C nb nr sp td np kd nd fr to lg pb pm) m x :=
  zb_H_by rfl rfl rfl rfl rfl rfl (fun k hk y => by
    rw [zi_by8 hnr]
    unfold zn_hit
    rw [if_neg, Nat.add_zero]
    intro z
    rw [hs (k - l) (by omega)] at z
    exact absurd z.2.2.2 (by decide))
theorem zn_or_bit {h : Nat → Nat → Bool} {b : Nat} (hb : b < 6) : ∀ {n : Nat}, (zn_or h n).testBit b = false → ∀ k, k < n → h k b = false := by
  intro n
  induction n with
  | zero => intro _ k hk; exact absurd hk (Nat.not_lt_zero _)
  | succ n ih =>
    intro e k hk
    rw [zn_or, Nat.testBit_or, Bool.or_eq_false_iff, zi_setBit hb] at e
    by_cases h2 : k = n
    · subst h2
      exact e.2
    · exact ih e.1 k (by omega)
def zn_R (nb nr sp td np : Nat) (kd nd fr to lg pb pm : Nat → Nat) (a b l : Nat) : Nat := zn_pc (zn_or (zb_H (zi_C8 nb nr sp td np kd nd fr to lg pb pm a b l)) 100)
theorem zi_ok8 {nb nr sp td np nq : Nat} {kd nd fr to lg pb pm qb qm qi : Nat → Nat} (hW : zi_W nb nr sp td np nq kd nd fr to lg pb pm qb qm qi) {a b l : Nat} (ha : a < nb) (hb : b < nb) (hl : 1 ≤ l ∧ l ≤ 3) : zb_ok (zi_C8 nb nr sp td np kd nd fr to lg pb pm a b l) := by
  obtain ⟨o1, o2, o3, o4, o5⟩ := zi_okC hW
  refine ⟨o1, o2, o3, fun r hr hon => ?_, o5⟩
  have h1 := of_decide_eq_true (show decide (r < nr ∨ r = 8) = true from hon)
  show (if r = 8 then a else fr r) < nb ∧ (if r = 8 then b else to r) < nb ∧ 1 ≤ (if r = 8 then l else lg r) ∧ (if r = 8 then l else lg r) ≤ 9
  by_cases h2 : r = 8
  · simp only [if_pos h2]
    exact ⟨ha, hb, hl.1, by omega⟩
  · simp only [if_neg h2]
    exact o4 r hr (decide_eq_true (show r < nr by omega))
theorem zi_okN {nb nr sp td np nq : Nat} {kd nd fr to lg pb pm qb qm qi : Nat → Nat} (hW : zi_W nb nr sp td np nq kd nd fr to lg pb pm qb qm qi) {a b l : Nat} (ha : a < nb) (hb : b < nb) (hl : 1 ≤ l ∧ l ≤ 3) : zb_ok (zi_CN nb nr sp td np kd nd fr to lg pb pm a b l) := by
  obtain ⟨o1, o2, o3, o4, o5⟩ := zi_okC hW
  refine ⟨o1, o2, o3, fun r hr hon => ?_, o5⟩
  have h1 := of_decide_eq_true (show decide (r < nr + 1) = true from hon)
  show (if r = nr then a else fr r) < nb ∧ (if r = nr then b else to r) < nb ∧ 1 ≤ (if r = nr then l else lg r) ∧ (if r = nr then l else lg r) ≤ 9
  by_cases h2 : r = nr
  · simp only [if_pos h2]
    exact ⟨ha, hb, hl.1, by omega⟩
  · simp only [if_neg h2]
    exact o4 r hr (decide_eq_true (show r < nr by omega))
theorem zi_mask8 : ∀ nr, nr < 9 → nI (2 ^ nr - 1) ||| 256 = nI ((2 ^ nr - 1) ||| 256) ∧ (2 ^ nr - 1) ||| 256 < 512 ∧ ∀ r, r < 9 → ((2 ^ nr - 1) ||| 256).testBit r = decide (r < nr ∨ r = 8) := by decide +kernel
def zh_R (nr : Nat) (fr to lg : Nat → Nat) (f o l : Nat → Int32) : Prop := ∀ r, r < nr → f r = nI (fr r) ∧ o r = nI (to r) ∧ l r = nI (lg r)
theorem zi_howMany {nb nr sp td np nq : Nat} {kd nd fr to lg pb pm qb qm qi : Nat → Nat} (hW : zi_W nb nr sp td np nq kd nd fr to lg pb pm qb qm qi) {b r p t : Int32} {k n : Nat → Int32} (hb : b = nI nb) (hr : r = nI nr) (hp : p = nI sp) (ht : t = nI td) (hk : ∀ x, x < nb → k x = nI (kd x) ∧ n x = nI (nd x)) {cnt : Int32} {pbs pms pts : Nat → Int32} (hP : zi_P np pb pm cnt pbs pms) (hP1 : ∀ p, p < np → pts p = nI 1) {a b' l' : Nat} (ha : a < nb) (hb' : b' < nb) (hl' : 1 ≤ l' ∧ l' ≤ 3) {f o l : Nat → Int32} (hR : zh_R nr fr to lg f o l) (ra uw ct cb : Nat → Int32) :
    ∃ u : Int32 × (Nat → Int32) × (Nat → Int32) × (Nat → Int32) × Int32 × (Nat → Int32) × (Nat → Int32) × (Nat → Int32) × (Nat → Int32), M_X6_howManyRingWith b r p t f o l cnt ra uw ct cb pms k pbs pts n (nI a) (nI b') (nI l') = some u ∧ u.1 = nI (zn_R nb nr sp td np kd nd fr to lg pb pm a b' l') ∧ zh_R nr fr to lg u.2.1 u.2.2.1 u.2.2.2.1 := by
  have hnr := hW.2.2.1
  have htd := zi_td64 hW.2.1 hW.2.2.2.2.1
  obtain ⟨m1, m2, m3⟩ := zi_mask8 nr (by omega)
  have hV' : zc_V (zi_C8 nb nr sp td np kd nd fr to lg pb pm a b' l') b p k n (upd f 8 (nI a)) (upd l 8 (nI l')) (upd o 8 (nI b')) := by
    refine ⟨hb, hp, hk, fun r hr hon => ?_⟩
    have h1 := of_decide_eq_true (show decide (r < nr ∨ r = 8) = true from hon)
    show upd f 8 (nI a) r = nI (if r = 8 then a else fr r) ∧ upd o 8 (nI b') r = nI (if r = 8 then b' else to r) ∧ upd l 8 (nI l') r = nI (if r = 8 then l' else lg r)
    by_cases h2 : r = 8
    · subst h2
      exact ⟨pk_us.trans (congrArg nI (if_pos rfl).symm), pk_us.trans (congrArg nI (if_pos rfl).symm), pk_us.trans (congrArg nI (if_pos rfl).symm)⟩
    · simp only [if_neg h2, pk_un h2]
      exact hR r (by omega)
  obtain ⟨g1, g2, g3, g4, g5, g6, g7⟩ := zi_PC hW hP hP1
  obtain ⟨w, h1, h2⟩ := zc_play (zi_ok8 hW ha hb' hl') (e := 100) (by decide) hV' (count := cnt) (pbells := pbs) (pmins := pms) (ptimes := pts) ⟨g1, g2, g3, g4, g5, g6, g7⟩ (tied := t) ⟨td, by omega, ht, fun _ _ => rfl⟩ (ropes := nI ((2 ^ nr - 1) ||| 256)) ⟨(2 ^ nr - 1) ||| 256, by omega, rfl, m3⟩ ra uw ct cb
  have ho := zn_or_lt (zb_H (zi_C8 nb nr sp td np kd nd fr to lg pb pm a b' l')) 100
  have elay : M_X5_layRope f o l 8 (nI a) (nI b') (nI l') = some (upd f 8 (nI a), upd o 8 (nI b'), upd l 8 (nI l')) := by
    unfold M_X5_layRope
    rw [show (8 : Int32) = nI 8 from rfl, q_gB (by decide) (by decide), nI_clamp (by decide)]
    simp only [nme]
    rw [q_gB (by decide) (by decide), q_gB (by decide) (by decide)]
  refine ⟨(nI (zn_R nb nr sp td np kd nd fr to lg pb pm a b' l'), upd f 8 (nI a), upd o 8 (nI b'), upd l 8 (nI l'), w.1, w.2.1, w.2.2.1, w.2.2.2.1, w.2.2.2.2), ?_, rfl, fun r hr => ?_⟩
  · unfold M_X6_howManyRingWith
    rw [elay, Option.bind_some, hr, zi_allRopes hnr, Option.bind_some, m1]
    show (M_X0_play ra uw ct cb cnt pms b p k pbs pts n (upd f 8 (nI a)) (upd l 8 (nI l')) (upd o 8 (nI b')) t (nI ((2 ^ nr - 1) ||| 256)) (nI 100)).bind _ = _
    rw [h1, Option.bind_some, zi_before6 h2, Option.bind_some, zi_pc6 _ ho, Option.bind_some]
    rfl
  · have h3 : ¬ r = 8 := by omega
    show upd f 8 (nI a) r = _ ∧ upd o 8 (nI b') r = _ ∧ upd l 8 (nI l') r = _
    rw [pk_un h3, pk_un h3, pk_un h3]
    exact hR r hr
/-- the ropes one by one, in the order of from, to, LONG -/
def zn_f (R : Nat → Nat → Nat → Nat) (nb now : Nat) : Nat → Nat × Int32
  | 0 => (now, -9)
  | x + 1 => if (zn_f R nb now x).1 < R (x / 3 / nb) (x / 3 % nb) (x % 3 + 1) then (R (x / 3 / nb) (x / 3 % nb) (x % 3 + 1), nI (100 * (x / 3 / nb) + 10 * (x / 3 % nb) + (x % 3 + 1))) else zn_f R nb now x
theorem zh_ix {nb a b c : Nat} (hnb : nb ≤ 6) (hb : b < nb) (hc : c < 3) : ((a * nb + b) * 3 + c) / 3 / nb = a ∧ ((a * nb + b) * 3 + c) / 3 % nb = b ∧ ((a * nb + b) * 3 + c) % 3 = c := by
  rcases (show nb = 1 ∨ nb = 2 ∨ nb = 3 ∨ nb = 4 ∨ nb = 5 ∨ nb = 6 by omega) with rfl | rfl | rfl | rfl | rfl | rfl <;> omega
theorem zn_f_step {R : Nat → Nat → Nat → Nat} {nb now a b c : Nat} (hnb : nb ≤ 6) (hb : b < nb) (hc : c < 3) : zn_f R nb now ((a * nb + b) * 3 + c + 1) = if (zn_f R nb now ((a * nb + b) * 3 + c)).1 < R a b (c + 1) then (R a b (c + 1), nI (100 * a + 10 * b + (c + 1))) else zn_f R nb now ((a * nb + b) * 3 + c) := by
  obtain ⟨h1, h2, h3⟩ := zh_ix (a := a) hnb hb hc
  rw [zn_f, h1, h2, h3]
theorem zn_f_now {R : Nat → Nat → Nat → Nat} {nb now : Nat} : ∀ x, now ≤ (zn_f R nb now x).1 := by
  intro x
  induction x with
  | zero => exact Nat.le_refl _
  | succ x ih =>
    rw [zn_f]
    split
    · exact Nat.le_of_lt (Nat.lt_of_le_of_lt ih (by assumption))
    · exact ih
theorem zn_f_skip {R : Nat → Nat → Nat → Nat} {nb now a : Nat} (hnb : nb ≤ 6) (h : ∀ b c, b < nb → c < 3 → R a b (c + 1) ≤ now) : ∀ d, d ≤ nb → zn_f R nb now ((a * nb + d) * 3) = zn_f R nb now (a * nb * 3) := by
  intro d
  induction d with
  | zero => intro _; rw [Nat.add_zero]
  | succ d ih =>
    intro hd
    have e0 := ih (by omega)
    have hn := zn_f_now (R := R) (nb := nb) (now := now)
    have s0 := zn_f_step (R := R) (now := now) (a := a) (b := d) (c := 0) hnb (by omega) (by decide)
    rw [if_neg (by have := hn ((a * nb + d) * 3 + 0); have := h d 0 (by omega) (by decide); omega), Nat.add_zero] at s0
    have s1 := zn_f_step (R := R) (now := now) (a := a) (b := d) (c := 1) hnb (by omega) (by decide)
    rw [if_neg (by have := hn ((a * nb + d) * 3 + 1); have := h d 1 (by omega) (by decide); omega)] at s1
    have s2 := zn_f_step (R := R) (now := now) (a := a) (b := d) (c := 2) hnb (by omega) (by decide)
    rw [if_neg (by have := hn ((a * nb + d) * 3 + 2); have := h d 2 (by omega) (by decide); omega)] at s2
    rw [show (a * nb + (d + 1)) * 3 = (a * nb + d) * 3 + 2 + 1 by omega, s2, s1, s0, Nat.add_zero, e0]
theorem zi_h100 (a : Nat) : (100 : Int32) * nI a = nI (100 * a) := pk_mul 100 a
theorem zi_h10 (a : Nat) : (10 : Int32) * nI a = nI (10 * a) := pk_mul 10 a
theorem zi_Rle (nb nr sp td np : Nat) (kd nd fr to lg pb pm : Nat → Nat) (a b l : Nat) : zn_R nb nr sp td np kd nd fr to lg pb pm a b l ≤ 6 := zn_pc_le _
theorem zi_fle {R : Nat → Nat → Nat → Nat} {nb now : Nat} (hn : now ≤ 6) (hR : ∀ a b c, R a b c ≤ 6) : ∀ x, (zn_f R nb now x).1 ≤ 6 := by
  intro x
  induction x with
  | zero => exact hn
  | succ x ih =>
    rw [zn_f]
    split
    · exact hR _ _ _
    · exact ih
theorem zi_hung86 {nb nr sp td np nq : Nat} {kd nd fr to lg pb pm qb qm qi : Nat → Nat} (hW : zi_W nb nr sp td np nq kd nd fr to lg pb pm qb qm qi) {b r p t : Int32} {k n : Nat → Int32} (hb : b = nI nb) (hr : r = nI nr) (hp : p = nI sp) (ht : t = nI td) (hk : ∀ x, x < nb → k x = nI (kd x) ∧ n x = nI (nd x)) {cnt : Int32} {pbs pms pts : Nat → Int32} (hP : zi_P np pb pm cnt pbs pms) (hP1 : ∀ p, p < np → pts p = nI 1) {now a b' : Nat} (hnow : now ≤ 6) (ha : a < nb) (hb' : b' < nb) :
    ∀ (d g c : Nat) (mo be tld : Int32) (f l o ra uw ct cb : Nat → Int32), c + d = 3 → d < g → mo = nI (zn_f (zn_R nb nr sp td np kd nd fr to lg pb pm) nb now ((a * nb + b') * 3 + c)).1 → be = (zn_f (zn_R nb nr sp td np kd nd fr to lg pb pm) nb now ((a * nb + b') * 3 + c)).2 → zh_R nr fr to lg f o l →
      ∃ u : Int32 × Int32 × Int32 × (Nat → Int32) × (Nat → Int32) × (Nat → Int32) × Int32 × (Nat → Int32) × (Nat → Int32) × (Nat → Int32) × (Nat → Int32), L_X6_hung_86 (nI a) (nI b') b r p t cnt pms k pbs pts n g mo be (nI (c + 1)) f l o tld ra uw ct cb = some u ∧ u.1 = nI (zn_f (zn_R nb nr sp td np kd nd fr to lg pb pm) nb now ((a * nb + b') * 3 + 3)).1 ∧ u.2.1 = (zn_f (zn_R nb nr sp td np kd nd fr to lg pb pm) nb now ((a * nb + b') * 3 + 3)).2 ∧ zh_R nr fr to lg u.2.2.2.1 u.2.2.2.2.2.1 u.2.2.2.2.1 := by
  have hnb := hW.2.1
  intro d
  induction d with
  | zero =>
    intro g c mo be tld f l o ra uw ct cb hc hg h1 h2 hR
    cases g with
    | zero => exact absurd hg (Nat.not_lt_zero _)
    | succ g =>
      have e : c = 3 := by omega
      subst e
      rw [L_X6_hung_86, if_pos (show (3 : Int32) < nI (3 + 1) from by decide)]
      exact ⟨_, rfl, h1, h2, hR⟩
  | succ d ih =>
    intro g c mo be tld f l o ra uw ct cb hc hg h1 h2 hR
    cases g with
    | zero => exact absurd hg (Nat.not_lt_zero _)
    | succ g =>
      obtain ⟨u1, e1, e2, e3⟩ := zi_howMany hW hb hr hp ht hk hP hP1 ha hb' (l' := c + 1) ⟨by omega, by omega⟩ hR ra uw ct cb
      have q1 := zi_Rle nb nr sp td np kd nd fr to lg pb pm a b' (c + 1)
      have q2 := zi_fle (nb := nb) hnow (zi_Rle nb nr sp td np kd nd fr to lg pb pm) ((a * nb + b') * 3 + c)
      have st := zn_f_step (R := zn_R nb nr sp td np kd nd fr to lg pb pm) (now := now) (a := a) (b := b') (c := c) hnb hb' (by omega)
      rw [L_X6_hung_86, if_neg (show ¬ (3 : Int32) < nI (c + 1) from nI_nlt (b := c + 1) (a := 3) (by omega) (by omega)), e1, Option.bind_some, e2, h1]
      simp only [nme, nI_1]
      by_cases h3 : (zn_f (zn_R nb nr sp td np kd nd fr to lg pb pm) nb now ((a * nb + b') * 3 + c)).1 < zn_R nb nr sp td np kd nd fr to lg pb pm a b' (c + 1)
      · rw [if_pos h3] at st
        rw [if_neg (nI_ge h3 (by omega))]
        refine ih g (c + 1) _ _ _ _ _ _ _ _ _ _ (by omega) (by omega) ?_ ?_ e3
        · rw [← Nat.add_assoc, st]
        · rw [← Nat.add_assoc, st, zi_h100, zi_h10, nI_add, nI_add]
      · rw [if_neg h3] at st
        rw [if_pos (nI_le (by omega) (by omega))]
        refine ih g (c + 1) _ _ _ _ _ _ _ _ _ _ (by omega) (by omega) ?_ ?_ e3
        · rw [← Nat.add_assoc, st]
        · rw [← Nat.add_assoc, st, h2]
theorem zi_hung71 {nb nr sp td np nq : Nat} {kd nd fr to lg pb pm qb qm qi : Nat → Nat} (hW : zi_W nb nr sp td np nq kd nd fr to lg pb pm qb qm qi) {b r p t : Int32} {k n : Nat → Int32} (hb : b = nI nb) (hr : r = nI nr) (hp : p = nI sp) (ht : t = nI td) (hk : ∀ x, x < nb → k x = nI (kd x) ∧ n x = nI (nd x)) {cnt : Int32} {pbs pms pts : Nat → Int32} (hP : zi_P np pb pm cnt pbs pms) (hP1 : ∀ p, p < np → pts p = nI 1) {now a : Nat} (hnow : now ≤ 6) (ha : a < nb) :
    ∀ (d g b' : Nat) (mo be tld : Int32) (f l o ra uw ct cb : Nat → Int32), b' + d = nb → d < g → mo = nI (zn_f (zn_R nb nr sp td np kd nd fr to lg pb pm) nb now ((a * nb + b') * 3)).1 → be = (zn_f (zn_R nb nr sp td np kd nd fr to lg pb pm) nb now ((a * nb + b') * 3)).2 → zh_R nr fr to lg f o l →
      ∃ u : Int32 × Int32 × Int32 × (Nat → Int32) × (Nat → Int32) × (Nat → Int32) × Int32 × (Nat → Int32) × (Nat → Int32) × (Nat → Int32) × (Nat → Int32), L_X6_hung_71 (nI a) b r p t cnt pms k pbs pts n g mo be (nI b') f l o tld ra uw ct cb = some u ∧ u.1 = nI (zn_f (zn_R nb nr sp td np kd nd fr to lg pb pm) nb now ((a * nb + nb) * 3)).1 ∧ u.2.1 = (zn_f (zn_R nb nr sp td np kd nd fr to lg pb pm) nb now ((a * nb + nb) * 3)).2 ∧ zh_R nr fr to lg u.2.2.2.1 u.2.2.2.2.2.1 u.2.2.2.2.1 := by
  have hnb := hW.2.1
  intro d
  induction d with
  | zero =>
    intro g b' mo be tld f l o ra uw ct cb hc hg h1 h2 hR
    cases g with
    | zero => exact absurd hg (Nat.not_lt_zero _)
    | succ g =>
      have e : b' = nb := by omega
      subst e
      rw [L_X6_hung_71, if_pos (show b ≤ nI b' by rw [hb]; exact nI_le (Nat.le_refl _) (by omega))]
      exact ⟨_, rfl, h1, h2, hR⟩
  | succ d ih =>
    intro g b' mo be tld f l o ra uw ct cb hc hg h1 h2 hR
    cases g with
    | zero => exact absurd hg (Nat.not_lt_zero _)
    | succ g =>
      obtain ⟨u1, e1, e2, e3, e4⟩ := zi_hung86 hW hb hr hp ht hk hP hP1 hnow ha (b' := b') (by omega) 3 1000 0 mo be tld f l o ra uw ct cb (by omega) (by omega) h1 h2 hR
      rw [L_X6_hung_71, if_neg (show ¬ b ≤ nI b' by rw [hb]; exact nI_ge (by omega) (by omega)), show (1 : Int32) = nI (0 + 1) from rfl, e1, Option.bind_some]
      simp only [nme]
      rw [show nI b' + nI (0 + 1) = nI (b' + 1) from nI_add b' 1]
      refine ih g (b' + 1) _ _ _ _ _ _ _ _ _ _ (by omega) (by omega) ?_ ?_ e4
      · rw [e2, show (a * nb + (b' + 1)) * 3 = (a * nb + b') * 3 + 3 by omega]
      · rw [e3, show (a * nb + (b' + 1)) * 3 = (a * nb + b') * 3 + 3 by omega]
theorem zi_hung44 {nb nr sp td np nq : Nat} {kd nd fr to lg pb pm qb qm qi : Nat → Nat} (hW : zi_W nb nr sp td np nq kd nd fr to lg pb pm qb qm qi) {b r p t : Int32} {k n : Nat → Int32} (hb : b = nI nb) (hr : r = nI nr) (hp : p = nI sp) (ht : t = nI td) (hk : ∀ x, x < nb → k x = nI (kd x) ∧ n x = nI (nd x)) {cnt : Int32} {pbs pms pts : Nat → Int32} (hP : zi_P np pb pm cnt pbs pms) (hP1 : ∀ p, p < np → pts p = nI 1) :
    ∀ (d g a : Nat) (mo be tld : Int32) (f l o ra uw ct cb : Nat → Int32), a + d = nb → d < g → mo = nI (zn_f (zn_R nb nr sp td np kd nd fr to lg pb pm) nb (zn_pc (zn_or (zb_H (zi_C nb nr sp td np kd nd fr to lg pb pm)) 100)) (a * nb * 3)).1 → be = (zn_f (zn_R nb nr sp td np kd nd fr to lg pb pm) nb (zn_pc (zn_or (zb_H (zi_C nb nr sp td np kd nd fr to lg pb pm)) 100)) (a * nb * 3)).2 → zh_R nr fr to lg f o l →
      ∃ u : Int32 × Int32 × Int32 × (Nat → Int32) × (Nat → Int32) × (Nat → Int32) × Int32 × (Nat → Int32) × (Nat → Int32) × (Nat → Int32) × (Nat → Int32), L_X6_hung_44 (nI (zn_or (zb_H (zi_C nb nr sp td np kd nd fr to lg pb pm)) 100)) b r p t cnt pms k pbs pts n g mo be (nI a) f l o tld ra uw ct cb = some u ∧ u.1 = nI (zn_f (zn_R nb nr sp td np kd nd fr to lg pb pm) nb (zn_pc (zn_or (zb_H (zi_C nb nr sp td np kd nd fr to lg pb pm)) 100)) (nb * nb * 3)).1 ∧ u.2.1 = (zn_f (zn_R nb nr sp td np kd nd fr to lg pb pm) nb (zn_pc (zn_or (zb_H (zi_C nb nr sp td np kd nd fr to lg pb pm)) 100)) (nb * nb * 3)).2 ∧ zh_R nr fr to lg u.2.2.2.1 u.2.2.2.2.2.1 u.2.2.2.2.1 := by
  have hnb := hW.2.1
  have hnr := hW.2.2.1
  have ho := zn_or_lt (zb_H (zi_C nb nr sp td np kd nd fr to lg pb pm)) 100
  intro d
  induction d with
  | zero =>
    intro g a mo be tld f l o ra uw ct cb hc hg h1 h2 hR
    cases g with
    | zero => exact absurd hg (Nat.not_lt_zero _)
    | succ g =>
      have e : a = nb := by omega
      subst e
      rw [L_X6_hung_44, if_pos (show b ≤ nI a by rw [hb]; exact nI_le (Nat.le_refl _) (by omega))]
      exact ⟨_, rfl, h1, h2, hR⟩
  | succ d ih =>
    intro g a mo be tld f l o ra uw ct cb hc hg h1 h2 hR
    cases g with
    | zero => exact absurd hg (Nat.not_lt_zero _)
    | succ g =>
      have enext : (a + 1) * nb * 3 = (a * nb + nb) * 3 := by rw [Nat.succ_mul]
      rw [L_X6_hung_44, if_neg (show ¬ b ≤ nI a by rw [hb]; exact nI_ge (by omega) (by omega))]
      simp only [nme]
      by_cases hs : (zn_or (zb_H (zi_C nb nr sp td np kd nd fr to lg pb pm)) 100).testBit a = false
      · rw [if_pos ((q_bit0 (by omega) (by omega)).mpr hs), nI_1]
        have hsil := zn_or_bit (b := a) (by omega) hs
        have hsk := zn_f_skip (R := zn_R nb nr sp td np kd nd fr to lg pb pm) (nb := nb) (now := zn_pc (zn_or (zb_H (zi_C nb nr sp td np kd nd fr to lg pb pm)) 100)) (a := a) hnb (fun y c _ _ => by
          unfold zn_R
          rw [zn_or_cong (zi_silent (b := y) (l := c + 1) hnr hsil)]
          exact Nat.le_refl _) nb (Nat.le_refl _)
        refine ih g (a + 1) _ _ _ _ _ _ _ _ _ _ (by omega) (by omega) ?_ ?_ hR
        · rw [h1, enext, hsk]
        · rw [h2, enext, hsk]
      · rw [if_neg (fun z => hs ((q_bit0 (by omega) (by omega)).mp z))]
        obtain ⟨u1, e1, e2, e3, e4⟩ := zi_hung71 hW hb hr hp ht hk hP hP1 (zn_pc_le _) (a := a) (by omega) nb 1000 0 mo be tld f l o ra uw ct cb (by omega) (by omega) h1 h2 hR
        rw [show nI 0 = (0 : Int32) from rfl] at e1
        rw [e1, Option.bind_some, nI_1]
        refine ih g (a + 1) _ _ _ _ _ _ _ _ _ _ (by omega) (by omega) ?_ ?_ e4
        · rw [e2, enext]
        · rw [e3, enext]
theorem zi_rungN {nb nr sp td np nq : Nat} {kd nd fr to lg pb pm qb qm qi : Nat → Nat} (hW : zi_W nb nr sp td np nq kd nd fr to lg pb pm qb qm qi) {b r p t : Int32} {k n : Nat → Int32} (hb : b = nI nb) (hr : r = nI (nr + 1)) (hp : p = nI sp) (ht : t = nI td) (hk : ∀ x, x < nb → k x = nI (kd x) ∧ n x = nI (nd x)) {cnt : Int32} {pbs pms : Nat → Int32} (hP : zi_P np pb pm cnt pbs pms) {a b' l' : Nat} (ha : a < nb) (hb' : b' < nb) (hl' : 1 ≤ l' ∧ l' ≤ 3) {f o l : Nat → Int32} (hR : zh_R nr fr to lg f o l) (lr hs sw pe : Nat → Int32) :
    ∃ v : Int32 × (Nat → Int32) × (Nat → Int32) × (Nat → Int32) × (Nat → Int32), M_X7_rung b t r p cnt lr hs sw pe pbs pms k n (upd l nr (nI l')) (upd f nr (nI a)) (upd o nr (nI b')) (-9) (-9) = some v ∧ v.1 = nI (zn_or (zb_H (zi_C8 nb nr sp td np kd nd fr to lg pb pm a b' l')) 100) := by
  have hnr := hW.2.2.1
  have htd := zi_td64 hW.2.1 hW.2.2.2.2.1
  have hV' : zr_V (zi_CN nb nr sp td np kd nd fr to lg pb pm a b' l') (nr + 1) b p (-9) k n (upd f nr (nI a)) (upd l nr (nI l')) (upd o nr (nI b')) := by
    refine ⟨by omega, hb, hp, hk, fun r hr hon => ?_, fun r hr => ⟨fun hon => ⟨of_decide_eq_true hon, zi_n9 (by omega)⟩, fun z => decide_eq_true z.1⟩⟩
    have h1 := of_decide_eq_true (show decide (r < nr + 1) = true from hon)
    show upd f nr (nI a) r = nI (if r = nr then a else fr r) ∧ upd o nr (nI b') r = nI (if r = nr then b' else to r) ∧ upd l nr (nI l') r = nI (if r = nr then l' else lg r)
    by_cases h2 : r = nr
    · subst h2
      exact ⟨pk_us.trans (congrArg nI (if_pos rfl).symm), pk_us.trans (congrArg nI (if_pos rfl).symm), pk_us.trans (congrArg nI (if_pos rfl).symm)⟩
    · simp only [if_neg h2, pk_un h2]
      exact hR r (by omega)
  have hP' : zr_P (zi_CN nb nr sp td np kd nd fr to lg pb pm a b' l') (-9) cnt pbs pms := by
    rcases zi_RP hW hP with ⟨g1, g2⟩ | ⟨s, g1, g2, g3⟩
    · exact Or.inl ⟨g1, g2⟩
    · exact Or.inr ⟨s, g1, g2, g3⟩
  obtain ⟨v, h1, h2⟩ := zr_go (zi_okN hW ha hb' hl') (e := 100) (by decide) hV' hP' (tied := t) ⟨td, by omega, ht, fun _ _ => rfl⟩ lr hs sw pe
  have e9 : zn_or (zb_H (zi_CN nb nr sp td np kd nd fr to lg pb pm a b' l')) 100 = zn_or (zb_H (zi_C8 nb nr sp td np kd nd fr to lg pb pm a b' l')) 100 := zn_or_cong (fun m _ x => zi_8N hnr m x)
  unfold M_X7_rung
  refine ⟨(nI (zn_or (zb_H (zi_CN nb nr sp td np kd nd fr to lg pb pm a b' l')) 100), v.1, v.2.1, v.2.2.1, v.2.2.2), ?_, ?_⟩
  · rw [hr]
    show (M_X7_go b t (nI (nr + 1)) p cnt lr hs sw pe pbs pms k n (upd l nr (nI l')) (upd f nr (nI a)) (upd o nr (nI b')) (nI 100) (-9) (-9)).bind _ = _
    rw [h1, Option.bind_some, zi_before7 h2, Option.bind_some]
  · show nI _ = _
    rw [e9]
theorem zi_hung51 {nb nr sp td np nq : Nat} {kd nd fr to lg pb pm qb qm qi : Nat → Nat} (hW : zi_W nb nr sp td np nq kd nd fr to lg pb pm qb qm qi) {b r p t : Int32} {k n : Nat → Int32} (hb : b = nI nb) (hr : r = nI (nr + 1)) (hp : p = nI sp) (ht : t = nI td) (hk : ∀ x, x < nb → k x = nI (kd x) ∧ n x = nI (nd x)) {cnt : Int32} {pbs pms : Nat → Int32} (hP : zi_P np pb pm cnt pbs pms) {now : Nat} (hnow : now ≤ 6) (h0 : 0 < nb) :
    ∀ (d g x : Nat) (be mo : Int32) (lr hs sw pe l f o : Nat → Int32), x + d = nb * nb * 3 → d < g → mo = nI (zn_f (zn_R nb nr sp td np kd nd fr to lg pb pm) nb now x).1 → be = (zn_f (zn_R nb nr sp td np kd nd fr to lg pb pm) nb now x).2 → zh_R nr fr to lg f o l →
      ∃ v : Int32 × Int32 × Int32 × (Nat → Int32) × (Nat → Int32) × (Nat → Int32) × (Nat → Int32) × (Nat → Int32) × (Nat → Int32) × (Nat → Int32), L_X7_hung_51 b t r p cnt pbs pms k n g be mo (nI x) lr hs sw pe l f o = some v ∧ v.2.1 = nI (zn_f (zn_R nb nr sp td np kd nd fr to lg pb pm) nb now (nb * nb * 3)).1 ∧ v.1 = (zn_f (zn_R nb nr sp td np kd nd fr to lg pb pm) nb now (nb * nb * 3)).2 ∧ zh_R nr fr to lg v.2.2.2.2.2.2.2.2.1 v.2.2.2.2.2.2.2.2.2 v.2.2.2.2.2.2.2.1 := by
  have hnb := hW.2.1
  have hnr := hW.2.2.1
  have hsq : nb * nb ≤ 36 := Nat.mul_le_mul hnb hnb
  have e33 : (3 : Int32) * b * b = nI (nb * nb * 3) := by
    rw [hb, show (3 : Int32) * nI nb = nI (3 * nb) from pk_mul 3 nb, pk_mul]
    exact congrArg nI (by rw [Nat.mul_assoc, Nat.mul_comm])
  intro d
  induction d with
  | zero =>
    intro g x be mo lr hs sw pe l f o hx hg h1 h2 hR
    cases g with
    | zero => exact absurd hg (Nat.not_lt_zero _)
    | succ g =>
      have e : x = nb * nb * 3 := by omega
      subst e
      rw [L_X7_hung_51, e33, if_pos (nI_le (Nat.le_refl _) (by omega))]
      exact ⟨_, rfl, h1, h2, hR⟩
  | succ d ih =>
    intro g x be mo lr hs sw pe l f o hx hg h1 h2 hR
    cases g with
    | zero => exact absurd hg (Nat.not_lt_zero _)
    | succ g =>
      have ha : x / 3 / nb < nb := by
        rw [Nat.div_lt_iff_lt_mul h0]
        omega
      have hb' : x / 3 % nb < nb := Nat.mod_lt _ h0
      obtain ⟨v1, e1, e2⟩ := zi_rungN hW hb hr hp ht hk hP ha hb' (l' := x % 3 + 1) ⟨by omega, by omega⟩ hR lr hs sw pe
      have ho := zn_or_lt (zb_H (zi_C8 nb nr sp td np kd nd fr to lg pb pm (x / 3 / nb) (x / 3 % nb) (x % 3 + 1))) 100
      have q1 := zi_Rle nb nr sp td np kd nd fr to lg pb pm (x / 3 / nb) (x / 3 % nb) (x % 3 + 1)
      have q2 := zi_fle (nb := nb) hnow (zi_Rle nb nr sp td np kd nd fr to lg pb pm) x
      have hne : ∀ {α : Type} (y : Option α), gB (decide (¬ b = 0)) y = y := by
        intro α y
        unfold gB
        exact if_pos (decide_eq_true (by rw [hb]; exact nI_ne0 h0 (by omega)))
      have d1 : nI x / (3 : Int32) = nI (x / 3) := pk_div (d := 3) (by omega) (by decide) (by decide)
      have d2 : nI (x / 3) / b = nI (x / 3 / nb) := by
        rw [hb]
        exact pk_div (by omega) h0 (by omega)
      have d3 : nI (x / 3) - nI (x / 3 / nb) * b = nI (x / 3 % nb) := by
        have := pk_rem (a := x / 3) (d := nb) (by omega) h0 (by omega)
        rw [← hb, d2] at this
        exact this
      have d4 : nI x - nI (x / 3) * (3 : Int32) = nI (x % 3) := by
        have := pk_rem (a := x) (d := 3) (by omega) (by decide) (by decide)
        rw [show nI x / nI 3 = nI (x / 3) from d1] at this
        exact this
      have d5 : r - (1 : Int32) = nI nr := by
        rw [hr]
        exact nI_pred nr
      have hR2 : zh_R nr fr to lg (upd f nr (nI (x / 3 / nb))) (upd o nr (nI (x / 3 % nb))) (upd l nr (nI (x % 3 + 1))) := by
        intro y hy
        have hne2 : ¬ y = nr := by omega
        rw [pk_un hne2, pk_un hne2, pk_un hne2]
        exact hR y hy
      rw [L_X7_hung_51, e33, if_neg (nI_ge (by omega) (by omega))]
      simp only [hne, d1, d2, d3, d4, d5, q_gB (show nr < 9 by omega) (show 9 < 2 ^ 31 by decide), nI_clamp (show nr < 2 ^ 31 by omega), nme, nI_1]
      rw [e1, Option.bind_some, e2, zi_pc7 _ ho, Option.bind_some, h1]
      by_cases h3 : (zn_f (zn_R nb nr sp td np kd nd fr to lg pb pm) nb now x).1 < zn_R nb nr sp td np kd nd fr to lg pb pm (x / 3 / nb) (x / 3 % nb) (x % 3 + 1)
      · have h3' : (zn_f (zn_R nb nr sp td np kd nd fr to lg pb pm) nb now x).1 < zn_pc (zn_or (zb_H (zi_C8 nb nr sp td np kd nd fr to lg pb pm (x / 3 / nb) (x / 3 % nb) (x % 3 + 1))) 100) := h3
        rw [if_neg (nI_ge h3' (by have := zn_pc_le (zn_or (zb_H (zi_C8 nb nr sp td np kd nd fr to lg pb pm (x / 3 / nb) (x / 3 % nb) (x % 3 + 1))) 100); omega))]
        refine ih g (x + 1) _ _ _ _ _ _ _ _ _ (by omega) (by omega) ?_ ?_ hR2
        · rw [zn_f, if_pos h3]
          rfl
        · rw [zn_f, if_pos h3, zi_h100, zi_h10, nI_add, nI_add, nI_1]
          exact congrArg nI (by omega)
      · have h3' : zn_pc (zn_or (zb_H (zi_C8 nb nr sp td np kd nd fr to lg pb pm (x / 3 / nb) (x / 3 % nb) (x % 3 + 1))) 100) ≤ (zn_f (zn_R nb nr sp td np kd nd fr to lg pb pm) nb now x).1 := Nat.le_of_not_lt h3
        rw [if_pos (nI_le h3' (by omega))]
        refine ih g (x + 1) _ _ _ _ _ _ _ _ _ (by omega) (by omega) ?_ ?_ hR2
        · rw [zn_f, if_neg h3]
        · rw [zn_f, if_neg h3]
          exact h2
theorem eq_hung : EQ_hung zi_Inv := by
  intro iv av s1 hI
  obtain ⟨nb, nr, sp, td, np, nq, kd, nd, fr, to, lg, pb, pm, qb, qm, qi, hW, hV, hV2, hP, hP1, hP2, hQ, hQ2, hS0, hS1, hS2, hS3, hT, hF, hH⟩ := hI
  have hnb := hW.2.1
  have hnr := hW.2.2.1
  have hsq : nb * nb ≤ 36 := Nat.mul_le_mul hnb hnb
  have hsame : zi_Inv (va_up (va_up (va_up (va_up iv 0 (upd (iv 0) 8 (iv 0 8))) 26 (upd (iv 26) 5 (iv 26 5))) 31 (upd (iv 31) 5 (iv 31 5))) 45 (upd (iv 45) 5 (iv 45 5))) (va_up (va_up (va_up (va_up (va_up (va_up (va_up (va_up (va_up (va_up (va_up (va_up (va_up (va_up (va_up (va_up (va_up (va_up av 4 (av 4)) 5 (av 5)) 6 (av 6)) 27 (av 27)) 28 (av 28)) 29 (av 29)) 30 (av 30)) 32 (av 32)) 33 (av 33)) 34 (av 34)) 35 (av 35)) 48 (av 48)) 49 (av 49)) 50 (av 50)) 58 (av 58)) 59 (av 59)) 60 (av 60)) 61 (av 61)) := ⟨nb, nr, sp, td, np, nq, kd, nd, fr, to, lg, pb, pm, qb, qm, qi, hW, hV, hV2, hP, hP1, hP2, hQ, hQ2, hS0, hS1, hS2, hS3, hT, hF, hH⟩
  unfold M_X6_hung M_X7_hung
  rw [zi_inL 1 (by decide), Option.bind_some]
  rcases zi_rng s1 (n := 2) (by omega) with ⟨w, hw, rfl, h⟩ | ⟨k1, k2⟩ | ⟨k1, k2, k3⟩
  · rw [if_neg (nI_pos (by omega)), if_pos (show nI w ≤ (1 : Int32) from nI_le (b := 1) (by omega) (by decide)), if_pos (show 0 ≤ (nI w).toInt ∧ (nI w).toInt ≤ (1 : Int) by omega), if_neg (show ¬ (1 : Int32) = 0 by decide)]
    by_cases h0 : nb = 0
    · have ez : M_X6_hasNoValley (iv 1 5) = some 1 := by rw [hV.1, zi_noV hnb, if_pos h0]
      have ez2 : iv 45 1 = 0 := by rw [hV2.1, h0]; rfl
      rw [ez, Option.bind_some, if_neg (show ¬ (1 : Int32) = 0 by decide), if_pos ez2]
      exact ⟨_, _, rfl, rfl, rfl, hsame⟩
    · have ez : M_X6_hasNoValley (iv 1 5) = some 0 := by rw [hV.1, zi_noV hnb, if_neg h0]
      have ez2 : ¬ iv 45 1 = 0 := by rw [hV2.1]; exact nI_ne0 (by omega) (by omega)
      have ho := zn_or_lt (zb_H (zi_C nb nr sp td np kd nd fr to lg pb pm)) 100
      obtain ⟨u0, h1, h2, h3⟩ := zi_heard hW hV hP hP1 hH (iv 26 5) (av 28) (av 29) (av 30)
      obtain ⟨v0, g1, g2⟩ := zi_rungP hW hV2 hP2 (av 60) (av 61) (av 59) (av 58)
      obtain ⟨u, c1, c2, c3, c4⟩ := zi_hung44 hW hV.1 hV.2.1 hV.2.2.1 hV.2.2.2.1 hV.2.2.2.2.1 hP hP1 nb 1000 0 (nI (zn_pc (zn_or (zb_H (zi_C nb nr sp td np kd nd fr to lg pb pm)) 100))) (-9) (iv 31 5) (av 4) (av 6) (av 5) (av 32) (av 33) (av 34) (av 35) (by omega) (by omega) (by rw [Nat.zero_mul, Nat.zero_mul]; rfl) (by rw [Nat.zero_mul, Nat.zero_mul]; rfl) hV.2.2.2.2.2
      obtain ⟨v, d1, d2, d3, d4⟩ := zi_hung51 hW hV2.1 (r := nI (nr + 1)) rfl hV2.2.2.1 hV2.2.2.2.1 hV2.2.2.2.2.1 hP2 (zn_pc_le (zn_or (zb_H (zi_C nb nr sp td np kd nd fr to lg pb pm)) 100)) (by omega) (nb * nb * 3) 1000 0 (-9) (nI (zn_pc (zn_or (zb_H (zi_C nb nr sp td np kd nd fr to lg pb pm)) 100))) v0.2.1 v0.2.2.1 v0.2.2.2.1 v0.2.2.2.2 (av 50) (av 48) (av 49) (by omega) (by omega) rfl rfl hV2.2.2.2.2.2
      rw [show nI 0 = (0 : Int32) from rfl] at c1 d1
      have eb : iv 1 5 = nI nb := hV.1
      rw [ez, Option.bind_some, if_pos (show (0 : Int32) = 0 from rfl), if_neg ez2, h1, g1, Option.bind_some, Option.bind_some, zi_before6 (fun k hk => h3 k (by omega)), Option.bind_some, g2, zi_pc6 _ ho, zi_pc7 _ ho, Option.bind_some, Option.bind_some, c1, Option.bind_some]
      simp only [nme]
      rw [hV2.2.1, nI_1, d1, Option.bind_some, show nI (nr + 1) - (1 : Int32) = nI nr from nI_pred nr]
      have final : ∀ z1 z2 : Int32, zi_Inv (va_up (va_up (va_up (va_up iv 0 (upd (iv 0) 8 u0.1)) 26 (upd (iv 26) 5 z1)) 31 (upd (iv 31) 5 z2)) 45 (upd (iv 45) 5 (nI nr))) (va_up (va_up (va_up (va_up (va_up (va_up (va_up (va_up (va_up (va_up (va_up (va_up (va_up (va_up (va_up (va_up (va_up (va_up av 4 u.2.2.2.1) 5 u.2.2.2.2.2.1) 6 u.2.2.2.2.1) 27 u0.2.2.1) 28 u0.2.2.2.1) 29 u0.2.2.2.2.1) 30 u0.2.2.2.2.2) 32 u.2.2.2.2.2.2.2.1) 33 u.2.2.2.2.2.2.2.2.1) 34 u.2.2.2.2.2.2.2.2.2.1) 35 u.2.2.2.2.2.2.2.2.2.2) 48 v.2.2.2.2.2.2.2.2.1) 49 v.2.2.2.2.2.2.2.2.2) 50 v.2.2.2.2.2.2.2.1) 58 v.2.2.2.2.2.2.1) 59 v.2.2.2.2.2.1) 60 v.2.2.2.1) 61 v.2.2.2.2.1) := fun z1 z2 =>
        ⟨nb, nr, sp, td, np, nq, kd, nd, fr, to, lg, pb, pm, qb, qm, qi, hW, ⟨hV.1, hV.2.1, hV.2.2.1, hV.2.2.2.1, hV.2.2.2.2.1, c4⟩, ⟨hV2.1, rfl, hV2.2.2.1, hV2.2.2.2.1, hV2.2.2.2.2.1, d4⟩, hP, hP1, hP2, hQ, hQ2, hS0, hS1, hS2, hS3, hT, hF, Or.inr ⟨h2, h3⟩⟩
      rcases (show w = 0 ∨ w = 1 by omega) with rfl | rfl
      · rw [if_pos (show nI 0 = 0 from rfl), if_pos (show nI 0 = 0 from rfl)]
        refine ⟨_, _, rfl, rfl, ?_, final _ _⟩
        show u.2.1 = v.1
        rw [c3, d3]
      · rw [if_neg (show ¬ nI 1 = 0 by decide), if_neg (show ¬ nI 1 = 0 by decide)]
        refine ⟨_, _, rfl, rfl, ?_, final _ _⟩
        show u.1 = v.2.1
        rw [c2, d2]
  · rw [if_pos k1, if_neg (show ¬ (0 ≤ s1.toInt ∧ s1.toInt ≤ (1 : Int)) by omega), if_pos (show (0 : Int32) = 0 from rfl)]
    exact ⟨_, _, rfl, rfl, rfl, hsame⟩
  · rw [if_neg k1, if_neg (show ¬ s1 ≤ (1 : Int32) by rw [Int32.le_iff_toInt_le]; show ¬ s1.toInt ≤ (1 : Int); omega), if_neg (show ¬ (0 ≤ s1.toInt ∧ s1.toInt ≤ (1 : Int)) by omega), if_pos (show (0 : Int32) = 0 from rfl)]
    exact ⟨_, _, rfl, rfl, rfl, hsame⟩
