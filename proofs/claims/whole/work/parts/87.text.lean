/-! the text, code by code, on both sides -/
abbrev zv_U : Type := Nat × Int32 × Int32 × Int32 × Int32 × (Nat → Int32) × (Nat → Int32) × (Nat → Int32) × (Nat → Int32) × (Nat → Int32)
def zv_B (B : Nat) (k n rk rn : Nat → Int32) : Prop := ∀ b, b < B → ∃ x y : Nat, x ≤ 2 ∧ 1 ≤ y ∧ y ≤ 3 ∧ k b = nI x ∧ rk b = nI x ∧ n b = nI y ∧ rn b = nI y
def zv_R (R B : Nat) (f t l rf rt rl : Nat → Int32) : Prop := ∀ r, r < R → ∃ x y z : Nat, x < B ∧ y < B ∧ 1 ≤ z ∧ z ≤ 9 ∧ f r = nI x ∧ rf r = nI x ∧ t r = nI y ∧ rt r = nI y ∧ l r = nI z ∧ rl r = nI z
def zv_Out (n : Nat) (u : zv_U) (is ra rb rr : Int32) (rk rn rf rt rl : Nat → Int32) : Prop :=
  (∃ B R : Nat, 2 ≤ B ∧ B ≤ 6 ∧ R ≤ 8 ∧ ¬ u.1 = 0 ∧ u.2.2.1 = 1 ∧ u.2.2.2.1 = nI B ∧ u.2.2.2.2.1 = nI R ∧ is = 1 ∧ rb = nI B ∧ rr = nI R ∧ zv_B B u.2.2.2.2.2.1 u.2.2.2.2.2.2.1 rk rn ∧ zv_R R B u.2.2.2.2.2.2.2.2.1 u.2.2.2.2.2.2.2.1 u.2.2.2.2.2.2.2.2.2 rf rt rl) ∨
  (∃ q : Nat, q ≤ n ∧ is = 0 ∧ ra = nI q ∧ ((u.1 = 0 ∧ u.2.1 = nI q) ∨ (¬ u.1 = 0 ∧ q = n ∧ (¬ u.2.2.1 = 1 ∨ u.2.2.2.1 < 2))))
theorem zv_codeIn {sh : Nat → Int32} {base n p : Nat} (h : p < n) (hn : base + n ≤ 240) : M_X7_codeAt (nI p) sh (nI base) (nI n) = some (sh (base + p)) := by
  unfold M_X7_codeAt
  rw [if_neg (nI_ge h (by omega)), nI_add, q_gB (by omega) (by decide), nI_clamp (by omega)]
theorem zv_codeOut {sh : Nat → Int32} {base n p : Nat} (h : n ≤ p) (hp : p < 1000) : M_X7_codeAt (nI p) sh (nI base) (nI n) = some (-9) := by
  unfold M_X7_codeAt
  rw [if_pos (nI_le h (by omega))]
theorem zv_inN {v : Int32} {lo hi : Nat} (h1 : lo < 1000) (h2 : hi < 1000) : M_X7_in v.toInt64 (nI lo).toInt64 (nI hi).toInt64 = some (if (lo : Int) ≤ v.toInt ∧ v.toInt ≤ (hi : Int) then 1 else 0) := by
  rw [zi_in, Int32.toInt_toInt64, Int32.toInt_toInt64, Int32.toInt_toInt64, nI_toInt (by omega), nI_toInt (by omega)]
theorem zv_figOut {sh : Nat → Int32} {base n p lo hi : Nat} (h : n ≤ p) (hp : p < 1000) (h1 : lo < 1000) (h2 : hi < 1000) : M_X7_figure (nI p) sh (nI base) (nI n) (nI lo) (nI hi) = some (-9, nI p) := by
  unfold M_X7_figure
  rw [zv_codeOut h hp, Option.bind_some]
  simp only [nme]
  have e : ((-9 : Int32) - 48).toInt = -57 := by decide
  rw [zv_inN h1 h2, e, if_neg (show ¬ ((lo : Int) ≤ -57 ∧ (-57 : Int) ≤ (hi : Int)) by omega), Option.bind_some, if_pos (show (0 : Int32) = 0 from rfl), if_pos (show (0 : Int32) = 0 from rfl), Int32.add_zero]
theorem zv_figNo {sh : Nat → Int32} {base n p lo hi : Nat} (h : p < n) (hn : base + n ≤ 240) (h1 : lo < 1000) (h2 : hi < 1000) (h3 : ¬ ((lo : Int) ≤ (sh (base + p) - 48).toInt ∧ (sh (base + p) - 48).toInt ≤ (hi : Int))) : M_X7_figure (nI p) sh (nI base) (nI n) (nI lo) (nI hi) = some (-9, nI p) := by
  unfold M_X7_figure
  rw [zv_codeIn h hn, Option.bind_some]
  simp only [nme]
  rw [zv_inN h1 h2, if_neg h3, Option.bind_some, if_pos (show (0 : Int32) = 0 from rfl), if_pos (show (0 : Int32) = 0 from rfl), Int32.add_zero]
theorem zv_figYes {sh : Nat → Int32} {base n p lo hi j : Nat} (h : p < n) (hn : base + n ≤ 240) (h1 : lo < 1000) (h2 : hi < 1000) (h3 : sh (base + p) - 48 = nI j) (h4 : lo ≤ j) (h5 : j ≤ hi) : M_X7_figure (nI p) sh (nI base) (nI n) (nI lo) (nI hi) = some (nI j, nI (p + 1)) := by
  unfold M_X7_figure
  rw [zv_codeIn h hn, Option.bind_some]
  simp only [nme]
  rw [h3, zv_inN h1 h2, nI_toInt (by omega), if_pos (by omega), Option.bind_some, if_neg (show ¬ (1 : Int32) = 0 by decide), if_neg (show ¬ (1 : Int32) = 0 by decide), nI_1]
/-- a code as a digit between lo and hi, or not -/
theorem zv_dig (v : Int32) {lo hi : Nat} (h : hi < 1000) : (∃ j : Nat, lo ≤ j ∧ j ≤ hi ∧ v = nI j) ∨ ¬ ((lo : Int) ≤ v.toInt ∧ v.toInt ≤ (hi : Int)) := by
  by_cases h1 : (lo : Int) ≤ v.toInt ∧ v.toInt ≤ (hi : Int)
  · refine Or.inl ⟨v.toInt.toNat, by omega, by omega, Int32.toInt_inj.mp ?_⟩
    rw [nI_toInt (by omega)]
    omega
  · exact Or.inr h1
def zv_K (c : Int32) (x : Nat) : Prop := (c = 98 ∧ x = 0) ∨ (c = 103 ∧ x = 1) ∨ (c = 100 ∧ x = 2)
theorem zv_kind (c : Int32) : (∃ x : Nat, zv_K c x) ∨ (¬ c = 98 ∧ ¬ c = 103 ∧ ¬ c = 100) := by
  by_cases h1 : c = 98
  · exact Or.inl ⟨0, Or.inl ⟨h1, rfl⟩⟩
  · by_cases h2 : c = 103
    · exact Or.inl ⟨1, Or.inr (Or.inl ⟨h2, rfl⟩)⟩
    · by_cases h3 : c = 100
      · exact Or.inl ⟨2, Or.inr (Or.inr ⟨h3, rfl⟩)⟩
      · exact Or.inr ⟨h1, h2, h3⟩
theorem zv_K2 {c : Int32} {x : Nat} (h : zv_K c x) : x ≤ 2 ∧ ¬ c = 59 ∧ M_X4_kindOf c = some (nI x) := by
  rcases h with ⟨rfl, rfl⟩ | ⟨rfl, rfl⟩ | ⟨rfl, rfl⟩
  · exact ⟨by decide, by decide, by decide⟩
  · exact ⟨by decide, by decide, by decide⟩
  · exact ⟨by decide, by decide, by decide⟩
/-! the reference's bell -/
theorem zv_rbNo {sh rk rn : Nat → Int32} {base n p B : Nat} (hp : p ≤ n) (hn : base + n ≤ 240) (hB : B ≤ 6) (h : n ≤ p ∨ B = 6 ∨ (¬ sh (base + p) = 98 ∧ ¬ sh (base + p) = 103 ∧ ¬ sh (base + p) = 100)) : M_X7_readsBell (nI p) (nI B) sh rk rn (nI base) (nI n) = some (0, nI p, nI B, rk, rn) := by
  unfold M_X7_readsBell
  by_cases hpn : p < n
  · rw [zv_codeIn hpn hn, Option.bind_some]
    by_cases h6 : B = 6
    · subst h6
      rw [if_pos (show nI 6 = (6 : Int32) from rfl)]
    · rw [if_neg (show ¬ nI B = (6 : Int32) from fun z => h6 ((nI_eq (b := 6) (by omega) (by decide)).mp z))]
      rcases h with h | h | ⟨h1, h2, h3⟩
      · omega
      · exact absurd h h6
      · rw [if_neg h1, if_neg h2, if_neg h3]
  · rw [zv_codeOut (by omega) (by omega), Option.bind_some]
    by_cases h6 : B = 6
    · subst h6
      rw [if_pos (show nI 6 = (6 : Int32) from rfl)]
    · rw [if_neg (show ¬ nI B = (6 : Int32) from fun z => h6 ((nI_eq (b := 6) (by omega) (by decide)).mp z)), if_neg (show ¬ (-9 : Int32) = 98 by decide), if_neg (show ¬ (-9 : Int32) = 103 by decide), if_neg (show ¬ (-9 : Int32) = 100 by decide)]
theorem zv_rbHalf {sh rk rn : Nat → Int32} {base n p B x : Nat} (hp : p < n) (hn : base + n ≤ 240) (hB : B < 6) (hK : zv_K (sh (base + p)) x) (h : M_X7_figure (nI (p + 1)) sh (nI base) (nI n) (nI 1) (nI 3) = some (-9, nI (p + 1))) : M_X7_readsBell (nI p) (nI B) sh rk rn (nI base) (nI n) = some (0, nI (p + 1), nI B, rk, rn) := by
  have h' : M_X7_figure (nI (p + 1)) sh (nI base) (nI n) 1 3 = some (-9, nI (p + 1)) := h
  unfold M_X7_readsBell
  rw [zv_codeIn hp hn, Option.bind_some, if_neg (show ¬ nI B = (6 : Int32) from fun z => absurd ((nI_eq (b := 6) (by omega) (by decide)).mp z) (by omega))]
  rcases hK with ⟨hc, rfl⟩ | ⟨hc, rfl⟩ | ⟨hc, rfl⟩
  · rw [hc, if_pos (show (98 : Int32) = 98 from rfl)]
    simp only [nme]
    rw [nI_1, h', Option.bind_some, if_neg (show ¬ (0 : Int32) ≤ -9 by decide)]
  · rw [hc, if_neg (show ¬ (103 : Int32) = 98 by decide), if_pos (show (103 : Int32) = 103 from rfl)]
    simp only [nme]
    rw [nI_1, h', Option.bind_some, if_neg (show ¬ (0 : Int32) ≤ -9 by decide)]
  · rw [hc, if_neg (show ¬ (100 : Int32) = 98 by decide), if_neg (show ¬ (100 : Int32) = 103 by decide), if_pos (show (100 : Int32) = 100 from rfl)]
    simp only [nme]
    rw [nI_1, h', Option.bind_some, if_neg (show ¬ (0 : Int32) ≤ -9 by decide)]
theorem zv_rbYes {sh rk rn : Nat → Int32} {base n p B x j : Nat} (hp : p < n) (hn : base + n ≤ 240) (hB : B < 6) (hK : zv_K (sh (base + p)) x) (hj : j ≤ 3) (h : M_X7_figure (nI (p + 1)) sh (nI base) (nI n) (nI 1) (nI 3) = some (nI j, nI (p + 2))) : M_X7_readsBell (nI p) (nI B) sh rk rn (nI base) (nI n) = some (1, nI (p + 2), nI (B + 1), upd rk B (nI x), upd rn B (nI j)) := by
  have h' : M_X7_figure (nI (p + 1)) sh (nI base) (nI n) 1 3 = some (nI j, nI (p + 2)) := h
  unfold M_X7_readsBell
  rw [zv_codeIn hp hn, Option.bind_some, if_neg (show ¬ nI B = (6 : Int32) from fun z => absurd ((nI_eq (b := 6) (by omega) (by decide)).mp z) (by omega))]
  rcases hK with ⟨hc, rfl⟩ | ⟨hc, rfl⟩ | ⟨hc, rfl⟩
  · rw [hc, if_pos (show (98 : Int32) = 98 from rfl)]
    simp only [nme]
    rw [nI_1, h', Option.bind_some, if_pos (nI_pos' (by omega)), if_pos trivial, q_gB hB (by decide), q_gB hB (by decide), nI_clamp (by omega), nI_1]
    rfl
  · rw [hc, if_neg (show ¬ (103 : Int32) = 98 by decide), if_pos (show (103 : Int32) = 103 from rfl)]
    simp only [nme]
    rw [nI_1, h', Option.bind_some, if_pos (nI_pos' (by omega)), if_neg (show ¬ (103 : Int32) = 98 by decide), if_pos trivial, q_gB hB (by decide), q_gB hB (by decide), nI_clamp (by omega), nI_1]
    rfl
  · rw [hc, if_neg (show ¬ (100 : Int32) = 98 by decide), if_neg (show ¬ (100 : Int32) = 103 by decide), if_pos (show (100 : Int32) = 100 from rfl)]
    simp only [nme]
    rw [nI_1, h', Option.bind_some, if_pos (nI_pos' (by omega)), if_neg (show ¬ (100 : Int32) = 98 by decide), if_neg (show ¬ (100 : Int32) = 103 by decide), q_gB hB (by decide), q_gB hB (by decide), nI_clamp (by omega), nI_1]
    rfl
/-! the class's steps -/
theorem zv_end {cells : Nat → Int32} {i n p g : Nat} {st : Int32} (hn : n < 1000) (h : n ≤ p) (hp : p < 1000) (b r : Int32) (k ne t f l : Nat → Int32) : L_X4_firstFault_15 (nI i) (nI n) cells (g + 1) (nI p) st b r k ne t f l = some (1, nI p, st, b, r, k, ne, t, f, l) := by
  rw [L_X4_firstFault_15, if_pos (nI_le h (by omega))]
theorem zv_fail {cells : Nat → Int32} {i n p g : Nat} {st b r st' b' r' : Int32} {k ne t f l k' ne' t' f' l' : Nat → Int32} (hin : i + n ≤ 60) (h : p < n) (e : M_X4_goesOnWith st b r k ne t f l (cells (i + p)) = some (0, st', b', r', k', ne', t', f', l')) : ∃ u : zv_U, L_X4_firstFault_15 (nI i) (nI n) cells (g + 1) (nI p) st b r k ne t f l = some u ∧ u.1 = 0 ∧ u.2.1 = nI p := by
  refine ⟨(0, nI p, st', b', r', k', ne', t', f', l'), ?_, rfl, rfl⟩
  rw [L_X4_firstFault_15, if_neg (nI_ge h (by omega)), nI_add, q_gB (by omega) (by decide), nI_clamp (by omega), e, Option.bind_some, if_pos (show (0 : Int32) = 0 from rfl)]
theorem zv_go {cells : Nat → Int32} {i n p g : Nat} {st b r st' b' r' : Int32} {k ne t f l k' ne' t' f' l' : Nat → Int32} (hin : i + n ≤ 60) (h : p < n) (e : M_X4_goesOnWith st b r k ne t f l (cells (i + p)) = some (1, st', b', r', k', ne', t', f', l')) : L_X4_firstFault_15 (nI i) (nI n) cells (g + 1) (nI p) st b r k ne t f l = L_X4_firstFault_15 (nI i) (nI n) cells g (nI (p + 1)) st' b' r' k' ne' t' f' l' := by
  rw [L_X4_firstFault_15, if_neg (nI_ge h (by omega)), nI_add, q_gB (by omega) (by decide), nI_clamp (by omega), e, Option.bind_some, if_neg (show ¬ (1 : Int32) = 0 by decide)]
  simp only [nme]
  rw [nI_1]
theorem zv_g1 {α : Type} {y : Option α} : gB (decide ((1 : Int32) = 0 ∨ (1 : Int32) = 1)) y = y := if_pos (decide_eq_true (by decide))
theorem zv_g0 {α : Type} {y : Option α} : gB (decide ((0 : Int32) = 0 ∨ (0 : Int32) = 1)) y = y := if_pos (decide_eq_true (by decide))
theorem zv_w1 {B R : Nat} (hB : B ≤ 6) (hR : R ≤ 8) {k ne t f l : Nat → Int32} {c : Int32} :
    (c = 59 ∧ 2 ≤ B ∧ R < 8 ∧ M_X4_goesOnWith 1 (nI B) (nI R) k ne t f l c = some (1, 3, nI B, nI R, k, ne, t, f, l)) ∨
    (∃ x, zv_K c x ∧ B < 6 ∧ R = 0 ∧ M_X4_goesOnWith 1 (nI B) (nI R) k ne t f l c = some (1, 2, nI B, nI R, upd k B (nI x), ne, t, f, l)) ∨
    (¬ (c = 59 ∧ 2 ≤ B ∧ R < 8) ∧ (B = 6 ∨ ¬ R = 0 ∨ (¬ c = 98 ∧ ¬ c = 103 ∧ ¬ c = 100)) ∧ M_X4_goesOnWith 1 (nI B) (nI R) k ne t f l c = some (0, 1, nI B, nI R, k, ne, t, f, l)) := by
  unfold M_X4_goesOnWith
  rw [if_neg (show ¬ (1 : Int32) = 0 by decide), if_pos (show (1 : Int32) = 1 from rfl)]
  by_cases h59 : c = 59
  · rw [if_pos h59]
    unfold M_X4_beginsRope
    by_cases hB2 : 2 ≤ B
    · rw [if_neg (show ¬ nI B < (2 : Int32) from nI_nlt (b := 2) hB2 (by omega))]
      by_cases hR8 : R < 8
      · rw [if_pos (show nI R < (8 : Int32) from nI_lt (b := 8) hR8 (by decide)), Option.bind_some, zv_g1]
        exact Or.inl ⟨h59, hB2, hR8, rfl⟩
      · rw [if_neg (show ¬ nI R < (8 : Int32) from nI_nlt (b := 8) (by omega) (by omega)), Option.bind_some, zv_g0]
        exact Or.inr (Or.inr ⟨fun z => hR8 z.2.2, Or.inr (Or.inl (by omega)), rfl⟩)
    · rw [if_pos (show nI B < (2 : Int32) from nI_lt (b := 2) (by omega) (by decide)), Option.bind_some, zv_g0]
      subst h59
      exact Or.inr (Or.inr ⟨fun z => hB2 z.2.1, Or.inr (Or.inr (by decide)), rfl⟩)
  · rw [if_neg h59]
    unfold M_X4_beginsBell
    rcases zv_kind c with ⟨x, hx⟩ | ⟨h1, h2, h3⟩
    · obtain ⟨hx2, -, hk⟩ := zv_K2 hx
      rw [hk, Option.bind_some, if_neg (zi_n9 (by omega))]
      by_cases hB6 : B < 6
      · rw [if_neg (show ¬ (6 : Int32) ≤ nI B from nI_ge (b := 6) hB6 (by decide))]
        by_cases hR0 : R = 0
        · subst hR0
          rw [if_pos (show nI 0 ≤ 0 by decide), q_gB hB6 (by decide), nI_clamp (by omega)]
          simp only [nme]
          rw [Option.bind_some, zv_g1]
          exact Or.inr (Or.inl ⟨x, hx, hB6, trivial, rfl⟩)
        · rw [if_neg (nI_nle (by omega) (by omega)), Option.bind_some, zv_g0]
          exact Or.inr (Or.inr ⟨fun z => h59 z.1, Or.inr (Or.inl hR0), rfl⟩)
      · rw [if_pos (show (6 : Int32) ≤ nI B from nI_le (a := 6) (by omega) (by omega)), Option.bind_some, zv_g0]
        exact Or.inr (Or.inr ⟨fun z => h59 z.1, Or.inl (by omega), rfl⟩)
    · have hk : M_X4_kindOf c = some (-9) := by
        unfold M_X4_kindOf
        rw [if_neg h1, if_neg h3, if_neg h2]
      rw [hk, Option.bind_some, if_pos rfl, Option.bind_some, zv_g0]
      exact Or.inr (Or.inr ⟨fun z => h59 z.1, Or.inr (Or.inr ⟨h1, h2, h3⟩), rfl⟩)
theorem zv_w2 {B R : Nat} (hB : B < 6) {k ne t f l : Nat → Int32} {c : Int32} :
    (∃ j, 1 ≤ j ∧ j ≤ 3 ∧ c - 48 = nI j ∧ M_X4_goesOnWith 2 (nI B) (nI R) k ne t f l c = some (1, 1, nI (B + 1), nI R, k, upd ne B (nI j), t, f, l)) ∨
    (¬ (((1 : Nat) : Int) ≤ (c - 48).toInt ∧ (c - 48).toInt ≤ ((3 : Nat) : Int)) ∧ M_X4_goesOnWith 2 (nI B) (nI R) k ne t f l c = some (0, 2, nI B, nI R, k, ne, t, f, l)) := by
  unfold M_X4_goesOnWith M_X4_takesNeeds
  rw [if_neg (show ¬ (2 : Int32) = 0 by decide), if_neg (show ¬ (2 : Int32) = 1 by decide), if_pos (show (2 : Int32) = 2 from rfl)]
  rcases zv_dig (c - 48) (lo := 1) (hi := 3) (by decide) with ⟨j, h1, h2, h3⟩ | h
  · rw [h3, if_neg (show ¬ nI j < (1 : Int32) from nI_nlt (b := 1) h1 (by omega)), if_pos (show nI j ≤ (3 : Int32) from nI_le (b := 3) h2 (by decide)), q_gB hB (by decide), nI_clamp (by omega), nI_1]
    simp only [nme]
    rw [Option.bind_some, zv_g1]
    exact Or.inl ⟨j, h1, h2, rfl, rfl⟩
  · refine Or.inr ⟨h, ?_⟩
    by_cases h1 : c - 48 < 1
    · rw [if_pos h1, Option.bind_some, zv_g0]
    · have g1 : ¬ (c - 48).toInt < 1 := fun z => h1 (Int32.lt_iff_toInt_lt.mpr z)
      rw [if_neg h1, if_neg (show ¬ c - 48 ≤ 3 by rw [Int32.le_iff_toInt_le]; show ¬ (c - 48).toInt ≤ 3; omega), Option.bind_some, zv_g0]
theorem zv_w3 {B R : Nat} (hB : 2 ≤ B ∧ B ≤ 6) (hR : R < 8) {k ne t f l : Nat → Int32} {c : Int32} :
    (∃ j, j < B ∧ c - 48 = nI j ∧ M_X4_goesOnWith 3 (nI B) (nI R) k ne t f l c = some (1, 4, nI B, nI R, k, ne, t, upd f R (nI j), l)) ∨
    (¬ (((0 : Nat) : Int) ≤ (c - 48).toInt ∧ (c - 48).toInt ≤ ((B - 1 : Nat) : Int)) ∧ M_X4_goesOnWith 3 (nI B) (nI R) k ne t f l c = some (0, 3, nI B, nI R, k, ne, t, f, l)) := by
  unfold M_X4_goesOnWith M_X4_takesRope M_X5_hasBell
  rw [if_neg (show ¬ (3 : Int32) = 0 by decide), if_neg (show ¬ (3 : Int32) = 1 by decide), if_neg (show ¬ (3 : Int32) = 2 by decide), if_neg (show ¬ (3 : Int32) = 5 by decide)]
  rcases zi_rng (c - 48) (n := B) (by omega) with ⟨j, h1, h2, h3⟩ | ⟨h1, h2⟩ | ⟨h1, h2, h3⟩
  · rw [h2, if_neg (nI_pos (by omega)), if_neg (nI_ge h1 (by omega)), Option.bind_some, if_neg (show ¬ (1 : Int32) = 0 by decide), if_pos (show (3 : Int32) = 3 from rfl), q_gB (by omega) (by decide), nI_clamp (by omega)]
    simp only [nme]
    rw [Option.bind_some, zv_g1]
    exact Or.inl ⟨j, h1, rfl, rfl⟩
  · rw [if_pos h1, Option.bind_some, if_pos (show (0 : Int32) = 0 from rfl), Option.bind_some, zv_g0]
    exact Or.inr ⟨by omega, rfl⟩
  · rw [if_neg h1, if_pos h2, Option.bind_some, if_pos (show (0 : Int32) = 0 from rfl), Option.bind_some, zv_g0]
    exact Or.inr ⟨by omega, rfl⟩
theorem zv_w4 {B R : Nat} (hB : 2 ≤ B ∧ B ≤ 6) (hR : R < 8) {k ne t f l : Nat → Int32} {c : Int32} :
    (∃ j, j < B ∧ c - 48 = nI j ∧ M_X4_goesOnWith 4 (nI B) (nI R) k ne t f l c = some (1, 5, nI B, nI R, k, ne, upd t R (nI j), f, l)) ∨
    (¬ (((0 : Nat) : Int) ≤ (c - 48).toInt ∧ (c - 48).toInt ≤ ((B - 1 : Nat) : Int)) ∧ M_X4_goesOnWith 4 (nI B) (nI R) k ne t f l c = some (0, 4, nI B, nI R, k, ne, t, f, l)) := by
  unfold M_X4_goesOnWith M_X4_takesRope M_X5_hasBell
  rw [if_neg (show ¬ (4 : Int32) = 0 by decide), if_neg (show ¬ (4 : Int32) = 1 by decide), if_neg (show ¬ (4 : Int32) = 2 by decide), if_neg (show ¬ (4 : Int32) = 5 by decide)]
  rcases zi_rng (c - 48) (n := B) (by omega) with ⟨j, h1, h2, h3⟩ | ⟨h1, h2⟩ | ⟨h1, h2, h3⟩
  · rw [h2, if_neg (nI_pos (by omega)), if_neg (nI_ge h1 (by omega)), Option.bind_some, if_neg (show ¬ (1 : Int32) = 0 by decide), if_neg (show ¬ (4 : Int32) = 3 by decide), q_gB (by omega) (by decide), nI_clamp (by omega)]
    simp only [nme]
    rw [Option.bind_some, zv_g1]
    exact Or.inl ⟨j, h1, rfl, rfl⟩
  · rw [if_pos h1, Option.bind_some, if_pos (show (0 : Int32) = 0 from rfl), Option.bind_some, zv_g0]
    exact Or.inr ⟨by omega, rfl⟩
  · rw [if_neg h1, if_pos h2, Option.bind_some, if_pos (show (0 : Int32) = 0 from rfl), Option.bind_some, zv_g0]
    exact Or.inr ⟨by omega, rfl⟩
theorem zv_w5 {B R : Nat} (hR : R < 8) {k ne t f l : Nat → Int32} {c : Int32} :
    (∃ j, 1 ≤ j ∧ j ≤ 9 ∧ c - 48 = nI j ∧ M_X4_goesOnWith 5 (nI B) (nI R) k ne t f l c = some (1, 1, nI B, nI (R + 1), k, ne, t, f, upd l R (nI j))) ∨
    (¬ (((1 : Nat) : Int) ≤ (c - 48).toInt ∧ (c - 48).toInt ≤ ((9 : Nat) : Int)) ∧ M_X4_goesOnWith 5 (nI B) (nI R) k ne t f l c = some (0, 5, nI B, nI R, k, ne, t, f, l)) := by
  unfold M_X4_goesOnWith M_X4_takesRope M_X4_takesLong
  rw [if_neg (show ¬ (5 : Int32) = 0 by decide), if_neg (show ¬ (5 : Int32) = 1 by decide), if_neg (show ¬ (5 : Int32) = 2 by decide), if_pos (show (5 : Int32) = 5 from rfl)]
  rcases zv_dig (c - 48) (lo := 1) (hi := 9) (by decide) with ⟨j, h1, h2, h3⟩ | h
  · rw [h3, if_neg (show ¬ nI j < (1 : Int32) from nI_nlt (b := 1) h1 (by omega)), if_pos (show nI j ≤ (9 : Int32) from nI_le (b := 9) h2 (by decide)), q_gB (by omega) (by decide), nI_clamp (by omega), nI_1]
    simp only [nme]
    rw [Option.bind_some, zv_g1, Option.bind_some, zv_g1]
    exact Or.inl ⟨j, h1, h2, rfl, rfl⟩
  · refine Or.inr ⟨h, ?_⟩
    by_cases h1 : c - 48 < 1
    · rw [if_pos h1, Option.bind_some, zv_g0, Option.bind_some, zv_g0]
    · have g1 : ¬ (c - 48).toInt < 1 := fun z => h1 (Int32.lt_iff_toInt_lt.mpr z)
      rw [if_neg h1, if_neg (show ¬ c - 48 ≤ 9 by rw [Int32.le_iff_toInt_le]; show ¬ (c - 48).toInt ≤ 9; omega), Option.bind_some, zv_g0, Option.bind_some, zv_g0]
