theorem zv_stop91 {base n B : Int32} {sh : Nat → Int32} {g : Nat} (ra rr : Int32) (rf rt rl : Nat → Int32) : L_X7_readsValley_91 base n B sh (g + 1) 0 ra rr rf rt rl = some (0, ra, rr, rf, rt, rl) := by
  rw [L_X7_readsValley_91, if_pos (show (0 : Int32) = 0 from rfl)]
theorem zv_stop50 {base n : Int32} {sh : Nat → Int32} {g : Nat} (ra rb : Int32) (rk rn : Nat → Int32) : L_X7_readsValley_50 base n sh (g + 1) 0 ra rb rk rn = some (0, ra, rb, rk, rn) := by
  rw [L_X7_readsValley_50, if_pos (show (0 : Int32) = 0 from rfl)]
theorem zv_n8 {R : Nat} (h : R < 8) : ¬ nI R = (8 : Int32) := fun z => absurd ((nI_eq (b := 8) (by omega) (by decide)).mp z) (by omega)
theorem zv_rrNo {sh rf rt rl : Nat → Int32} {base n p B R : Nat} (hp : p < n) (hn : base + n ≤ 240) (hR : R ≤ 8) (h : R = 8 ∨ ¬ sh (base + p) = 59) : M_X7_readsRope (nI p) (nI B) (nI R) sh rf rt rl (nI base) (nI n) = some (0, nI p, nI R, rf, rt, rl) := by
  unfold M_X7_readsRope
  by_cases h8 : R = 8
  · subst h8
    rw [if_pos (show nI 8 = (8 : Int32) from rfl)]
  · rw [if_neg (zv_n8 (by omega)), zv_codeIn hp hn, Option.bind_some, if_neg (by rcases h with h | h; exact absurd h h8; exact h)]
theorem zv_Bm {B : Nat} (h : 1 ≤ B) : nI B - (1 : Int32) = nI (B - 1) := pk_sub (b := 1) h
theorem zv_rr1 {sh rf rt rl : Nat → Int32} {base n p B R : Nat} {q : Int32} (hp : p < n) (hn : base + n ≤ 240) (hB : 1 ≤ B) (hR : R < 8) (hc : sh (base + p) = 59) (h1 : M_X7_figure (nI (p + 1)) sh (nI base) (nI n) (nI 0) (nI (B - 1)) = some (-9, q)) : M_X7_readsRope (nI p) (nI B) (nI R) sh rf rt rl (nI base) (nI n) = some (0, q, nI R, rf, rt, rl) := by
  unfold M_X7_readsRope
  rw [if_neg (zv_n8 hR), zv_codeIn hp hn, Option.bind_some, if_pos hc, zv_Bm hB]
  simp only [nme]
  rw [nI_1]
  show (M_X7_figure (nI (p + 1)) sh (nI base) (nI n) (nI 0) (nI (B - 1))).bind _ = _
  rw [h1, Option.bind_some, if_neg (show ¬ (0 : Int32) ≤ -9 by decide)]
theorem zv_rr2 {sh rf rt rl : Nat → Int32} {base n p B R a : Nat} {q p2 : Int32} (hp : p < n) (hn : base + n ≤ 240) (hB : 1 ≤ B) (hR : R < 8) (hc : sh (base + p) = 59) (ha : a < 1000) (h1 : M_X7_figure (nI (p + 1)) sh (nI base) (nI n) (nI 0) (nI (B - 1)) = some (nI a, p2)) (h2 : M_X7_figure p2 sh (nI base) (nI n) (nI 0) (nI (B - 1)) = some (-9, q)) : M_X7_readsRope (nI p) (nI B) (nI R) sh rf rt rl (nI base) (nI n) = some (0, q, nI R, rf, rt, rl) := by
  unfold M_X7_readsRope
  rw [if_neg (zv_n8 hR), zv_codeIn hp hn, Option.bind_some, if_pos hc, zv_Bm hB]
  simp only [nme]
  rw [nI_1]
  show (M_X7_figure (nI (p + 1)) sh (nI base) (nI n) (nI 0) (nI (B - 1))).bind _ = _
  rw [h1, Option.bind_some, if_pos (nI_pos' (by omega))]
  show (M_X7_figure p2 sh (nI base) (nI n) (nI 0) (nI (B - 1))).bind _ = _
  rw [h2, Option.bind_some, if_neg (show ¬ (0 : Int32) ≤ -9 by decide)]
theorem zv_rr3 {sh rf rt rl : Nat → Int32} {base n p B R a b : Nat} {q p2 p3 : Int32} (hp : p < n) (hn : base + n ≤ 240) (hB : 1 ≤ B) (hR : R < 8) (hc : sh (base + p) = 59) (ha : a < 1000) (hb : b < 1000) (h1 : M_X7_figure (nI (p + 1)) sh (nI base) (nI n) (nI 0) (nI (B - 1)) = some (nI a, p2)) (h2 : M_X7_figure p2 sh (nI base) (nI n) (nI 0) (nI (B - 1)) = some (nI b, p3)) (h3 : M_X7_figure p3 sh (nI base) (nI n) (nI 1) (nI 9) = some (-9, q)) : M_X7_readsRope (nI p) (nI B) (nI R) sh rf rt rl (nI base) (nI n) = some (0, q, nI R, rf, rt, rl) := by
  unfold M_X7_readsRope
  rw [if_neg (zv_n8 hR), zv_codeIn hp hn, Option.bind_some, if_pos hc, zv_Bm hB]
  simp only [nme]
  rw [nI_1]
  show (M_X7_figure (nI (p + 1)) sh (nI base) (nI n) (nI 0) (nI (B - 1))).bind _ = _
  rw [h1, Option.bind_some, if_pos (nI_pos' (by omega))]
  show (M_X7_figure p2 sh (nI base) (nI n) (nI 0) (nI (B - 1))).bind _ = _
  rw [h2, Option.bind_some, if_pos (nI_pos' (by omega))]
  show (M_X7_figure p3 sh (nI base) (nI n) (nI 1) (nI 9)).bind _ = _
  rw [h3, Option.bind_some, if_neg (show ¬ (0 : Int32) ≤ -9 by decide)]
theorem zv_rr4 {sh rf rt rl : Nat → Int32} {base n p B R a b c : Nat} {p2 p3 p4 : Int32} (hp : p < n) (hn : base + n ≤ 240) (hB : 1 ≤ B) (hR : R < 8) (hc : sh (base + p) = 59) (ha : a < 1000) (hb : b < 1000) (hcc : c < 1000) (h1 : M_X7_figure (nI (p + 1)) sh (nI base) (nI n) (nI 0) (nI (B - 1)) = some (nI a, p2)) (h2 : M_X7_figure p2 sh (nI base) (nI n) (nI 0) (nI (B - 1)) = some (nI b, p3)) (h3 : M_X7_figure p3 sh (nI base) (nI n) (nI 1) (nI 9) = some (nI c, p4)) : M_X7_readsRope (nI p) (nI B) (nI R) sh rf rt rl (nI base) (nI n) = some (1, p4, nI (R + 1), upd rf R (nI a), upd rt R (nI b), upd rl R (nI c)) := by
  unfold M_X7_readsRope
  rw [if_neg (zv_n8 hR), zv_codeIn hp hn, Option.bind_some, if_pos hc, zv_Bm hB]
  simp only [nme]
  rw [nI_1]
  show (M_X7_figure (nI (p + 1)) sh (nI base) (nI n) (nI 0) (nI (B - 1))).bind _ = _
  rw [h1, Option.bind_some, if_pos (nI_pos' (by omega))]
  show (M_X7_figure p2 sh (nI base) (nI n) (nI 0) (nI (B - 1))).bind _ = _
  rw [h2, Option.bind_some, if_pos (nI_pos' (by omega))]
  show (M_X7_figure p3 sh (nI base) (nI n) (nI 1) (nI 9)).bind _ = _
  rw [h3, Option.bind_some, if_pos (nI_pos' (by omega)), q_gB hR (by decide), q_gB hR (by decide), q_gB hR (by decide), nI_clamp (by omega), nI_1]
/-- one rope of the reference, and what it goes on with -/
theorem zv_step91 {sh rf rt rl : Nat → Int32} {base n p B R g : Nat} (hp : p < n) (hn : n < 1000) : L_X7_readsValley_91 (nI base) (nI n) (nI B) sh (g + 1) 1 (nI p) (nI R) rf rt rl = (M_X7_readsRope (nI p) (nI B) (nI R) sh rf rt rl (nI base) (nI n)).bind (fun u19 => L_X7_readsValley_91 (nI base) (nI n) (nI B) sh g u19.1 u19.2.1 u19.2.2.1 u19.2.2.2.1 u19.2.2.2.2.1 u19.2.2.2.2.2) := by
  rw [L_X7_readsValley_91, if_neg (show ¬ (1 : Int32) = 0 by decide), if_neg (nI_ge hp (by omega))]
theorem zv_ropes {cells sh : Nat → Int32} {i n base B : Nat} (hin : i + n ≤ 60) (hbase : base + n ≤ 240) (hc : ∀ p, p < n → cells (i + p) = sh (base + p)) (hB : 2 ≤ B ∧ B ≤ 6) {k ne rk rn : Nat → Int32} (hBB : zv_B B k ne rk rn) :
    ∀ (d p R g g2 : Nat) (t f l rf rt rl : Nat → Int32), p + d = n → d < g → d < g2 → R ≤ 8 → (R = 0 → p < n → sh (base + p) = 59) → zv_R R B f t l rf rt rl →
      ∃ (u : zv_U) (w : Int32 × Int32 × Int32 × (Nat → Int32) × (Nat → Int32) × (Nat → Int32)), L_X4_firstFault_15 (nI i) (nI n) cells g (nI p) 1 (nI B) (nI R) k ne t f l = some u ∧ L_X7_readsValley_91 (nI base) (nI n) (nI B) sh g2 1 (nI p) (nI R) rf rt rl = some w ∧ zv_Out n u w.1 w.2.1 (nI B) w.2.2.1 rk rn w.2.2.2.1 w.2.2.2.2.1 w.2.2.2.2.2 := by
  intro d
  induction d using Nat.strongRecOn with
  | ind d ih =>
    intro p R g g2 t f l rf rt rl hd hg hg2 hR h0 hRR
    obtain ⟨g, rfl⟩ : ∃ g', g = g' + 1 := ⟨g - 1, by omega⟩
    obtain ⟨g2, rfl⟩ : ∃ g', g2 = g' + 1 := ⟨g2 - 1, by omega⟩
    by_cases hp : p < n
    · obtain ⟨g2, rfl⟩ : ∃ g', g2 = g' + 1 := ⟨g2 - 1, by omega⟩
      rw [zv_step91 hp (by omega)]
      rcases zv_w1 (B := B) (R := R) hB.2 hR (k := k) (ne := ne) (t := t) (f := f) (l := l) (c := cells (i + p)) with ⟨c1, -, c3, c4⟩ | ⟨x, hK, c1, c2, c3⟩ | ⟨c1, c2, c3⟩
      · have hs : sh (base + p) = 59 := by rw [← hc p hp]; exact c1
        rw [zv_go hin hp c4]
        obtain ⟨g, rfl⟩ : ∃ g', g = g' + 1 := ⟨g - 1, by omega⟩
        by_cases hp1 : p + 1 < n
        · rcases zv_w3 (R := R) hB c3 (k := k) (ne := ne) (t := t) (f := f) (l := l) (c := cells (i + (p + 1))) with ⟨a, a1, a2, a3⟩ | ⟨a1, a2⟩
          · have f1 : M_X7_figure (nI (p + 1)) sh (nI base) (nI n) (nI 0) (nI (B - 1)) = some (nI a, nI (p + 1 + 1)) := zv_figYes hp1 hbase (by omega) (by omega) (by rw [← hc _ hp1]; exact a2) (by omega) (by omega)
            rw [zv_go hin hp1 a3]
            obtain ⟨g, rfl⟩ : ∃ g', g = g' + 1 := ⟨g - 1, by omega⟩
            by_cases hp2 : p + 1 + 1 < n
            · rcases zv_w4 (R := R) hB c3 (k := k) (ne := ne) (t := t) (f := upd f R (nI a)) (l := l) (c := cells (i + (p + 1 + 1))) with ⟨b, b1, b2, b3⟩ | ⟨b1, b2⟩
              · have f2 : M_X7_figure (nI (p + 1 + 1)) sh (nI base) (nI n) (nI 0) (nI (B - 1)) = some (nI b, nI (p + 1 + 1 + 1)) := zv_figYes hp2 hbase (by omega) (by omega) (by rw [← hc _ hp2]; exact b2) (by omega) (by omega)
                rw [zv_go hin hp2 b3]
                obtain ⟨g, rfl⟩ : ∃ g', g = g' + 1 := ⟨g - 1, by omega⟩
                by_cases hp3 : p + 1 + 1 + 1 < n
                · rcases zv_w5 (B := B) (R := R) c3 (k := k) (ne := ne) (t := upd t R (nI b)) (f := upd f R (nI a)) (l := l) (c := cells (i + (p + 1 + 1 + 1))) with ⟨z, z1, z2, z3, z4⟩ | ⟨z1, z2⟩
                  · have f3 : M_X7_figure (nI (p + 1 + 1 + 1)) sh (nI base) (nI n) (nI 1) (nI 9) = some (nI z, nI (p + 1 + 1 + 1 + 1)) := zv_figYes hp3 hbase (by omega) (by omega) (by rw [← hc _ hp3]; exact z3) (by omega) (by omega)
                    rw [zv_go hin hp3 z4, zv_rr4 hp hbase (by omega) c3 hs (by omega) (by omega) (by omega) f1 f2 f3, Option.bind_some]
                    refine ih (d - 4) (by omega) (p + 1 + 1 + 1 + 1) (R + 1) g (g2 + 1) _ _ _ _ _ _ (by omega) (by omega) (by omega) (by omega) (fun h => absurd h (Nat.succ_ne_zero R)) (fun r hr => ?_)
                    by_cases hrR : r = R
                    · subst hrR
                      exact ⟨a, b, z, a1, b1, z1, z2, pk_us, pk_us, pk_us, pk_us, pk_us, pk_us⟩
                    · simp only [pk_un hrR]
                      exact hRR r (by omega)
                  · have f3 := zv_figNo (sh := sh) (lo := 1) (hi := 9) hp3 hbase (by omega) (by omega) (by rw [← hc _ hp3]; exact z1)
                    rw [zv_rr3 hp hbase (by omega) c3 hs (by omega) (by omega) f1 f2 f3, Option.bind_some, zv_stop91]
                    obtain ⟨u, e1, e2, e3⟩ := zv_fail (g := g) hin hp3 z2
                    exact ⟨u, _, e1, rfl, Or.inr ⟨p + 1 + 1 + 1, by omega, rfl, rfl, Or.inl ⟨e2, e3⟩⟩⟩
                · have f3 := zv_figOut (sh := sh) (base := base) (n := n) (p := p + 1 + 1 + 1) (lo := 1) (hi := 9) (by omega) (by omega) (by omega) (by omega)
                  rw [zv_rr3 hp hbase (by omega) c3 hs (by omega) (by omega) f1 f2 f3, Option.bind_some, zv_stop91, zv_end (by omega) (show n ≤ p + 1 + 1 + 1 by omega) (by omega)]
                  exact ⟨_, _, rfl, rfl, Or.inr ⟨p + 1 + 1 + 1, by omega, rfl, rfl, Or.inr ⟨(show ¬ (1 : Nat) = 0 by decide), by omega, Or.inl (show ¬ (5 : Int32) = 1 by decide)⟩⟩⟩
              · have f2 := zv_figNo (sh := sh) (lo := 0) (hi := B - 1) hp2 hbase (by omega) (by omega) (by rw [← hc _ hp2]; exact b1)
                rw [zv_rr2 hp hbase (by omega) c3 hs (by omega) f1 f2, Option.bind_some, zv_stop91]
                obtain ⟨u, e1, e2, e3⟩ := zv_fail (g := g) hin hp2 b2
                exact ⟨u, _, e1, rfl, Or.inr ⟨p + 1 + 1, by omega, rfl, rfl, Or.inl ⟨e2, e3⟩⟩⟩
            · have f2 := zv_figOut (sh := sh) (base := base) (n := n) (p := p + 1 + 1) (lo := 0) (hi := B - 1) (by omega) (by omega) (by omega) (by omega)
              rw [zv_rr2 hp hbase (by omega) c3 hs (by omega) f1 f2, Option.bind_some, zv_stop91, zv_end (by omega) (show n ≤ p + 1 + 1 by omega) (by omega)]
              exact ⟨_, _, rfl, rfl, Or.inr ⟨p + 1 + 1, by omega, rfl, rfl, Or.inr ⟨(show ¬ (1 : Nat) = 0 by decide), by omega, Or.inl (show ¬ (4 : Int32) = 1 by decide)⟩⟩⟩
          · have f1 := zv_figNo (sh := sh) (lo := 0) (hi := B - 1) hp1 hbase (by omega) (by omega) (by rw [← hc _ hp1]; exact a1)
            rw [zv_rr1 hp hbase (by omega) c3 hs f1, Option.bind_some, zv_stop91]
            obtain ⟨u, e1, e2, e3⟩ := zv_fail (g := g) hin hp1 a2
            exact ⟨u, _, e1, rfl, Or.inr ⟨p + 1, by omega, rfl, rfl, Or.inl ⟨e2, e3⟩⟩⟩
        · have f1 := zv_figOut (sh := sh) (base := base) (n := n) (p := p + 1) (lo := 0) (hi := B - 1) (by omega) (by omega) (by omega) (by omega)
          rw [zv_rr1 hp hbase (by omega) c3 hs f1, Option.bind_some, zv_stop91, zv_end (by omega) (show n ≤ p + 1 by omega) (by omega)]
          exact ⟨_, _, rfl, rfl, Or.inr ⟨p + 1, by omega, rfl, rfl, Or.inr ⟨(show ¬ (1 : Nat) = 0 by decide), by omega, Or.inl (show ¬ (3 : Int32) = 1 by decide)⟩⟩⟩
      · exfalso
        have := h0 c2 hp
        rw [← hc p hp] at this
        exact (zv_K2 hK).2.1 this
      · have hno : R = 8 ∨ ¬ sh (base + p) = 59 := by
          by_cases h8 : R = 8
          · exact Or.inl h8
          · refine Or.inr (fun z => c1 ⟨by rw [hc p hp]; exact z, hB.1, by omega⟩)
        rw [zv_rrNo hp hbase hR hno, Option.bind_some, zv_stop91]
        obtain ⟨u, e1, e2, e3⟩ := zv_fail (g := g) hin hp c3
        exact ⟨u, _, e1, rfl, Or.inr ⟨p, by omega, rfl, rfl, Or.inl ⟨e2, e3⟩⟩⟩
    · have ep : p = n := by omega
      subst ep
      rw [zv_end (by omega) (Nat.le_refl _) (by omega), L_X7_readsValley_91, if_neg (show ¬ (1 : Int32) = 0 by decide), if_pos (nI_le (Nat.le_refl _) (by omega))]
      exact ⟨_, _, rfl, rfl, Or.inl ⟨B, R, hB.1, hB.2, hR, show ¬ (1 : Nat) = 0 by decide, rfl, rfl, rfl, rfl, rfl, rfl, hBB, hRR⟩⟩
theorem zv_step50 {sh rk rn : Nat → Int32} {base n p B g : Nat} (hn : base + n ≤ 240) (hB : B ≤ 6) (h : B < 2 ∨ (p < n ∧ ¬ sh (base + p) = 59)) : L_X7_readsValley_50 (nI base) (nI n) sh (g + 1) 1 (nI p) (nI B) rk rn = (M_X7_readsBell (nI p) (nI B) sh rk rn (nI base) (nI n)).bind (fun u12 => L_X7_readsValley_50 (nI base) (nI n) sh g u12.1 u12.2.1 u12.2.2.1 u12.2.2.2.1 u12.2.2.2.2) := by
  rw [L_X7_readsValley_50, if_neg (show ¬ (1 : Int32) = 0 by decide)]
  by_cases hB2 : B < 2
  · rw [if_pos (show nI B < (2 : Int32) from nI_lt (b := 2) hB2 (by decide))]
  · rcases h with h | ⟨h1, h2⟩
    · exact absurd h hB2
    · rw [if_neg (show ¬ nI B < (2 : Int32) from nI_nlt (b := 2) (by omega) (by omega)), if_neg (nI_ge h1 (by omega)), zv_codeIn h1 hn, Option.bind_some, if_neg h2]
theorem zv_exit50 {sh rk rn : Nat → Int32} {base n p B g : Nat} (hn : base + n ≤ 240) (hp : p ≤ n) (hB : 2 ≤ B ∧ B ≤ 6) (h : p < n → sh (base + p) = 59) : L_X7_readsValley_50 (nI base) (nI n) sh (g + 1) 1 (nI p) (nI B) rk rn = some (1, nI p, nI B, rk, rn) := by
  rw [L_X7_readsValley_50, if_neg (show ¬ (1 : Int32) = 0 by decide), if_neg (show ¬ nI B < (2 : Int32) from nI_nlt (b := 2) hB.1 (by omega))]
  by_cases h1 : p < n
  · rw [if_neg (nI_ge h1 (by omega)), zv_codeIn h1 hn, Option.bind_some, if_pos (h h1)]
  · rw [if_pos (nI_le (by omega) (by omega))]
theorem zv_bells {cells sh : Nat → Int32} {i n base : Nat} (hin : i + n ≤ 60) (hbase : base + n ≤ 240) (hc : ∀ p, p < n → cells (i + p) = sh (base + p)) (t f l rf rt rl : Nat → Int32) :
    ∀ (d p B g g5 : Nat) (k ne rk rn : Nat → Int32), p + d = n → d < g → d + 1 < g5 → B ≤ 6 → zv_B B k ne rk rn →
      ∃ (u : zv_U) (w : Int32 × Int32 × Int32 × (Nat → Int32) × (Nat → Int32)) (v : Int32 × Int32 × Int32 × (Nat → Int32) × (Nat → Int32) × (Nat → Int32)), L_X4_firstFault_15 (nI i) (nI n) cells g (nI p) 1 (nI B) (nI 0) k ne t f l = some u ∧ L_X7_readsValley_50 (nI base) (nI n) sh g5 1 (nI p) (nI B) rk rn = some w ∧ L_X7_readsValley_91 (nI base) (nI n) w.2.2.1 sh 1000 w.1 w.2.1 (nI 0) rf rt rl = some v ∧ zv_Out n u v.1 v.2.1 w.2.2.1 v.2.2.1 w.2.2.2.1 w.2.2.2.2 v.2.2.2.1 v.2.2.2.2.1 v.2.2.2.2.2 := by
  intro d
  induction d using Nat.strongRecOn with
  | ind d ih =>
    intro p B g g5 k ne rk rn hd hg hg5 hB hBB
    have toRopes : 2 ≤ B → (p < n → sh (base + p) = 59) → ∃ (u : zv_U) (w : Int32 × Int32 × Int32 × (Nat → Int32) × (Nat → Int32)) (v : Int32 × Int32 × Int32 × (Nat → Int32) × (Nat → Int32) × (Nat → Int32)), L_X4_firstFault_15 (nI i) (nI n) cells g (nI p) 1 (nI B) (nI 0) k ne t f l = some u ∧ L_X7_readsValley_50 (nI base) (nI n) sh g5 1 (nI p) (nI B) rk rn = some w ∧ L_X7_readsValley_91 (nI base) (nI n) w.2.2.1 sh 1000 w.1 w.2.1 (nI 0) rf rt rl = some v ∧ zv_Out n u v.1 v.2.1 w.2.2.1 v.2.2.1 w.2.2.2.1 w.2.2.2.2 v.2.2.2.1 v.2.2.2.2.1 v.2.2.2.2.2 := by
      intro hB2 h59
      obtain ⟨g5, rfl⟩ : ∃ g', g5 = g' + 1 := ⟨g5 - 1, by omega⟩
      obtain ⟨u, v, e1, e2, e3⟩ := zv_ropes hin hbase hc ⟨hB2, hB⟩ hBB d p 0 g 1000 t f l rf rt rl hd hg (by omega) (by omega) (fun _ => h59) (fun r hr => absurd hr (Nat.not_lt_zero _))
      exact ⟨u, _, v, e1, zv_exit50 hbase (by omega) ⟨hB2, hB⟩ h59, e2, e3⟩
    by_cases hp : p < n
    · rcases zv_w1 (B := B) (R := 0) hB (by omega) (k := k) (ne := ne) (t := t) (f := f) (l := l) (c := cells (i + p)) with ⟨c1, c2, -, c4⟩ | ⟨x, hK, c1, -, c3⟩ | ⟨c1, c2, c3⟩
      · exact toRopes c2 (fun _ => by rw [← hc p hp]; exact c1)
      · have hn59 := (zv_K2 hK).2.1
        rw [hc p hp] at hK hn59
        obtain ⟨g, rfl⟩ : ∃ g', g = g' + 1 := ⟨g - 1, by omega⟩
        obtain ⟨g5, rfl⟩ : ∃ g', g5 = g' + 1 + 1 := ⟨g5 - 2, by omega⟩
        rw [zv_go hin hp c3, zv_step50 hbase hB (Or.inr ⟨hp, hn59⟩)]
        obtain ⟨g, rfl⟩ : ∃ g', g = g' + 1 := ⟨g - 1, by omega⟩
        by_cases hp1 : p + 1 < n
        · rcases zv_w2 (R := 0) c1 (k := upd k B (nI x)) (ne := ne) (t := t) (f := f) (l := l) (c := cells (i + (p + 1))) with ⟨j, j1, j2, j3, j4⟩ | ⟨j1, j2⟩
          · have f1 : M_X7_figure (nI (p + 1)) sh (nI base) (nI n) (nI 1) (nI 3) = some (nI j, nI (p + 2)) := zv_figYes hp1 hbase (by omega) (by omega) (by rw [← hc _ hp1]; exact j3) j1 j2
            rw [zv_go hin hp1 j4, zv_rbYes hp hbase c1 hK j2 f1, Option.bind_some]
            refine ih (d - 2) (by omega) (p + 2) (B + 1) g (g5 + 1) _ _ _ _ (by omega) (by omega) (by omega) (by omega) (fun b hb => ?_)
            by_cases hbB : b = B
            · subst hbB
              exact ⟨x, j, (zv_K2 hK).1, j1, j2, pk_us, pk_us, pk_us, pk_us⟩
            · simp only [pk_un hbB]
              exact hBB b (by omega)
          · have f1 := zv_figNo (sh := sh) (lo := 1) (hi := 3) hp1 hbase (by omega) (by omega) (by rw [← hc _ hp1]; exact j1)
            rw [zv_rbHalf hp hbase c1 hK f1, Option.bind_some, zv_stop50]
            obtain ⟨u, e1, e2, e3⟩ := zv_fail (g := g) hin hp1 j2
            exact ⟨u, _, _, e1, rfl, zv_stop91 _ _ _ _ _, Or.inr ⟨p + 1, by omega, rfl, rfl, Or.inl ⟨e2, e3⟩⟩⟩
        · have f1 := zv_figOut (sh := sh) (base := base) (n := n) (p := p + 1) (lo := 1) (hi := 3) (by omega) (by omega) (by omega) (by omega)
          rw [zv_rbHalf hp hbase c1 hK f1, Option.bind_some, zv_stop50, zv_end (by omega) (show n ≤ p + 1 by omega) (by omega)]
          exact ⟨_, _, _, rfl, rfl, zv_stop91 _ _ _ _ _, Or.inr ⟨p + 1, by omega, rfl, rfl, Or.inr ⟨(show ¬ (1 : Nat) = 0 by decide), by omega, Or.inl (show ¬ (2 : Int32) = 1 by decide)⟩⟩⟩
      · obtain ⟨g, rfl⟩ : ∃ g', g = g' + 1 := ⟨g - 1, by omega⟩
        obtain ⟨g5, rfl⟩ : ∃ g', g5 = g' + 1 + 1 := ⟨g5 - 2, by omega⟩
        have hs : B < 2 ∨ (p < n ∧ ¬ sh (base + p) = 59) := by
          by_cases hB2 : B < 2
          · exact Or.inl hB2
          · exact Or.inr ⟨hp, fun z => c1 ⟨by rw [hc p hp]; exact z, by omega, by omega⟩⟩
        have hno : n ≤ p ∨ B = 6 ∨ (¬ sh (base + p) = 98 ∧ ¬ sh (base + p) = 103 ∧ ¬ sh (base + p) = 100) := by
          rw [hc p hp] at c2
          rcases c2 with h | h | h
          · exact Or.inr (Or.inl h)
          · exact absurd rfl h
          · exact Or.inr (Or.inr h)
        rw [zv_step50 hbase hB hs, zv_rbNo (by omega) hbase hB hno, Option.bind_some, zv_stop50]
        obtain ⟨u, e1, e2, e3⟩ := zv_fail (g := g) hin hp c3
        exact ⟨u, _, _, e1, rfl, zv_stop91 _ _ _ _ _, Or.inr ⟨p, by omega, rfl, rfl, Or.inl ⟨e2, e3⟩⟩⟩
    · by_cases hB2 : 2 ≤ B
      · exact toRopes hB2 (fun h => absurd h hp)
      · have ep : p = n := by omega
        subst ep
        obtain ⟨g, rfl⟩ : ∃ g', g = g' + 1 := ⟨g - 1, by omega⟩
        obtain ⟨g5, rfl⟩ : ∃ g', g5 = g' + 1 + 1 := ⟨g5 - 2, by omega⟩
        rw [zv_step50 hbase hB (Or.inl (by omega)), zv_rbNo (Nat.le_refl _) hbase hB (Or.inl (Nat.le_refl _)), Option.bind_some, zv_stop50, zv_end (by omega) (Nat.le_refl _) (by omega)]
        exact ⟨_, _, _, rfl, rfl, zv_stop91 _ _ _ _ _, Or.inr ⟨p, Nat.le_refl _, rfl, rfl, Or.inr ⟨(show ¬ (1 : Nat) = 0 by decide), rfl, Or.inr (nI_lt (b := 2) (by omega) (by decide))⟩⟩⟩
