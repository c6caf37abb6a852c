def w_X7_in (G : GT) : va_W := []
def M_X7_in (a1 : Int64) (a2 : Int64) (a3 : Int64) : Option (Int32) := (if (lg_cmp a1 a2) < 0 then (some (0 : Int32)) else (if 0 < (lg_cmp a1 a3) then (some (0 : Int32)) else (some (1 : Int32))))
set_option maxHeartbeats 4000000 in
set_option maxRecDepth 100000 in
theorem c_X7_in (l : Launch) (G : GT) (a1 : Int64) (a2 : Int64) (a3 : Int64) {u : Int32} (hm : M_X7_in a1 a2 a3 = some u) : CT l yX7_in cX7_in 6 (some .boolean) 0 0 [.long a1, .long a2, .long a3] G (w_X7_in G) (some (.int u)) (w_X7_in G) := by
  refine ct_intro RX7 [(0, .long a1), (2, .long a2), (4, .long a3)] (by decide) rfl (Nat.le_of_ble_eq_true rfl) rfl (fun X hX cx => ?_)
  unfold M_X7_in at hm
  refine k_lload_n 0 cx dX7_in_0 rfl 0 rfl ?_
  refine k_lload_n 1 cx dX7_in_1 rfl 1 rfl ?_
  refine k_lcmp 2 cx dX7_in_2 ?_
  refine k_if_lt 3 cx (tgt := 17) dX7_in_3 (by decide) hm (fun hc hm => ?_) (fun hc hm => ?_)
  · refine k_iconst 17 cx (v := (0 : Int32)) dX7_in_17 (by decide) ?_
    obtain rfl := Option.some.inj hm
    exact k_zret 18 cx dX7_in_18 (by decide) rfl rfl
  · refine k_lload_n 6 cx dX7_in_6 rfl 0 rfl ?_
    refine k_lload 7 cx dX7_in_7 2 rfl ?_
    refine k_lcmp 9 cx dX7_in_9 ?_
    refine k_if_gt 10 cx (tgt := 17) dX7_in_10 (by decide) hm (fun hc hm => ?_) (fun hc hm => ?_)
    · refine k_iconst 17 cx (v := (0 : Int32)) dX7_in_17 (by decide) ?_
      obtain rfl := Option.some.inj hm
      exact k_zret 18 cx dX7_in_18 (by decide) rfl rfl
    · refine k_iconst 13 cx (v := (1 : Int32)) dX7_in_13 (by decide) ?_
      refine k_goto 14 cx (tgt := 18) dX7_in_14 (by decide) ?_
      obtain rfl := Option.some.inj hm
      exact k_zret 18 cx dX7_in_18 (by decide) rfl rfl
def w_X7_lost (G : GT) : va_W := []
def M_X7_lost : Option (Int64) := (some (-9223372036854775808 : Int64))
set_option maxHeartbeats 4000000 in
set_option maxRecDepth 100000 in
theorem c_X7_lost (l : Launch) (G : GT) {u : Int64} (hm : M_X7_lost = some u) : CT l yX7_lost cX7_lost 0 (some .long) 0 0 [] G (w_X7_lost G) (some (.long u)) (w_X7_lost G) := by
  refine ct_intro RX7 [] (by decide) rfl (Nat.le_of_ble_eq_true rfl) rfl (fun X hX cx => ?_)
  unfold M_X7_lost at hm
  refine k_ldc2_w 0 cx (v := (-9223372036854775808 : Int64)) dX7_lost_0 (tb_m (i := 932) rfl rfl) ?_
  obtain rfl := Option.some.inj hm
  exact k_lret 3 cx dX7_lost_3 rfl rfl
def w_X7_isIn (G : GT) : va_W := []
def M_X7_isIn (a1 : Int32) (a2 : Int32) : Option (Int32) := (if ((a1 >>> (a2 &&& 31)) &&& (1 : Int32)) = (1 : Int32) then (some (1 : Int32)) else (some (0 : Int32)))
set_option maxHeartbeats 4000000 in
set_option maxRecDepth 100000 in
theorem c_X7_isIn (l : Launch) (G : GT) (a1 : Int32) (a2 : Int32) {u : Int32} (hm : M_X7_isIn a1 a2 = some u) : CT l yX7_isIn cX7_isIn 2 (some .boolean) 0 0 [.int a1, .int a2] G (w_X7_isIn G) (some (.int u)) (w_X7_isIn G) := by
  refine ct_intro RX7 [(0, .int a1), (1, .int a2)] (by decide) rfl (Nat.le_of_ble_eq_true rfl) rfl (fun X hX cx => ?_)
  unfold M_X7_isIn at hm
  refine k_iload_n 0 cx dX7_isIn_0 rfl 0 rfl ?_
  refine k_iload_n 1 cx dX7_isIn_1 rfl 1 rfl ?_
  refine k_ishr 2 cx dX7_isIn_2 ?_
  refine k_iconst 3 cx (v := (1 : Int32)) dX7_isIn_3 (by decide) ?_
  refine k_iand 4 cx dX7_isIn_4 ?_
  refine k_iconst 5 cx (v := (1 : Int32)) dX7_isIn_5 (by decide) ?_
  refine k_icmp_ne 6 cx (tgt := 13) dX7_isIn_6 (by decide) hm (fun hc hm => ?_) (fun hc hm => ?_)
  · refine k_iconst 9 cx (v := (1 : Int32)) dX7_isIn_9 (by decide) ?_
    refine k_goto 10 cx (tgt := 14) dX7_isIn_10 (by decide) ?_
    obtain rfl := Option.some.inj hm
    exact k_zret 14 cx dX7_isIn_14 (by decide) rfl rfl
  · refine k_iconst 13 cx (v := (0 : Int32)) dX7_isIn_13 (by decide) ?_
    obtain rfl := Option.some.inj hm
    exact k_zret 14 cx dX7_isIn_14 (by decide) rfl rfl
def w_X7_bits (G : GT) : va_W := []
def L_X7_bits_4 : Nat → Int32 → Int32 → Option (Int32 × Int32)
  | 0, _, _ => none
  | n + 1, x1, x2 => (if x2 ≤ 0 then (some (x1, x2)) else (nme (x1 + (x2 &&& (1 : Int32))) (fun v7 => (nme (x2 >>> ((1 : Int32) &&& 31)) (fun v8 => (L_X7_bits_4 n v7 v8))))))
def M_X7_bits (a1 : Int32) : Option (Int32) := ((L_X7_bits_4 1000 (0 : Int32) a1).bind (fun u9 => (some u9.1)))
set_option maxHeartbeats 4000000 in
set_option maxRecDepth 100000 in
theorem c_X7_bits (l : Launch) (G : GT) (a1 : Int32) {u : Int32} (hm : M_X7_bits a1 = some u) : CT l yX7_bits cX7_bits 3 (some .int) 0 0 [.int a1] G (w_X7_bits G) (some (.int u)) (w_X7_bits G) := by
  refine ct_intro RX7 [(0, .int a1)] (by decide) rfl (Nat.le_of_ble_eq_true rfl) rfl (fun X hX cx => ?_)
  have lp4 : ∀ (Q : State → Prop) (A : Nat → Prop) (n : Nat) (x1 : Int32) (x2 : Int32) (y : Int32 × Int32), L_X7_bits_4 n x1 x2 = some y → (KJ X Q G A 3 21 [(1, .int y.1)] [] (w_X7_bits G)) → KJ X Q G A 3 4 [(1, .int x1), (2, .int x2)] [] (w_X7_bits G) := by
    intro Q A n
    induction n with
    | zero => intro x1 x2 y hm _; exact noS hm
    | succ n ih =>
      intro x1 x2 y hm k0
      rw [L_X7_bits_4] at hm
      refine k_iload_n 4 cx dX7_bits_4 rfl 1 rfl ?_
      refine k_if_le 5 cx (tgt := 21) dX7_bits_5 (by decide) hm (fun hc hm => ?_) (fun hc hm => ?_)
      · obtain rfl := Option.some.inj hm
        refine k_lv [0] rfl ?_
        exact k0
      · refine k_iload_n 8 cx dX7_bits_8 rfl 0 rfl ?_
        refine k_iload_n 9 cx dX7_bits_9 rfl 1 rfl ?_
        refine k_iconst 10 cx (v := (1 : Int32)) dX7_bits_10 (by decide) ?_
        refine k_iand 11 cx dX7_bits_11 ?_
        refine k_iadd 12 cx dX7_bits_12 ?_
        refine k_nm hm (fun v7 hm => ?_)
        refine k_istore_n 13 cx dX7_bits_13 rfl (by decide) (lv' := [(1, .int v7), (2, .int x2)]) rfl ?_
        refine k_iload_n 14 cx dX7_bits_14 rfl 1 rfl ?_
        refine k_iconst 15 cx (v := (1 : Int32)) dX7_bits_15 (by decide) ?_
        refine k_ishr 16 cx dX7_bits_16 ?_
        refine k_nm hm (fun v8 hm => ?_)
        refine k_istore_n 17 cx dX7_bits_17 rfl (by decide) (lv' := [(2, .int v8), (1, .int v7)]) rfl ?_
        refine k_goto 18 cx (tgt := 4) dX7_bits_18 (by decide) ?_
        refine k_lv [1, 0] rfl ?_
        exact ih v7 v8 _ hm k0
  unfold M_X7_bits at hm
  refine k_iconst 0 cx (v := (0 : Int32)) dX7_bits_0 (by decide) ?_
  refine k_istore_n 1 cx dX7_bits_1 rfl (by decide) (lv' := [(1, .int (0 : Int32)), (0, .int a1)]) rfl ?_
  refine k_iload_n 2 cx dX7_bits_2 rfl 1 rfl ?_
  refine k_istore_n 3 cx dX7_bits_3 rfl (by decide) (lv' := [(2, .int a1), (1, .int (0 : Int32)), (0, .int a1)]) rfl ?_
  refine k_lv [1, 0] rfl ?_
  obtain ⟨u9, hu9, hm⟩ := bnd hm
  refine lp4 _ _ 1000 (0 : Int32) a1 u9 hu9 ?_
  refine k_iload_n 21 cx dX7_bits_21 rfl 0 rfl ?_
  obtain rfl := Option.some.inj hm
  exact k_iret 22 cx dX7_bits_22 rfl rfl
def w_X7_told (G : GT) : va_W := []
def L_X7_told_6 : Nat → Int64 → Int64 → Option (Int64 × Int64)
  | 0, _, _ => none
  | n + 1, y5, y7 => (if (lg_cmp y7 (0 : Int64)) = 0 then (some (y5, y7)) else (gB (decide (¬ y7 = 0)) (nme (y5 - y5 / y7 * y7) (fun v4 => (L_X7_told_6 n y7 v4)))))
def M_X7_told (a1 : Int64) (a2 : Int64) (a3 : Int32) : Option (Int64) := ((L_X7_told_6 1000 a1 a2).bind (fun u5 => (if a3 = 0 then (gB (decide (¬ u5.1 = 0)) (some (a1 / u5.1))) else (gB (decide (¬ u5.1 = 0)) (some (a2 / u5.1))))))
set_option maxHeartbeats 4000000 in
set_option maxRecDepth 100000 in
theorem c_X7_told (l : Launch) (G : GT) (a1 : Int64) (a2 : Int64) (a3 : Int32) {u : Int64} (hm : M_X7_told a1 a2 a3 = some u) : CT l yX7_told cX7_told 11 (some .long) 0 0 [.long a1, .long a2, .int a3] G (w_X7_told G) (some (.long u)) (w_X7_told G) := by
  refine ct_intro RX7 [(0, .long a1), (2, .long a2), (4, .int a3)] (by decide) rfl (Nat.le_of_ble_eq_true rfl) rfl (fun X hX cx => ?_)
  have lp6 : ∀ (Q : State → Prop) (A : Nat → Prop) (y0 : Int64) (y2 : Int64) (x4 : Int32) (n : Nat) (y5 : Int64) (y7 : Int64) (y : Int64 × Int64), L_X7_told_6 n y5 y7 = some y → (KJ X Q G A 11 31 [(0, .long y0), (2, .long y2), (4, .int x4), (5, .long y.1)] [] (w_X7_told G)) → KJ X Q G A 11 6 [(0, .long y0), (2, .long y2), (4, .int x4), (5, .long y5), (7, .long y7)] [] (w_X7_told G) := by
    intro Q A y0 y2 x4 n
    induction n with
    | zero => intro y5 y7 y hm _; exact noS hm
    | succ n ih =>
      intro y5 y7 y hm k0
      rw [L_X7_told_6] at hm
      refine k_lload 6 cx dX7_told_6 4 rfl ?_
      refine k_lconst 8 cx (v := (0 : Int64)) dX7_told_8 (by decide) ?_
      refine k_lcmp 9 cx dX7_told_9 ?_
      refine k_if_eq 10 cx (tgt := 31) dX7_told_10 (by decide) hm (fun hc hm => ?_) (fun hc hm => ?_)
      · obtain rfl := Option.some.inj hm
        refine k_lv [0, 1, 2, 3] rfl ?_
        exact k0
      · refine k_lload 13 cx dX7_told_13 3 rfl ?_
        refine k_lload 15 cx dX7_told_15 4 rfl ?_
        refine k_lrem 17 cx dX7_told_17 hm (fun hm => ?_)
        refine k_nml hm (fun v4 hm => ?_)
        refine k_lstore 18 cx dX7_told_18 (by decide) (lv' := [(9, .long v4), (0, .long y0), (2, .long y2), (4, .int x4), (5, .long y5), (7, .long y7)]) rfl ?_
        refine k_lload 20 cx dX7_told_20 5 rfl ?_
        refine k_lstore 22 cx dX7_told_22 (by decide) (lv' := [(5, .long y7), (9, .long v4), (0, .long y0), (2, .long y2), (4, .int x4), (7, .long y7)]) rfl ?_
        refine k_lload 24 cx dX7_told_24 1 rfl ?_
        refine k_lstore 26 cx dX7_told_26 (by decide) (lv' := [(7, .long v4), (5, .long y7), (9, .long v4), (0, .long y0), (2, .long y2), (4, .int x4)]) rfl ?_
        refine k_goto 28 cx (tgt := 6) dX7_told_28 (by decide) ?_
        refine k_lv [3, 4, 5, 1, 0] rfl ?_
        exact ih y7 v4 _ hm k0
  unfold M_X7_told at hm
  refine k_lload_n 0 cx dX7_told_0 rfl 0 rfl ?_
  refine k_lstore 1 cx dX7_told_1 (by decide) (lv' := [(5, .long a1), (0, .long a1), (2, .long a2), (4, .int a3)]) rfl ?_
  refine k_lload_n 3 cx dX7_told_3 rfl 2 rfl ?_
  refine k_lstore 4 cx dX7_told_4 (by decide) (lv' := [(7, .long a2), (5, .long a1), (0, .long a1), (2, .long a2), (4, .int a3)]) rfl ?_
  refine k_lv [2, 3, 4, 1, 0] rfl ?_
  obtain ⟨u5, hu5, hm⟩ := bnd hm
  refine lp6 _ _ a1 a2 a3 1000 a1 a2 u5 hu5 ?_
  refine k_iload 31 cx dX7_told_31 2 rfl ?_
  refine k_if_ne 33 cx (tgt := 40) dX7_told_33 (by decide) hm (fun hc hm => ?_) (fun hc hm => ?_)
  · refine k_lload_n 36 cx dX7_told_36 rfl 0 rfl ?_
    refine k_goto 37 cx (tgt := 41) dX7_told_37 (by decide) ?_
    refine k_lload 41 cx dX7_told_41 3 rfl ?_
    refine k_ldiv 43 cx dX7_told_43 hm (fun hm => ?_)
    obtain rfl := Option.some.inj hm
    exact k_lret 44 cx dX7_told_44 rfl rfl
  · refine k_lload_n 40 cx dX7_told_40 rfl 1 rfl ?_
    refine k_lload 41 cx dX7_told_41 3 rfl ?_
    refine k_ldiv 43 cx dX7_told_43 hm (fun hm => ?_)
    obtain rfl := Option.some.inj hm
    exact k_lret 44 cx dX7_told_44 rfl rfl
set_option maxRecDepth 100000 in
theorem fpX7_82 {X : XT} {Q : State → Prop} {G : GT} {A : Nat → Prop} {nL : Nat} {lv : List (Nat × Value)} {st : List Value} {ws : va_W} {cc : ByteArray} {fr lo : Nat} {ret : Option FieldType} (pc : Nat) (cx : Cx X cc nL RX7 G fr lo ret) {a : Nat} {fs : List Value} {v : Value} (hd : decode cc pc = .ok (.putfield 82, 3)) (q0 : Nat) (he : ws[q0]? = some (a, .inr (7, fs))) (hn : narrow .int v = v) (hfit : fits .int v = true) (hlen : 0 < fs.length) (w1 : va_W) (hw : ws.set q0 (a, .inr (7, fs.set 0 v)) = w1) (k : KJ X Q G A nL (pc + 3) lv st w1) : KJ X Q G A nL pc lv (v :: .ref a :: st) ws :=
  k_put (ref := RX7) (T := TX7) (N := 34) (ci := 7) (ty := .int) pc cx inX7 rfl tyX7 tyX7_ok nmX7 0 (by decide) (tb_m (i := 649) rfl rfl) rfl rfl (by decide +kernel) hd q0 he hn hfit hlen w1 hw k
def w_X7_refused (G : GT) (h_t : Nat) (h_t_kindOf : Nat) (h_t_needsOf : Nat) (h_t_fromOf : Nat) (h_t_toOf : Nat) (h_t_longOf : Nat) (h_t_readKind : Nat) (h_t_readNeeds : Nat) (h_t_readFrom : Nat) (h_t_readTo : Nat) (h_t_readLong : Nat) (h_t_pullOf : Nat) (h_t_pullAt : Nat) (h_t_peals : Nat) (h_t_swings : Nat) (h_t_lastRang : Nat) (h_t_heardSince : Nat) (h_t_readingOf : Nat) (h_t_readingAt : Nat) (h_t_readingIs : Nat) (h_t_sheetSize : Nat) (h_t_sheetLane : Nat) (h_t_sheet : Nat) (h_t_hands : Nat) (t_fault : Int32) (t_bells : Int32) (t_tied : Int32) (t_ropes : Int32) (t_spanNow : Int32) (t_readAt : Int32) (t_readBells : Int32) (t_readRopes : Int32) (t_pulls : Int32) (t_readings : Int32) (t_traceNow : Int32) : va_W := [(h_t, .inr (7, [.int t_fault, .int t_bells, .ref h_t_kindOf, .ref h_t_needsOf, .int t_tied, .int t_ropes, .ref h_t_fromOf, .ref h_t_toOf, .ref h_t_longOf, .int t_spanNow, .int t_readAt, .int t_readBells, .int t_readRopes, .ref h_t_readKind, .ref h_t_readNeeds, .ref h_t_readFrom, .ref h_t_readTo, .ref h_t_readLong, .int t_pulls, .ref h_t_pullOf, .ref h_t_pullAt, .ref h_t_peals, .ref h_t_swings, .ref h_t_lastRang, .ref h_t_heardSince, .int t_readings, .ref h_t_readingOf, .ref h_t_readingAt, .ref h_t_readingIs, .ref h_t_sheetSize, .ref h_t_sheetLane, .ref h_t_sheet, .ref h_t_hands, .int t_traceNow]))]
def M_X7_refused (a1 : Int32) : Option (Int32 × Int32) := (some (a1, (0 : Int32)))
set_option maxHeartbeats 4000000 in
set_option maxRecDepth 100000 in
theorem c_X7_refused (l : Launch) (G : GT) (h_t : Nat) (h_t_kindOf : Nat) (h_t_needsOf : Nat) (h_t_fromOf : Nat) (h_t_toOf : Nat) (h_t_longOf : Nat) (h_t_readKind : Nat) (h_t_readNeeds : Nat) (h_t_readFrom : Nat) (h_t_readTo : Nat) (h_t_readLong : Nat) (h_t_pullOf : Nat) (h_t_pullAt : Nat) (h_t_peals : Nat) (h_t_swings : Nat) (h_t_lastRang : Nat) (h_t_heardSince : Nat) (h_t_readingOf : Nat) (h_t_readingAt : Nat) (h_t_readingIs : Nat) (h_t_sheetSize : Nat) (h_t_sheetLane : Nat) (h_t_sheet : Nat) (h_t_hands : Nat) (t_fault : Int32) (t_bells : Int32) (t_tied : Int32) (t_ropes : Int32) (t_spanNow : Int32) (t_readAt : Int32) (t_readBells : Int32) (t_readRopes : Int32) (t_pulls : Int32) (t_readings : Int32) (t_traceNow : Int32) (a1 : Int32) {u : Int32 × Int32} (hm : M_X7_refused a1 = some u) : CT l yX7_refused cX7_refused 2 (some .int) 0 0 [.ref h_t, .int a1] G (w_X7_refused G h_t h_t_kindOf h_t_needsOf h_t_fromOf h_t_toOf h_t_longOf h_t_readKind h_t_readNeeds h_t_readFrom h_t_readTo h_t_readLong h_t_pullOf h_t_pullAt h_t_peals h_t_swings h_t_lastRang h_t_heardSince h_t_readingOf h_t_readingAt h_t_readingIs h_t_sheetSize h_t_sheetLane h_t_sheet h_t_hands t_fault t_bells t_tied t_ropes t_spanNow t_readAt t_readBells t_readRopes t_pulls t_readings t_traceNow) (some (.int u.1)) (w_X7_refused G h_t h_t_kindOf h_t_needsOf h_t_fromOf h_t_toOf h_t_longOf h_t_readKind h_t_readNeeds h_t_readFrom h_t_readTo h_t_readLong h_t_pullOf h_t_pullAt h_t_peals h_t_swings h_t_lastRang h_t_heardSince h_t_readingOf h_t_readingAt h_t_readingIs h_t_sheetSize h_t_sheetLane h_t_sheet h_t_hands u.2 t_bells t_tied t_ropes t_spanNow t_readAt t_readBells t_readRopes t_pulls t_readings t_traceNow) := by
  refine ct_intro RX7 [(0, .ref h_t), (1, .int a1)] (by decide) rfl (Nat.le_of_ble_eq_true rfl) rfl (fun X hX cx => ?_)
  unfold M_X7_refused at hm
  refine k_aload_n 0 cx dX7_refused_0 rfl 0 rfl ?_
  refine k_iconst 1 cx (v := (0 : Int32)) dX7_refused_1 (by decide) ?_
  refine fpX7_82 2 cx dX7_refused_2 0 rfl rfl rfl (by simp) (w1 := (w_X7_refused G h_t h_t_kindOf h_t_needsOf h_t_fromOf h_t_toOf h_t_longOf h_t_readKind h_t_readNeeds h_t_readFrom h_t_readTo h_t_readLong h_t_pullOf h_t_pullAt h_t_peals h_t_swings h_t_lastRang h_t_heardSince h_t_readingOf h_t_readingAt h_t_readingIs h_t_sheetSize h_t_sheetLane h_t_sheet h_t_hands (0 : Int32) t_bells t_tied t_ropes t_spanNow t_readAt t_readBells t_readRopes t_pulls t_readings t_traceNow)) rfl ?_
  refine k_iload_n 5 cx dX7_refused_5 rfl 1 rfl ?_
  obtain rfl := Option.some.inj hm
  exact k_iret 6 cx dX7_refused_6 rfl rfl
def w_X7_failed (G : GT) (h_t : Nat) (h_t_kindOf : Nat) (h_t_needsOf : Nat) (h_t_fromOf : Nat) (h_t_toOf : Nat) (h_t_longOf : Nat) (h_t_readKind : Nat) (h_t_readNeeds : Nat) (h_t_readFrom : Nat) (h_t_readTo : Nat) (h_t_readLong : Nat) (h_t_pullOf : Nat) (h_t_pullAt : Nat) (h_t_peals : Nat) (h_t_swings : Nat) (h_t_lastRang : Nat) (h_t_heardSince : Nat) (h_t_readingOf : Nat) (h_t_readingAt : Nat) (h_t_readingIs : Nat) (h_t_sheetSize : Nat) (h_t_sheetLane : Nat) (h_t_sheet : Nat) (h_t_hands : Nat) (t_fault : Int32) (t_bells : Int32) (t_tied : Int32) (t_ropes : Int32) (t_spanNow : Int32) (t_readAt : Int32) (t_readBells : Int32) (t_readRopes : Int32) (t_pulls : Int32) (t_readings : Int32) (t_traceNow : Int32) : va_W := [(h_t, .inr (7, [.int t_fault, .int t_bells, .ref h_t_kindOf, .ref h_t_needsOf, .int t_tied, .int t_ropes, .ref h_t_fromOf, .ref h_t_toOf, .ref h_t_longOf, .int t_spanNow, .int t_readAt, .int t_readBells, .int t_readRopes, .ref h_t_readKind, .ref h_t_readNeeds, .ref h_t_readFrom, .ref h_t_readTo, .ref h_t_readLong, .int t_pulls, .ref h_t_pullOf, .ref h_t_pullAt, .ref h_t_peals, .ref h_t_swings, .ref h_t_lastRang, .ref h_t_heardSince, .int t_readings, .ref h_t_readingOf, .ref h_t_readingAt, .ref h_t_readingIs, .ref h_t_sheetSize, .ref h_t_sheetLane, .ref h_t_sheet, .ref h_t_hands, .int t_traceNow]))]
def M_X7_failed (a1 : Int32) : Option (Int32 × Int32) := (some (((-10 : Int32) - a1), a1))
set_option maxHeartbeats 4000000 in
set_option maxRecDepth 100000 in
theorem c_X7_failed (l : Launch) (G : GT) (h_t : Nat) (h_t_kindOf : Nat) (h_t_needsOf : Nat) (h_t_fromOf : Nat) (h_t_toOf : Nat) (h_t_longOf : Nat) (h_t_readKind : Nat) (h_t_readNeeds : Nat) (h_t_readFrom : Nat) (h_t_readTo : Nat) (h_t_readLong : Nat) (h_t_pullOf : Nat) (h_t_pullAt : Nat) (h_t_peals : Nat) (h_t_swings : Nat) (h_t_lastRang : Nat) (h_t_heardSince : Nat) (h_t_readingOf : Nat) (h_t_readingAt : Nat) (h_t_readingIs : Nat) (h_t_sheetSize : Nat) (h_t_sheetLane : Nat) (h_t_sheet : Nat) (h_t_hands : Nat) (t_fault : Int32) (t_bells : Int32) (t_tied : Int32) (t_ropes : Int32) (t_spanNow : Int32) (t_readAt : Int32) (t_readBells : Int32) (t_readRopes : Int32) (t_pulls : Int32) (t_readings : Int32) (t_traceNow : Int32) (a1 : Int32) {u : Int32 × Int32} (hm : M_X7_failed a1 = some u) : CT l yX7_failed cX7_failed 2 (some .int) 0 0 [.ref h_t, .int a1] G (w_X7_failed G h_t h_t_kindOf h_t_needsOf h_t_fromOf h_t_toOf h_t_longOf h_t_readKind h_t_readNeeds h_t_readFrom h_t_readTo h_t_readLong h_t_pullOf h_t_pullAt h_t_peals h_t_swings h_t_lastRang h_t_heardSince h_t_readingOf h_t_readingAt h_t_readingIs h_t_sheetSize h_t_sheetLane h_t_sheet h_t_hands t_fault t_bells t_tied t_ropes t_spanNow t_readAt t_readBells t_readRopes t_pulls t_readings t_traceNow) (some (.int u.1)) (w_X7_failed G h_t h_t_kindOf h_t_needsOf h_t_fromOf h_t_toOf h_t_longOf h_t_readKind h_t_readNeeds h_t_readFrom h_t_readTo h_t_readLong h_t_pullOf h_t_pullAt h_t_peals h_t_swings h_t_lastRang h_t_heardSince h_t_readingOf h_t_readingAt h_t_readingIs h_t_sheetSize h_t_sheetLane h_t_sheet h_t_hands u.2 t_bells t_tied t_ropes t_spanNow t_readAt t_readBells t_readRopes t_pulls t_readings t_traceNow) := by
  refine ct_intro RX7 [(0, .ref h_t), (1, .int a1)] (by decide) rfl (Nat.le_of_ble_eq_true rfl) rfl (fun X hX cx => ?_)
  unfold M_X7_failed at hm
  refine k_aload_n 0 cx dX7_failed_0 rfl 0 rfl ?_
  refine k_iload_n 1 cx dX7_failed_1 rfl 1 rfl ?_
  refine fpX7_82 2 cx dX7_failed_2 0 rfl rfl rfl (by simp) (w1 := (w_X7_failed G h_t h_t_kindOf h_t_needsOf h_t_fromOf h_t_toOf h_t_longOf h_t_readKind h_t_readNeeds h_t_readFrom h_t_readTo h_t_readLong h_t_pullOf h_t_pullAt h_t_peals h_t_swings h_t_lastRang h_t_heardSince h_t_readingOf h_t_readingAt h_t_readingIs h_t_sheetSize h_t_sheetLane h_t_sheet h_t_hands a1 t_bells t_tied t_ropes t_spanNow t_readAt t_readBells t_readRopes t_pulls t_readings t_traceNow)) rfl ?_
  refine k_bipush 5 cx (v := (-10 : Int32)) dX7_failed_5 (by decide) ?_
  refine k_iload_n 7 cx dX7_failed_7 rfl 1 rfl ?_
  refine k_isub 8 cx dX7_failed_8 ?_
  obtain rfl := Option.some.inj hm
  exact k_iret 9 cx dX7_failed_9 rfl rfl
set_option maxRecDepth 100000 in
theorem cwX7_86 : CWS RX7 86 yX7_lost cX7_lost 0 (some .long) 0 := ⟨tb_m (i := 929) rfl rfl, tb_m (i := 930) rfl rfl, tb_m (i := 58) rfl rfl, tb_m (i := 931) rfl rfl, ⟨by decide +kernel, by decide +kernel, by decide +kernel⟩⟩
def w_X7_failedLong (G : GT) (h_t : Nat) (h_t_kindOf : Nat) (h_t_needsOf : Nat) (h_t_fromOf : Nat) (h_t_toOf : Nat) (h_t_longOf : Nat) (h_t_readKind : Nat) (h_t_readNeeds : Nat) (h_t_readFrom : Nat) (h_t_readTo : Nat) (h_t_readLong : Nat) (h_t_pullOf : Nat) (h_t_pullAt : Nat) (h_t_peals : Nat) (h_t_swings : Nat) (h_t_lastRang : Nat) (h_t_heardSince : Nat) (h_t_readingOf : Nat) (h_t_readingAt : Nat) (h_t_readingIs : Nat) (h_t_sheetSize : Nat) (h_t_sheetLane : Nat) (h_t_sheet : Nat) (h_t_hands : Nat) (t_fault : Int32) (t_bells : Int32) (t_tied : Int32) (t_ropes : Int32) (t_spanNow : Int32) (t_readAt : Int32) (t_readBells : Int32) (t_readRopes : Int32) (t_pulls : Int32) (t_readings : Int32) (t_traceNow : Int32) : va_W := [(h_t, .inr (7, [.int t_fault, .int t_bells, .ref h_t_kindOf, .ref h_t_needsOf, .int t_tied, .int t_ropes, .ref h_t_fromOf, .ref h_t_toOf, .ref h_t_longOf, .int t_spanNow, .int t_readAt, .int t_readBells, .int t_readRopes, .ref h_t_readKind, .ref h_t_readNeeds, .ref h_t_readFrom, .ref h_t_readTo, .ref h_t_readLong, .int t_pulls, .ref h_t_pullOf, .ref h_t_pullAt, .ref h_t_peals, .ref h_t_swings, .ref h_t_lastRang, .ref h_t_heardSince, .int t_readings, .ref h_t_readingOf, .ref h_t_readingAt, .ref h_t_readingIs, .ref h_t_sheetSize, .ref h_t_sheetLane, .ref h_t_sheet, .ref h_t_hands, .int t_traceNow]))]
def M_X7_failedLong (a1 : Int32) : Option (Int64 × Int32) := ((M_X7_lost).bind (fun u1 => (some (u1, a1))))
set_option maxHeartbeats 4000000 in
set_option maxRecDepth 100000 in
theorem c_X7_failedLong (l : Launch) (G : GT) (h_t : Nat) (h_t_kindOf : Nat) (h_t_needsOf : Nat) (h_t_fromOf : Nat) (h_t_toOf : Nat) (h_t_longOf : Nat) (h_t_readKind : Nat) (h_t_readNeeds : Nat) (h_t_readFrom : Nat) (h_t_readTo : Nat) (h_t_readLong : Nat) (h_t_pullOf : Nat) (h_t_pullAt : Nat) (h_t_peals : Nat) (h_t_swings : Nat) (h_t_lastRang : Nat) (h_t_heardSince : Nat) (h_t_readingOf : Nat) (h_t_readingAt : Nat) (h_t_readingIs : Nat) (h_t_sheetSize : Nat) (h_t_sheetLane : Nat) (h_t_sheet : Nat) (h_t_hands : Nat) (t_fault : Int32) (t_bells : Int32) (t_tied : Int32) (t_ropes : Int32) (t_spanNow : Int32) (t_readAt : Int32) (t_readBells : Int32) (t_readRopes : Int32) (t_pulls : Int32) (t_readings : Int32) (t_traceNow : Int32) (a1 : Int32) {u : Int64 × Int32} (hm : M_X7_failedLong a1 = some u) : CT l yX7_failedLong cX7_failedLong 2 (some .long) 1 19 [.ref h_t, .int a1] G (w_X7_failedLong G h_t h_t_kindOf h_t_needsOf h_t_fromOf h_t_toOf h_t_longOf h_t_readKind h_t_readNeeds h_t_readFrom h_t_readTo h_t_readLong h_t_pullOf h_t_pullAt h_t_peals h_t_swings h_t_lastRang h_t_heardSince h_t_readingOf h_t_readingAt h_t_readingIs h_t_sheetSize h_t_sheetLane h_t_sheet h_t_hands t_fault t_bells t_tied t_ropes t_spanNow t_readAt t_readBells t_readRopes t_pulls t_readings t_traceNow) (some (.long u.1)) (w_X7_failedLong G h_t h_t_kindOf h_t_needsOf h_t_fromOf h_t_toOf h_t_longOf h_t_readKind h_t_readNeeds h_t_readFrom h_t_readTo h_t_readLong h_t_pullOf h_t_pullAt h_t_peals h_t_swings h_t_lastRang h_t_heardSince h_t_readingOf h_t_readingAt h_t_readingIs h_t_sheetSize h_t_sheetLane h_t_sheet h_t_hands u.2 t_bells t_tied t_ropes t_spanNow t_readAt t_readBells t_readRopes t_pulls t_readings t_traceNow) := by
  refine ct_intro RX7 [(0, .ref h_t), (1, .int a1)] (by decide) rfl (Nat.le_of_ble_eq_true rfl) rfl (fun X hX cx => ?_)
  unfold M_X7_failedLong at hm
  refine k_aload_n 0 cx dX7_failedLong_0 rfl 0 rfl ?_
  refine k_iload_n 1 cx dX7_failedLong_1 rfl 1 rfl ?_
  refine fpX7_82 2 cx dX7_failedLong_2 0 rfl rfl rfl (by simp) (w1 := (w_X7_failedLong G h_t h_t_kindOf h_t_needsOf h_t_fromOf h_t_toOf h_t_longOf h_t_readKind h_t_readNeeds h_t_readFrom h_t_readTo h_t_readLong h_t_pullOf h_t_pullAt h_t_peals h_t_swings h_t_lastRang h_t_heardSince h_t_readingOf h_t_readingAt h_t_readingIs h_t_sheetSize h_t_sheetLane h_t_sheet h_t_hands a1 t_bells t_tied t_ropes t_spanNow t_readAt t_readBells t_readRopes t_pulls t_readings t_traceNow)) rfl ?_
  obtain ⟨u1, hu1, hm⟩ := bnd hm
  refine k_callS 5 cx cwX7_86 (c_X7_lost X.2.1 G hu1) dX7_failedLong_5 ⟨by decide, by decide⟩ rfl (rest := []) rfl (Nat.le_of_ble_eq_true rfl) [] (by decide) rfl rfl (w2 := (w_X7_failedLong G h_t h_t_kindOf h_t_needsOf h_t_fromOf h_t_toOf h_t_longOf h_t_readKind h_t_readNeeds h_t_readFrom h_t_readTo h_t_readLong h_t_pullOf h_t_pullAt h_t_peals h_t_swings h_t_lastRang h_t_heardSince h_t_readingOf h_t_readingAt h_t_readingIs h_t_sheetSize h_t_sheetLane h_t_sheet h_t_hands a1 t_bells t_tied t_ropes t_spanNow t_readAt t_readBells t_readRopes t_pulls t_readings t_traceNow)) [0] 1 rfl [(h_t, .inr (7, [.int a1, .int t_bells, .ref h_t_kindOf, .ref h_t_needsOf, .int t_tied, .int t_ropes, .ref h_t_fromOf, .ref h_t_toOf, .ref h_t_longOf, .int t_spanNow, .int t_readAt, .int t_readBells, .int t_readRopes, .ref h_t_readKind, .ref h_t_readNeeds, .ref h_t_readFrom, .ref h_t_readTo, .ref h_t_readLong, .int t_pulls, .ref h_t_pullOf, .ref h_t_pullAt, .ref h_t_peals, .ref h_t_swings, .ref h_t_lastRang, .ref h_t_heardSince, .int t_readings, .ref h_t_readingOf, .ref h_t_readingAt, .ref h_t_readingIs, .ref h_t_sheetSize, .ref h_t_sheetLane, .ref h_t_sheet, .ref h_t_hands, .int t_traceNow]))] rfl rfl rfl (by decide) (st2 := [.long u1]) rfl ?_
  obtain rfl := Option.some.inj hm
  exact k_lret 8 cx dX7_failedLong_8 rfl rfl
set_option maxRecDepth 100000 in
theorem fgX7_90 {X : XT} {Q : State → Prop} {G : GT} {A : Nat → Prop} {nL : Nat} {lv : List (Nat × Value)} {st : List Value} {ws : va_W} {cc : ByteArray} {fr lo : Nat} {ret : Option FieldType} (pc : Nat) (cx : Cx X cc nL RX7 G fr lo ret) {a : Nat} {fs : List Value} {v : Value} (hd : decode cc pc = .ok (.getfield 90, 3)) (q0 : Nat) (he : ws[q0]? = some (a, .inr (7, fs))) (hv : fs[1]? = some v) (k : KJ X Q G A nL (pc + 3) lv (v :: st) ws) : KJ X Q G A nL pc lv (.ref a :: st) ws :=
  k_get (ref := RX7) (T := TX7) (N := 34) (ci := 7) pc cx inX7 rfl 1 (by decide) (tb_m (i := 650) rfl rfl) rfl hd q0 he hv k
set_option maxRecDepth 100000 in
theorem cwX7_93 : CWS RX7 93 yX7_in cX7_in 6 (some .boolean) 3 := ⟨tb_m (i := 760) rfl rfl, tb_m (i := 761) rfl rfl, tb_m (i := 58) rfl rfl, tb_m (i := 762) rfl rfl, ⟨by decide +kernel, by decide +kernel, by decide +kernel⟩⟩
def w_X7_noBell (G : GT) (h_t : Nat) (h_t_kindOf : Nat) (h_t_needsOf : Nat) (h_t_fromOf : Nat) (h_t_toOf : Nat) (h_t_longOf : Nat) (h_t_readKind : Nat) (h_t_readNeeds : Nat) (h_t_readFrom : Nat) (h_t_readTo : Nat) (h_t_readLong : Nat) (h_t_pullOf : Nat) (h_t_pullAt : Nat) (h_t_peals : Nat) (h_t_swings : Nat) (h_t_lastRang : Nat) (h_t_heardSince : Nat) (h_t_readingOf : Nat) (h_t_readingAt : Nat) (h_t_readingIs : Nat) (h_t_sheetSize : Nat) (h_t_sheetLane : Nat) (h_t_sheet : Nat) (h_t_hands : Nat) (t_fault : Int32) (t_bells : Int32) (t_tied : Int32) (t_ropes : Int32) (t_spanNow : Int32) (t_readAt : Int32) (t_readBells : Int32) (t_readRopes : Int32) (t_pulls : Int32) (t_readings : Int32) (t_traceNow : Int32) : va_W := [(h_t, .inr (7, [.int t_fault, .int t_bells, .ref h_t_kindOf, .ref h_t_needsOf, .int t_tied, .int t_ropes, .ref h_t_fromOf, .ref h_t_toOf, .ref h_t_longOf, .int t_spanNow, .int t_readAt, .int t_readBells, .int t_readRopes, .ref h_t_readKind, .ref h_t_readNeeds, .ref h_t_readFrom, .ref h_t_readTo, .ref h_t_readLong, .int t_pulls, .ref h_t_pullOf, .ref h_t_pullAt, .ref h_t_peals, .ref h_t_swings, .ref h_t_lastRang, .ref h_t_heardSince, .int t_readings, .ref h_t_readingOf, .ref h_t_readingAt, .ref h_t_readingIs, .ref h_t_sheetSize, .ref h_t_sheetLane, .ref h_t_sheet, .ref h_t_hands, .int t_traceNow]))]
def M_X7_noBell (t_bells : Int32) (a1 : Int32) : Option (Int32) := ((M_X7_in (Int32.toInt64 a1) (0 : Int64) ((Int32.toInt64 t_bells) - (1 : Int64))).bind (fun u1 => (if u1 = 0 then (some (1 : Int32)) else (some (0 : Int32)))))
set_option maxHeartbeats 4000000 in
set_option maxRecDepth 100000 in
theorem c_X7_noBell (l : Launch) (G : GT) (h_t : Nat) (h_t_kindOf : Nat) (h_t_needsOf : Nat) (h_t_fromOf : Nat) (h_t_toOf : Nat) (h_t_longOf : Nat) (h_t_readKind : Nat) (h_t_readNeeds : Nat) (h_t_readFrom : Nat) (h_t_readTo : Nat) (h_t_readLong : Nat) (h_t_pullOf : Nat) (h_t_pullAt : Nat) (h_t_peals : Nat) (h_t_swings : Nat) (h_t_lastRang : Nat) (h_t_heardSince : Nat) (h_t_readingOf : Nat) (h_t_readingAt : Nat) (h_t_readingIs : Nat) (h_t_sheetSize : Nat) (h_t_sheetLane : Nat) (h_t_sheet : Nat) (h_t_hands : Nat) (t_fault : Int32) (t_bells : Int32) (t_tied : Int32) (t_ropes : Int32) (t_spanNow : Int32) (t_readAt : Int32) (t_readBells : Int32) (t_readRopes : Int32) (t_pulls : Int32) (t_readings : Int32) (t_traceNow : Int32) (a1 : Int32) {u : Int32} (hm : M_X7_noBell t_bells a1 = some u) : CT l yX7_noBell cX7_noBell 2 (some .boolean) 1 25 [.ref h_t, .int a1] G (w_X7_noBell G h_t h_t_kindOf h_t_needsOf h_t_fromOf h_t_toOf h_t_longOf h_t_readKind h_t_readNeeds h_t_readFrom h_t_readTo h_t_readLong h_t_pullOf h_t_pullAt h_t_peals h_t_swings h_t_lastRang h_t_heardSince h_t_readingOf h_t_readingAt h_t_readingIs h_t_sheetSize h_t_sheetLane h_t_sheet h_t_hands t_fault t_bells t_tied t_ropes t_spanNow t_readAt t_readBells t_readRopes t_pulls t_readings t_traceNow) (some (.int u)) (w_X7_noBell G h_t h_t_kindOf h_t_needsOf h_t_fromOf h_t_toOf h_t_longOf h_t_readKind h_t_readNeeds h_t_readFrom h_t_readTo h_t_readLong h_t_pullOf h_t_pullAt h_t_peals h_t_swings h_t_lastRang h_t_heardSince h_t_readingOf h_t_readingAt h_t_readingIs h_t_sheetSize h_t_sheetLane h_t_sheet h_t_hands t_fault t_bells t_tied t_ropes t_spanNow t_readAt t_readBells t_readRopes t_pulls t_readings t_traceNow) := by
  refine ct_intro RX7 [(0, .ref h_t), (1, .int a1)] (by decide) rfl (Nat.le_of_ble_eq_true rfl) rfl (fun X hX cx => ?_)
  unfold M_X7_noBell at hm
  refine k_iload_n 0 cx dX7_noBell_0 rfl 1 rfl ?_
  refine k_i2l 1 cx dX7_noBell_1 ?_
  refine k_lconst 2 cx (v := (0 : Int64)) dX7_noBell_2 (by decide) ?_
  refine k_aload_n 3 cx dX7_noBell_3 rfl 0 rfl ?_
  refine fgX7_90 4 cx dX7_noBell_4 0 rfl rfl ?_
  refine k_i2l 7 cx dX7_noBell_7 ?_
  refine k_lconst 8 cx (v := (1 : Int64)) dX7_noBell_8 (by decide) ?_
  refine k_lsub 9 cx dX7_noBell_9 ?_
  obtain ⟨u1, hu1, hm⟩ := bnd hm
  refine k_callS 10 cx cwX7_93 (c_X7_in X.2.1 G (Int32.toInt64 a1) (0 : Int64) ((Int32.toInt64 t_bells) - (1 : Int64)) hu1) dX7_noBell_10 ⟨by decide, by decide⟩ rfl (rest := []) rfl (Nat.le_of_ble_eq_true rfl) [] (by decide) rfl rfl (w2 := (w_X7_noBell G h_t h_t_kindOf h_t_needsOf h_t_fromOf h_t_toOf h_t_longOf h_t_readKind h_t_readNeeds h_t_readFrom h_t_readTo h_t_readLong h_t_pullOf h_t_pullAt h_t_peals h_t_swings h_t_lastRang h_t_heardSince h_t_readingOf h_t_readingAt h_t_readingIs h_t_sheetSize h_t_sheetLane h_t_sheet h_t_hands t_fault t_bells t_tied t_ropes t_spanNow t_readAt t_readBells t_readRopes t_pulls t_readings t_traceNow)) [0] 1 rfl [(h_t, .inr (7, [.int t_fault, .int t_bells, .ref h_t_kindOf, .ref h_t_needsOf, .int t_tied, .int t_ropes, .ref h_t_fromOf, .ref h_t_toOf, .ref h_t_longOf, .int t_spanNow, .int t_readAt, .int t_readBells, .int t_readRopes, .ref h_t_readKind, .ref h_t_readNeeds, .ref h_t_readFrom, .ref h_t_readTo, .ref h_t_readLong, .int t_pulls, .ref h_t_pullOf, .ref h_t_pullAt, .ref h_t_peals, .ref h_t_swings, .ref h_t_lastRang, .ref h_t_heardSince, .int t_readings, .ref h_t_readingOf, .ref h_t_readingAt, .ref h_t_readingIs, .ref h_t_sheetSize, .ref h_t_sheetLane, .ref h_t_sheet, .ref h_t_hands, .int t_traceNow]))] rfl rfl rfl (by decide) (st2 := [.int u1]) rfl ?_
  refine k_if_ne 13 cx (tgt := 20) dX7_noBell_13 (by decide) hm (fun hc hm => ?_) (fun hc hm => ?_)
  · refine k_iconst 16 cx (v := (1 : Int32)) dX7_noBell_16 (by decide) ?_
    refine k_goto 17 cx (tgt := 21) dX7_noBell_17 (by decide) ?_
    obtain rfl := Option.some.inj hm
    exact k_zret 21 cx dX7_noBell_21 (by decide) rfl rfl
  · refine k_iconst 20 cx (v := (0 : Int32)) dX7_noBell_20 (by decide) ?_
    obtain rfl := Option.some.inj hm
    exact k_zret 21 cx dX7_noBell_21 (by decide) rfl rfl
def w_X7_all (G : GT) (h_t : Nat) (h_t_kindOf : Nat) (h_t_needsOf : Nat) (h_t_fromOf : Nat) (h_t_toOf : Nat) (h_t_longOf : Nat) (h_t_readKind : Nat) (h_t_readNeeds : Nat) (h_t_readFrom : Nat) (h_t_readTo : Nat) (h_t_readLong : Nat) (h_t_pullOf : Nat) (h_t_pullAt : Nat) (h_t_peals : Nat) (h_t_swings : Nat) (h_t_lastRang : Nat) (h_t_heardSince : Nat) (h_t_readingOf : Nat) (h_t_readingAt : Nat) (h_t_readingIs : Nat) (h_t_sheetSize : Nat) (h_t_sheetLane : Nat) (h_t_sheet : Nat) (h_t_hands : Nat) (t_fault : Int32) (t_bells : Int32) (t_tied : Int32) (t_ropes : Int32) (t_spanNow : Int32) (t_readAt : Int32) (t_readBells : Int32) (t_readRopes : Int32) (t_pulls : Int32) (t_readings : Int32) (t_traceNow : Int32) : va_W := [(h_t, .inr (7, [.int t_fault, .int t_bells, .ref h_t_kindOf, .ref h_t_needsOf, .int t_tied, .int t_ropes, .ref h_t_fromOf, .ref h_t_toOf, .ref h_t_longOf, .int t_spanNow, .int t_readAt, .int t_readBells, .int t_readRopes, .ref h_t_readKind, .ref h_t_readNeeds, .ref h_t_readFrom, .ref h_t_readTo, .ref h_t_readLong, .int t_pulls, .ref h_t_pullOf, .ref h_t_pullAt, .ref h_t_peals, .ref h_t_swings, .ref h_t_lastRang, .ref h_t_heardSince, .int t_readings, .ref h_t_readingOf, .ref h_t_readingAt, .ref h_t_readingIs, .ref h_t_sheetSize, .ref h_t_sheetLane, .ref h_t_sheet, .ref h_t_hands, .int t_traceNow]))]
def M_X7_all (t_bells : Int32) : Option (Int32) := (some (((1 : Int32) <<< (t_bells &&& 31)) - (1 : Int32)))
set_option maxHeartbeats 4000000 in
set_option maxRecDepth 100000 in
theorem c_X7_all (l : Launch) (G : GT) (h_t : Nat) (h_t_kindOf : Nat) (h_t_needsOf : Nat) (h_t_fromOf : Nat) (h_t_toOf : Nat) (h_t_longOf : Nat) (h_t_readKind : Nat) (h_t_readNeeds : Nat) (h_t_readFrom : Nat) (h_t_readTo : Nat) (h_t_readLong : Nat) (h_t_pullOf : Nat) (h_t_pullAt : Nat) (h_t_peals : Nat) (h_t_swings : Nat) (h_t_lastRang : Nat) (h_t_heardSince : Nat) (h_t_readingOf : Nat) (h_t_readingAt : Nat) (h_t_readingIs : Nat) (h_t_sheetSize : Nat) (h_t_sheetLane : Nat) (h_t_sheet : Nat) (h_t_hands : Nat) (t_fault : Int32) (t_bells : Int32) (t_tied : Int32) (t_ropes : Int32) (t_spanNow : Int32) (t_readAt : Int32) (t_readBells : Int32) (t_readRopes : Int32) (t_pulls : Int32) (t_readings : Int32) (t_traceNow : Int32) {u : Int32} (hm : M_X7_all t_bells = some u) : CT l yX7_all cX7_all 1 (some .int) 0 0 [.ref h_t] G (w_X7_all G h_t h_t_kindOf h_t_needsOf h_t_fromOf h_t_toOf h_t_longOf h_t_readKind h_t_readNeeds h_t_readFrom h_t_readTo h_t_readLong h_t_pullOf h_t_pullAt h_t_peals h_t_swings h_t_lastRang h_t_heardSince h_t_readingOf h_t_readingAt h_t_readingIs h_t_sheetSize h_t_sheetLane h_t_sheet h_t_hands t_fault t_bells t_tied t_ropes t_spanNow t_readAt t_readBells t_readRopes t_pulls t_readings t_traceNow) (some (.int u)) (w_X7_all G h_t h_t_kindOf h_t_needsOf h_t_fromOf h_t_toOf h_t_longOf h_t_readKind h_t_readNeeds h_t_readFrom h_t_readTo h_t_readLong h_t_pullOf h_t_pullAt h_t_peals h_t_swings h_t_lastRang h_t_heardSince h_t_readingOf h_t_readingAt h_t_readingIs h_t_sheetSize h_t_sheetLane h_t_sheet h_t_hands t_fault t_bells t_tied t_ropes t_spanNow t_readAt t_readBells t_readRopes t_pulls t_readings t_traceNow) := by
  refine ct_intro RX7 [(0, .ref h_t)] (by decide) rfl (Nat.le_of_ble_eq_true rfl) rfl (fun X hX cx => ?_)
  unfold M_X7_all at hm
  refine k_iconst 0 cx (v := (1 : Int32)) dX7_all_0 (by decide) ?_
  refine k_aload_n 1 cx dX7_all_1 rfl 0 rfl ?_
  refine fgX7_90 2 cx dX7_all_2 0 rfl rfl ?_
  refine k_ishl 5 cx dX7_all_5 ?_
  refine k_iconst 6 cx (v := (1 : Int32)) dX7_all_6 (by decide) ?_
  refine k_isub 7 cx dX7_all_7 ?_
  obtain rfl := Option.some.inj hm
  exact k_iret 8 cx dX7_all_8 rfl rfl
set_option maxRecDepth 100000 in
theorem fgX7_74 {X : XT} {Q : State → Prop} {G : GT} {A : Nat → Prop} {nL : Nat} {lv : List (Nat × Value)} {st : List Value} {ws : va_W} {cc : ByteArray} {fr lo : Nat} {ret : Option FieldType} (pc : Nat) (cx : Cx X cc nL RX7 G fr lo ret) {a : Nat} {fs : List Value} {v : Value} (hd : decode cc pc = .ok (.getfield 74, 3)) (q0 : Nat) (he : ws[q0]? = some (a, .inr (7, fs))) (hv : fs[31]? = some v) (k : KJ X Q G A nL (pc + 3) lv (v :: st) ws) : KJ X Q G A nL pc lv (.ref a :: st) ws :=
  k_get (ref := RX7) (T := TX7) (N := 34) (ci := 7) pc cx inX7 rfl 31 (by decide) (tb_m (i := 680) rfl rfl) rfl hd q0 he hv k
set_option maxRecDepth 100000 in
theorem fgX7_97 {X : XT} {Q : State → Prop} {G : GT} {A : Nat → Prop} {nL : Nat} {lv : List (Nat × Value)} {st : List Value} {ws : va_W} {cc : ByteArray} {fr lo : Nat} {ret : Option FieldType} (pc : Nat) (cx : Cx X cc nL RX7 G fr lo ret) {a : Nat} {fs : List Value} {v : Value} (hd : decode cc pc = .ok (.getfield 97, 3)) (q0 : Nat) (he : ws[q0]? = some (a, .inr (7, fs))) (hv : fs[10]? = some v) (k : KJ X Q G A nL (pc + 3) lv (v :: st) ws) : KJ X Q G A nL pc lv (.ref a :: st) ws :=
  k_get (ref := RX7) (T := TX7) (N := 34) (ci := 7) pc cx inX7 rfl 10 (by decide) (tb_m (i := 659) rfl rfl) rfl hd q0 he hv k
def w_X7_codeAt (G : GT) (h_t : Nat) (h_t_sheet : Nat) (h_t_kindOf : Nat) (h_t_needsOf : Nat) (h_t_fromOf : Nat) (h_t_toOf : Nat) (h_t_longOf : Nat) (h_t_readKind : Nat) (h_t_readNeeds : Nat) (h_t_readFrom : Nat) (h_t_readTo : Nat) (h_t_readLong : Nat) (h_t_pullOf : Nat) (h_t_pullAt : Nat) (h_t_peals : Nat) (h_t_swings : Nat) (h_t_lastRang : Nat) (h_t_heardSince : Nat) (h_t_readingOf : Nat) (h_t_readingAt : Nat) (h_t_readingIs : Nat) (h_t_sheetSize : Nat) (h_t_sheetLane : Nat) (h_t_hands : Nat) (t_fault : Int32) (t_bells : Int32) (t_tied : Int32) (t_ropes : Int32) (t_spanNow : Int32) (t_readAt : Int32) (t_readBells : Int32) (t_readRopes : Int32) (t_pulls : Int32) (t_readings : Int32) (t_traceNow : Int32) (t_sheet : (Nat → Int32)) : va_W := [(h_t, .inr (7, [.int t_fault, .int t_bells, .ref h_t_kindOf, .ref h_t_needsOf, .int t_tied, .int t_ropes, .ref h_t_fromOf, .ref h_t_toOf, .ref h_t_longOf, .int t_spanNow, .int t_readAt, .int t_readBells, .int t_readRopes, .ref h_t_readKind, .ref h_t_readNeeds, .ref h_t_readFrom, .ref h_t_readTo, .ref h_t_readLong, .int t_pulls, .ref h_t_pullOf, .ref h_t_pullAt, .ref h_t_peals, .ref h_t_swings, .ref h_t_lastRang, .ref h_t_heardSince, .int t_readings, .ref h_t_readingOf, .ref h_t_readingAt, .ref h_t_readingIs, .ref h_t_sheetSize, .ref h_t_sheetLane, .ref h_t_sheet, .ref h_t_hands, .int t_traceNow])), (h_t_sheet, .inl (G.2.1, 240, .inl t_sheet))]
def M_X7_codeAt (t_readAt : Int32) (t_sheet : (Nat → Int32)) (a1 : Int32) (a2 : Int32) : Option (Int32) := (if a2 ≤ t_readAt then (some (-9 : Int32)) else (gB (inb (a1 + t_readAt) 240) (some (t_sheet (Int32.toNatClampNeg (a1 + t_readAt))))))
set_option maxHeartbeats 4000000 in
set_option maxRecDepth 100000 in
theorem c_X7_codeAt (l : Launch) (G : GT) (h_t : Nat) (h_t_sheet : Nat) (h_t_kindOf : Nat) (h_t_needsOf : Nat) (h_t_fromOf : Nat) (h_t_toOf : Nat) (h_t_longOf : Nat) (h_t_readKind : Nat) (h_t_readNeeds : Nat) (h_t_readFrom : Nat) (h_t_readTo : Nat) (h_t_readLong : Nat) (h_t_pullOf : Nat) (h_t_pullAt : Nat) (h_t_peals : Nat) (h_t_swings : Nat) (h_t_lastRang : Nat) (h_t_heardSince : Nat) (h_t_readingOf : Nat) (h_t_readingAt : Nat) (h_t_readingIs : Nat) (h_t_sheetSize : Nat) (h_t_sheetLane : Nat) (h_t_hands : Nat) (t_fault : Int32) (t_bells : Int32) (t_tied : Int32) (t_ropes : Int32) (t_spanNow : Int32) (t_readAt : Int32) (t_readBells : Int32) (t_readRopes : Int32) (t_pulls : Int32) (t_readings : Int32) (t_traceNow : Int32) (t_sheet : (Nat → Int32)) (a1 : Int32) (a2 : Int32) {u : Int32} (hm : M_X7_codeAt t_readAt t_sheet a1 a2 = some u) : CT l yX7_codeAt cX7_codeAt 3 (some .int) 0 0 [.ref h_t, .int a1, .int a2] G (w_X7_codeAt G h_t h_t_sheet h_t_kindOf h_t_needsOf h_t_fromOf h_t_toOf h_t_longOf h_t_readKind h_t_readNeeds h_t_readFrom h_t_readTo h_t_readLong h_t_pullOf h_t_pullAt h_t_peals h_t_swings h_t_lastRang h_t_heardSince h_t_readingOf h_t_readingAt h_t_readingIs h_t_sheetSize h_t_sheetLane h_t_hands t_fault t_bells t_tied t_ropes t_spanNow t_readAt t_readBells t_readRopes t_pulls t_readings t_traceNow t_sheet) (some (.int u)) (w_X7_codeAt G h_t h_t_sheet h_t_kindOf h_t_needsOf h_t_fromOf h_t_toOf h_t_longOf h_t_readKind h_t_readNeeds h_t_readFrom h_t_readTo h_t_readLong h_t_pullOf h_t_pullAt h_t_peals h_t_swings h_t_lastRang h_t_heardSince h_t_readingOf h_t_readingAt h_t_readingIs h_t_sheetSize h_t_sheetLane h_t_hands t_fault t_bells t_tied t_ropes t_spanNow t_readAt t_readBells t_readRopes t_pulls t_readings t_traceNow t_sheet) := by
  refine ct_intro RX7 [(0, .ref h_t), (1, .int a1), (2, .int a2)] (by decide) rfl (Nat.le_of_ble_eq_true rfl) rfl (fun X hX cx => ?_)
  unfold M_X7_codeAt at hm
  refine k_aload_n 0 cx dX7_codeAt_0 rfl 0 rfl ?_
  refine fgX7_97 1 cx dX7_codeAt_1 0 rfl rfl ?_
  refine k_iload_n 4 cx dX7_codeAt_4 rfl 2 rfl ?_
  refine k_icmp_ge 5 cx (tgt := 22) dX7_codeAt_5 (by decide) hm (fun hc hm => ?_) (fun hc hm => ?_)
  · refine k_bipush 22 cx (v := (-9 : Int32)) dX7_codeAt_22 (by decide) ?_
    obtain rfl := Option.some.inj hm
    exact k_iret 24 cx dX7_codeAt_24 rfl rfl
  · refine k_aload_n 8 cx dX7_codeAt_8 rfl 0 rfl ?_
    refine fgX7_74 9 cx dX7_codeAt_9 0 rfl rfl ?_
    refine k_iload_n 12 cx dX7_codeAt_12 rfl 1 rfl ?_
    refine k_aload_n 13 cx dX7_codeAt_13 rfl 0 rfl ?_
    refine fgX7_97 14 cx dX7_codeAt_14 0 rfl rfl ?_
    refine k_iadd 17 cx dX7_codeAt_17 ?_
    refine k_iald 18 cx dX7_codeAt_18 1 rfl hm (fun hm => ?_)
    refine k_goto 19 cx (tgt := 24) dX7_codeAt_19 (by decide) ?_
    obtain rfl := Option.some.inj hm
    exact k_iret 24 cx dX7_codeAt_24 rfl rfl
set_option maxRecDepth 100000 in
theorem fpX7_97 {X : XT} {Q : State → Prop} {G : GT} {A : Nat → Prop} {nL : Nat} {lv : List (Nat × Value)} {st : List Value} {ws : va_W} {cc : ByteArray} {fr lo : Nat} {ret : Option FieldType} (pc : Nat) (cx : Cx X cc nL RX7 G fr lo ret) {a : Nat} {fs : List Value} {v : Value} (hd : decode cc pc = .ok (.putfield 97, 3)) (q0 : Nat) (he : ws[q0]? = some (a, .inr (7, fs))) (hn : narrow .int v = v) (hfit : fits .int v = true) (hlen : 10 < fs.length) (w1 : va_W) (hw : ws.set q0 (a, .inr (7, fs.set 10 v)) = w1) (k : KJ X Q G A nL (pc + 3) lv st w1) : KJ X Q G A nL pc lv (v :: .ref a :: st) ws :=
  k_put (ref := RX7) (T := TX7) (N := 34) (ci := 7) (ty := .int) pc cx inX7 rfl tyX7 tyX7_ok nmX7 10 (by decide) (tb_m (i := 659) rfl rfl) rfl rfl (by decide +kernel) hd q0 he hn hfit hlen w1 hw k
set_option maxRecDepth 100000 in
theorem cwX7_100 : CWV RX7 100 RX7 yX7_codeAt cX7_codeAt 3 (some .int) 2 7 TX7 34 := ⟨tb_m (i := 783) rfl rfl, tb_m (i := 785) rfl rfl, tb_m (i := 32) rfl rfl, tb_m (i := 58) rfl rfl, tb_m (i := 786) rfl rfl, ⟨by decide +kernel, by decide +kernel, by decide +kernel⟩, rfl⟩
def w_X7_figure (G : GT) (h_t : Nat) (h_t_sheet : Nat) (h_t_kindOf : Nat) (h_t_needsOf : Nat) (h_t_fromOf : Nat) (h_t_toOf : Nat) (h_t_longOf : Nat) (h_t_readKind : Nat) (h_t_readNeeds : Nat) (h_t_readFrom : Nat) (h_t_readTo : Nat) (h_t_readLong : Nat) (h_t_pullOf : Nat) (h_t_pullAt : Nat) (h_t_peals : Nat) (h_t_swings : Nat) (h_t_lastRang : Nat) (h_t_heardSince : Nat) (h_t_readingOf : Nat) (h_t_readingAt : Nat) (h_t_readingIs : Nat) (h_t_sheetSize : Nat) (h_t_sheetLane : Nat) (h_t_hands : Nat) (t_fault : Int32) (t_bells : Int32) (t_tied : Int32) (t_ropes : Int32) (t_spanNow : Int32) (t_readAt : Int32) (t_readBells : Int32) (t_readRopes : Int32) (t_pulls : Int32) (t_readings : Int32) (t_traceNow : Int32) (t_sheet : (Nat → Int32)) : va_W := [(h_t, .inr (7, [.int t_fault, .int t_bells, .ref h_t_kindOf, .ref h_t_needsOf, .int t_tied, .int t_ropes, .ref h_t_fromOf, .ref h_t_toOf, .ref h_t_longOf, .int t_spanNow, .int t_readAt, .int t_readBells, .int t_readRopes, .ref h_t_readKind, .ref h_t_readNeeds, .ref h_t_readFrom, .ref h_t_readTo, .ref h_t_readLong, .int t_pulls, .ref h_t_pullOf, .ref h_t_pullAt, .ref h_t_peals, .ref h_t_swings, .ref h_t_lastRang, .ref h_t_heardSince, .int t_readings, .ref h_t_readingOf, .ref h_t_readingAt, .ref h_t_readingIs, .ref h_t_sheetSize, .ref h_t_sheetLane, .ref h_t_sheet, .ref h_t_hands, .int t_traceNow])), (h_t_sheet, .inl (G.2.1, 240, .inl t_sheet))]
def M_X7_figure (t_readAt : Int32) (t_sheet : (Nat → Int32)) (a1 : Int32) (a2 : Int32) (a3 : Int32) (a4 : Int32) : Option (Int32 × Int32) := ((M_X7_codeAt t_readAt t_sheet a1 a2).bind (fun u1 => (nme (u1 - (48 : Int32)) (fun v2 => ((M_X7_in (Int32.toInt64 v2) (Int32.toInt64 a3) (Int32.toInt64 a4)).bind (fun u3 => (if u3 = 0 then (nme (t_readAt + (0 : Int32)) (fun v4 => (if u3 = 0 then (some ((-9 : Int32), v4)) else (some (v2, v4))))) else (nme (t_readAt + (1 : Int32)) (fun v5 => (if u3 = 0 then (some ((-9 : Int32), v5)) else (some (v2, v5))))))))))))
set_option maxHeartbeats 4000000 in
set_option maxRecDepth 100000 in
theorem c_X7_figure (l : Launch) (G : GT) (h_t : Nat) (h_t_sheet : Nat) (h_t_kindOf : Nat) (h_t_needsOf : Nat) (h_t_fromOf : Nat) (h_t_toOf : Nat) (h_t_longOf : Nat) (h_t_readKind : Nat) (h_t_readNeeds : Nat) (h_t_readFrom : Nat) (h_t_readTo : Nat) (h_t_readLong : Nat) (h_t_pullOf : Nat) (h_t_pullAt : Nat) (h_t_peals : Nat) (h_t_swings : Nat) (h_t_lastRang : Nat) (h_t_heardSince : Nat) (h_t_readingOf : Nat) (h_t_readingAt : Nat) (h_t_readingIs : Nat) (h_t_sheetSize : Nat) (h_t_sheetLane : Nat) (h_t_hands : Nat) (t_fault : Int32) (t_bells : Int32) (t_tied : Int32) (t_ropes : Int32) (t_spanNow : Int32) (t_readAt : Int32) (t_readBells : Int32) (t_readRopes : Int32) (t_pulls : Int32) (t_readings : Int32) (t_traceNow : Int32) (t_sheet : (Nat → Int32)) (a1 : Int32) (a2 : Int32) (a3 : Int32) (a4 : Int32) {u : Int32 × Int32} (hm : M_X7_figure t_readAt t_sheet a1 a2 a3 a4 = some u) : CT l yX7_figure cX7_figure 7 (some .int) 1 25 [.ref h_t, .int a1, .int a2, .int a3, .int a4] G (w_X7_figure G h_t h_t_sheet h_t_kindOf h_t_needsOf h_t_fromOf h_t_toOf h_t_longOf h_t_readKind h_t_readNeeds h_t_readFrom h_t_readTo h_t_readLong h_t_pullOf h_t_pullAt h_t_peals h_t_swings h_t_lastRang h_t_heardSince h_t_readingOf h_t_readingAt h_t_readingIs h_t_sheetSize h_t_sheetLane h_t_hands t_fault t_bells t_tied t_ropes t_spanNow t_readAt t_readBells t_readRopes t_pulls t_readings t_traceNow t_sheet) (some (.int u.1)) (w_X7_figure G h_t h_t_sheet h_t_kindOf h_t_needsOf h_t_fromOf h_t_toOf h_t_longOf h_t_readKind h_t_readNeeds h_t_readFrom h_t_readTo h_t_readLong h_t_pullOf h_t_pullAt h_t_peals h_t_swings h_t_lastRang h_t_heardSince h_t_readingOf h_t_readingAt h_t_readingIs h_t_sheetSize h_t_sheetLane h_t_hands t_fault t_bells t_tied t_ropes t_spanNow u.2 t_readBells t_readRopes t_pulls t_readings t_traceNow t_sheet) := by
  refine ct_intro RX7 [(0, .ref h_t), (1, .int a1), (2, .int a2), (3, .int a3), (4, .int a4)] (by decide) rfl (Nat.le_of_ble_eq_true rfl) rfl (fun X hX cx => ?_)
  unfold M_X7_figure at hm
  refine k_aload_n 0 cx dX7_figure_0 rfl 0 rfl ?_
  refine k_iload_n 1 cx dX7_figure_1 rfl 1 rfl ?_
  refine k_iload_n 2 cx dX7_figure_2 rfl 2 rfl ?_
  obtain ⟨u1, hu1, hm⟩ := bnd hm
  refine k_callV 3 cx cwX7_100 (c_X7_codeAt X.2.1 G h_t h_t_sheet h_t_kindOf h_t_needsOf h_t_fromOf h_t_toOf h_t_longOf h_t_readKind h_t_readNeeds h_t_readFrom h_t_readTo h_t_readLong h_t_pullOf h_t_pullAt h_t_peals h_t_swings h_t_lastRang h_t_heardSince h_t_readingOf h_t_readingAt h_t_readingIs h_t_sheetSize h_t_sheetLane h_t_hands t_fault t_bells t_tied t_ropes t_spanNow t_readAt t_readBells t_readRopes t_pulls t_readings t_traceNow t_sheet a1 a2 hu1) dX7_figure_3 ⟨by decide, by decide⟩ rfl rfl (rest := []) rfl (Nat.le_of_ble_eq_true rfl) [0, 1] (by decide) rfl rfl (w2 := (w_X7_figure G h_t h_t_sheet h_t_kindOf h_t_needsOf h_t_fromOf h_t_toOf h_t_longOf h_t_readKind h_t_readNeeds h_t_readFrom h_t_readTo h_t_readLong h_t_pullOf h_t_pullAt h_t_peals h_t_swings h_t_lastRang h_t_heardSince h_t_readingOf h_t_readingAt h_t_readingIs h_t_sheetSize h_t_sheetLane h_t_hands t_fault t_bells t_tied t_ropes t_spanNow t_readAt t_readBells t_readRopes t_pulls t_readings t_traceNow t_sheet)) [] 2 rfl [] rfl rfl rfl (by decide) (st2 := [.int u1]) rfl ?_
  refine k_bipush 6 cx (v := (48 : Int32)) dX7_figure_6 (by decide) ?_
  refine k_isub 8 cx dX7_figure_8 ?_
  refine k_nm hm (fun v2 hm => ?_)
  refine k_istore 9 cx dX7_figure_9 (by decide) (lv' := [(5, .int v2), (0, .ref h_t), (1, .int a1), (2, .int a2), (3, .int a3), (4, .int a4)]) rfl ?_
  refine k_iload 11 cx dX7_figure_11 0 rfl ?_
  refine k_i2l 13 cx dX7_figure_13 ?_
  refine k_iload_n 14 cx dX7_figure_14 rfl 4 rfl ?_
  refine k_i2l 15 cx dX7_figure_15 ?_
  refine k_iload 16 cx dX7_figure_16 5 rfl ?_
  refine k_i2l 18 cx dX7_figure_18 ?_
  obtain ⟨u3, hu3, hm⟩ := bnd hm
  refine k_callS 19 cx cwX7_93 (c_X7_in X.2.1 G (Int32.toInt64 v2) (Int32.toInt64 a3) (Int32.toInt64 a4) hu3) dX7_figure_19 ⟨by decide, by decide⟩ rfl (rest := []) rfl (Nat.le_of_ble_eq_true rfl) [] (by decide) rfl rfl (w2 := (w_X7_figure G h_t h_t_sheet h_t_kindOf h_t_needsOf h_t_fromOf h_t_toOf h_t_longOf h_t_readKind h_t_readNeeds h_t_readFrom h_t_readTo h_t_readLong h_t_pullOf h_t_pullAt h_t_peals h_t_swings h_t_lastRang h_t_heardSince h_t_readingOf h_t_readingAt h_t_readingIs h_t_sheetSize h_t_sheetLane h_t_hands t_fault t_bells t_tied t_ropes t_spanNow t_readAt t_readBells t_readRopes t_pulls t_readings t_traceNow t_sheet)) [0, 1] 2 rfl [(h_t, .inr (7, [.int t_fault, .int t_bells, .ref h_t_kindOf, .ref h_t_needsOf, .int t_tied, .int t_ropes, .ref h_t_fromOf, .ref h_t_toOf, .ref h_t_longOf, .int t_spanNow, .int t_readAt, .int t_readBells, .int t_readRopes, .ref h_t_readKind, .ref h_t_readNeeds, .ref h_t_readFrom, .ref h_t_readTo, .ref h_t_readLong, .int t_pulls, .ref h_t_pullOf, .ref h_t_pullAt, .ref h_t_peals, .ref h_t_swings, .ref h_t_lastRang, .ref h_t_heardSince, .int t_readings, .ref h_t_readingOf, .ref h_t_readingAt, .ref h_t_readingIs, .ref h_t_sheetSize, .ref h_t_sheetLane, .ref h_t_sheet, .ref h_t_hands, .int t_traceNow])), (h_t_sheet, .inl (G.2.1, 240, .inl t_sheet))] rfl rfl rfl (by decide) (st2 := [.int u3]) rfl ?_
  refine k_istore 22 cx dX7_figure_22 (by decide) (lv' := [(6, .int u3), (5, .int v2), (0, .ref h_t), (1, .int a1), (2, .int a2), (3, .int a3), (4, .int a4)]) rfl ?_
  refine k_aload_n 24 cx dX7_figure_24 rfl 2 rfl ?_
  refine k_dup 25 cx dX7_figure_25 rfl ?_
  refine fgX7_97 26 cx dX7_figure_26 0 rfl rfl ?_
  refine k_iload 29 cx dX7_figure_29 0 rfl ?_
  refine k_if_eq 31 cx (tgt := 38) dX7_figure_31 (by decide) hm (fun hc hm => ?_) (fun hc hm => ?_)
  · refine k_iconst 38 cx (v := (0 : Int32)) dX7_figure_38 (by decide) ?_
    refine k_iadd 39 cx dX7_figure_39 ?_
    refine k_nm hm (fun v4 hm => ?_)
    refine fpX7_97 40 cx dX7_figure_40 0 rfl rfl rfl (by simp) (w1 := (w_X7_figure G h_t h_t_sheet h_t_kindOf h_t_needsOf h_t_fromOf h_t_toOf h_t_longOf h_t_readKind h_t_readNeeds h_t_readFrom h_t_readTo h_t_readLong h_t_pullOf h_t_pullAt h_t_peals h_t_swings h_t_lastRang h_t_heardSince h_t_readingOf h_t_readingAt h_t_readingIs h_t_sheetSize h_t_sheetLane h_t_hands t_fault t_bells t_tied t_ropes t_spanNow v4 t_readBells t_readRopes t_pulls t_readings t_traceNow t_sheet)) rfl ?_
    refine k_iload 43 cx dX7_figure_43 0 rfl ?_
    refine k_if_eq 45 cx (tgt := 53) dX7_figure_45 (by decide) hm (fun hc hm => ?_) (fun hc hm => ?_)
    · refine k_bipush 53 cx (v := (-9 : Int32)) dX7_figure_53 (by decide) ?_
      obtain rfl := Option.some.inj hm
      exact k_iret 55 cx dX7_figure_55 rfl rfl
    · refine k_iload 48 cx dX7_figure_48 1 rfl ?_
      refine k_goto 50 cx (tgt := 55) dX7_figure_50 (by decide) ?_
      obtain rfl := Option.some.inj hm
      exact k_iret 55 cx dX7_figure_55 rfl rfl
  · refine k_iconst 34 cx (v := (1 : Int32)) dX7_figure_34 (by decide) ?_
    refine k_goto 35 cx (tgt := 39) dX7_figure_35 (by decide) ?_
    refine k_iadd 39 cx dX7_figure_39 ?_
    refine k_nm hm (fun v5 hm => ?_)
    refine fpX7_97 40 cx dX7_figure_40 0 rfl rfl rfl (by simp) (w1 := (w_X7_figure G h_t h_t_sheet h_t_kindOf h_t_needsOf h_t_fromOf h_t_toOf h_t_longOf h_t_readKind h_t_readNeeds h_t_readFrom h_t_readTo h_t_readLong h_t_pullOf h_t_pullAt h_t_peals h_t_swings h_t_lastRang h_t_heardSince h_t_readingOf h_t_readingAt h_t_readingIs h_t_sheetSize h_t_sheetLane h_t_hands t_fault t_bells t_tied t_ropes t_spanNow v5 t_readBells t_readRopes t_pulls t_readings t_traceNow t_sheet)) rfl ?_
    refine k_iload 43 cx dX7_figure_43 0 rfl ?_
    refine k_if_eq 45 cx (tgt := 53) dX7_figure_45 (by decide) hm (fun hc hm => ?_) (fun hc hm => ?_)
    · refine k_bipush 53 cx (v := (-9 : Int32)) dX7_figure_53 (by decide) ?_
      obtain rfl := Option.some.inj hm
      exact k_iret 55 cx dX7_figure_55 rfl rfl
    · refine k_iload 48 cx dX7_figure_48 1 rfl ?_
      refine k_goto 50 cx (tgt := 55) dX7_figure_50 (by decide) ?_
      obtain rfl := Option.some.inj hm
      exact k_iret 55 cx dX7_figure_55 rfl rfl
set_option maxRecDepth 100000 in
theorem fgX7_25 {X : XT} {Q : State → Prop} {G : GT} {A : Nat → Prop} {nL : Nat} {lv : List (Nat × Value)} {st : List Value} {ws : va_W} {cc : ByteArray} {fr lo : Nat} {ret : Option FieldType} (pc : Nat) (cx : Cx X cc nL RX7 G fr lo ret) {a : Nat} {fs : List Value} {v : Value} (hd : decode cc pc = .ok (.getfield 25, 3)) (q0 : Nat) (he : ws[q0]? = some (a, .inr (7, fs))) (hv : fs[13]? = some v) (k : KJ X Q G A nL (pc + 3) lv (v :: st) ws) : KJ X Q G A nL pc lv (.ref a :: st) ws :=
  k_get (ref := RX7) (T := TX7) (N := 34) (ci := 7) pc cx inX7 rfl 13 (by decide) (tb_m (i := 662) rfl rfl) rfl hd q0 he hv k
set_option maxRecDepth 100000 in
theorem fgX7_28 {X : XT} {Q : State → Prop} {G : GT} {A : Nat → Prop} {nL : Nat} {lv : List (Nat × Value)} {st : List Value} {ws : va_W} {cc : ByteArray} {fr lo : Nat} {ret : Option FieldType} (pc : Nat) (cx : Cx X cc nL RX7 G fr lo ret) {a : Nat} {fs : List Value} {v : Value} (hd : decode cc pc = .ok (.getfield 28, 3)) (q0 : Nat) (he : ws[q0]? = some (a, .inr (7, fs))) (hv : fs[14]? = some v) (k : KJ X Q G A nL (pc + 3) lv (v :: st) ws) : KJ X Q G A nL pc lv (.ref a :: st) ws :=
  k_get (ref := RX7) (T := TX7) (N := 34) (ci := 7) pc cx inX7 rfl 14 (by decide) (tb_m (i := 663) rfl rfl) rfl hd q0 he hv k
set_option maxRecDepth 100000 in
theorem fgX7_104 {X : XT} {Q : State → Prop} {G : GT} {A : Nat → Prop} {nL : Nat} {lv : List (Nat × Value)} {st : List Value} {ws : va_W} {cc : ByteArray} {fr lo : Nat} {ret : Option FieldType} (pc : Nat) (cx : Cx X cc nL RX7 G fr lo ret) {a : Nat} {fs : List Value} {v : Value} (hd : decode cc pc = .ok (.getfield 104, 3)) (q0 : Nat) (he : ws[q0]? = some (a, .inr (7, fs))) (hv : fs[11]? = some v) (k : KJ X Q G A nL (pc + 3) lv (v :: st) ws) : KJ X Q G A nL pc lv (.ref a :: st) ws :=
  k_get (ref := RX7) (T := TX7) (N := 34) (ci := 7) pc cx inX7 rfl 11 (by decide) (tb_m (i := 660) rfl rfl) rfl hd q0 he hv k
set_option maxRecDepth 100000 in
theorem fpX7_104 {X : XT} {Q : State → Prop} {G : GT} {A : Nat → Prop} {nL : Nat} {lv : List (Nat × Value)} {st : List Value} {ws : va_W} {cc : ByteArray} {fr lo : Nat} {ret : Option FieldType} (pc : Nat) (cx : Cx X cc nL RX7 G fr lo ret) {a : Nat} {fs : List Value} {v : Value} (hd : decode cc pc = .ok (.putfield 104, 3)) (q0 : Nat) (he : ws[q0]? = some (a, .inr (7, fs))) (hn : narrow .int v = v) (hfit : fits .int v = true) (hlen : 11 < fs.length) (w1 : va_W) (hw : ws.set q0 (a, .inr (7, fs.set 11 v)) = w1) (k : KJ X Q G A nL (pc + 3) lv st w1) : KJ X Q G A nL pc lv (v :: .ref a :: st) ws :=
  k_put (ref := RX7) (T := TX7) (N := 34) (ci := 7) (ty := .int) pc cx inX7 rfl tyX7 tyX7_ok nmX7 11 (by decide) (tb_m (i := 660) rfl rfl) rfl rfl (by decide +kernel) hd q0 he hn hfit hlen w1 hw k
set_option maxRecDepth 100000 in
theorem cwX7_107 : CWV RX7 107 RX7 yX7_figure cX7_figure 7 (some .int) 4 7 TX7 34 := ⟨tb_m (i := 791) rfl rfl, tb_m (i := 793) rfl rfl, tb_m (i := 34) rfl rfl, tb_m (i := 58) rfl rfl, tb_m (i := 794) rfl rfl, ⟨by decide +kernel, by decide +kernel, by decide +kernel⟩, rfl⟩
def w_X7_readsBell (G : GT) (h_t : Nat) (h_t_sheet : Nat) (h_t_readKind : Nat) (h_t_readNeeds : Nat) (h_t_kindOf : Nat) (h_t_needsOf : Nat) (h_t_fromOf : Nat) (h_t_toOf : Nat) (h_t_longOf : Nat) (h_t_readFrom : Nat) (h_t_readTo : Nat) (h_t_readLong : Nat) (h_t_pullOf : Nat) (h_t_pullAt : Nat) (h_t_peals : Nat) (h_t_swings : Nat) (h_t_lastRang : Nat) (h_t_heardSince : Nat) (h_t_readingOf : Nat) (h_t_readingAt : Nat) (h_t_readingIs : Nat) (h_t_sheetSize : Nat) (h_t_sheetLane : Nat) (h_t_hands : Nat) (t_fault : Int32) (t_bells : Int32) (t_tied : Int32) (t_ropes : Int32) (t_spanNow : Int32) (t_readAt : Int32) (t_readBells : Int32) (t_readRopes : Int32) (t_pulls : Int32) (t_readings : Int32) (t_traceNow : Int32) (t_sheet : (Nat → Int32)) (t_readKind : (Nat → Int32)) (t_readNeeds : (Nat → Int32)) : va_W := [(h_t, .inr (7, [.int t_fault, .int t_bells, .ref h_t_kindOf, .ref h_t_needsOf, .int t_tied, .int t_ropes, .ref h_t_fromOf, .ref h_t_toOf, .ref h_t_longOf, .int t_spanNow, .int t_readAt, .int t_readBells, .int t_readRopes, .ref h_t_readKind, .ref h_t_readNeeds, .ref h_t_readFrom, .ref h_t_readTo, .ref h_t_readLong, .int t_pulls, .ref h_t_pullOf, .ref h_t_pullAt, .ref h_t_peals, .ref h_t_swings, .ref h_t_lastRang, .ref h_t_heardSince, .int t_readings, .ref h_t_readingOf, .ref h_t_readingAt, .ref h_t_readingIs, .ref h_t_sheetSize, .ref h_t_sheetLane, .ref h_t_sheet, .ref h_t_hands, .int t_traceNow])), (h_t_sheet, .inl (G.2.1, 240, .inl t_sheet)), (h_t_readKind, .inl (G.2.1, 6, .inl t_readKind)), (h_t_readNeeds, .inl (G.2.1, 6, .inl t_readNeeds))]
def M_X7_readsBell (t_readAt : Int32) (t_readBells : Int32) (t_sheet : (Nat → Int32)) (t_readKind : (Nat → Int32)) (t_readNeeds : (Nat → Int32)) (a1 : Int32) (a2 : Int32) : Option (Int32 × Int32 × Int32 × (Nat → Int32) × (Nat → Int32)) := ((M_X7_codeAt t_readAt t_sheet a1 a2).bind (fun u1 => (if t_readBells = (6 : Int32) then (some ((0 : Int32), t_readAt, t_readBells, t_readKind, t_readNeeds)) else (if u1 = (98 : Int32) then (nme (t_readAt + (1 : Int32)) (fun v2 => ((M_X7_figure v2 t_sheet a1 a2 (1 : Int32) (3 : Int32)).bind (fun u3 => (if 0 ≤ u3.1 then (if u1 = (98 : Int32) then (gB (inb t_readBells 6) (nme (upd t_readKind (Int32.toNatClampNeg t_readBells) (0 : Int32)) (fun f10 => (gB (inb t_readBells 6) (nme (upd t_readNeeds (Int32.toNatClampNeg t_readBells) u3.1) (fun f11 => (nme (t_readBells + (1 : Int32)) (fun v12 => (some ((1 : Int32), u3.2, v12, f10, f11)))))))))) else (if u1 = (103 : Int32) then (gB (inb t_readBells 6) (nme (upd t_readKind (Int32.toNatClampNeg t_readBells) (1 : Int32)) (fun f7 => (gB (inb t_readBells 6) (nme (upd t_readNeeds (Int32.toNatClampNeg t_readBells) u3.1) (fun f8 => (nme (t_readBells + (1 : Int32)) (fun v9 => (some ((1 : Int32), u3.2, v9, f7, f8)))))))))) else (gB (inb t_readBells 6) (nme (upd t_readKind (Int32.toNatClampNeg t_readBells) (2 : Int32)) (fun f4 => (gB (inb t_readBells 6) (nme (upd t_readNeeds (Int32.toNatClampNeg t_readBells) u3.1) (fun f5 => (nme (t_readBells + (1 : Int32)) (fun v6 => (some ((1 : Int32), u3.2, v6, f4, f5)))))))))))) else (some ((0 : Int32), u3.2, t_readBells, t_readKind, t_readNeeds))))))) else (if u1 = (103 : Int32) then (nme (t_readAt + (1 : Int32)) (fun v13 => ((M_X7_figure v13 t_sheet a1 a2 (1 : Int32) (3 : Int32)).bind (fun u14 => (if 0 ≤ u14.1 then (if u1 = (98 : Int32) then (gB (inb t_readBells 6) (nme (upd t_readKind (Int32.toNatClampNeg t_readBells) (0 : Int32)) (fun f21 => (gB (inb t_readBells 6) (nme (upd t_readNeeds (Int32.toNatClampNeg t_readBells) u14.1) (fun f22 => (nme (t_readBells + (1 : Int32)) (fun v23 => (some ((1 : Int32), u14.2, v23, f21, f22)))))))))) else (if u1 = (103 : Int32) then (gB (inb t_readBells 6) (nme (upd t_readKind (Int32.toNatClampNeg t_readBells) (1 : Int32)) (fun f18 => (gB (inb t_readBells 6) (nme (upd t_readNeeds (Int32.toNatClampNeg t_readBells) u14.1) (fun f19 => (nme (t_readBells + (1 : Int32)) (fun v20 => (some ((1 : Int32), u14.2, v20, f18, f19)))))))))) else (gB (inb t_readBells 6) (nme (upd t_readKind (Int32.toNatClampNeg t_readBells) (2 : Int32)) (fun f15 => (gB (inb t_readBells 6) (nme (upd t_readNeeds (Int32.toNatClampNeg t_readBells) u14.1) (fun f16 => (nme (t_readBells + (1 : Int32)) (fun v17 => (some ((1 : Int32), u14.2, v17, f15, f16)))))))))))) else (some ((0 : Int32), u14.2, t_readBells, t_readKind, t_readNeeds))))))) else (if u1 = (100 : Int32) then (nme (t_readAt + (1 : Int32)) (fun v24 => ((M_X7_figure v24 t_sheet a1 a2 (1 : Int32) (3 : Int32)).bind (fun u25 => (if 0 ≤ u25.1 then (if u1 = (98 : Int32) then (gB (inb t_readBells 6) (nme (upd t_readKind (Int32.toNatClampNeg t_readBells) (0 : Int32)) (fun f32 => (gB (inb t_readBells 6) (nme (upd t_readNeeds (Int32.toNatClampNeg t_readBells) u25.1) (fun f33 => (nme (t_readBells + (1 : Int32)) (fun v34 => (some ((1 : Int32), u25.2, v34, f32, f33)))))))))) else (if u1 = (103 : Int32) then (gB (inb t_readBells 6) (nme (upd t_readKind (Int32.toNatClampNeg t_readBells) (1 : Int32)) (fun f29 => (gB (inb t_readBells 6) (nme (upd t_readNeeds (Int32.toNatClampNeg t_readBells) u25.1) (fun f30 => (nme (t_readBells + (1 : Int32)) (fun v31 => (some ((1 : Int32), u25.2, v31, f29, f30)))))))))) else (gB (inb t_readBells 6) (nme (upd t_readKind (Int32.toNatClampNeg t_readBells) (2 : Int32)) (fun f26 => (gB (inb t_readBells 6) (nme (upd t_readNeeds (Int32.toNatClampNeg t_readBells) u25.1) (fun f27 => (nme (t_readBells + (1 : Int32)) (fun v28 => (some ((1 : Int32), u25.2, v28, f26, f27)))))))))))) else (some ((0 : Int32), u25.2, t_readBells, t_readKind, t_readNeeds))))))) else (some ((0 : Int32), t_readAt, t_readBells, t_readKind, t_readNeeds))))))))
set_option maxHeartbeats 4000000 in
set_option maxRecDepth 100000 in
theorem c_X7_readsBell (l : Launch) (G : GT) (h_t : Nat) (h_t_sheet : Nat) (h_t_readKind : Nat) (h_t_readNeeds : Nat) (h_t_kindOf : Nat) (h_t_needsOf : Nat) (h_t_fromOf : Nat) (h_t_toOf : Nat) (h_t_longOf : Nat) (h_t_readFrom : Nat) (h_t_readTo : Nat) (h_t_readLong : Nat) (h_t_pullOf : Nat) (h_t_pullAt : Nat) (h_t_peals : Nat) (h_t_swings : Nat) (h_t_lastRang : Nat) (h_t_heardSince : Nat) (h_t_readingOf : Nat) (h_t_readingAt : Nat) (h_t_readingIs : Nat) (h_t_sheetSize : Nat) (h_t_sheetLane : Nat) (h_t_hands : Nat) (t_fault : Int32) (t_bells : Int32) (t_tied : Int32) (t_ropes : Int32) (t_spanNow : Int32) (t_readAt : Int32) (t_readBells : Int32) (t_readRopes : Int32) (t_pulls : Int32) (t_readings : Int32) (t_traceNow : Int32) (t_sheet : (Nat → Int32)) (t_readKind : (Nat → Int32)) (t_readNeeds : (Nat → Int32)) (a1 : Int32) (a2 : Int32) {u : Int32 × Int32 × Int32 × (Nat → Int32) × (Nat → Int32)} (hm : M_X7_readsBell t_readAt t_readBells t_sheet t_readKind t_readNeeds a1 a2 = some u) : CT l yX7_readsBell cX7_readsBell 5 (some .boolean) 2 51 [.ref h_t, .int a1, .int a2] G (w_X7_readsBell G h_t h_t_sheet h_t_readKind h_t_readNeeds h_t_kindOf h_t_needsOf h_t_fromOf h_t_toOf h_t_longOf h_t_readFrom h_t_readTo h_t_readLong h_t_pullOf h_t_pullAt h_t_peals h_t_swings h_t_lastRang h_t_heardSince h_t_readingOf h_t_readingAt h_t_readingIs h_t_sheetSize h_t_sheetLane h_t_hands t_fault t_bells t_tied t_ropes t_spanNow t_readAt t_readBells t_readRopes t_pulls t_readings t_traceNow t_sheet t_readKind t_readNeeds) (some (.int u.1)) (w_X7_readsBell G h_t h_t_sheet h_t_readKind h_t_readNeeds h_t_kindOf h_t_needsOf h_t_fromOf h_t_toOf h_t_longOf h_t_readFrom h_t_readTo h_t_readLong h_t_pullOf h_t_pullAt h_t_peals h_t_swings h_t_lastRang h_t_heardSince h_t_readingOf h_t_readingAt h_t_readingIs h_t_sheetSize h_t_sheetLane h_t_hands t_fault t_bells t_tied t_ropes t_spanNow u.2.1 u.2.2.1 t_readRopes t_pulls t_readings t_traceNow t_sheet u.2.2.2.1 u.2.2.2.2) := by
  refine ct_intro RX7 [(0, .ref h_t), (1, .int a1), (2, .int a2)] (by decide) rfl (Nat.le_of_ble_eq_true rfl) rfl (fun X hX cx => ?_)
  unfold M_X7_readsBell at hm
  refine k_aload_n 0 cx dX7_readsBell_0 rfl 0 rfl ?_
  refine k_iload_n 1 cx dX7_readsBell_1 rfl 1 rfl ?_
  refine k_iload_n 2 cx dX7_readsBell_2 rfl 2 rfl ?_
  obtain ⟨u1, hu1, hm⟩ := bnd hm
  refine k_callV 3 cx cwX7_100 (c_X7_codeAt X.2.1 G h_t h_t_sheet h_t_kindOf h_t_needsOf h_t_fromOf h_t_toOf h_t_longOf h_t_readKind h_t_readNeeds h_t_readFrom h_t_readTo h_t_readLong h_t_pullOf h_t_pullAt h_t_peals h_t_swings h_t_lastRang h_t_heardSince h_t_readingOf h_t_readingAt h_t_readingIs h_t_sheetSize h_t_sheetLane h_t_hands t_fault t_bells t_tied t_ropes t_spanNow t_readAt t_readBells t_readRopes t_pulls t_readings t_traceNow t_sheet a1 a2 hu1) dX7_readsBell_3 ⟨by decide, by decide⟩ rfl rfl (rest := []) rfl (Nat.le_of_ble_eq_true rfl) [0, 1] (by decide) rfl rfl (w2 := (w_X7_readsBell G h_t h_t_sheet h_t_readKind h_t_readNeeds h_t_kindOf h_t_needsOf h_t_fromOf h_t_toOf h_t_longOf h_t_readFrom h_t_readTo h_t_readLong h_t_pullOf h_t_pullAt h_t_peals h_t_swings h_t_lastRang h_t_heardSince h_t_readingOf h_t_readingAt h_t_readingIs h_t_sheetSize h_t_sheetLane h_t_hands t_fault t_bells t_tied t_ropes t_spanNow t_readAt t_readBells t_readRopes t_pulls t_readings t_traceNow t_sheet t_readKind t_readNeeds)) [2, 3] 4 rfl [(h_t_readKind, .inl (G.2.1, 6, .inl t_readKind)), (h_t_readNeeds, .inl (G.2.1, 6, .inl t_readNeeds))] rfl rfl rfl (by decide) (st2 := [.int u1]) rfl ?_
  refine k_istore_n 6 cx dX7_readsBell_6 rfl (by decide) (lv' := [(3, .int u1), (0, .ref h_t), (1, .int a1), (2, .int a2)]) rfl ?_
  refine k_aload_n 7 cx dX7_readsBell_7 rfl 1 rfl ?_
  refine fgX7_104 8 cx dX7_readsBell_8 0 rfl rfl ?_
  refine k_bipush 11 cx (v := (6 : Int32)) dX7_readsBell_11 (by decide) ?_
  refine k_icmp_eq 13 cx (tgt := 34) dX7_readsBell_13 (by decide) hm (fun hc hm => ?_) (fun hc hm => ?_)
  · refine k_iconst 34 cx (v := (0 : Int32)) dX7_readsBell_34 (by decide) ?_
    obtain rfl := Option.some.inj hm
    exact k_zret 35 cx dX7_readsBell_35 (by decide) rfl rfl
  · refine k_iload_n 16 cx dX7_readsBell_16 rfl 0 rfl ?_
    refine k_bipush 17 cx (v := (98 : Int32)) dX7_readsBell_17 (by decide) ?_
    refine k_icmp_eq 19 cx (tgt := 36) dX7_readsBell_19 (by decide) hm (fun hc hm => ?_) (fun hc hm => ?_)
    · refine k_aload_n 36 cx dX7_readsBell_36 rfl 1 rfl ?_
      refine k_dup 37 cx dX7_readsBell_37 rfl ?_
      refine fgX7_97 38 cx dX7_readsBell_38 0 rfl rfl ?_
      refine k_iconst 41 cx (v := (1 : Int32)) dX7_readsBell_41 (by decide) ?_
      refine k_iadd 42 cx dX7_readsBell_42 ?_
      refine k_nm hm (fun v2 hm => ?_)
      refine fpX7_97 43 cx dX7_readsBell_43 0 rfl rfl rfl (by simp) (w1 := (w_X7_readsBell G h_t h_t_sheet h_t_readKind h_t_readNeeds h_t_kindOf h_t_needsOf h_t_fromOf h_t_toOf h_t_longOf h_t_readFrom h_t_readTo h_t_readLong h_t_pullOf h_t_pullAt h_t_peals h_t_swings h_t_lastRang h_t_heardSince h_t_readingOf h_t_readingAt h_t_readingIs h_t_sheetSize h_t_sheetLane h_t_hands t_fault t_bells t_tied t_ropes t_spanNow v2 t_readBells t_readRopes t_pulls t_readings t_traceNow t_sheet t_readKind t_readNeeds)) rfl ?_
      refine k_aload_n 46 cx dX7_readsBell_46 rfl 1 rfl ?_
      refine k_iload_n 47 cx dX7_readsBell_47 rfl 2 rfl ?_
      refine k_iload_n 48 cx dX7_readsBell_48 rfl 3 rfl ?_
      refine k_iconst 49 cx (v := (1 : Int32)) dX7_readsBell_49 (by decide) ?_
      refine k_iconst 50 cx (v := (3 : Int32)) dX7_readsBell_50 (by decide) ?_
      obtain ⟨u3, hu3, hm⟩ := bnd hm
      refine k_callV 51 cx cwX7_107 (c_X7_figure X.2.1 G h_t h_t_sheet h_t_kindOf h_t_needsOf h_t_fromOf h_t_toOf h_t_longOf h_t_readKind h_t_readNeeds h_t_readFrom h_t_readTo h_t_readLong h_t_pullOf h_t_pullAt h_t_peals h_t_swings h_t_lastRang h_t_heardSince h_t_readingOf h_t_readingAt h_t_readingIs h_t_sheetSize h_t_sheetLane h_t_hands t_fault t_bells t_tied t_ropes t_spanNow v2 t_readBells t_readRopes t_pulls t_readings t_traceNow t_sheet a1 a2 (1 : Int32) (3 : Int32) hu3) dX7_readsBell_51 ⟨by decide, by decide⟩ rfl rfl (rest := []) rfl (Nat.le_of_ble_eq_true rfl) [0, 1] (by decide) rfl rfl (w2 := (w_X7_readsBell G h_t h_t_sheet h_t_readKind h_t_readNeeds h_t_kindOf h_t_needsOf h_t_fromOf h_t_toOf h_t_longOf h_t_readFrom h_t_readTo h_t_readLong h_t_pullOf h_t_pullAt h_t_peals h_t_swings h_t_lastRang h_t_heardSince h_t_readingOf h_t_readingAt h_t_readingIs h_t_sheetSize h_t_sheetLane h_t_hands t_fault t_bells t_tied t_ropes t_spanNow u3.2 t_readBells t_readRopes t_pulls t_readings t_traceNow t_sheet t_readKind t_readNeeds)) [2, 3] 4 rfl [(h_t_readKind, .inl (G.2.1, 6, .inl t_readKind)), (h_t_readNeeds, .inl (G.2.1, 6, .inl t_readNeeds))] rfl rfl rfl (by decide) (st2 := [.int u3.1]) rfl ?_
      refine k_istore 54 cx dX7_readsBell_54 (by decide) (lv' := [(4, .int u3.1), (3, .int u1), (0, .ref h_t), (1, .int a1), (2, .int a2)]) rfl ?_
      refine k_iload 56 cx dX7_readsBell_56 0 rfl ?_
      refine k_if_ge 58 cx (tgt := 63) dX7_readsBell_58 (by decide) hm (fun hc hm => ?_) (fun hc hm => ?_)
      · refine k_aload_n 63 cx dX7_readsBell_63 rfl 2 rfl ?_
        refine fgX7_25 64 cx dX7_readsBell_64 0 rfl rfl ?_
        refine k_aload_n 67 cx dX7_readsBell_67 rfl 2 rfl ?_
        refine fgX7_104 68 cx dX7_readsBell_68 0 rfl rfl ?_
        refine k_iload_n 71 cx dX7_readsBell_71 rfl 1 rfl ?_
        refine k_bipush 72 cx (v := (98 : Int32)) dX7_readsBell_72 (by decide) ?_
        refine k_icmp_ne 74 cx (tgt := 81) dX7_readsBell_74 (by decide) hm (fun hc hm => ?_) (fun hc hm => ?_)
        · refine k_iconst 77 cx (v := (0 : Int32)) dX7_readsBell_77 (by decide) ?_
          refine k_goto 78 cx (tgt := 92) dX7_readsBell_78 (by decide) ?_
          refine k_iast 92 cx dX7_readsBell_92 2 rfl (fun f10 => (w_X7_readsBell G h_t h_t_sheet h_t_readKind h_t_readNeeds h_t_kindOf h_t_needsOf h_t_fromOf h_t_toOf h_t_longOf h_t_readFrom h_t_readTo h_t_readLong h_t_pullOf h_t_pullAt h_t_peals h_t_swings h_t_lastRang h_t_heardSince h_t_readingOf h_t_readingAt h_t_readingIs h_t_sheetSize h_t_sheetLane h_t_hands t_fault t_bells t_tied t_ropes t_spanNow u3.2 t_readBells t_readRopes t_pulls t_readings t_traceNow t_sheet f10 t_readNeeds)) (fun _ => rfl) hm (fun f10 hm => ?_)
          refine k_aload_n 93 cx dX7_readsBell_93 rfl 2 rfl ?_
          refine fgX7_28 94 cx dX7_readsBell_94 0 rfl rfl ?_
          refine k_aload_n 97 cx dX7_readsBell_97 rfl 2 rfl ?_
          refine fgX7_104 98 cx dX7_readsBell_98 0 rfl rfl ?_
          refine k_iload 101 cx dX7_readsBell_101 0 rfl ?_
          refine k_iast 103 cx dX7_readsBell_103 3 rfl (fun f11 => (w_X7_readsBell G h_t h_t_sheet h_t_readKind h_t_readNeeds h_t_kindOf h_t_needsOf h_t_fromOf h_t_toOf h_t_longOf h_t_readFrom h_t_readTo h_t_readLong h_t_pullOf h_t_pullAt h_t_peals h_t_swings h_t_lastRang h_t_heardSince h_t_readingOf h_t_readingAt h_t_readingIs h_t_sheetSize h_t_sheetLane h_t_hands t_fault t_bells t_tied t_ropes t_spanNow u3.2 t_readBells t_readRopes t_pulls t_readings t_traceNow t_sheet f10 f11)) (fun _ => rfl) hm (fun f11 hm => ?_)
          refine k_aload_n 104 cx dX7_readsBell_104 rfl 2 rfl ?_
          refine k_dup 105 cx dX7_readsBell_105 rfl ?_
          refine fgX7_104 106 cx dX7_readsBell_106 0 rfl rfl ?_
          refine k_iconst 109 cx (v := (1 : Int32)) dX7_readsBell_109 (by decide) ?_
          refine k_iadd 110 cx dX7_readsBell_110 ?_
          refine k_nm hm (fun v12 hm => ?_)
          refine fpX7_104 111 cx dX7_readsBell_111 0 rfl rfl rfl (by simp) (w1 := (w_X7_readsBell G h_t h_t_sheet h_t_readKind h_t_readNeeds h_t_kindOf h_t_needsOf h_t_fromOf h_t_toOf h_t_longOf h_t_readFrom h_t_readTo h_t_readLong h_t_pullOf h_t_pullAt h_t_peals h_t_swings h_t_lastRang h_t_heardSince h_t_readingOf h_t_readingAt h_t_readingIs h_t_sheetSize h_t_sheetLane h_t_hands t_fault t_bells t_tied t_ropes t_spanNow u3.2 v12 t_readRopes t_pulls t_readings t_traceNow t_sheet f10 f11)) rfl ?_
          refine k_iconst 114 cx (v := (1 : Int32)) dX7_readsBell_114 (by decide) ?_
          obtain rfl := Option.some.inj hm
          exact k_zret 115 cx dX7_readsBell_115 (by decide) rfl rfl
        · refine k_iload_n 81 cx dX7_readsBell_81 rfl 1 rfl ?_
          refine k_bipush 82 cx (v := (103 : Int32)) dX7_readsBell_82 (by decide) ?_
          refine k_icmp_ne 84 cx (tgt := 91) dX7_readsBell_84 (by decide) hm (fun hc hm => ?_) (fun hc hm => ?_)
          · refine k_iconst 87 cx (v := (1 : Int32)) dX7_readsBell_87 (by decide) ?_
            refine k_goto 88 cx (tgt := 92) dX7_readsBell_88 (by decide) ?_
            refine k_iast 92 cx dX7_readsBell_92 2 rfl (fun f7 => (w_X7_readsBell G h_t h_t_sheet h_t_readKind h_t_readNeeds h_t_kindOf h_t_needsOf h_t_fromOf h_t_toOf h_t_longOf h_t_readFrom h_t_readTo h_t_readLong h_t_pullOf h_t_pullAt h_t_peals h_t_swings h_t_lastRang h_t_heardSince h_t_readingOf h_t_readingAt h_t_readingIs h_t_sheetSize h_t_sheetLane h_t_hands t_fault t_bells t_tied t_ropes t_spanNow u3.2 t_readBells t_readRopes t_pulls t_readings t_traceNow t_sheet f7 t_readNeeds)) (fun _ => rfl) hm (fun f7 hm => ?_)
            refine k_aload_n 93 cx dX7_readsBell_93 rfl 2 rfl ?_
            refine fgX7_28 94 cx dX7_readsBell_94 0 rfl rfl ?_
            refine k_aload_n 97 cx dX7_readsBell_97 rfl 2 rfl ?_
            refine fgX7_104 98 cx dX7_readsBell_98 0 rfl rfl ?_
            refine k_iload 101 cx dX7_readsBell_101 0 rfl ?_
            refine k_iast 103 cx dX7_readsBell_103 3 rfl (fun f8 => (w_X7_readsBell G h_t h_t_sheet h_t_readKind h_t_readNeeds h_t_kindOf h_t_needsOf h_t_fromOf h_t_toOf h_t_longOf h_t_readFrom h_t_readTo h_t_readLong h_t_pullOf h_t_pullAt h_t_peals h_t_swings h_t_lastRang h_t_heardSince h_t_readingOf h_t_readingAt h_t_readingIs h_t_sheetSize h_t_sheetLane h_t_hands t_fault t_bells t_tied t_ropes t_spanNow u3.2 t_readBells t_readRopes t_pulls t_readings t_traceNow t_sheet f7 f8)) (fun _ => rfl) hm (fun f8 hm => ?_)
            refine k_aload_n 104 cx dX7_readsBell_104 rfl 2 rfl ?_
            refine k_dup 105 cx dX7_readsBell_105 rfl ?_
            refine fgX7_104 106 cx dX7_readsBell_106 0 rfl rfl ?_
            refine k_iconst 109 cx (v := (1 : Int32)) dX7_readsBell_109 (by decide) ?_
            refine k_iadd 110 cx dX7_readsBell_110 ?_
            refine k_nm hm (fun v9 hm => ?_)
            refine fpX7_104 111 cx dX7_readsBell_111 0 rfl rfl rfl (by simp) (w1 := (w_X7_readsBell G h_t h_t_sheet h_t_readKind h_t_readNeeds h_t_kindOf h_t_needsOf h_t_fromOf h_t_toOf h_t_longOf h_t_readFrom h_t_readTo h_t_readLong h_t_pullOf h_t_pullAt h_t_peals h_t_swings h_t_lastRang h_t_heardSince h_t_readingOf h_t_readingAt h_t_readingIs h_t_sheetSize h_t_sheetLane h_t_hands t_fault t_bells t_tied t_ropes t_spanNow u3.2 v9 t_readRopes t_pulls t_readings t_traceNow t_sheet f7 f8)) rfl ?_
            refine k_iconst 114 cx (v := (1 : Int32)) dX7_readsBell_114 (by decide) ?_
            obtain rfl := Option.some.inj hm
            exact k_zret 115 cx dX7_readsBell_115 (by decide) rfl rfl
          · refine k_iconst 91 cx (v := (2 : Int32)) dX7_readsBell_91 (by decide) ?_
            refine k_iast 92 cx dX7_readsBell_92 2 rfl (fun f4 => (w_X7_readsBell G h_t h_t_sheet h_t_readKind h_t_readNeeds h_t_kindOf h_t_needsOf h_t_fromOf h_t_toOf h_t_longOf h_t_readFrom h_t_readTo h_t_readLong h_t_pullOf h_t_pullAt h_t_peals h_t_swings h_t_lastRang h_t_heardSince h_t_readingOf h_t_readingAt h_t_readingIs h_t_sheetSize h_t_sheetLane h_t_hands t_fault t_bells t_tied t_ropes t_spanNow u3.2 t_readBells t_readRopes t_pulls t_readings t_traceNow t_sheet f4 t_readNeeds)) (fun _ => rfl) hm (fun f4 hm => ?_)
            refine k_aload_n 93 cx dX7_readsBell_93 rfl 2 rfl ?_
            refine fgX7_28 94 cx dX7_readsBell_94 0 rfl rfl ?_
            refine k_aload_n 97 cx dX7_readsBell_97 rfl 2 rfl ?_
            refine fgX7_104 98 cx dX7_readsBell_98 0 rfl rfl ?_
            refine k_iload 101 cx dX7_readsBell_101 0 rfl ?_
            refine k_iast 103 cx dX7_readsBell_103 3 rfl (fun f5 => (w_X7_readsBell G h_t h_t_sheet h_t_readKind h_t_readNeeds h_t_kindOf h_t_needsOf h_t_fromOf h_t_toOf h_t_longOf h_t_readFrom h_t_readTo h_t_readLong h_t_pullOf h_t_pullAt h_t_peals h_t_swings h_t_lastRang h_t_heardSince h_t_readingOf h_t_readingAt h_t_readingIs h_t_sheetSize h_t_sheetLane h_t_hands t_fault t_bells t_tied t_ropes t_spanNow u3.2 t_readBells t_readRopes t_pulls t_readings t_traceNow t_sheet f4 f5)) (fun _ => rfl) hm (fun f5 hm => ?_)
            refine k_aload_n 104 cx dX7_readsBell_104 rfl 2 rfl ?_
            refine k_dup 105 cx dX7_readsBell_105 rfl ?_
            refine fgX7_104 106 cx dX7_readsBell_106 0 rfl rfl ?_
            refine k_iconst 109 cx (v := (1 : Int32)) dX7_readsBell_109 (by decide) ?_
            refine k_iadd 110 cx dX7_readsBell_110 ?_
            refine k_nm hm (fun v6 hm => ?_)
            refine fpX7_104 111 cx dX7_readsBell_111 0 rfl rfl rfl (by simp) (w1 := (w_X7_readsBell G h_t h_t_sheet h_t_readKind h_t_readNeeds h_t_kindOf h_t_needsOf h_t_fromOf h_t_toOf h_t_longOf h_t_readFrom h_t_readTo h_t_readLong h_t_pullOf h_t_pullAt h_t_peals h_t_swings h_t_lastRang h_t_heardSince h_t_readingOf h_t_readingAt h_t_readingIs h_t_sheetSize h_t_sheetLane h_t_hands t_fault t_bells t_tied t_ropes t_spanNow u3.2 v6 t_readRopes t_pulls t_readings t_traceNow t_sheet f4 f5)) rfl ?_
            refine k_iconst 114 cx (v := (1 : Int32)) dX7_readsBell_114 (by decide) ?_
            obtain rfl := Option.some.inj hm
            exact k_zret 115 cx dX7_readsBell_115 (by decide) rfl rfl
      · refine k_iconst 61 cx (v := (0 : Int32)) dX7_readsBell_61 (by decide) ?_
        obtain rfl := Option.some.inj hm
        exact k_zret 62 cx dX7_readsBell_62 (by decide) rfl rfl
    · refine k_iload_n 22 cx dX7_readsBell_22 rfl 0 rfl ?_
      refine k_bipush 23 cx (v := (103 : Int32)) dX7_readsBell_23 (by decide) ?_
      refine k_icmp_eq 25 cx (tgt := 36) dX7_readsBell_25 (by decide) hm (fun hc hm => ?_) (fun hc hm => ?_)
      · refine k_aload_n 36 cx dX7_readsBell_36 rfl 1 rfl ?_
        refine k_dup 37 cx dX7_readsBell_37 rfl ?_
        refine fgX7_97 38 cx dX7_readsBell_38 0 rfl rfl ?_
        refine k_iconst 41 cx (v := (1 : Int32)) dX7_readsBell_41 (by decide) ?_
        refine k_iadd 42 cx dX7_readsBell_42 ?_
        refine k_nm hm (fun v13 hm => ?_)
        refine fpX7_97 43 cx dX7_readsBell_43 0 rfl rfl rfl (by simp) (w1 := (w_X7_readsBell G h_t h_t_sheet h_t_readKind h_t_readNeeds h_t_kindOf h_t_needsOf h_t_fromOf h_t_toOf h_t_longOf h_t_readFrom h_t_readTo h_t_readLong h_t_pullOf h_t_pullAt h_t_peals h_t_swings h_t_lastRang h_t_heardSince h_t_readingOf h_t_readingAt h_t_readingIs h_t_sheetSize h_t_sheetLane h_t_hands t_fault t_bells t_tied t_ropes t_spanNow v13 t_readBells t_readRopes t_pulls t_readings t_traceNow t_sheet t_readKind t_readNeeds)) rfl ?_
        refine k_aload_n 46 cx dX7_readsBell_46 rfl 1 rfl ?_
        refine k_iload_n 47 cx dX7_readsBell_47 rfl 2 rfl ?_
        refine k_iload_n 48 cx dX7_readsBell_48 rfl 3 rfl ?_
        refine k_iconst 49 cx (v := (1 : Int32)) dX7_readsBell_49 (by decide) ?_
        refine k_iconst 50 cx (v := (3 : Int32)) dX7_readsBell_50 (by decide) ?_
        obtain ⟨u14, hu14, hm⟩ := bnd hm
        refine k_callV 51 cx cwX7_107 (c_X7_figure X.2.1 G h_t h_t_sheet h_t_kindOf h_t_needsOf h_t_fromOf h_t_toOf h_t_longOf h_t_readKind h_t_readNeeds h_t_readFrom h_t_readTo h_t_readLong h_t_pullOf h_t_pullAt h_t_peals h_t_swings h_t_lastRang h_t_heardSince h_t_readingOf h_t_readingAt h_t_readingIs h_t_sheetSize h_t_sheetLane h_t_hands t_fault t_bells t_tied t_ropes t_spanNow v13 t_readBells t_readRopes t_pulls t_readings t_traceNow t_sheet a1 a2 (1 : Int32) (3 : Int32) hu14) dX7_readsBell_51 ⟨by decide, by decide⟩ rfl rfl (rest := []) rfl (Nat.le_of_ble_eq_true rfl) [0, 1] (by decide) rfl rfl (w2 := (w_X7_readsBell G h_t h_t_sheet h_t_readKind h_t_readNeeds h_t_kindOf h_t_needsOf h_t_fromOf h_t_toOf h_t_longOf h_t_readFrom h_t_readTo h_t_readLong h_t_pullOf h_t_pullAt h_t_peals h_t_swings h_t_lastRang h_t_heardSince h_t_readingOf h_t_readingAt h_t_readingIs h_t_sheetSize h_t_sheetLane h_t_hands t_fault t_bells t_tied t_ropes t_spanNow u14.2 t_readBells t_readRopes t_pulls t_readings t_traceNow t_sheet t_readKind t_readNeeds)) [2, 3] 4 rfl [(h_t_readKind, .inl (G.2.1, 6, .inl t_readKind)), (h_t_readNeeds, .inl (G.2.1, 6, .inl t_readNeeds))] rfl rfl rfl (by decide) (st2 := [.int u14.1]) rfl ?_
        refine k_istore 54 cx dX7_readsBell_54 (by decide) (lv' := [(4, .int u14.1), (3, .int u1), (0, .ref h_t), (1, .int a1), (2, .int a2)]) rfl ?_
        refine k_iload 56 cx dX7_readsBell_56 0 rfl ?_
        refine k_if_ge 58 cx (tgt := 63) dX7_readsBell_58 (by decide) hm (fun hc hm => ?_) (fun hc hm => ?_)
        · refine k_aload_n 63 cx dX7_readsBell_63 rfl 2 rfl ?_
          refine fgX7_25 64 cx dX7_readsBell_64 0 rfl rfl ?_
          refine k_aload_n 67 cx dX7_readsBell_67 rfl 2 rfl ?_
          refine fgX7_104 68 cx dX7_readsBell_68 0 rfl rfl ?_
          refine k_iload_n 71 cx dX7_readsBell_71 rfl 1 rfl ?_
          refine k_bipush 72 cx (v := (98 : Int32)) dX7_readsBell_72 (by decide) ?_
          refine k_icmp_ne 74 cx (tgt := 81) dX7_readsBell_74 (by decide) hm (fun hc hm => ?_) (fun hc hm => ?_)
          · refine k_iconst 77 cx (v := (0 : Int32)) dX7_readsBell_77 (by decide) ?_
            refine k_goto 78 cx (tgt := 92) dX7_readsBell_78 (by decide) ?_
            refine k_iast 92 cx dX7_readsBell_92 2 rfl (fun f21 => (w_X7_readsBell G h_t h_t_sheet h_t_readKind h_t_readNeeds h_t_kindOf h_t_needsOf h_t_fromOf h_t_toOf h_t_longOf h_t_readFrom h_t_readTo h_t_readLong h_t_pullOf h_t_pullAt h_t_peals h_t_swings h_t_lastRang h_t_heardSince h_t_readingOf h_t_readingAt h_t_readingIs h_t_sheetSize h_t_sheetLane h_t_hands t_fault t_bells t_tied t_ropes t_spanNow u14.2 t_readBells t_readRopes t_pulls t_readings t_traceNow t_sheet f21 t_readNeeds)) (fun _ => rfl) hm (fun f21 hm => ?_)
            refine k_aload_n 93 cx dX7_readsBell_93 rfl 2 rfl ?_
            refine fgX7_28 94 cx dX7_readsBell_94 0 rfl rfl ?_
            refine k_aload_n 97 cx dX7_readsBell_97 rfl 2 rfl ?_
            refine fgX7_104 98 cx dX7_readsBell_98 0 rfl rfl ?_
            refine k_iload 101 cx dX7_readsBell_101 0 rfl ?_
            refine k_iast 103 cx dX7_readsBell_103 3 rfl (fun f22 => (w_X7_readsBell G h_t h_t_sheet h_t_readKind h_t_readNeeds h_t_kindOf h_t_needsOf h_t_fromOf h_t_toOf h_t_longOf h_t_readFrom h_t_readTo h_t_readLong h_t_pullOf h_t_pullAt h_t_peals h_t_swings h_t_lastRang h_t_heardSince h_t_readingOf h_t_readingAt h_t_readingIs h_t_sheetSize h_t_sheetLane h_t_hands t_fault t_bells t_tied t_ropes t_spanNow u14.2 t_readBells t_readRopes t_pulls t_readings t_traceNow t_sheet f21 f22)) (fun _ => rfl) hm (fun f22 hm => ?_)
            refine k_aload_n 104 cx dX7_readsBell_104 rfl 2 rfl ?_
            refine k_dup 105 cx dX7_readsBell_105 rfl ?_
            refine fgX7_104 106 cx dX7_readsBell_106 0 rfl rfl ?_
            refine k_iconst 109 cx (v := (1 : Int32)) dX7_readsBell_109 (by decide) ?_
            refine k_iadd 110 cx dX7_readsBell_110 ?_
            refine k_nm hm (fun v23 hm => ?_)
            refine fpX7_104 111 cx dX7_readsBell_111 0 rfl rfl rfl (by simp) (w1 := (w_X7_readsBell G h_t h_t_sheet h_t_readKind h_t_readNeeds h_t_kindOf h_t_needsOf h_t_fromOf h_t_toOf h_t_longOf h_t_readFrom h_t_readTo h_t_readLong h_t_pullOf h_t_pullAt h_t_peals h_t_swings h_t_lastRang h_t_heardSince h_t_readingOf h_t_readingAt h_t_readingIs h_t_sheetSize h_t_sheetLane h_t_hands t_fault t_bells t_tied t_ropes t_spanNow u14.2 v23 t_readRopes t_pulls t_readings t_traceNow t_sheet f21 f22)) rfl ?_
            refine k_iconst 114 cx (v := (1 : Int32)) dX7_readsBell_114 (by decide) ?_
            obtain rfl := Option.some.inj hm
            exact k_zret 115 cx dX7_readsBell_115 (by decide) rfl rfl
          · refine k_iload_n 81 cx dX7_readsBell_81 rfl 1 rfl ?_
            refine k_bipush 82 cx (v := (103 : Int32)) dX7_readsBell_82 (by decide) ?_
            refine k_icmp_ne 84 cx (tgt := 91) dX7_readsBell_84 (by decide) hm (fun hc hm => ?_) (fun hc hm => ?_)
            · refine k_iconst 87 cx (v := (1 : Int32)) dX7_readsBell_87 (by decide) ?_
              refine k_goto 88 cx (tgt := 92) dX7_readsBell_88 (by decide) ?_
              refine k_iast 92 cx dX7_readsBell_92 2 rfl (fun f18 => (w_X7_readsBell G h_t h_t_sheet h_t_readKind h_t_readNeeds h_t_kindOf h_t_needsOf h_t_fromOf h_t_toOf h_t_longOf h_t_readFrom h_t_readTo h_t_readLong h_t_pullOf h_t_pullAt h_t_peals h_t_swings h_t_lastRang h_t_heardSince h_t_readingOf h_t_readingAt h_t_readingIs h_t_sheetSize h_t_sheetLane h_t_hands t_fault t_bells t_tied t_ropes t_spanNow u14.2 t_readBells t_readRopes t_pulls t_readings t_traceNow t_sheet f18 t_readNeeds)) (fun _ => rfl) hm (fun f18 hm => ?_)
              refine k_aload_n 93 cx dX7_readsBell_93 rfl 2 rfl ?_
              refine fgX7_28 94 cx dX7_readsBell_94 0 rfl rfl ?_
              refine k_aload_n 97 cx dX7_readsBell_97 rfl 2 rfl ?_
              refine fgX7_104 98 cx dX7_readsBell_98 0 rfl rfl ?_
              refine k_iload 101 cx dX7_readsBell_101 0 rfl ?_
              refine k_iast 103 cx dX7_readsBell_103 3 rfl (fun f19 => (w_X7_readsBell G h_t h_t_sheet h_t_readKind h_t_readNeeds h_t_kindOf h_t_needsOf h_t_fromOf h_t_toOf h_t_longOf h_t_readFrom h_t_readTo h_t_readLong h_t_pullOf h_t_pullAt h_t_peals h_t_swings h_t_lastRang h_t_heardSince h_t_readingOf h_t_readingAt h_t_readingIs h_t_sheetSize h_t_sheetLane h_t_hands t_fault t_bells t_tied t_ropes t_spanNow u14.2 t_readBells t_readRopes t_pulls t_readings t_traceNow t_sheet f18 f19)) (fun _ => rfl) hm (fun f19 hm => ?_)
              refine k_aload_n 104 cx dX7_readsBell_104 rfl 2 rfl ?_
              refine k_dup 105 cx dX7_readsBell_105 rfl ?_
              refine fgX7_104 106 cx dX7_readsBell_106 0 rfl rfl ?_
              refine k_iconst 109 cx (v := (1 : Int32)) dX7_readsBell_109 (by decide) ?_
              refine k_iadd 110 cx dX7_readsBell_110 ?_
              refine k_nm hm (fun v20 hm => ?_)
              refine fpX7_104 111 cx dX7_readsBell_111 0 rfl rfl rfl (by simp) (w1 := (w_X7_readsBell G h_t h_t_sheet h_t_readKind h_t_readNeeds h_t_kindOf h_t_needsOf h_t_fromOf h_t_toOf h_t_longOf h_t_readFrom h_t_readTo h_t_readLong h_t_pullOf h_t_pullAt h_t_peals h_t_swings h_t_lastRang h_t_heardSince h_t_readingOf h_t_readingAt h_t_readingIs h_t_sheetSize h_t_sheetLane h_t_hands t_fault t_bells t_tied t_ropes t_spanNow u14.2 v20 t_readRopes t_pulls t_readings t_traceNow t_sheet f18 f19)) rfl ?_
              refine k_iconst 114 cx (v := (1 : Int32)) dX7_readsBell_114 (by decide) ?_
              obtain rfl := Option.some.inj hm
              exact k_zret 115 cx dX7_readsBell_115 (by decide) rfl rfl
            · refine k_iconst 91 cx (v := (2 : Int32)) dX7_readsBell_91 (by decide) ?_
              refine k_iast 92 cx dX7_readsBell_92 2 rfl (fun f15 => (w_X7_readsBell G h_t h_t_sheet h_t_readKind h_t_readNeeds h_t_kindOf h_t_needsOf h_t_fromOf h_t_toOf h_t_longOf h_t_readFrom h_t_readTo h_t_readLong h_t_pullOf h_t_pullAt h_t_peals h_t_swings h_t_lastRang h_t_heardSince h_t_readingOf h_t_readingAt h_t_readingIs h_t_sheetSize h_t_sheetLane h_t_hands t_fault t_bells t_tied t_ropes t_spanNow u14.2 t_readBells t_readRopes t_pulls t_readings t_traceNow t_sheet f15 t_readNeeds)) (fun _ => rfl) hm (fun f15 hm => ?_)
              refine k_aload_n 93 cx dX7_readsBell_93 rfl 2 rfl ?_
              refine fgX7_28 94 cx dX7_readsBell_94 0 rfl rfl ?_
              refine k_aload_n 97 cx dX7_readsBell_97 rfl 2 rfl ?_
              refine fgX7_104 98 cx dX7_readsBell_98 0 rfl rfl ?_
              refine k_iload 101 cx dX7_readsBell_101 0 rfl ?_
              refine k_iast 103 cx dX7_readsBell_103 3 rfl (fun f16 => (w_X7_readsBell G h_t h_t_sheet h_t_readKind h_t_readNeeds h_t_kindOf h_t_needsOf h_t_fromOf h_t_toOf h_t_longOf h_t_readFrom h_t_readTo h_t_readLong h_t_pullOf h_t_pullAt h_t_peals h_t_swings h_t_lastRang h_t_heardSince h_t_readingOf h_t_readingAt h_t_readingIs h_t_sheetSize h_t_sheetLane h_t_hands t_fault t_bells t_tied t_ropes t_spanNow u14.2 t_readBells t_readRopes t_pulls t_readings t_traceNow t_sheet f15 f16)) (fun _ => rfl) hm (fun f16 hm => ?_)
              refine k_aload_n 104 cx dX7_readsBell_104 rfl 2 rfl ?_
              refine k_dup 105 cx dX7_readsBell_105 rfl ?_
              refine fgX7_104 106 cx dX7_readsBell_106 0 rfl rfl ?_
              refine k_iconst 109 cx (v := (1 : Int32)) dX7_readsBell_109 (by decide) ?_
              refine k_iadd 110 cx dX7_readsBell_110 ?_
              refine k_nm hm (fun v17 hm => ?_)
              refine fpX7_104 111 cx dX7_readsBell_111 0 rfl rfl rfl (by simp) (w1 := (w_X7_readsBell G h_t h_t_sheet h_t_readKind h_t_readNeeds h_t_kindOf h_t_needsOf h_t_fromOf h_t_toOf h_t_longOf h_t_readFrom h_t_readTo h_t_readLong h_t_pullOf h_t_pullAt h_t_peals h_t_swings h_t_lastRang h_t_heardSince h_t_readingOf h_t_readingAt h_t_readingIs h_t_sheetSize h_t_sheetLane h_t_hands t_fault t_bells t_tied t_ropes t_spanNow u14.2 v17 t_readRopes t_pulls t_readings t_traceNow t_sheet f15 f16)) rfl ?_
              refine k_iconst 114 cx (v := (1 : Int32)) dX7_readsBell_114 (by decide) ?_
              obtain rfl := Option.some.inj hm
              exact k_zret 115 cx dX7_readsBell_115 (by decide) rfl rfl
        · refine k_iconst 61 cx (v := (0 : Int32)) dX7_readsBell_61 (by decide) ?_
          obtain rfl := Option.some.inj hm
          exact k_zret 62 cx dX7_readsBell_62 (by decide) rfl rfl
      · refine k_iload_n 28 cx dX7_readsBell_28 rfl 0 rfl ?_
        refine k_bipush 29 cx (v := (100 : Int32)) dX7_readsBell_29 (by decide) ?_
        refine k_icmp_eq 31 cx (tgt := 36) dX7_readsBell_31 (by decide) hm (fun hc hm => ?_) (fun hc hm => ?_)
        · refine k_aload_n 36 cx dX7_readsBell_36 rfl 1 rfl ?_
          refine k_dup 37 cx dX7_readsBell_37 rfl ?_
          refine fgX7_97 38 cx dX7_readsBell_38 0 rfl rfl ?_
          refine k_iconst 41 cx (v := (1 : Int32)) dX7_readsBell_41 (by decide) ?_
          refine k_iadd 42 cx dX7_readsBell_42 ?_
          refine k_nm hm (fun v24 hm => ?_)
          refine fpX7_97 43 cx dX7_readsBell_43 0 rfl rfl rfl (by simp) (w1 := (w_X7_readsBell G h_t h_t_sheet h_t_readKind h_t_readNeeds h_t_kindOf h_t_needsOf h_t_fromOf h_t_toOf h_t_longOf h_t_readFrom h_t_readTo h_t_readLong h_t_pullOf h_t_pullAt h_t_peals h_t_swings h_t_lastRang h_t_heardSince h_t_readingOf h_t_readingAt h_t_readingIs h_t_sheetSize h_t_sheetLane h_t_hands t_fault t_bells t_tied t_ropes t_spanNow v24 t_readBells t_readRopes t_pulls t_readings t_traceNow t_sheet t_readKind t_readNeeds)) rfl ?_
          refine k_aload_n 46 cx dX7_readsBell_46 rfl 1 rfl ?_
          refine k_iload_n 47 cx dX7_readsBell_47 rfl 2 rfl ?_
          refine k_iload_n 48 cx dX7_readsBell_48 rfl 3 rfl ?_
          refine k_iconst 49 cx (v := (1 : Int32)) dX7_readsBell_49 (by decide) ?_
          refine k_iconst 50 cx (v := (3 : Int32)) dX7_readsBell_50 (by decide) ?_
          obtain ⟨u25, hu25, hm⟩ := bnd hm
          refine k_callV 51 cx cwX7_107 (c_X7_figure X.2.1 G h_t h_t_sheet h_t_kindOf h_t_needsOf h_t_fromOf h_t_toOf h_t_longOf h_t_readKind h_t_readNeeds h_t_readFrom h_t_readTo h_t_readLong h_t_pullOf h_t_pullAt h_t_peals h_t_swings h_t_lastRang h_t_heardSince h_t_readingOf h_t_readingAt h_t_readingIs h_t_sheetSize h_t_sheetLane h_t_hands t_fault t_bells t_tied t_ropes t_spanNow v24 t_readBells t_readRopes t_pulls t_readings t_traceNow t_sheet a1 a2 (1 : Int32) (3 : Int32) hu25) dX7_readsBell_51 ⟨by decide, by decide⟩ rfl rfl (rest := []) rfl (Nat.le_of_ble_eq_true rfl) [0, 1] (by decide) rfl rfl (w2 := (w_X7_readsBell G h_t h_t_sheet h_t_readKind h_t_readNeeds h_t_kindOf h_t_needsOf h_t_fromOf h_t_toOf h_t_longOf h_t_readFrom h_t_readTo h_t_readLong h_t_pullOf h_t_pullAt h_t_peals h_t_swings h_t_lastRang h_t_heardSince h_t_readingOf h_t_readingAt h_t_readingIs h_t_sheetSize h_t_sheetLane h_t_hands t_fault t_bells t_tied t_ropes t_spanNow u25.2 t_readBells t_readRopes t_pulls t_readings t_traceNow t_sheet t_readKind t_readNeeds)) [2, 3] 4 rfl [(h_t_readKind, .inl (G.2.1, 6, .inl t_readKind)), (h_t_readNeeds, .inl (G.2.1, 6, .inl t_readNeeds))] rfl rfl rfl (by decide) (st2 := [.int u25.1]) rfl ?_
          refine k_istore 54 cx dX7_readsBell_54 (by decide) (lv' := [(4, .int u25.1), (3, .int u1), (0, .ref h_t), (1, .int a1), (2, .int a2)]) rfl ?_
          refine k_iload 56 cx dX7_readsBell_56 0 rfl ?_
          refine k_if_ge 58 cx (tgt := 63) dX7_readsBell_58 (by decide) hm (fun hc hm => ?_) (fun hc hm => ?_)
          · refine k_aload_n 63 cx dX7_readsBell_63 rfl 2 rfl ?_
            refine fgX7_25 64 cx dX7_readsBell_64 0 rfl rfl ?_
            refine k_aload_n 67 cx dX7_readsBell_67 rfl 2 rfl ?_
            refine fgX7_104 68 cx dX7_readsBell_68 0 rfl rfl ?_
            refine k_iload_n 71 cx dX7_readsBell_71 rfl 1 rfl ?_
            refine k_bipush 72 cx (v := (98 : Int32)) dX7_readsBell_72 (by decide) ?_
            refine k_icmp_ne 74 cx (tgt := 81) dX7_readsBell_74 (by decide) hm (fun hc hm => ?_) (fun hc hm => ?_)
            · refine k_iconst 77 cx (v := (0 : Int32)) dX7_readsBell_77 (by decide) ?_
              refine k_goto 78 cx (tgt := 92) dX7_readsBell_78 (by decide) ?_
              refine k_iast 92 cx dX7_readsBell_92 2 rfl (fun f32 => (w_X7_readsBell G h_t h_t_sheet h_t_readKind h_t_readNeeds h_t_kindOf h_t_needsOf h_t_fromOf h_t_toOf h_t_longOf h_t_readFrom h_t_readTo h_t_readLong h_t_pullOf h_t_pullAt h_t_peals h_t_swings h_t_lastRang h_t_heardSince h_t_readingOf h_t_readingAt h_t_readingIs h_t_sheetSize h_t_sheetLane h_t_hands t_fault t_bells t_tied t_ropes t_spanNow u25.2 t_readBells t_readRopes t_pulls t_readings t_traceNow t_sheet f32 t_readNeeds)) (fun _ => rfl) hm (fun f32 hm => ?_)
              refine k_aload_n 93 cx dX7_readsBell_93 rfl 2 rfl ?_
              refine fgX7_28 94 cx dX7_readsBell_94 0 rfl rfl ?_
              refine k_aload_n 97 cx dX7_readsBell_97 rfl 2 rfl ?_
              refine fgX7_104 98 cx dX7_readsBell_98 0 rfl rfl ?_
              refine k_iload 101 cx dX7_readsBell_101 0 rfl ?_
              refine k_iast 103 cx dX7_readsBell_103 3 rfl (fun f33 => (w_X7_readsBell G h_t h_t_sheet h_t_readKind h_t_readNeeds h_t_kindOf h_t_needsOf h_t_fromOf h_t_toOf h_t_longOf h_t_readFrom h_t_readTo h_t_readLong h_t_pullOf h_t_pullAt h_t_peals h_t_swings h_t_lastRang h_t_heardSince h_t_readingOf h_t_readingAt h_t_readingIs h_t_sheetSize h_t_sheetLane h_t_hands t_fault t_bells t_tied t_ropes t_spanNow u25.2 t_readBells t_readRopes t_pulls t_readings t_traceNow t_sheet f32 f33)) (fun _ => rfl) hm (fun f33 hm => ?_)
              refine k_aload_n 104 cx dX7_readsBell_104 rfl 2 rfl ?_
              refine k_dup 105 cx dX7_readsBell_105 rfl ?_
              refine fgX7_104 106 cx dX7_readsBell_106 0 rfl rfl ?_
              refine k_iconst 109 cx (v := (1 : Int32)) dX7_readsBell_109 (by decide) ?_
              refine k_iadd 110 cx dX7_readsBell_110 ?_
              refine k_nm hm (fun v34 hm => ?_)
              refine fpX7_104 111 cx dX7_readsBell_111 0 rfl rfl rfl (by simp) (w1 := (w_X7_readsBell G h_t h_t_sheet h_t_readKind h_t_readNeeds h_t_kindOf h_t_needsOf h_t_fromOf h_t_toOf h_t_longOf h_t_readFrom h_t_readTo h_t_readLong h_t_pullOf h_t_pullAt h_t_peals h_t_swings h_t_lastRang h_t_heardSince h_t_readingOf h_t_readingAt h_t_readingIs h_t_sheetSize h_t_sheetLane h_t_hands t_fault t_bells t_tied t_ropes t_spanNow u25.2 v34 t_readRopes t_pulls t_readings t_traceNow t_sheet f32 f33)) rfl ?_
              refine k_iconst 114 cx (v := (1 : Int32)) dX7_readsBell_114 (by decide) ?_
              obtain rfl := Option.some.inj hm
              exact k_zret 115 cx dX7_readsBell_115 (by decide) rfl rfl
            · refine k_iload_n 81 cx dX7_readsBell_81 rfl 1 rfl ?_
              refine k_bipush 82 cx (v := (103 : Int32)) dX7_readsBell_82 (by decide) ?_
              refine k_icmp_ne 84 cx (tgt := 91) dX7_readsBell_84 (by decide) hm (fun hc hm => ?_) (fun hc hm => ?_)
              · refine k_iconst 87 cx (v := (1 : Int32)) dX7_readsBell_87 (by decide) ?_
                refine k_goto 88 cx (tgt := 92) dX7_readsBell_88 (by decide) ?_
                refine k_iast 92 cx dX7_readsBell_92 2 rfl (fun f29 => (w_X7_readsBell G h_t h_t_sheet h_t_readKind h_t_readNeeds h_t_kindOf h_t_needsOf h_t_fromOf h_t_toOf h_t_longOf h_t_readFrom h_t_readTo h_t_readLong h_t_pullOf h_t_pullAt h_t_peals h_t_swings h_t_lastRang h_t_heardSince h_t_readingOf h_t_readingAt h_t_readingIs h_t_sheetSize h_t_sheetLane h_t_hands t_fault t_bells t_tied t_ropes t_spanNow u25.2 t_readBells t_readRopes t_pulls t_readings t_traceNow t_sheet f29 t_readNeeds)) (fun _ => rfl) hm (fun f29 hm => ?_)
                refine k_aload_n 93 cx dX7_readsBell_93 rfl 2 rfl ?_
                refine fgX7_28 94 cx dX7_readsBell_94 0 rfl rfl ?_
                refine k_aload_n 97 cx dX7_readsBell_97 rfl 2 rfl ?_
                refine fgX7_104 98 cx dX7_readsBell_98 0 rfl rfl ?_
                refine k_iload 101 cx dX7_readsBell_101 0 rfl ?_
                refine k_iast 103 cx dX7_readsBell_103 3 rfl (fun f30 => (w_X7_readsBell G h_t h_t_sheet h_t_readKind h_t_readNeeds h_t_kindOf h_t_needsOf h_t_fromOf h_t_toOf h_t_longOf h_t_readFrom h_t_readTo h_t_readLong h_t_pullOf h_t_pullAt h_t_peals h_t_swings h_t_lastRang h_t_heardSince h_t_readingOf h_t_readingAt h_t_readingIs h_t_sheetSize h_t_sheetLane h_t_hands t_fault t_bells t_tied t_ropes t_spanNow u25.2 t_readBells t_readRopes t_pulls t_readings t_traceNow t_sheet f29 f30)) (fun _ => rfl) hm (fun f30 hm => ?_)
                refine k_aload_n 104 cx dX7_readsBell_104 rfl 2 rfl ?_
                refine k_dup 105 cx dX7_readsBell_105 rfl ?_
                refine fgX7_104 106 cx dX7_readsBell_106 0 rfl rfl ?_
                refine k_iconst 109 cx (v := (1 : Int32)) dX7_readsBell_109 (by decide) ?_
                refine k_iadd 110 cx dX7_readsBell_110 ?_
                refine k_nm hm (fun v31 hm => ?_)
                refine fpX7_104 111 cx dX7_readsBell_111 0 rfl rfl rfl (by simp) (w1 := (w_X7_readsBell G h_t h_t_sheet h_t_readKind h_t_readNeeds h_t_kindOf h_t_needsOf h_t_fromOf h_t_toOf h_t_longOf h_t_readFrom h_t_readTo h_t_readLong h_t_pullOf h_t_pullAt h_t_peals h_t_swings h_t_lastRang h_t_heardSince h_t_readingOf h_t_readingAt h_t_readingIs h_t_sheetSize h_t_sheetLane h_t_hands t_fault t_bells t_tied t_ropes t_spanNow u25.2 v31 t_readRopes t_pulls t_readings t_traceNow t_sheet f29 f30)) rfl ?_
                refine k_iconst 114 cx (v := (1 : Int32)) dX7_readsBell_114 (by decide) ?_
                obtain rfl := Option.some.inj hm
                exact k_zret 115 cx dX7_readsBell_115 (by decide) rfl rfl
              · refine k_iconst 91 cx (v := (2 : Int32)) dX7_readsBell_91 (by decide) ?_
                refine k_iast 92 cx dX7_readsBell_92 2 rfl (fun f26 => (w_X7_readsBell G h_t h_t_sheet h_t_readKind h_t_readNeeds h_t_kindOf h_t_needsOf h_t_fromOf h_t_toOf h_t_longOf h_t_readFrom h_t_readTo h_t_readLong h_t_pullOf h_t_pullAt h_t_peals h_t_swings h_t_lastRang h_t_heardSince h_t_readingOf h_t_readingAt h_t_readingIs h_t_sheetSize h_t_sheetLane h_t_hands t_fault t_bells t_tied t_ropes t_spanNow u25.2 t_readBells t_readRopes t_pulls t_readings t_traceNow t_sheet f26 t_readNeeds)) (fun _ => rfl) hm (fun f26 hm => ?_)
                refine k_aload_n 93 cx dX7_readsBell_93 rfl 2 rfl ?_
                refine fgX7_28 94 cx dX7_readsBell_94 0 rfl rfl ?_
                refine k_aload_n 97 cx dX7_readsBell_97 rfl 2 rfl ?_
                refine fgX7_104 98 cx dX7_readsBell_98 0 rfl rfl ?_
                refine k_iload 101 cx dX7_readsBell_101 0 rfl ?_
                refine k_iast 103 cx dX7_readsBell_103 3 rfl (fun f27 => (w_X7_readsBell G h_t h_t_sheet h_t_readKind h_t_readNeeds h_t_kindOf h_t_needsOf h_t_fromOf h_t_toOf h_t_longOf h_t_readFrom h_t_readTo h_t_readLong h_t_pullOf h_t_pullAt h_t_peals h_t_swings h_t_lastRang h_t_heardSince h_t_readingOf h_t_readingAt h_t_readingIs h_t_sheetSize h_t_sheetLane h_t_hands t_fault t_bells t_tied t_ropes t_spanNow u25.2 t_readBells t_readRopes t_pulls t_readings t_traceNow t_sheet f26 f27)) (fun _ => rfl) hm (fun f27 hm => ?_)
                refine k_aload_n 104 cx dX7_readsBell_104 rfl 2 rfl ?_
                refine k_dup 105 cx dX7_readsBell_105 rfl ?_
                refine fgX7_104 106 cx dX7_readsBell_106 0 rfl rfl ?_
                refine k_iconst 109 cx (v := (1 : Int32)) dX7_readsBell_109 (by decide) ?_
                refine k_iadd 110 cx dX7_readsBell_110 ?_
                refine k_nm hm (fun v28 hm => ?_)
                refine fpX7_104 111 cx dX7_readsBell_111 0 rfl rfl rfl (by simp) (w1 := (w_X7_readsBell G h_t h_t_sheet h_t_readKind h_t_readNeeds h_t_kindOf h_t_needsOf h_t_fromOf h_t_toOf h_t_longOf h_t_readFrom h_t_readTo h_t_readLong h_t_pullOf h_t_pullAt h_t_peals h_t_swings h_t_lastRang h_t_heardSince h_t_readingOf h_t_readingAt h_t_readingIs h_t_sheetSize h_t_sheetLane h_t_hands t_fault t_bells t_tied t_ropes t_spanNow u25.2 v28 t_readRopes t_pulls t_readings t_traceNow t_sheet f26 f27)) rfl ?_
                refine k_iconst 114 cx (v := (1 : Int32)) dX7_readsBell_114 (by decide) ?_
                obtain rfl := Option.some.inj hm
                exact k_zret 115 cx dX7_readsBell_115 (by decide) rfl rfl
          · refine k_iconst 61 cx (v := (0 : Int32)) dX7_readsBell_61 (by decide) ?_
            obtain rfl := Option.some.inj hm
            exact k_zret 62 cx dX7_readsBell_62 (by decide) rfl rfl
        · refine k_iconst 34 cx (v := (0 : Int32)) dX7_readsBell_34 (by decide) ?_
          obtain rfl := Option.some.inj hm
          exact k_zret 35 cx dX7_readsBell_35 (by decide) rfl rfl
set_option maxRecDepth 100000 in
theorem fgX7_31 {X : XT} {Q : State → Prop} {G : GT} {A : Nat → Prop} {nL : Nat} {lv : List (Nat × Value)} {st : List Value} {ws : va_W} {cc : ByteArray} {fr lo : Nat} {ret : Option FieldType} (pc : Nat) (cx : Cx X cc nL RX7 G fr lo ret) {a : Nat} {fs : List Value} {v : Value} (hd : decode cc pc = .ok (.getfield 31, 3)) (q0 : Nat) (he : ws[q0]? = some (a, .inr (7, fs))) (hv : fs[15]? = some v) (k : KJ X Q G A nL (pc + 3) lv (v :: st) ws) : KJ X Q G A nL pc lv (.ref a :: st) ws :=
  k_get (ref := RX7) (T := TX7) (N := 34) (ci := 7) pc cx inX7 rfl 15 (by decide) (tb_m (i := 664) rfl rfl) rfl hd q0 he hv k
set_option maxRecDepth 100000 in
theorem fgX7_34 {X : XT} {Q : State → Prop} {G : GT} {A : Nat → Prop} {nL : Nat} {lv : List (Nat × Value)} {st : List Value} {ws : va_W} {cc : ByteArray} {fr lo : Nat} {ret : Option FieldType} (pc : Nat) (cx : Cx X cc nL RX7 G fr lo ret) {a : Nat} {fs : List Value} {v : Value} (hd : decode cc pc = .ok (.getfield 34, 3)) (q0 : Nat) (he : ws[q0]? = some (a, .inr (7, fs))) (hv : fs[16]? = some v) (k : KJ X Q G A nL (pc + 3) lv (v :: st) ws) : KJ X Q G A nL pc lv (.ref a :: st) ws :=
  k_get (ref := RX7) (T := TX7) (N := 34) (ci := 7) pc cx inX7 rfl 16 (by decide) (tb_m (i := 665) rfl rfl) rfl hd q0 he hv k
set_option maxRecDepth 100000 in
theorem fgX7_37 {X : XT} {Q : State → Prop} {G : GT} {A : Nat → Prop} {nL : Nat} {lv : List (Nat × Value)} {st : List Value} {ws : va_W} {cc : ByteArray} {fr lo : Nat} {ret : Option FieldType} (pc : Nat) (cx : Cx X cc nL RX7 G fr lo ret) {a : Nat} {fs : List Value} {v : Value} (hd : decode cc pc = .ok (.getfield 37, 3)) (q0 : Nat) (he : ws[q0]? = some (a, .inr (7, fs))) (hv : fs[17]? = some v) (k : KJ X Q G A nL (pc + 3) lv (v :: st) ws) : KJ X Q G A nL pc lv (.ref a :: st) ws :=
  k_get (ref := RX7) (T := TX7) (N := 34) (ci := 7) pc cx inX7 rfl 17 (by decide) (tb_m (i := 666) rfl rfl) rfl hd q0 he hv k
set_option maxRecDepth 100000 in
theorem fgX7_111 {X : XT} {Q : State → Prop} {G : GT} {A : Nat → Prop} {nL : Nat} {lv : List (Nat × Value)} {st : List Value} {ws : va_W} {cc : ByteArray} {fr lo : Nat} {ret : Option FieldType} (pc : Nat) (cx : Cx X cc nL RX7 G fr lo ret) {a : Nat} {fs : List Value} {v : Value} (hd : decode cc pc = .ok (.getfield 111, 3)) (q0 : Nat) (he : ws[q0]? = some (a, .inr (7, fs))) (hv : fs[12]? = some v) (k : KJ X Q G A nL (pc + 3) lv (v :: st) ws) : KJ X Q G A nL pc lv (.ref a :: st) ws :=
  k_get (ref := RX7) (T := TX7) (N := 34) (ci := 7) pc cx inX7 rfl 12 (by decide) (tb_m (i := 661) rfl rfl) rfl hd q0 he hv k
set_option maxRecDepth 100000 in
theorem fpX7_111 {X : XT} {Q : State → Prop} {G : GT} {A : Nat → Prop} {nL : Nat} {lv : List (Nat × Value)} {st : List Value} {ws : va_W} {cc : ByteArray} {fr lo : Nat} {ret : Option FieldType} (pc : Nat) (cx : Cx X cc nL RX7 G fr lo ret) {a : Nat} {fs : List Value} {v : Value} (hd : decode cc pc = .ok (.putfield 111, 3)) (q0 : Nat) (he : ws[q0]? = some (a, .inr (7, fs))) (hn : narrow .int v = v) (hfit : fits .int v = true) (hlen : 12 < fs.length) (w1 : va_W) (hw : ws.set q0 (a, .inr (7, fs.set 12 v)) = w1) (k : KJ X Q G A nL (pc + 3) lv st w1) : KJ X Q G A nL pc lv (v :: .ref a :: st) ws :=
  k_put (ref := RX7) (T := TX7) (N := 34) (ci := 7) (ty := .int) pc cx inX7 rfl tyX7 tyX7_ok nmX7 12 (by decide) (tb_m (i := 661) rfl rfl) rfl rfl (by decide +kernel) hd q0 he hn hfit hlen w1 hw k
def w_X7_readsRope (G : GT) (h_t : Nat) (h_t_sheet : Nat) (h_t_readFrom : Nat) (h_t_readTo : Nat) (h_t_readLong : Nat) (h_t_kindOf : Nat) (h_t_needsOf : Nat) (h_t_fromOf : Nat) (h_t_toOf : Nat) (h_t_longOf : Nat) (h_t_readKind : Nat) (h_t_readNeeds : Nat) (h_t_pullOf : Nat) (h_t_pullAt : Nat) (h_t_peals : Nat) (h_t_swings : Nat) (h_t_lastRang : Nat) (h_t_heardSince : Nat) (h_t_readingOf : Nat) (h_t_readingAt : Nat) (h_t_readingIs : Nat) (h_t_sheetSize : Nat) (h_t_sheetLane : Nat) (h_t_hands : Nat) (t_fault : Int32) (t_bells : Int32) (t_tied : Int32) (t_ropes : Int32) (t_spanNow : Int32) (t_readAt : Int32) (t_readBells : Int32) (t_readRopes : Int32) (t_pulls : Int32) (t_readings : Int32) (t_traceNow : Int32) (t_sheet : (Nat → Int32)) (t_readFrom : (Nat → Int32)) (t_readTo : (Nat → Int32)) (t_readLong : (Nat → Int32)) : va_W := [(h_t, .inr (7, [.int t_fault, .int t_bells, .ref h_t_kindOf, .ref h_t_needsOf, .int t_tied, .int t_ropes, .ref h_t_fromOf, .ref h_t_toOf, .ref h_t_longOf, .int t_spanNow, .int t_readAt, .int t_readBells, .int t_readRopes, .ref h_t_readKind, .ref h_t_readNeeds, .ref h_t_readFrom, .ref h_t_readTo, .ref h_t_readLong, .int t_pulls, .ref h_t_pullOf, .ref h_t_pullAt, .ref h_t_peals, .ref h_t_swings, .ref h_t_lastRang, .ref h_t_heardSince, .int t_readings, .ref h_t_readingOf, .ref h_t_readingAt, .ref h_t_readingIs, .ref h_t_sheetSize, .ref h_t_sheetLane, .ref h_t_sheet, .ref h_t_hands, .int t_traceNow])), (h_t_sheet, .inl (G.2.1, 240, .inl t_sheet)), (h_t_readFrom, .inl (G.2.1, 8, .inl t_readFrom)), (h_t_readTo, .inl (G.2.1, 8, .inl t_readTo)), (h_t_readLong, .inl (G.2.1, 8, .inl t_readLong))]
def M_X7_readsRope (t_readAt : Int32) (t_readBells : Int32) (t_readRopes : Int32) (t_sheet : (Nat → Int32)) (t_readFrom : (Nat → Int32)) (t_readTo : (Nat → Int32)) (t_readLong : (Nat → Int32)) (a1 : Int32) (a2 : Int32) : Option (Int32 × Int32 × Int32 × (Nat → Int32) × (Nat → Int32) × (Nat → Int32)) := (if t_readRopes = (8 : Int32) then (some ((0 : Int32), t_readAt, t_readRopes, t_readFrom, t_readTo, t_readLong)) else ((M_X7_codeAt t_readAt t_sheet a1 a2).bind (fun u1 => (if u1 = (59 : Int32) then (nme (t_readAt + (1 : Int32)) (fun v2 => ((M_X7_figure v2 t_sheet a1 a2 (0 : Int32) (t_readBells - (1 : Int32))).bind (fun u3 => (if 0 ≤ u3.1 then ((M_X7_figure u3.2 t_sheet a1 a2 (0 : Int32) (t_readBells - (1 : Int32))).bind (fun u4 => (if 0 ≤ u4.1 then ((M_X7_figure u4.2 t_sheet a1 a2 (1 : Int32) (9 : Int32)).bind (fun u5 => (if 0 ≤ u5.1 then (gB (inb t_readRopes 8) (nme (upd t_readFrom (Int32.toNatClampNeg t_readRopes) u3.1) (fun f6 => (gB (inb t_readRopes 8) (nme (upd t_readTo (Int32.toNatClampNeg t_readRopes) u4.1) (fun f7 => (gB (inb t_readRopes 8) (nme (upd t_readLong (Int32.toNatClampNeg t_readRopes) u5.1) (fun f8 => (nme (t_readRopes + (1 : Int32)) (fun v9 => (some ((1 : Int32), u5.2, v9, f6, f7, f8))))))))))))) else (some ((0 : Int32), u5.2, t_readRopes, t_readFrom, t_readTo, t_readLong))))) else (some ((0 : Int32), u4.2, t_readRopes, t_readFrom, t_readTo, t_readLong))))) else (some ((0 : Int32), u3.2, t_readRopes, t_readFrom, t_readTo, t_readLong))))))) else (some ((0 : Int32), t_readAt, t_readRopes, t_readFrom, t_readTo, t_readLong))))))
set_option maxHeartbeats 4000000 in
set_option maxRecDepth 100000 in
theorem c_X7_readsRope (l : Launch) (G : GT) (h_t : Nat) (h_t_sheet : Nat) (h_t_readFrom : Nat) (h_t_readTo : Nat) (h_t_readLong : Nat) (h_t_kindOf : Nat) (h_t_needsOf : Nat) (h_t_fromOf : Nat) (h_t_toOf : Nat) (h_t_longOf : Nat) (h_t_readKind : Nat) (h_t_readNeeds : Nat) (h_t_pullOf : Nat) (h_t_pullAt : Nat) (h_t_peals : Nat) (h_t_swings : Nat) (h_t_lastRang : Nat) (h_t_heardSince : Nat) (h_t_readingOf : Nat) (h_t_readingAt : Nat) (h_t_readingIs : Nat) (h_t_sheetSize : Nat) (h_t_sheetLane : Nat) (h_t_hands : Nat) (t_fault : Int32) (t_bells : Int32) (t_tied : Int32) (t_ropes : Int32) (t_spanNow : Int32) (t_readAt : Int32) (t_readBells : Int32) (t_readRopes : Int32) (t_pulls : Int32) (t_readings : Int32) (t_traceNow : Int32) (t_sheet : (Nat → Int32)) (t_readFrom : (Nat → Int32)) (t_readTo : (Nat → Int32)) (t_readLong : (Nat → Int32)) (a1 : Int32) (a2 : Int32) {u : Int32 × Int32 × Int32 × (Nat → Int32) × (Nat → Int32) × (Nat → Int32)} (hm : M_X7_readsRope t_readAt t_readBells t_readRopes t_sheet t_readFrom t_readTo t_readLong a1 a2 = some u) : CT l yX7_readsRope cX7_readsRope 6 (some .boolean) 2 51 [.ref h_t, .int a1, .int a2] G (w_X7_readsRope G h_t h_t_sheet h_t_readFrom h_t_readTo h_t_readLong h_t_kindOf h_t_needsOf h_t_fromOf h_t_toOf h_t_longOf h_t_readKind h_t_readNeeds h_t_pullOf h_t_pullAt h_t_peals h_t_swings h_t_lastRang h_t_heardSince h_t_readingOf h_t_readingAt h_t_readingIs h_t_sheetSize h_t_sheetLane h_t_hands t_fault t_bells t_tied t_ropes t_spanNow t_readAt t_readBells t_readRopes t_pulls t_readings t_traceNow t_sheet t_readFrom t_readTo t_readLong) (some (.int u.1)) (w_X7_readsRope G h_t h_t_sheet h_t_readFrom h_t_readTo h_t_readLong h_t_kindOf h_t_needsOf h_t_fromOf h_t_toOf h_t_longOf h_t_readKind h_t_readNeeds h_t_pullOf h_t_pullAt h_t_peals h_t_swings h_t_lastRang h_t_heardSince h_t_readingOf h_t_readingAt h_t_readingIs h_t_sheetSize h_t_sheetLane h_t_hands t_fault t_bells t_tied t_ropes t_spanNow u.2.1 t_readBells u.2.2.1 t_pulls t_readings t_traceNow t_sheet u.2.2.2.1 u.2.2.2.2.1 u.2.2.2.2.2) := by
  refine ct_intro RX7 [(0, .ref h_t), (1, .int a1), (2, .int a2)] (by decide) rfl (Nat.le_of_ble_eq_true rfl) rfl (fun X hX cx => ?_)
  unfold M_X7_readsRope at hm
  refine k_aload_n 0 cx dX7_readsRope_0 rfl 0 rfl ?_
  refine fgX7_111 1 cx dX7_readsRope_1 0 rfl rfl ?_
  refine k_bipush 4 cx (v := (8 : Int32)) dX7_readsRope_4 (by decide) ?_
  refine k_icmp_eq 6 cx (tgt := 20) dX7_readsRope_6 (by decide) hm (fun hc hm => ?_) (fun hc hm => ?_)
  · refine k_iconst 20 cx (v := (0 : Int32)) dX7_readsRope_20 (by decide) ?_
    obtain rfl := Option.some.inj hm
    exact k_zret 21 cx dX7_readsRope_21 (by decide) rfl rfl
  · refine k_aload_n 9 cx dX7_readsRope_9 rfl 0 rfl ?_
    refine k_iload_n 10 cx dX7_readsRope_10 rfl 1 rfl ?_
    refine k_iload_n 11 cx dX7_readsRope_11 rfl 2 rfl ?_
    obtain ⟨u1, hu1, hm⟩ := bnd hm
    refine k_callV 12 cx cwX7_100 (c_X7_codeAt X.2.1 G h_t h_t_sheet h_t_kindOf h_t_needsOf h_t_fromOf h_t_toOf h_t_longOf h_t_readKind h_t_readNeeds h_t_readFrom h_t_readTo h_t_readLong h_t_pullOf h_t_pullAt h_t_peals h_t_swings h_t_lastRang h_t_heardSince h_t_readingOf h_t_readingAt h_t_readingIs h_t_sheetSize h_t_sheetLane h_t_hands t_fault t_bells t_tied t_ropes t_spanNow t_readAt t_readBells t_readRopes t_pulls t_readings t_traceNow t_sheet a1 a2 hu1) dX7_readsRope_12 ⟨by decide, by decide⟩ rfl rfl (rest := []) rfl (Nat.le_of_ble_eq_true rfl) [0, 1] (by decide) rfl rfl (w2 := (w_X7_readsRope G h_t h_t_sheet h_t_readFrom h_t_readTo h_t_readLong h_t_kindOf h_t_needsOf h_t_fromOf h_t_toOf h_t_longOf h_t_readKind h_t_readNeeds h_t_pullOf h_t_pullAt h_t_peals h_t_swings h_t_lastRang h_t_heardSince h_t_readingOf h_t_readingAt h_t_readingIs h_t_sheetSize h_t_sheetLane h_t_hands t_fault t_bells t_tied t_ropes t_spanNow t_readAt t_readBells t_readRopes t_pulls t_readings t_traceNow t_sheet t_readFrom t_readTo t_readLong)) [2, 3, 4] 5 rfl [(h_t_readFrom, .inl (G.2.1, 8, .inl t_readFrom)), (h_t_readTo, .inl (G.2.1, 8, .inl t_readTo)), (h_t_readLong, .inl (G.2.1, 8, .inl t_readLong))] rfl rfl rfl (by decide) (st2 := [.int u1]) rfl ?_
    refine k_bipush 15 cx (v := (59 : Int32)) dX7_readsRope_15 (by decide) ?_
    refine k_icmp_eq 17 cx (tgt := 22) dX7_readsRope_17 (by decide) hm (fun hc hm => ?_) (fun hc hm => ?_)
    · refine k_aload_n 22 cx dX7_readsRope_22 rfl 0 rfl ?_
      refine k_dup 23 cx dX7_readsRope_23 rfl ?_
      refine fgX7_97 24 cx dX7_readsRope_24 0 rfl rfl ?_
      refine k_iconst 27 cx (v := (1 : Int32)) dX7_readsRope_27 (by decide) ?_
      refine k_iadd 28 cx dX7_readsRope_28 ?_
      refine k_nm hm (fun v2 hm => ?_)
      refine fpX7_97 29 cx dX7_readsRope_29 0 rfl rfl rfl (by simp) (w1 := (w_X7_readsRope G h_t h_t_sheet h_t_readFrom h_t_readTo h_t_readLong h_t_kindOf h_t_needsOf h_t_fromOf h_t_toOf h_t_longOf h_t_readKind h_t_readNeeds h_t_pullOf h_t_pullAt h_t_peals h_t_swings h_t_lastRang h_t_heardSince h_t_readingOf h_t_readingAt h_t_readingIs h_t_sheetSize h_t_sheetLane h_t_hands t_fault t_bells t_tied t_ropes t_spanNow v2 t_readBells t_readRopes t_pulls t_readings t_traceNow t_sheet t_readFrom t_readTo t_readLong)) rfl ?_
      refine k_aload_n 32 cx dX7_readsRope_32 rfl 0 rfl ?_
      refine k_iload_n 33 cx dX7_readsRope_33 rfl 1 rfl ?_
      refine k_iload_n 34 cx dX7_readsRope_34 rfl 2 rfl ?_
      refine k_iconst 35 cx (v := (0 : Int32)) dX7_readsRope_35 (by decide) ?_
      refine k_aload_n 36 cx dX7_readsRope_36 rfl 0 rfl ?_
      refine fgX7_104 37 cx dX7_readsRope_37 0 rfl rfl ?_
      refine k_iconst 40 cx (v := (1 : Int32)) dX7_readsRope_40 (by decide) ?_
      refine k_isub 41 cx dX7_readsRope_41 ?_
      obtain ⟨u3, hu3, hm⟩ := bnd hm
      refine k_callV 42 cx cwX7_107 (c_X7_figure X.2.1 G h_t h_t_sheet h_t_kindOf h_t_needsOf h_t_fromOf h_t_toOf h_t_longOf h_t_readKind h_t_readNeeds h_t_readFrom h_t_readTo h_t_readLong h_t_pullOf h_t_pullAt h_t_peals h_t_swings h_t_lastRang h_t_heardSince h_t_readingOf h_t_readingAt h_t_readingIs h_t_sheetSize h_t_sheetLane h_t_hands t_fault t_bells t_tied t_ropes t_spanNow v2 t_readBells t_readRopes t_pulls t_readings t_traceNow t_sheet a1 a2 (0 : Int32) (t_readBells - (1 : Int32)) hu3) dX7_readsRope_42 ⟨by decide, by decide⟩ rfl rfl (rest := []) rfl (Nat.le_of_ble_eq_true rfl) [0, 1] (by decide) rfl rfl (w2 := (w_X7_readsRope G h_t h_t_sheet h_t_readFrom h_t_readTo h_t_readLong h_t_kindOf h_t_needsOf h_t_fromOf h_t_toOf h_t_longOf h_t_readKind h_t_readNeeds h_t_pullOf h_t_pullAt h_t_peals h_t_swings h_t_lastRang h_t_heardSince h_t_readingOf h_t_readingAt h_t_readingIs h_t_sheetSize h_t_sheetLane h_t_hands t_fault t_bells t_tied t_ropes t_spanNow u3.2 t_readBells t_readRopes t_pulls t_readings t_traceNow t_sheet t_readFrom t_readTo t_readLong)) [2, 3, 4] 5 rfl [(h_t_readFrom, .inl (G.2.1, 8, .inl t_readFrom)), (h_t_readTo, .inl (G.2.1, 8, .inl t_readTo)), (h_t_readLong, .inl (G.2.1, 8, .inl t_readLong))] rfl rfl rfl (by decide) (st2 := [.int u3.1]) rfl ?_
      refine k_istore_n 45 cx dX7_readsRope_45 rfl (by decide) (lv' := [(3, .int u3.1), (0, .ref h_t), (1, .int a1), (2, .int a2)]) rfl ?_
      refine k_iload_n 46 cx dX7_readsRope_46 rfl 0 rfl ?_
      refine k_if_ge 47 cx (tgt := 55) dX7_readsRope_47 (by decide) hm (fun hc hm => ?_) (fun hc hm => ?_)
      · refine k_aload_n 55 cx dX7_readsRope_55 rfl 1 rfl ?_
        refine k_iload_n 56 cx dX7_readsRope_56 rfl 2 rfl ?_
        refine k_iload_n 57 cx dX7_readsRope_57 rfl 3 rfl ?_
        refine k_iconst 58 cx (v := (0 : Int32)) dX7_readsRope_58 (by decide) ?_
        refine k_aload_n 59 cx dX7_readsRope_59 rfl 1 rfl ?_
        refine fgX7_104 60 cx dX7_readsRope_60 0 rfl rfl ?_
        refine k_iconst 63 cx (v := (1 : Int32)) dX7_readsRope_63 (by decide) ?_
        refine k_isub 64 cx dX7_readsRope_64 ?_
        obtain ⟨u4, hu4, hm⟩ := bnd hm
        refine k_callV 65 cx cwX7_107 (c_X7_figure X.2.1 G h_t h_t_sheet h_t_kindOf h_t_needsOf h_t_fromOf h_t_toOf h_t_longOf h_t_readKind h_t_readNeeds h_t_readFrom h_t_readTo h_t_readLong h_t_pullOf h_t_pullAt h_t_peals h_t_swings h_t_lastRang h_t_heardSince h_t_readingOf h_t_readingAt h_t_readingIs h_t_sheetSize h_t_sheetLane h_t_hands t_fault t_bells t_tied t_ropes t_spanNow u3.2 t_readBells t_readRopes t_pulls t_readings t_traceNow t_sheet a1 a2 (0 : Int32) (t_readBells - (1 : Int32)) hu4) dX7_readsRope_65 ⟨by decide, by decide⟩ rfl rfl (rest := []) rfl (Nat.le_of_ble_eq_true rfl) [0, 1] (by decide) rfl rfl (w2 := (w_X7_readsRope G h_t h_t_sheet h_t_readFrom h_t_readTo h_t_readLong h_t_kindOf h_t_needsOf h_t_fromOf h_t_toOf h_t_longOf h_t_readKind h_t_readNeeds h_t_pullOf h_t_pullAt h_t_peals h_t_swings h_t_lastRang h_t_heardSince h_t_readingOf h_t_readingAt h_t_readingIs h_t_sheetSize h_t_sheetLane h_t_hands t_fault t_bells t_tied t_ropes t_spanNow u4.2 t_readBells t_readRopes t_pulls t_readings t_traceNow t_sheet t_readFrom t_readTo t_readLong)) [2, 3, 4] 5 rfl [(h_t_readFrom, .inl (G.2.1, 8, .inl t_readFrom)), (h_t_readTo, .inl (G.2.1, 8, .inl t_readTo)), (h_t_readLong, .inl (G.2.1, 8, .inl t_readLong))] rfl rfl rfl (by decide) (st2 := [.int u4.1]) rfl ?_
        refine k_istore 68 cx dX7_readsRope_68 (by decide) (lv' := [(4, .int u4.1), (3, .int u3.1), (0, .ref h_t), (1, .int a1), (2, .int a2)]) rfl ?_
        refine k_iload 70 cx dX7_readsRope_70 0 rfl ?_
        refine k_if_ge 72 cx (tgt := 80) dX7_readsRope_72 (by decide) hm (fun hc hm => ?_) (fun hc hm => ?_)
        · refine k_aload_n 80 cx dX7_readsRope_80 rfl 2 rfl ?_
          refine k_iload_n 81 cx dX7_readsRope_81 rfl 3 rfl ?_
          refine k_iload_n 82 cx dX7_readsRope_82 rfl 4 rfl ?_
          refine k_iconst 83 cx (v := (1 : Int32)) dX7_readsRope_83 (by decide) ?_
          refine k_bipush 84 cx (v := (9 : Int32)) dX7_readsRope_84 (by decide) ?_
          obtain ⟨u5, hu5, hm⟩ := bnd hm
          refine k_callV 86 cx cwX7_107 (c_X7_figure X.2.1 G h_t h_t_sheet h_t_kindOf h_t_needsOf h_t_fromOf h_t_toOf h_t_longOf h_t_readKind h_t_readNeeds h_t_readFrom h_t_readTo h_t_readLong h_t_pullOf h_t_pullAt h_t_peals h_t_swings h_t_lastRang h_t_heardSince h_t_readingOf h_t_readingAt h_t_readingIs h_t_sheetSize h_t_sheetLane h_t_hands t_fault t_bells t_tied t_ropes t_spanNow u4.2 t_readBells t_readRopes t_pulls t_readings t_traceNow t_sheet a1 a2 (1 : Int32) (9 : Int32) hu5) dX7_readsRope_86 ⟨by decide, by decide⟩ rfl rfl (rest := []) rfl (Nat.le_of_ble_eq_true rfl) [0, 1] (by decide) rfl rfl (w2 := (w_X7_readsRope G h_t h_t_sheet h_t_readFrom h_t_readTo h_t_readLong h_t_kindOf h_t_needsOf h_t_fromOf h_t_toOf h_t_longOf h_t_readKind h_t_readNeeds h_t_pullOf h_t_pullAt h_t_peals h_t_swings h_t_lastRang h_t_heardSince h_t_readingOf h_t_readingAt h_t_readingIs h_t_sheetSize h_t_sheetLane h_t_hands t_fault t_bells t_tied t_ropes t_spanNow u5.2 t_readBells t_readRopes t_pulls t_readings t_traceNow t_sheet t_readFrom t_readTo t_readLong)) [2, 3, 4] 5 rfl [(h_t_readFrom, .inl (G.2.1, 8, .inl t_readFrom)), (h_t_readTo, .inl (G.2.1, 8, .inl t_readTo)), (h_t_readLong, .inl (G.2.1, 8, .inl t_readLong))] rfl rfl rfl (by decide) (st2 := [.int u5.1]) rfl ?_
          refine k_istore 89 cx dX7_readsRope_89 (by decide) (lv' := [(5, .int u5.1), (4, .int u4.1), (3, .int u3.1), (0, .ref h_t), (1, .int a1), (2, .int a2)]) rfl ?_
          refine k_iload 91 cx dX7_readsRope_91 0 rfl ?_
          refine k_if_ge 93 cx (tgt := 98) dX7_readsRope_93 (by decide) hm (fun hc hm => ?_) (fun hc hm => ?_)
          · refine k_aload_n 98 cx dX7_readsRope_98 rfl 3 rfl ?_
            refine fgX7_31 99 cx dX7_readsRope_99 0 rfl rfl ?_
            refine k_aload_n 102 cx dX7_readsRope_102 rfl 3 rfl ?_
            refine fgX7_111 103 cx dX7_readsRope_103 0 rfl rfl ?_
            refine k_iload_n 106 cx dX7_readsRope_106 rfl 2 rfl ?_
            refine k_iast 107 cx dX7_readsRope_107 2 rfl (fun f6 => (w_X7_readsRope G h_t h_t_sheet h_t_readFrom h_t_readTo h_t_readLong h_t_kindOf h_t_needsOf h_t_fromOf h_t_toOf h_t_longOf h_t_readKind h_t_readNeeds h_t_pullOf h_t_pullAt h_t_peals h_t_swings h_t_lastRang h_t_heardSince h_t_readingOf h_t_readingAt h_t_readingIs h_t_sheetSize h_t_sheetLane h_t_hands t_fault t_bells t_tied t_ropes t_spanNow u5.2 t_readBells t_readRopes t_pulls t_readings t_traceNow t_sheet f6 t_readTo t_readLong)) (fun _ => rfl) hm (fun f6 hm => ?_)
            refine k_aload_n 108 cx dX7_readsRope_108 rfl 3 rfl ?_
            refine fgX7_34 109 cx dX7_readsRope_109 0 rfl rfl ?_
            refine k_aload_n 112 cx dX7_readsRope_112 rfl 3 rfl ?_
            refine fgX7_111 113 cx dX7_readsRope_113 0 rfl rfl ?_
            refine k_iload 116 cx dX7_readsRope_116 1 rfl ?_
            refine k_iast 118 cx dX7_readsRope_118 3 rfl (fun f7 => (w_X7_readsRope G h_t h_t_sheet h_t_readFrom h_t_readTo h_t_readLong h_t_kindOf h_t_needsOf h_t_fromOf h_t_toOf h_t_longOf h_t_readKind h_t_readNeeds h_t_pullOf h_t_pullAt h_t_peals h_t_swings h_t_lastRang h_t_heardSince h_t_readingOf h_t_readingAt h_t_readingIs h_t_sheetSize h_t_sheetLane h_t_hands t_fault t_bells t_tied t_ropes t_spanNow u5.2 t_readBells t_readRopes t_pulls t_readings t_traceNow t_sheet f6 f7 t_readLong)) (fun _ => rfl) hm (fun f7 hm => ?_)
            refine k_aload_n 119 cx dX7_readsRope_119 rfl 3 rfl ?_
            refine fgX7_37 120 cx dX7_readsRope_120 0 rfl rfl ?_
            refine k_aload_n 123 cx dX7_readsRope_123 rfl 3 rfl ?_
            refine fgX7_111 124 cx dX7_readsRope_124 0 rfl rfl ?_
            refine k_iload 127 cx dX7_readsRope_127 0 rfl ?_
            refine k_iast 129 cx dX7_readsRope_129 4 rfl (fun f8 => (w_X7_readsRope G h_t h_t_sheet h_t_readFrom h_t_readTo h_t_readLong h_t_kindOf h_t_needsOf h_t_fromOf h_t_toOf h_t_longOf h_t_readKind h_t_readNeeds h_t_pullOf h_t_pullAt h_t_peals h_t_swings h_t_lastRang h_t_heardSince h_t_readingOf h_t_readingAt h_t_readingIs h_t_sheetSize h_t_sheetLane h_t_hands t_fault t_bells t_tied t_ropes t_spanNow u5.2 t_readBells t_readRopes t_pulls t_readings t_traceNow t_sheet f6 f7 f8)) (fun _ => rfl) hm (fun f8 hm => ?_)
            refine k_aload_n 130 cx dX7_readsRope_130 rfl 3 rfl ?_
            refine k_dup 131 cx dX7_readsRope_131 rfl ?_
            refine fgX7_111 132 cx dX7_readsRope_132 0 rfl rfl ?_
            refine k_iconst 135 cx (v := (1 : Int32)) dX7_readsRope_135 (by decide) ?_
            refine k_iadd 136 cx dX7_readsRope_136 ?_
            refine k_nm hm (fun v9 hm => ?_)
            refine fpX7_111 137 cx dX7_readsRope_137 0 rfl rfl rfl (by simp) (w1 := (w_X7_readsRope G h_t h_t_sheet h_t_readFrom h_t_readTo h_t_readLong h_t_kindOf h_t_needsOf h_t_fromOf h_t_toOf h_t_longOf h_t_readKind h_t_readNeeds h_t_pullOf h_t_pullAt h_t_peals h_t_swings h_t_lastRang h_t_heardSince h_t_readingOf h_t_readingAt h_t_readingIs h_t_sheetSize h_t_sheetLane h_t_hands t_fault t_bells t_tied t_ropes t_spanNow u5.2 t_readBells v9 t_pulls t_readings t_traceNow t_sheet f6 f7 f8)) rfl ?_
            refine k_iconst 140 cx (v := (1 : Int32)) dX7_readsRope_140 (by decide) ?_
            obtain rfl := Option.some.inj hm
            exact k_zret 141 cx dX7_readsRope_141 (by decide) rfl rfl
          · refine k_iconst 96 cx (v := (0 : Int32)) dX7_readsRope_96 (by decide) ?_
            obtain rfl := Option.some.inj hm
            exact k_zret 97 cx dX7_readsRope_97 (by decide) rfl rfl
        · refine k_bipush 75 cx (v := (-9 : Int32)) dX7_readsRope_75 (by decide) ?_
          refine k_goto 77 cx (tgt := 89) dX7_readsRope_77 (by decide) ?_
          refine k_istore 89 cx dX7_readsRope_89 (by decide) (lv' := [(5, .int (-9 : Int32)), (4, .int u4.1), (3, .int u3.1), (0, .ref h_t), (1, .int a1), (2, .int a2)]) rfl ?_
          refine k_iload 91 cx dX7_readsRope_91 0 rfl ?_
          refine k_if_ge_F 93 cx (tgt := 98) dX7_readsRope_93 (by decide) (by decide) ?_
          refine k_iconst 96 cx (v := (0 : Int32)) dX7_readsRope_96 (by decide) ?_
          obtain rfl := Option.some.inj hm
          exact k_zret 97 cx dX7_readsRope_97 (by decide) rfl rfl
      · refine k_bipush 50 cx (v := (-9 : Int32)) dX7_readsRope_50 (by decide) ?_
        refine k_goto 52 cx (tgt := 68) dX7_readsRope_52 (by decide) ?_
        refine k_istore 68 cx dX7_readsRope_68 (by decide) (lv' := [(4, .int (-9 : Int32)), (3, .int u3.1), (0, .ref h_t), (1, .int a1), (2, .int a2)]) rfl ?_
        refine k_iload 70 cx dX7_readsRope_70 0 rfl ?_
        refine k_if_ge_F 72 cx (tgt := 80) dX7_readsRope_72 (by decide) (by decide) ?_
        refine k_bipush 75 cx (v := (-9 : Int32)) dX7_readsRope_75 (by decide) ?_
        refine k_goto 77 cx (tgt := 89) dX7_readsRope_77 (by decide) ?_
        refine k_istore 89 cx dX7_readsRope_89 (by decide) (lv' := [(5, .int (-9 : Int32)), (4, .int (-9 : Int32)), (3, .int u3.1), (0, .ref h_t), (1, .int a1), (2, .int a2)]) rfl ?_
        refine k_iload 91 cx dX7_readsRope_91 0 rfl ?_
        refine k_if_ge_F 93 cx (tgt := 98) dX7_readsRope_93 (by decide) (by decide) ?_
        refine k_iconst 96 cx (v := (0 : Int32)) dX7_readsRope_96 (by decide) ?_
        obtain rfl := Option.some.inj hm
        exact k_zret 97 cx dX7_readsRope_97 (by decide) rfl rfl
    · refine k_iconst 20 cx (v := (0 : Int32)) dX7_readsRope_20 (by decide) ?_
      obtain rfl := Option.some.inj hm
      exact k_zret 21 cx dX7_readsRope_21 (by decide) rfl rfl
set_option maxRecDepth 100000 in
theorem cwX7_114 : CWV RX7 114 RX7 yX7_readsBell cX7_readsBell 5 (some .boolean) 2 7 TX7 34 := ⟨tb_m (i := 787) rfl rfl, tb_m (i := 789) rfl rfl, tb_m (i := 33) rfl rfl, tb_m (i := 58) rfl rfl, tb_m (i := 790) rfl rfl, ⟨by decide +kernel, by decide +kernel, by decide +kernel⟩, rfl⟩
set_option maxRecDepth 100000 in
theorem cwX7_118 : CWV RX7 118 RX7 yX7_readsRope cX7_readsRope 6 (some .boolean) 2 7 TX7 34 := ⟨tb_m (i := 795) rfl rfl, tb_m (i := 797) rfl rfl, tb_m (i := 35) rfl rfl, tb_m (i := 58) rfl rfl, tb_m (i := 798) rfl rfl, ⟨by decide +kernel, by decide +kernel, by decide +kernel⟩, rfl⟩
def w_X7_readsValley (G : GT) (h_t : Nat) (h_t_sheet : Nat) (h_t_readKind : Nat) (h_t_readNeeds : Nat) (h_t_readFrom : Nat) (h_t_readTo : Nat) (h_t_readLong : Nat) (h_t_kindOf : Nat) (h_t_needsOf : Nat) (h_t_fromOf : Nat) (h_t_toOf : Nat) (h_t_longOf : Nat) (h_t_pullOf : Nat) (h_t_pullAt : Nat) (h_t_peals : Nat) (h_t_swings : Nat) (h_t_lastRang : Nat) (h_t_heardSince : Nat) (h_t_readingOf : Nat) (h_t_readingAt : Nat) (h_t_readingIs : Nat) (h_t_sheetSize : Nat) (h_t_sheetLane : Nat) (h_t_hands : Nat) (t_fault : Int32) (t_bells : Int32) (t_tied : Int32) (t_ropes : Int32) (t_spanNow : Int32) (t_readAt : Int32) (t_readBells : Int32) (t_readRopes : Int32) (t_pulls : Int32) (t_readings : Int32) (t_traceNow : Int32) (t_sheet : (Nat → Int32)) (t_readKind : (Nat → Int32)) (t_readNeeds : (Nat → Int32)) (t_readFrom : (Nat → Int32)) (t_readTo : (Nat → Int32)) (t_readLong : (Nat → Int32)) : va_W := [(h_t, .inr (7, [.int t_fault, .int t_bells, .ref h_t_kindOf, .ref h_t_needsOf, .int t_tied, .int t_ropes, .ref h_t_fromOf, .ref h_t_toOf, .ref h_t_longOf, .int t_spanNow, .int t_readAt, .int t_readBells, .int t_readRopes, .ref h_t_readKind, .ref h_t_readNeeds, .ref h_t_readFrom, .ref h_t_readTo, .ref h_t_readLong, .int t_pulls, .ref h_t_pullOf, .ref h_t_pullAt, .ref h_t_peals, .ref h_t_swings, .ref h_t_lastRang, .ref h_t_heardSince, .int t_readings, .ref h_t_readingOf, .ref h_t_readingAt, .ref h_t_readingIs, .ref h_t_sheetSize, .ref h_t_sheetLane, .ref h_t_sheet, .ref h_t_hands, .int t_traceNow])), (h_t_sheet, .inl (G.2.1, 240, .inl t_sheet)), (h_t_readKind, .inl (G.2.1, 6, .inl t_readKind)), (h_t_readNeeds, .inl (G.2.1, 6, .inl t_readNeeds)), (h_t_readFrom, .inl (G.2.1, 8, .inl t_readFrom)), (h_t_readTo, .inl (G.2.1, 8, .inl t_readTo)), (h_t_readLong, .inl (G.2.1, 8, .inl t_readLong))]
def L_X7_readsValley_50 (x1 : Int32) (x2 : Int32) (t_sheet : (Nat → Int32)) : Nat → Int32 → Int32 → Int32 → (Nat → Int32) → (Nat → Int32) → Option (Int32 × Int32 × Int32 × (Nat → Int32) × (Nat → Int32))
  | 0, _, _, _, _, _ => none
  | n + 1, x3, t_readAt, t_readBells, t_readKind, t_readNeeds => (if x3 = 0 then (some (x3, t_readAt, t_readBells, t_readKind, t_readNeeds)) else (if t_readBells < (2 : Int32) then ((M_X7_readsBell t_readAt t_readBells t_sheet t_readKind t_readNeeds x1 x2).bind (fun u12 => (L_X7_readsValley_50 x1 x2 t_sheet n u12.1 u12.2.1 u12.2.2.1 u12.2.2.2.1 u12.2.2.2.2))) else (if x2 ≤ t_readAt then (some (x3, t_readAt, t_readBells, t_readKind, t_readNeeds)) else ((M_X7_codeAt t_readAt t_sheet x1 x2).bind (fun u13 => (if u13 = (59 : Int32) then (some (x3, t_readAt, t_readBells, t_readKind, t_readNeeds)) else ((M_X7_readsBell t_readAt t_readBells t_sheet t_readKind t_readNeeds x1 x2).bind (fun u14 => (L_X7_readsValley_50 x1 x2 t_sheet n u14.1 u14.2.1 u14.2.2.1 u14.2.2.2.1 u14.2.2.2.2)))))))))
def L_X7_readsValley_91 (x1 : Int32) (x2 : Int32) (t_readBells : Int32) (t_sheet : (Nat → Int32)) : Nat → Int32 → Int32 → Int32 → (Nat → Int32) → (Nat → Int32) → (Nat → Int32) → Option (Int32 × Int32 × Int32 × (Nat → Int32) × (Nat → Int32) × (Nat → Int32))
  | 0, _, _, _, _, _, _ => none
  | n + 1, x3, t_readAt, t_readRopes, t_readFrom, t_readTo, t_readLong => (if x3 = 0 then (some (x3, t_readAt, t_readRopes, t_readFrom, t_readTo, t_readLong)) else (if x2 ≤ t_readAt then (some (x3, t_readAt, t_readRopes, t_readFrom, t_readTo, t_readLong)) else ((M_X7_readsRope t_readAt t_readBells t_readRopes t_sheet t_readFrom t_readTo t_readLong x1 x2).bind (fun u19 => (L_X7_readsValley_91 x1 x2 t_readBells t_sheet n u19.1 u19.2.1 u19.2.2.1 u19.2.2.2.1 u19.2.2.2.2.1 u19.2.2.2.2.2)))))
def M_X7_readsValley (t_sheet : (Nat → Int32)) (t_readKind : (Nat → Int32)) (t_readNeeds : (Nat → Int32)) (t_readFrom : (Nat → Int32)) (t_readTo : (Nat → Int32)) (t_readLong : (Nat → Int32)) (a1 : Int32) (a2 : Int32) : Option (Int32 × Int32 × Int32 × Int32 × (Nat → Int32) × (Nat → Int32) × (Nat → Int32) × (Nat → Int32) × (Nat → Int32)) := ((M_X7_codeAt (0 : Int32) t_sheet a1 a2).bind (fun u1 => (if u1 = (118 : Int32) then (nme ((0 : Int32) + (1 : Int32)) (fun v21 => ((L_X7_readsValley_50 a1 a2 t_sheet 1000 (1 : Int32) v21 (0 : Int32) t_readKind t_readNeeds).bind (fun u22 => ((L_X7_readsValley_91 a1 a2 u22.2.2.1 t_sheet 1000 u22.1 u22.2.1 (0 : Int32) t_readFrom t_readTo t_readLong).bind (fun u23 => (gB (decide (u23.1 = 0 ∨ u23.1 = 1)) (some (u23.1, u23.2.1, u22.2.2.1, u23.2.2.1, u22.2.2.2.1, u22.2.2.2.2, u23.2.2.2.1, u23.2.2.2.2.1, u23.2.2.2.2.2))))))))) else (nme ((0 : Int32) + (0 : Int32)) (fun v2 => ((L_X7_readsValley_50 a1 a2 t_sheet 1000 (0 : Int32) v2 (0 : Int32) t_readKind t_readNeeds).bind (fun u15 => ((L_X7_readsValley_91 a1 a2 u15.2.2.1 t_sheet 1000 u15.1 u15.2.1 (0 : Int32) t_readFrom t_readTo t_readLong).bind (fun u20 => (gB (decide (u20.1 = 0 ∨ u20.1 = 1)) (some (u20.1, u20.2.1, u15.2.2.1, u20.2.2.1, u15.2.2.2.1, u15.2.2.2.2, u20.2.2.2.1, u20.2.2.2.2.1, u20.2.2.2.2.2))))))))))))
set_option maxHeartbeats 4000000 in
set_option maxRecDepth 100000 in
theorem c_X7_readsValley (l : Launch) (G : GT) (h_t : Nat) (h_t_sheet : Nat) (h_t_readKind : Nat) (h_t_readNeeds : Nat) (h_t_readFrom : Nat) (h_t_readTo : Nat) (h_t_readLong : Nat) (h_t_kindOf : Nat) (h_t_needsOf : Nat) (h_t_fromOf : Nat) (h_t_toOf : Nat) (h_t_longOf : Nat) (h_t_pullOf : Nat) (h_t_pullAt : Nat) (h_t_peals : Nat) (h_t_swings : Nat) (h_t_lastRang : Nat) (h_t_heardSince : Nat) (h_t_readingOf : Nat) (h_t_readingAt : Nat) (h_t_readingIs : Nat) (h_t_sheetSize : Nat) (h_t_sheetLane : Nat) (h_t_hands : Nat) (t_fault : Int32) (t_bells : Int32) (t_tied : Int32) (t_ropes : Int32) (t_spanNow : Int32) (t_readAt : Int32) (t_readBells : Int32) (t_readRopes : Int32) (t_pulls : Int32) (t_readings : Int32) (t_traceNow : Int32) (t_sheet : (Nat → Int32)) (t_readKind : (Nat → Int32)) (t_readNeeds : (Nat → Int32)) (t_readFrom : (Nat → Int32)) (t_readTo : (Nat → Int32)) (t_readLong : (Nat → Int32)) (a1 : Int32) (a2 : Int32) {u : Int32 × Int32 × Int32 × Int32 × (Nat → Int32) × (Nat → Int32) × (Nat → Int32) × (Nat → Int32) × (Nat → Int32)} (hm : M_X7_readsValley t_sheet t_readKind t_readNeeds t_readFrom t_readTo t_readLong a1 a2 = some u) : CT l yX7_readsValley cX7_readsValley 4 (some .boolean) 3 76 [.ref h_t, .int a1, .int a2] G (w_X7_readsValley G h_t h_t_sheet h_t_readKind h_t_readNeeds h_t_readFrom h_t_readTo h_t_readLong h_t_kindOf h_t_needsOf h_t_fromOf h_t_toOf h_t_longOf h_t_pullOf h_t_pullAt h_t_peals h_t_swings h_t_lastRang h_t_heardSince h_t_readingOf h_t_readingAt h_t_readingIs h_t_sheetSize h_t_sheetLane h_t_hands t_fault t_bells t_tied t_ropes t_spanNow t_readAt t_readBells t_readRopes t_pulls t_readings t_traceNow t_sheet t_readKind t_readNeeds t_readFrom t_readTo t_readLong) (some (.int u.1)) (w_X7_readsValley G h_t h_t_sheet h_t_readKind h_t_readNeeds h_t_readFrom h_t_readTo h_t_readLong h_t_kindOf h_t_needsOf h_t_fromOf h_t_toOf h_t_longOf h_t_pullOf h_t_pullAt h_t_peals h_t_swings h_t_lastRang h_t_heardSince h_t_readingOf h_t_readingAt h_t_readingIs h_t_sheetSize h_t_sheetLane h_t_hands t_fault t_bells t_tied t_ropes t_spanNow u.2.1 u.2.2.1 u.2.2.2.1 t_pulls t_readings t_traceNow t_sheet u.2.2.2.2.1 u.2.2.2.2.2.1 u.2.2.2.2.2.2.1 u.2.2.2.2.2.2.2.1 u.2.2.2.2.2.2.2.2) := by
  refine ct_intro RX7 [(0, .ref h_t), (1, .int a1), (2, .int a2)] (by decide) rfl (Nat.le_of_ble_eq_true rfl) rfl (fun X hX cx => ?_)
  have lp50 : ∀ (Q : State → Prop) (A : Nat → Prop) (x1 : Int32) (x2 : Int32) (t_fault : Int32) (t_bells : Int32) (t_tied : Int32) (t_ropes : Int32) (t_spanNow : Int32) (t_readRopes : Int32) (t_pulls : Int32) (t_readings : Int32) (t_traceNow : Int32) (t_sheet : (Nat → Int32)) (t_readFrom : (Nat → Int32)) (t_readTo : (Nat → Int32)) (t_readLong : (Nat → Int32)) (n : Nat) (x3 : Int32) (t_readAt : Int32) (t_readBells : Int32) (t_readKind : (Nat → Int32)) (t_readNeeds : (Nat → Int32)) (y : Int32 × Int32 × Int32 × (Nat → Int32) × (Nat → Int32)), L_X7_readsValley_50 x1 x2 t_sheet n x3 t_readAt t_readBells t_readKind t_readNeeds = some y → (KJ X Q G A 4 91 [(0, .ref h_t), (1, .int x1), (2, .int x2), (3, .int y.1)] [] (w_X7_readsValley G h_t h_t_sheet h_t_readKind h_t_readNeeds h_t_readFrom h_t_readTo h_t_readLong h_t_kindOf h_t_needsOf h_t_fromOf h_t_toOf h_t_longOf h_t_pullOf h_t_pullAt h_t_peals h_t_swings h_t_lastRang h_t_heardSince h_t_readingOf h_t_readingAt h_t_readingIs h_t_sheetSize h_t_sheetLane h_t_hands t_fault t_bells t_tied t_ropes t_spanNow y.2.1 y.2.2.1 t_readRopes t_pulls t_readings t_traceNow t_sheet y.2.2.2.1 y.2.2.2.2 t_readFrom t_readTo t_readLong)) → KJ X Q G A 4 50 [(0, .ref h_t), (1, .int x1), (2, .int x2), (3, .int x3)] [] (w_X7_readsValley G h_t h_t_sheet h_t_readKind h_t_readNeeds h_t_readFrom h_t_readTo h_t_readLong h_t_kindOf h_t_needsOf h_t_fromOf h_t_toOf h_t_longOf h_t_pullOf h_t_pullAt h_t_peals h_t_swings h_t_lastRang h_t_heardSince h_t_readingOf h_t_readingAt h_t_readingIs h_t_sheetSize h_t_sheetLane h_t_hands t_fault t_bells t_tied t_ropes t_spanNow t_readAt t_readBells t_readRopes t_pulls t_readings t_traceNow t_sheet t_readKind t_readNeeds t_readFrom t_readTo t_readLong) := by
    intro Q A x1 x2 t_fault t_bells t_tied t_ropes t_spanNow t_readRopes t_pulls t_readings t_traceNow t_sheet t_readFrom t_readTo t_readLong n
    induction n with
    | zero => intro x3 t_readAt t_readBells t_readKind t_readNeeds y hm _; exact noS hm
    | succ n ih =>
      intro x3 t_readAt t_readBells t_readKind t_readNeeds y hm k0
      rw [L_X7_readsValley_50] at hm
      refine k_iload_n 50 cx dX7_readsValley_50 rfl 3 rfl ?_
      refine k_if_eq 51 cx (tgt := 91) dX7_readsValley_51 (by decide) hm (fun hc hm => ?_) (fun hc hm => ?_)
      · obtain rfl := Option.some.inj hm
        refine k_lv [0, 1, 2, 3] rfl ?_
        exact k0
      · refine k_aload_n 54 cx dX7_readsValley_54 rfl 0 rfl ?_
        refine fgX7_104 55 cx dX7_readsValley_55 0 rfl rfl ?_
        refine k_iconst 58 cx (v := (2 : Int32)) dX7_readsValley_58 (by decide) ?_
        refine k_icmp_lt 59 cx (tgt := 81) dX7_readsValley_59 (by decide) hm (fun hc hm => ?_) (fun hc hm => ?_)
        · refine k_aload_n 81 cx dX7_readsValley_81 rfl 0 rfl ?_
          refine k_iload_n 82 cx dX7_readsValley_82 rfl 1 rfl ?_
          refine k_iload_n 83 cx dX7_readsValley_83 rfl 2 rfl ?_
          obtain ⟨u12, hu12, hm⟩ := bnd hm
          refine k_callV 84 cx cwX7_114 (c_X7_readsBell X.2.1 G h_t h_t_sheet h_t_readKind h_t_readNeeds h_t_kindOf h_t_needsOf h_t_fromOf h_t_toOf h_t_longOf h_t_readFrom h_t_readTo h_t_readLong h_t_pullOf h_t_pullAt h_t_peals h_t_swings h_t_lastRang h_t_heardSince h_t_readingOf h_t_readingAt h_t_readingIs h_t_sheetSize h_t_sheetLane h_t_hands t_fault t_bells t_tied t_ropes t_spanNow t_readAt t_readBells t_readRopes t_pulls t_readings t_traceNow t_sheet t_readKind t_readNeeds x1 x2 hu12) dX7_readsValley_84 ⟨by decide, by decide⟩ rfl rfl (rest := []) rfl (Nat.le_of_ble_eq_true rfl) [0, 1, 2, 3] (by decide) rfl rfl (w2 := (w_X7_readsValley G h_t h_t_sheet h_t_readKind h_t_readNeeds h_t_readFrom h_t_readTo h_t_readLong h_t_kindOf h_t_needsOf h_t_fromOf h_t_toOf h_t_longOf h_t_pullOf h_t_pullAt h_t_peals h_t_swings h_t_lastRang h_t_heardSince h_t_readingOf h_t_readingAt h_t_readingIs h_t_sheetSize h_t_sheetLane h_t_hands t_fault t_bells t_tied t_ropes t_spanNow u12.2.1 u12.2.2.1 t_readRopes t_pulls t_readings t_traceNow t_sheet u12.2.2.2.1 u12.2.2.2.2 t_readFrom t_readTo t_readLong)) [4, 5, 6] 7 rfl [(h_t_readFrom, .inl (G.2.1, 8, .inl t_readFrom)), (h_t_readTo, .inl (G.2.1, 8, .inl t_readTo)), (h_t_readLong, .inl (G.2.1, 8, .inl t_readLong))] rfl rfl rfl (by decide) (st2 := [.int u12.1]) rfl ?_
          refine k_istore_n 87 cx dX7_readsValley_87 rfl (by decide) (lv' := [(3, .int u12.1), (0, .ref h_t), (1, .int x1), (2, .int x2)]) rfl ?_
          refine k_goto 88 cx (tgt := 50) dX7_readsValley_88 (by decide) ?_
          refine k_lv [1, 2, 3, 0] rfl ?_
          exact ih u12.1 u12.2.1 u12.2.2.1 u12.2.2.2.1 u12.2.2.2.2 _ hm k0
        · refine k_aload_n 62 cx dX7_readsValley_62 rfl 0 rfl ?_
          refine fgX7_97 63 cx dX7_readsValley_63 0 rfl rfl ?_
          refine k_iload_n 66 cx dX7_readsValley_66 rfl 2 rfl ?_
          refine k_icmp_ge 67 cx (tgt := 91) dX7_readsValley_67 (by decide) hm (fun hc hm => ?_) (fun hc hm => ?_)
          · obtain rfl := Option.some.inj hm
            refine k_lv [0, 1, 2, 3] rfl ?_
            exact k0
          · refine k_aload_n 70 cx dX7_readsValley_70 rfl 0 rfl ?_
            refine k_iload_n 71 cx dX7_readsValley_71 rfl 1 rfl ?_
            refine k_iload_n 72 cx dX7_readsValley_72 rfl 2 rfl ?_
            obtain ⟨u13, hu13, hm⟩ := bnd hm
            refine k_callV 73 cx cwX7_100 (c_X7_codeAt X.2.1 G h_t h_t_sheet h_t_kindOf h_t_needsOf h_t_fromOf h_t_toOf h_t_longOf h_t_readKind h_t_readNeeds h_t_readFrom h_t_readTo h_t_readLong h_t_pullOf h_t_pullAt h_t_peals h_t_swings h_t_lastRang h_t_heardSince h_t_readingOf h_t_readingAt h_t_readingIs h_t_sheetSize h_t_sheetLane h_t_hands t_fault t_bells t_tied t_ropes t_spanNow t_readAt t_readBells t_readRopes t_pulls t_readings t_traceNow t_sheet x1 x2 hu13) dX7_readsValley_73 ⟨by decide, by decide⟩ rfl rfl (rest := []) rfl (Nat.le_of_ble_eq_true rfl) [0, 1] (by decide) rfl rfl (w2 := (w_X7_readsValley G h_t h_t_sheet h_t_readKind h_t_readNeeds h_t_readFrom h_t_readTo h_t_readLong h_t_kindOf h_t_needsOf h_t_fromOf h_t_toOf h_t_longOf h_t_pullOf h_t_pullAt h_t_peals h_t_swings h_t_lastRang h_t_heardSince h_t_readingOf h_t_readingAt h_t_readingIs h_t_sheetSize h_t_sheetLane h_t_hands t_fault t_bells t_tied t_ropes t_spanNow t_readAt t_readBells t_readRopes t_pulls t_readings t_traceNow t_sheet t_readKind t_readNeeds t_readFrom t_readTo t_readLong)) [2, 3, 4, 5, 6] 7 rfl [(h_t_readKind, .inl (G.2.1, 6, .inl t_readKind)), (h_t_readNeeds, .inl (G.2.1, 6, .inl t_readNeeds)), (h_t_readFrom, .inl (G.2.1, 8, .inl t_readFrom)), (h_t_readTo, .inl (G.2.1, 8, .inl t_readTo)), (h_t_readLong, .inl (G.2.1, 8, .inl t_readLong))] rfl rfl rfl (by decide) (st2 := [.int u13]) rfl ?_
            refine k_bipush 76 cx (v := (59 : Int32)) dX7_readsValley_76 (by decide) ?_
            refine k_icmp_eq 78 cx (tgt := 91) dX7_readsValley_78 (by decide) hm (fun hc hm => ?_) (fun hc hm => ?_)
            · obtain rfl := Option.some.inj hm
              refine k_lv [0, 1, 2, 3] rfl ?_
              exact k0
            · refine k_aload_n 81 cx dX7_readsValley_81 rfl 0 rfl ?_
              refine k_iload_n 82 cx dX7_readsValley_82 rfl 1 rfl ?_
              refine k_iload_n 83 cx dX7_readsValley_83 rfl 2 rfl ?_
              obtain ⟨u14, hu14, hm⟩ := bnd hm
              refine k_callV 84 cx cwX7_114 (c_X7_readsBell X.2.1 G h_t h_t_sheet h_t_readKind h_t_readNeeds h_t_kindOf h_t_needsOf h_t_fromOf h_t_toOf h_t_longOf h_t_readFrom h_t_readTo h_t_readLong h_t_pullOf h_t_pullAt h_t_peals h_t_swings h_t_lastRang h_t_heardSince h_t_readingOf h_t_readingAt h_t_readingIs h_t_sheetSize h_t_sheetLane h_t_hands t_fault t_bells t_tied t_ropes t_spanNow t_readAt t_readBells t_readRopes t_pulls t_readings t_traceNow t_sheet t_readKind t_readNeeds x1 x2 hu14) dX7_readsValley_84 ⟨by decide, by decide⟩ rfl rfl (rest := []) rfl (Nat.le_of_ble_eq_true rfl) [0, 1, 2, 3] (by decide) rfl rfl (w2 := (w_X7_readsValley G h_t h_t_sheet h_t_readKind h_t_readNeeds h_t_readFrom h_t_readTo h_t_readLong h_t_kindOf h_t_needsOf h_t_fromOf h_t_toOf h_t_longOf h_t_pullOf h_t_pullAt h_t_peals h_t_swings h_t_lastRang h_t_heardSince h_t_readingOf h_t_readingAt h_t_readingIs h_t_sheetSize h_t_sheetLane h_t_hands t_fault t_bells t_tied t_ropes t_spanNow u14.2.1 u14.2.2.1 t_readRopes t_pulls t_readings t_traceNow t_sheet u14.2.2.2.1 u14.2.2.2.2 t_readFrom t_readTo t_readLong)) [4, 5, 6] 7 rfl [(h_t_readFrom, .inl (G.2.1, 8, .inl t_readFrom)), (h_t_readTo, .inl (G.2.1, 8, .inl t_readTo)), (h_t_readLong, .inl (G.2.1, 8, .inl t_readLong))] rfl rfl rfl (by decide) (st2 := [.int u14.1]) rfl ?_
              refine k_istore_n 87 cx dX7_readsValley_87 rfl (by decide) (lv' := [(3, .int u14.1), (0, .ref h_t), (1, .int x1), (2, .int x2)]) rfl ?_
              refine k_goto 88 cx (tgt := 50) dX7_readsValley_88 (by decide) ?_
              refine k_lv [1, 2, 3, 0] rfl ?_
              exact ih u14.1 u14.2.1 u14.2.2.1 u14.2.2.2.1 u14.2.2.2.2 _ hm k0
  have lp91 : ∀ (Q : State → Prop) (A : Nat → Prop) (x1 : Int32) (x2 : Int32) (t_fault : Int32) (t_bells : Int32) (t_tied : Int32) (t_ropes : Int32) (t_spanNow : Int32) (t_readBells : Int32) (t_pulls : Int32) (t_readings : Int32) (t_traceNow : Int32) (t_sheet : (Nat → Int32)) (t_readKind : (Nat → Int32)) (t_readNeeds : (Nat → Int32)) (n : Nat) (x3 : Int32) (t_readAt : Int32) (t_readRopes : Int32) (t_readFrom : (Nat → Int32)) (t_readTo : (Nat → Int32)) (t_readLong : (Nat → Int32)) (y : Int32 × Int32 × Int32 × (Nat → Int32) × (Nat → Int32) × (Nat → Int32)), L_X7_readsValley_91 x1 x2 t_readBells t_sheet n x3 t_readAt t_readRopes t_readFrom t_readTo t_readLong = some y → (KJ X Q G A 4 113 [(3, .int y.1)] [] (w_X7_readsValley G h_t h_t_sheet h_t_readKind h_t_readNeeds h_t_readFrom h_t_readTo h_t_readLong h_t_kindOf h_t_needsOf h_t_fromOf h_t_toOf h_t_longOf h_t_pullOf h_t_pullAt h_t_peals h_t_swings h_t_lastRang h_t_heardSince h_t_readingOf h_t_readingAt h_t_readingIs h_t_sheetSize h_t_sheetLane h_t_hands t_fault t_bells t_tied t_ropes t_spanNow y.2.1 t_readBells y.2.2.1 t_pulls t_readings t_traceNow t_sheet t_readKind t_readNeeds y.2.2.2.1 y.2.2.2.2.1 y.2.2.2.2.2)) → KJ X Q G A 4 91 [(0, .ref h_t), (1, .int x1), (2, .int x2), (3, .int x3)] [] (w_X7_readsValley G h_t h_t_sheet h_t_readKind h_t_readNeeds h_t_readFrom h_t_readTo h_t_readLong h_t_kindOf h_t_needsOf h_t_fromOf h_t_toOf h_t_longOf h_t_pullOf h_t_pullAt h_t_peals h_t_swings h_t_lastRang h_t_heardSince h_t_readingOf h_t_readingAt h_t_readingIs h_t_sheetSize h_t_sheetLane h_t_hands t_fault t_bells t_tied t_ropes t_spanNow t_readAt t_readBells t_readRopes t_pulls t_readings t_traceNow t_sheet t_readKind t_readNeeds t_readFrom t_readTo t_readLong) := by
    intro Q A x1 x2 t_fault t_bells t_tied t_ropes t_spanNow t_readBells t_pulls t_readings t_traceNow t_sheet t_readKind t_readNeeds n
    induction n with
    | zero => intro x3 t_readAt t_readRopes t_readFrom t_readTo t_readLong y hm _; exact noS hm
    | succ n ih =>
      intro x3 t_readAt t_readRopes t_readFrom t_readTo t_readLong y hm k0
      rw [L_X7_readsValley_91] at hm
      refine k_iload_n 91 cx dX7_readsValley_91 rfl 3 rfl ?_
      refine k_if_eq 92 cx (tgt := 113) dX7_readsValley_92 (by decide) hm (fun hc hm => ?_) (fun hc hm => ?_)
      · obtain rfl := Option.some.inj hm
        refine k_lv [3] rfl ?_
        exact k0
      · refine k_aload_n 95 cx dX7_readsValley_95 rfl 0 rfl ?_
        refine fgX7_97 96 cx dX7_readsValley_96 0 rfl rfl ?_
        refine k_iload_n 99 cx dX7_readsValley_99 rfl 2 rfl ?_
        refine k_icmp_ge 100 cx (tgt := 113) dX7_readsValley_100 (by decide) hm (fun hc hm => ?_) (fun hc hm => ?_)
        · obtain rfl := Option.some.inj hm
          refine k_lv [3] rfl ?_
          exact k0
        · refine k_aload_n 103 cx dX7_readsValley_103 rfl 0 rfl ?_
          refine k_iload_n 104 cx dX7_readsValley_104 rfl 1 rfl ?_
          refine k_iload_n 105 cx dX7_readsValley_105 rfl 2 rfl ?_
          obtain ⟨u19, hu19, hm⟩ := bnd hm
          refine k_callV 106 cx cwX7_118 (c_X7_readsRope X.2.1 G h_t h_t_sheet h_t_readFrom h_t_readTo h_t_readLong h_t_kindOf h_t_needsOf h_t_fromOf h_t_toOf h_t_longOf h_t_readKind h_t_readNeeds h_t_pullOf h_t_pullAt h_t_peals h_t_swings h_t_lastRang h_t_heardSince h_t_readingOf h_t_readingAt h_t_readingIs h_t_sheetSize h_t_sheetLane h_t_hands t_fault t_bells t_tied t_ropes t_spanNow t_readAt t_readBells t_readRopes t_pulls t_readings t_traceNow t_sheet t_readFrom t_readTo t_readLong x1 x2 hu19) dX7_readsValley_106 ⟨by decide, by decide⟩ rfl rfl (rest := []) rfl (Nat.le_of_ble_eq_true rfl) [0, 1, 4, 5, 6] (by decide) rfl rfl (w2 := (w_X7_readsValley G h_t h_t_sheet h_t_readKind h_t_readNeeds h_t_readFrom h_t_readTo h_t_readLong h_t_kindOf h_t_needsOf h_t_fromOf h_t_toOf h_t_longOf h_t_pullOf h_t_pullAt h_t_peals h_t_swings h_t_lastRang h_t_heardSince h_t_readingOf h_t_readingAt h_t_readingIs h_t_sheetSize h_t_sheetLane h_t_hands t_fault t_bells t_tied t_ropes t_spanNow u19.2.1 t_readBells u19.2.2.1 t_pulls t_readings t_traceNow t_sheet t_readKind t_readNeeds u19.2.2.2.1 u19.2.2.2.2.1 u19.2.2.2.2.2)) [2, 3] 7 rfl [(h_t_readKind, .inl (G.2.1, 6, .inl t_readKind)), (h_t_readNeeds, .inl (G.2.1, 6, .inl t_readNeeds))] rfl rfl rfl (by decide) (st2 := [.int u19.1]) rfl ?_
          refine k_istore_n 109 cx dX7_readsValley_109 rfl (by decide) (lv' := [(3, .int u19.1), (0, .ref h_t), (1, .int x1), (2, .int x2)]) rfl ?_
          refine k_goto 110 cx (tgt := 91) dX7_readsValley_110 (by decide) ?_
          refine k_lv [1, 2, 3, 0] rfl ?_
          exact ih u19.1 u19.2.1 u19.2.2.1 u19.2.2.2.1 u19.2.2.2.2.1 u19.2.2.2.2.2 _ hm k0
  unfold M_X7_readsValley at hm
  refine k_aload_n 0 cx dX7_readsValley_0 rfl 0 rfl ?_
  refine k_iconst 1 cx (v := (0 : Int32)) dX7_readsValley_1 (by decide) ?_
  refine fpX7_97 2 cx dX7_readsValley_2 0 rfl rfl rfl (by simp) (w1 := (w_X7_readsValley G h_t h_t_sheet h_t_readKind h_t_readNeeds h_t_readFrom h_t_readTo h_t_readLong h_t_kindOf h_t_needsOf h_t_fromOf h_t_toOf h_t_longOf h_t_pullOf h_t_pullAt h_t_peals h_t_swings h_t_lastRang h_t_heardSince h_t_readingOf h_t_readingAt h_t_readingIs h_t_sheetSize h_t_sheetLane h_t_hands t_fault t_bells t_tied t_ropes t_spanNow (0 : Int32) t_readBells t_readRopes t_pulls t_readings t_traceNow t_sheet t_readKind t_readNeeds t_readFrom t_readTo t_readLong)) rfl ?_
  refine k_aload_n 5 cx dX7_readsValley_5 rfl 0 rfl ?_
  refine k_iconst 6 cx (v := (0 : Int32)) dX7_readsValley_6 (by decide) ?_
  refine fpX7_104 7 cx dX7_readsValley_7 0 rfl rfl rfl (by simp) (w1 := (w_X7_readsValley G h_t h_t_sheet h_t_readKind h_t_readNeeds h_t_readFrom h_t_readTo h_t_readLong h_t_kindOf h_t_needsOf h_t_fromOf h_t_toOf h_t_longOf h_t_pullOf h_t_pullAt h_t_peals h_t_swings h_t_lastRang h_t_heardSince h_t_readingOf h_t_readingAt h_t_readingIs h_t_sheetSize h_t_sheetLane h_t_hands t_fault t_bells t_tied t_ropes t_spanNow (0 : Int32) (0 : Int32) t_readRopes t_pulls t_readings t_traceNow t_sheet t_readKind t_readNeeds t_readFrom t_readTo t_readLong)) rfl ?_
  refine k_aload_n 10 cx dX7_readsValley_10 rfl 0 rfl ?_
  refine k_iconst 11 cx (v := (0 : Int32)) dX7_readsValley_11 (by decide) ?_
  refine fpX7_111 12 cx dX7_readsValley_12 0 rfl rfl rfl (by simp) (w1 := (w_X7_readsValley G h_t h_t_sheet h_t_readKind h_t_readNeeds h_t_readFrom h_t_readTo h_t_readLong h_t_kindOf h_t_needsOf h_t_fromOf h_t_toOf h_t_longOf h_t_pullOf h_t_pullAt h_t_peals h_t_swings h_t_lastRang h_t_heardSince h_t_readingOf h_t_readingAt h_t_readingIs h_t_sheetSize h_t_sheetLane h_t_hands t_fault t_bells t_tied t_ropes t_spanNow (0 : Int32) (0 : Int32) (0 : Int32) t_pulls t_readings t_traceNow t_sheet t_readKind t_readNeeds t_readFrom t_readTo t_readLong)) rfl ?_
  refine k_aload_n 15 cx dX7_readsValley_15 rfl 0 rfl ?_
  refine k_iload_n 16 cx dX7_readsValley_16 rfl 1 rfl ?_
  refine k_iload_n 17 cx dX7_readsValley_17 rfl 2 rfl ?_
  obtain ⟨u1, hu1, hm⟩ := bnd hm
  refine k_callV 18 cx cwX7_100 (c_X7_codeAt X.2.1 G h_t h_t_sheet h_t_kindOf h_t_needsOf h_t_fromOf h_t_toOf h_t_longOf h_t_readKind h_t_readNeeds h_t_readFrom h_t_readTo h_t_readLong h_t_pullOf h_t_pullAt h_t_peals h_t_swings h_t_lastRang h_t_heardSince h_t_readingOf h_t_readingAt h_t_readingIs h_t_sheetSize h_t_sheetLane h_t_hands t_fault t_bells t_tied t_ropes t_spanNow (0 : Int32) (0 : Int32) (0 : Int32) t_pulls t_readings t_traceNow t_sheet a1 a2 hu1) dX7_readsValley_18 ⟨by decide, by decide⟩ rfl rfl (rest := []) rfl (Nat.le_of_ble_eq_true rfl) [0, 1] (by decide) rfl rfl (w2 := (w_X7_readsValley G h_t h_t_sheet h_t_readKind h_t_readNeeds h_t_readFrom h_t_readTo h_t_readLong h_t_kindOf h_t_needsOf h_t_fromOf h_t_toOf h_t_longOf h_t_pullOf h_t_pullAt h_t_peals h_t_swings h_t_lastRang h_t_heardSince h_t_readingOf h_t_readingAt h_t_readingIs h_t_sheetSize h_t_sheetLane h_t_hands t_fault t_bells t_tied t_ropes t_spanNow (0 : Int32) (0 : Int32) (0 : Int32) t_pulls t_readings t_traceNow t_sheet t_readKind t_readNeeds t_readFrom t_readTo t_readLong)) [2, 3, 4, 5, 6] 7 rfl [(h_t_readKind, .inl (G.2.1, 6, .inl t_readKind)), (h_t_readNeeds, .inl (G.2.1, 6, .inl t_readNeeds)), (h_t_readFrom, .inl (G.2.1, 8, .inl t_readFrom)), (h_t_readTo, .inl (G.2.1, 8, .inl t_readTo)), (h_t_readLong, .inl (G.2.1, 8, .inl t_readLong))] rfl rfl rfl (by decide) (st2 := [.int u1]) rfl ?_
  refine k_bipush 21 cx (v := (118 : Int32)) dX7_readsValley_21 (by decide) ?_
  refine k_icmp_ne 23 cx (tgt := 30) dX7_readsValley_23 (by decide) hm (fun hc hm => ?_) (fun hc hm => ?_)
  · refine k_iconst 26 cx (v := (1 : Int32)) dX7_readsValley_26 (by decide) ?_
    refine k_goto 27 cx (tgt := 31) dX7_readsValley_27 (by decide) ?_
    refine k_istore_n 31 cx dX7_readsValley_31 rfl (by decide) (lv' := [(3, .int (1 : Int32)), (0, .ref h_t), (1, .int a1), (2, .int a2)]) rfl ?_
    refine k_aload_n 32 cx dX7_readsValley_32 rfl 1 rfl ?_
    refine k_dup 33 cx dX7_readsValley_33 rfl ?_
    refine fgX7_97 34 cx dX7_readsValley_34 0 rfl rfl ?_
    refine k_iload_n 37 cx dX7_readsValley_37 rfl 0 rfl ?_
    refine k_if_eq_F 38 cx (tgt := 45) dX7_readsValley_38 (by decide) (by decide) ?_
    refine k_iconst 41 cx (v := (1 : Int32)) dX7_readsValley_41 (by decide) ?_
    refine k_goto 42 cx (tgt := 46) dX7_readsValley_42 (by decide) ?_
    refine k_iadd 46 cx dX7_readsValley_46 ?_
    refine k_nm hm (fun v21 hm => ?_)
    refine fpX7_97 47 cx dX7_readsValley_47 0 rfl rfl rfl (by simp) (w1 := (w_X7_readsValley G h_t h_t_sheet h_t_readKind h_t_readNeeds h_t_readFrom h_t_readTo h_t_readLong h_t_kindOf h_t_needsOf h_t_fromOf h_t_toOf h_t_longOf h_t_pullOf h_t_pullAt h_t_peals h_t_swings h_t_lastRang h_t_heardSince h_t_readingOf h_t_readingAt h_t_readingIs h_t_sheetSize h_t_sheetLane h_t_hands t_fault t_bells t_tied t_ropes t_spanNow v21 (0 : Int32) (0 : Int32) t_pulls t_readings t_traceNow t_sheet t_readKind t_readNeeds t_readFrom t_readTo t_readLong)) rfl ?_
    refine k_lv [1, 2, 3, 0] rfl ?_
    obtain ⟨u22, hu22, hm⟩ := bnd hm
    refine lp50 _ _ a1 a2 t_fault t_bells t_tied t_ropes t_spanNow (0 : Int32) t_pulls t_readings t_traceNow t_sheet t_readFrom t_readTo t_readLong 1000 (1 : Int32) v21 (0 : Int32) t_readKind t_readNeeds u22 hu22 ?_
    refine k_lv [0, 1, 2, 3] rfl ?_
    obtain ⟨u23, hu23, hm⟩ := bnd hm
    refine lp91 _ _ a1 a2 t_fault t_bells t_tied t_ropes t_spanNow u22.2.2.1 t_pulls t_readings t_traceNow t_sheet u22.2.2.2.1 u22.2.2.2.2 1000 u22.1 u22.2.1 (0 : Int32) t_readFrom t_readTo t_readLong u23 hu23 ?_
    refine k_iload_n 113 cx dX7_readsValley_113 rfl 0 rfl ?_
    obtain ⟨hb01, hm⟩ := gB_s hm
    obtain rfl := Option.some.inj hm
    exact k_zret 114 cx dX7_readsValley_114 (of_decide_eq_true hb01) rfl rfl
  · refine k_iconst 30 cx (v := (0 : Int32)) dX7_readsValley_30 (by decide) ?_
    refine k_istore_n 31 cx dX7_readsValley_31 rfl (by decide) (lv' := [(3, .int (0 : Int32)), (0, .ref h_t), (1, .int a1), (2, .int a2)]) rfl ?_
    refine k_aload_n 32 cx dX7_readsValley_32 rfl 1 rfl ?_
    refine k_dup 33 cx dX7_readsValley_33 rfl ?_
    refine fgX7_97 34 cx dX7_readsValley_34 0 rfl rfl ?_
    refine k_iload_n 37 cx dX7_readsValley_37 rfl 0 rfl ?_
    refine k_if_eq_T 38 cx (tgt := 45) dX7_readsValley_38 (by decide) (by decide) ?_
    refine k_iconst 45 cx (v := (0 : Int32)) dX7_readsValley_45 (by decide) ?_
    refine k_iadd 46 cx dX7_readsValley_46 ?_
    refine k_nm hm (fun v2 hm => ?_)
    refine fpX7_97 47 cx dX7_readsValley_47 0 rfl rfl rfl (by simp) (w1 := (w_X7_readsValley G h_t h_t_sheet h_t_readKind h_t_readNeeds h_t_readFrom h_t_readTo h_t_readLong h_t_kindOf h_t_needsOf h_t_fromOf h_t_toOf h_t_longOf h_t_pullOf h_t_pullAt h_t_peals h_t_swings h_t_lastRang h_t_heardSince h_t_readingOf h_t_readingAt h_t_readingIs h_t_sheetSize h_t_sheetLane h_t_hands t_fault t_bells t_tied t_ropes t_spanNow v2 (0 : Int32) (0 : Int32) t_pulls t_readings t_traceNow t_sheet t_readKind t_readNeeds t_readFrom t_readTo t_readLong)) rfl ?_
    refine k_lv [1, 2, 3, 0] rfl ?_
    obtain ⟨u15, hu15, hm⟩ := bnd hm
    refine lp50 _ _ a1 a2 t_fault t_bells t_tied t_ropes t_spanNow (0 : Int32) t_pulls t_readings t_traceNow t_sheet t_readFrom t_readTo t_readLong 1000 (0 : Int32) v2 (0 : Int32) t_readKind t_readNeeds u15 hu15 ?_
    refine k_lv [0, 1, 2, 3] rfl ?_
    obtain ⟨u20, hu20, hm⟩ := bnd hm
    refine lp91 _ _ a1 a2 t_fault t_bells t_tied t_ropes t_spanNow u15.2.2.1 t_pulls t_readings t_traceNow t_sheet u15.2.2.2.1 u15.2.2.2.2 1000 u15.1 u15.2.1 (0 : Int32) t_readFrom t_readTo t_readLong u20 hu20 ?_
    refine k_iload_n 113 cx dX7_readsValley_113 rfl 0 rfl ?_
    obtain ⟨hb01, hm⟩ := gB_s hm
    obtain rfl := Option.some.inj hm
    exact k_zret 114 cx dX7_readsValley_114 (of_decide_eq_true hb01) rfl rfl
def w_X7_isBeyond (G : GT) : va_W := []
def M_X7_isBeyond (a1 : Int32) (a2 : Int64) (a3 : Int32) : Option (Int32) := (if a1 < 0 then (some (1 : Int32)) else (if (lg_cmp a2 (0 : Int64)) < 0 then (some (1 : Int32)) else (if (lg_cmp ((Int32.toInt64 a1) + a2) (Int32.toInt64 a3)) ≤ 0 then (some (0 : Int32)) else (some (1 : Int32)))))
set_option maxHeartbeats 4000000 in
set_option maxRecDepth 100000 in
theorem c_X7_isBeyond (l : Launch) (G : GT) (a1 : Int32) (a2 : Int64) (a3 : Int32) {u : Int32} (hm : M_X7_isBeyond a1 a2 a3 = some u) : CT l yX7_isBeyond cX7_isBeyond 4 (some .boolean) 0 0 [.int a1, .long a2, .int a3] G (w_X7_isBeyond G) (some (.int u)) (w_X7_isBeyond G) := by
  refine ct_intro RX7 [(0, .int a1), (1, .long a2), (3, .int a3)] (by decide) rfl (Nat.le_of_ble_eq_true rfl) rfl (fun X hX cx => ?_)
  unfold M_X7_isBeyond at hm
  refine k_iload_n 0 cx dX7_isBeyond_0 rfl 0 rfl ?_
  refine k_if_lt 1 cx (tgt := 20) dX7_isBeyond_1 (by decide) hm (fun hc hm => ?_) (fun hc hm => ?_)
  · refine k_iconst 20 cx (v := (1 : Int32)) dX7_isBeyond_20 (by decide) ?_
    refine k_goto 21 cx (tgt := 25) dX7_isBeyond_21 (by decide) ?_
    obtain rfl := Option.some.inj hm
    exact k_zret 25 cx dX7_isBeyond_25 (by decide) rfl rfl
  · refine k_lload_n 4 cx dX7_isBeyond_4 rfl 1 rfl ?_
    refine k_lconst 5 cx (v := (0 : Int64)) dX7_isBeyond_5 (by decide) ?_
    refine k_lcmp 6 cx dX7_isBeyond_6 ?_
    refine k_if_lt 7 cx (tgt := 20) dX7_isBeyond_7 (by decide) hm (fun hc hm => ?_) (fun hc hm => ?_)
    · refine k_iconst 20 cx (v := (1 : Int32)) dX7_isBeyond_20 (by decide) ?_
      refine k_goto 21 cx (tgt := 25) dX7_isBeyond_21 (by decide) ?_
      obtain rfl := Option.some.inj hm
      exact k_zret 25 cx dX7_isBeyond_25 (by decide) rfl rfl
    · refine k_iload_n 10 cx dX7_isBeyond_10 rfl 0 rfl ?_
      refine k_i2l 11 cx dX7_isBeyond_11 ?_
      refine k_lload_n 12 cx dX7_isBeyond_12 rfl 1 rfl ?_
      refine k_ladd 13 cx dX7_isBeyond_13 ?_
      refine k_iload_n 14 cx dX7_isBeyond_14 rfl 2 rfl ?_
      refine k_i2l 15 cx dX7_isBeyond_15 ?_
      refine k_lcmp 16 cx dX7_isBeyond_16 ?_
      refine k_if_le 17 cx (tgt := 24) dX7_isBeyond_17 (by decide) hm (fun hc hm => ?_) (fun hc hm => ?_)
      · refine k_iconst 24 cx (v := (0 : Int32)) dX7_isBeyond_24 (by decide) ?_
        obtain rfl := Option.some.inj hm
        exact k_zret 25 cx dX7_isBeyond_25 (by decide) rfl rfl
      · refine k_iconst 20 cx (v := (1 : Int32)) dX7_isBeyond_20 (by decide) ?_
        refine k_goto 21 cx (tgt := 25) dX7_isBeyond_21 (by decide) ?_
        obtain rfl := Option.some.inj hm
        exact k_zret 25 cx dX7_isBeyond_25 (by decide) rfl rfl
set_option maxRecDepth 100000 in
theorem fgX7_68 {X : XT} {Q : State → Prop} {G : GT} {A : Nat → Prop} {nL : Nat} {lv : List (Nat × Value)} {st : List Value} {ws : va_W} {cc : ByteArray} {fr lo : Nat} {ret : Option FieldType} (pc : Nat) (cx : Cx X cc nL RX7 G fr lo ret) {a : Nat} {fs : List Value} {v : Value} (hd : decode cc pc = .ok (.getfield 68, 3)) (q0 : Nat) (he : ws[q0]? = some (a, .inr (7, fs))) (hv : fs[29]? = some v) (k : KJ X Q G A nL (pc + 3) lv (v :: st) ws) : KJ X Q G A nL pc lv (.ref a :: st) ws :=
  k_get (ref := RX7) (T := TX7) (N := 34) (ci := 7) pc cx inX7 rfl 29 (by decide) (tb_m (i := 678) rfl rfl) rfl hd q0 he hv k
set_option maxRecDepth 100000 in
theorem fgX7_71 {X : XT} {Q : State → Prop} {G : GT} {A : Nat → Prop} {nL : Nat} {lv : List (Nat × Value)} {st : List Value} {ws : va_W} {cc : ByteArray} {fr lo : Nat} {ret : Option FieldType} (pc : Nat) (cx : Cx X cc nL RX7 G fr lo ret) {a : Nat} {fs : List Value} {v : Value} (hd : decode cc pc = .ok (.getfield 71, 3)) (q0 : Nat) (he : ws[q0]? = some (a, .inr (7, fs))) (hv : fs[30]? = some v) (k : KJ X Q G A nL (pc + 3) lv (v :: st) ws) : KJ X Q G A nL pc lv (.ref a :: st) ws :=
  k_get (ref := RX7) (T := TX7) (N := 34) (ci := 7) pc cx inX7 rfl 30 (by decide) (tb_m (i := 679) rfl rfl) rfl hd q0 he hv k
set_option maxRecDepth 100000 in
theorem cwX7_125 : CWS RX7 125 yX7_isBeyond cX7_isBeyond 4 (some .boolean) 3 := ⟨tb_m (i := 776) rfl rfl, tb_m (i := 777) rfl rfl, tb_m (i := 58) rfl rfl, tb_m (i := 778) rfl rfl, ⟨by decide +kernel, by decide +kernel, by decide +kernel⟩⟩
set_option maxRecDepth 100000 in
theorem cwX7_121 : CWV RX7 121 RX7 yX7_failed cX7_failed 2 (some .int) 1 7 TX7 34 := ⟨tb_m (i := 772) rfl rfl, tb_m (i := 774) rfl rfl, tb_m (i := 30) rfl rfl, tb_m (i := 58) rfl rfl, tb_m (i := 775) rfl rfl, ⟨by decide +kernel, by decide +kernel, by decide +kernel⟩, rfl⟩
def w_X7_cellsBarred (G : GT) (h_t : Nat) (h_t_sheetSize : Nat) (h_t_sheetLane : Nat) (h_t_kindOf : Nat) (h_t_needsOf : Nat) (h_t_fromOf : Nat) (h_t_toOf : Nat) (h_t_longOf : Nat) (h_t_readKind : Nat) (h_t_readNeeds : Nat) (h_t_readFrom : Nat) (h_t_readTo : Nat) (h_t_readLong : Nat) (h_t_pullOf : Nat) (h_t_pullAt : Nat) (h_t_peals : Nat) (h_t_swings : Nat) (h_t_lastRang : Nat) (h_t_heardSince : Nat) (h_t_readingOf : Nat) (h_t_readingAt : Nat) (h_t_readingIs : Nat) (h_t_sheet : Nat) (h_t_hands : Nat) (t_fault : Int32) (t_bells : Int32) (t_tied : Int32) (t_ropes : Int32) (t_spanNow : Int32) (t_readAt : Int32) (t_readBells : Int32) (t_readRopes : Int32) (t_pulls : Int32) (t_readings : Int32) (t_traceNow : Int32) (t_sheetSize : (Nat → Int32)) (t_sheetLane : (Nat → Int32)) : va_W := [(h_t, .inr (7, [.int t_fault, .int t_bells, .ref h_t_kindOf, .ref h_t_needsOf, .int t_tied, .int t_ropes, .ref h_t_fromOf, .ref h_t_toOf, .ref h_t_longOf, .int t_spanNow, .int t_readAt, .int t_readBells, .int t_readRopes, .ref h_t_readKind, .ref h_t_readNeeds, .ref h_t_readFrom, .ref h_t_readTo, .ref h_t_readLong, .int t_pulls, .ref h_t_pullOf, .ref h_t_pullAt, .ref h_t_peals, .ref h_t_swings, .ref h_t_lastRang, .ref h_t_heardSince, .int t_readings, .ref h_t_readingOf, .ref h_t_readingAt, .ref h_t_readingIs, .ref h_t_sheetSize, .ref h_t_sheetLane, .ref h_t_sheet, .ref h_t_hands, .int t_traceNow])), (h_t_sheetSize, .inl (G.2.1, 4, .inl t_sheetSize)), (h_t_sheetLane, .inl (G.2.1, 4, .inl t_sheetLane))]
def M_X7_cellsBarred (t_fault : Int32) (t_sheetSize : (Nat → Int32)) (t_sheetLane : (Nat → Int32)) (a1 : Int32) (a2 : Int32) (a3 : Int32) (a4 : Int64) : Option (Int32 × Int32) := (gB (inb a1 4) (if (t_sheetSize (Int32.toNatClampNeg a1)) < 0 then (gB (inb a1 4) (if 0 ≤ (t_sheetSize (Int32.toNatClampNeg a1)) then (if 0 ≤ (lg_cmp a4 (0 : Int64)) then (gB (inb a1 4) ((M_X7_isBeyond a3 a4 (t_sheetSize (Int32.toNatClampNeg a1))).bind (fun u1 => (if u1 = 0 then (some ((0 : Int32), t_fault)) else ((M_X7_failed (3 : Int32)).bind (fun u2 => (some (u2.1, u2.2)))))))) else ((M_X7_failed (4 : Int32)).bind (fun u3 => (some (u3.1, u3.2))))) else ((M_X7_failed (1 : Int32)).bind (fun u4 => (some (u4.1, u4.2)))))) else (gB (inb a1 4) (if (t_sheetLane (Int32.toNatClampNeg a1)) = a2 then (gB (inb a1 4) (if 0 ≤ (t_sheetSize (Int32.toNatClampNeg a1)) then (if 0 ≤ (lg_cmp a4 (0 : Int64)) then (gB (inb a1 4) ((M_X7_isBeyond a3 a4 (t_sheetSize (Int32.toNatClampNeg a1))).bind (fun u5 => (if u5 = 0 then (some ((0 : Int32), t_fault)) else ((M_X7_failed (3 : Int32)).bind (fun u6 => (some (u6.1, u6.2)))))))) else ((M_X7_failed (4 : Int32)).bind (fun u7 => (some (u7.1, u7.2))))) else ((M_X7_failed (1 : Int32)).bind (fun u8 => (some (u8.1, u8.2)))))) else ((M_X7_failed (2 : Int32)).bind (fun u9 => (some (u9.1, u9.2))))))))
set_option maxHeartbeats 4000000 in
set_option maxRecDepth 100000 in
theorem c_X7_cellsBarred (l : Launch) (G : GT) (h_t : Nat) (h_t_sheetSize : Nat) (h_t_sheetLane : Nat) (h_t_kindOf : Nat) (h_t_needsOf : Nat) (h_t_fromOf : Nat) (h_t_toOf : Nat) (h_t_longOf : Nat) (h_t_readKind : Nat) (h_t_readNeeds : Nat) (h_t_readFrom : Nat) (h_t_readTo : Nat) (h_t_readLong : Nat) (h_t_pullOf : Nat) (h_t_pullAt : Nat) (h_t_peals : Nat) (h_t_swings : Nat) (h_t_lastRang : Nat) (h_t_heardSince : Nat) (h_t_readingOf : Nat) (h_t_readingAt : Nat) (h_t_readingIs : Nat) (h_t_sheet : Nat) (h_t_hands : Nat) (t_fault : Int32) (t_bells : Int32) (t_tied : Int32) (t_ropes : Int32) (t_spanNow : Int32) (t_readAt : Int32) (t_readBells : Int32) (t_readRopes : Int32) (t_pulls : Int32) (t_readings : Int32) (t_traceNow : Int32) (t_sheetSize : (Nat → Int32)) (t_sheetLane : (Nat → Int32)) (a1 : Int32) (a2 : Int32) (a3 : Int32) (a4 : Int64) {u : Int32 × Int32} (hm : M_X7_cellsBarred t_fault t_sheetSize t_sheetLane a1 a2 a3 a4 = some u) : CT l yX7_cellsBarred cX7_cellsBarred 6 (some .int) 1 23 [.ref h_t, .int a1, .int a2, .int a3, .long a4] G (w_X7_cellsBarred G h_t h_t_sheetSize h_t_sheetLane h_t_kindOf h_t_needsOf h_t_fromOf h_t_toOf h_t_longOf h_t_readKind h_t_readNeeds h_t_readFrom h_t_readTo h_t_readLong h_t_pullOf h_t_pullAt h_t_peals h_t_swings h_t_lastRang h_t_heardSince h_t_readingOf h_t_readingAt h_t_readingIs h_t_sheet h_t_hands t_fault t_bells t_tied t_ropes t_spanNow t_readAt t_readBells t_readRopes t_pulls t_readings t_traceNow t_sheetSize t_sheetLane) (some (.int u.1)) (w_X7_cellsBarred G h_t h_t_sheetSize h_t_sheetLane h_t_kindOf h_t_needsOf h_t_fromOf h_t_toOf h_t_longOf h_t_readKind h_t_readNeeds h_t_readFrom h_t_readTo h_t_readLong h_t_pullOf h_t_pullAt h_t_peals h_t_swings h_t_lastRang h_t_heardSince h_t_readingOf h_t_readingAt h_t_readingIs h_t_sheet h_t_hands u.2 t_bells t_tied t_ropes t_spanNow t_readAt t_readBells t_readRopes t_pulls t_readings t_traceNow t_sheetSize t_sheetLane) := by
  refine ct_intro RX7 [(0, .ref h_t), (1, .int a1), (2, .int a2), (3, .int a3), (4, .long a4)] (by decide) rfl (Nat.le_of_ble_eq_true rfl) rfl (fun X hX cx => ?_)
  unfold M_X7_cellsBarred at hm
  refine k_aload_n 0 cx dX7_cellsBarred_0 rfl 0 rfl ?_
  refine fgX7_68 1 cx dX7_cellsBarred_1 0 rfl rfl ?_
  refine k_iload_n 4 cx dX7_cellsBarred_4 rfl 1 rfl ?_
  refine k_iald 5 cx dX7_cellsBarred_5 1 rfl hm (fun hm => ?_)
  refine k_if_lt 6 cx (tgt := 25) dX7_cellsBarred_6 (by decide) hm (fun hc hm => ?_) (fun hc hm => ?_)
  · refine k_aload_n 25 cx dX7_cellsBarred_25 rfl 0 rfl ?_
    refine fgX7_68 26 cx dX7_cellsBarred_26 0 rfl rfl ?_
    refine k_iload_n 29 cx dX7_cellsBarred_29 rfl 1 rfl ?_
    refine k_iald 30 cx dX7_cellsBarred_30 1 rfl hm (fun hm => ?_)
    refine k_if_ge 31 cx (tgt := 40) dX7_cellsBarred_31 (by decide) hm (fun hc hm => ?_) (fun hc hm => ?_)
    · refine k_lload 40 cx dX7_cellsBarred_40 4 rfl ?_
      refine k_lconst 42 cx (v := (0 : Int64)) dX7_cellsBarred_42 (by decide) ?_
      refine k_lcmp 43 cx dX7_cellsBarred_43 ?_
      refine k_if_ge 44 cx (tgt := 53) dX7_cellsBarred_44 (by decide) hm (fun hc hm => ?_) (fun hc hm => ?_)
      · refine k_iload_n 53 cx dX7_cellsBarred_53 rfl 3 rfl ?_
        refine k_lload 54 cx dX7_cellsBarred_54 4 rfl ?_
        refine k_aload_n 56 cx dX7_cellsBarred_56 rfl 0 rfl ?_
        refine fgX7_68 57 cx dX7_cellsBarred_57 0 rfl rfl ?_
        refine k_iload_n 60 cx dX7_cellsBarred_60 rfl 1 rfl ?_
        refine k_iald 61 cx dX7_cellsBarred_61 1 rfl hm (fun hm => ?_)
        obtain ⟨u1, hu1, hm⟩ := bnd hm
        refine k_callS 62 cx cwX7_125 (c_X7_isBeyond X.2.1 G a3 a4 (t_sheetSize (Int32.toNatClampNeg a1)) hu1) dX7_cellsBarred_62 ⟨by decide, by decide⟩ rfl (rest := []) rfl (Nat.le_of_ble_eq_true rfl) [] (by decide) rfl rfl (w2 := (w_X7_cellsBarred G h_t h_t_sheetSize h_t_sheetLane h_t_kindOf h_t_needsOf h_t_fromOf h_t_toOf h_t_longOf h_t_readKind h_t_readNeeds h_t_readFrom h_t_readTo h_t_readLong h_t_pullOf h_t_pullAt h_t_peals h_t_swings h_t_lastRang h_t_heardSince h_t_readingOf h_t_readingAt h_t_readingIs h_t_sheet h_t_hands t_fault t_bells t_tied t_ropes t_spanNow t_readAt t_readBells t_readRopes t_pulls t_readings t_traceNow t_sheetSize t_sheetLane)) [0, 1, 2] 3 rfl [(h_t, .inr (7, [.int t_fault, .int t_bells, .ref h_t_kindOf, .ref h_t_needsOf, .int t_tied, .int t_ropes, .ref h_t_fromOf, .ref h_t_toOf, .ref h_t_longOf, .int t_spanNow, .int t_readAt, .int t_readBells, .int t_readRopes, .ref h_t_readKind, .ref h_t_readNeeds, .ref h_t_readFrom, .ref h_t_readTo, .ref h_t_readLong, .int t_pulls, .ref h_t_pullOf, .ref h_t_pullAt, .ref h_t_peals, .ref h_t_swings, .ref h_t_lastRang, .ref h_t_heardSince, .int t_readings, .ref h_t_readingOf, .ref h_t_readingAt, .ref h_t_readingIs, .ref h_t_sheetSize, .ref h_t_sheetLane, .ref h_t_sheet, .ref h_t_hands, .int t_traceNow])), (h_t_sheetSize, .inl (G.2.1, 4, .inl t_sheetSize)), (h_t_sheetLane, .inl (G.2.1, 4, .inl t_sheetLane))] rfl rfl rfl (by decide) (st2 := [.int u1]) rfl ?_
        refine k_if_eq 65 cx (tgt := 76) dX7_cellsBarred_65 (by decide) hm (fun hc hm => ?_) (fun hc hm => ?_)
        · refine k_iconst 76 cx (v := (0 : Int32)) dX7_cellsBarred_76 (by decide) ?_
          obtain rfl := Option.some.inj hm
          exact k_iret 77 cx dX7_cellsBarred_77 rfl rfl
        · refine k_aload_n 68 cx dX7_cellsBarred_68 rfl 0 rfl ?_
          refine k_iconst 69 cx (v := (3 : Int32)) dX7_cellsBarred_69 (by decide) ?_
          obtain ⟨u2, hu2, hm⟩ := bnd hm
          refine k_callV 70 cx cwX7_121 (c_X7_failed X.2.1 G h_t h_t_kindOf h_t_needsOf h_t_fromOf h_t_toOf h_t_longOf h_t_readKind h_t_readNeeds h_t_readFrom h_t_readTo h_t_readLong h_t_pullOf h_t_pullAt h_t_peals h_t_swings h_t_lastRang h_t_heardSince h_t_readingOf h_t_readingAt h_t_readingIs h_t_sheetSize h_t_sheetLane h_t_sheet h_t_hands t_fault t_bells t_tied t_ropes t_spanNow t_readAt t_readBells t_readRopes t_pulls t_readings t_traceNow (3 : Int32) hu2) dX7_cellsBarred_70 ⟨by decide, by decide⟩ rfl rfl (rest := []) rfl (Nat.le_of_ble_eq_true rfl) [0] (by decide) rfl rfl (w2 := (w_X7_cellsBarred G h_t h_t_sheetSize h_t_sheetLane h_t_kindOf h_t_needsOf h_t_fromOf h_t_toOf h_t_longOf h_t_readKind h_t_readNeeds h_t_readFrom h_t_readTo h_t_readLong h_t_pullOf h_t_pullAt h_t_peals h_t_swings h_t_lastRang h_t_heardSince h_t_readingOf h_t_readingAt h_t_readingIs h_t_sheet h_t_hands u2.2 t_bells t_tied t_ropes t_spanNow t_readAt t_readBells t_readRopes t_pulls t_readings t_traceNow t_sheetSize t_sheetLane)) [1, 2] 3 rfl [(h_t_sheetSize, .inl (G.2.1, 4, .inl t_sheetSize)), (h_t_sheetLane, .inl (G.2.1, 4, .inl t_sheetLane))] rfl rfl rfl (by decide) (st2 := [.int u2.1]) rfl ?_
          refine k_goto 73 cx (tgt := 77) dX7_cellsBarred_73 (by decide) ?_
          obtain rfl := Option.some.inj hm
          exact k_iret 77 cx dX7_cellsBarred_77 rfl rfl
      · refine k_aload_n 47 cx dX7_cellsBarred_47 rfl 0 rfl ?_
        refine k_iconst 48 cx (v := (4 : Int32)) dX7_cellsBarred_48 (by decide) ?_
        obtain ⟨u3, hu3, hm⟩ := bnd hm
        refine k_callV 49 cx cwX7_121 (c_X7_failed X.2.1 G h_t h_t_kindOf h_t_needsOf h_t_fromOf h_t_toOf h_t_longOf h_t_readKind h_t_readNeeds h_t_readFrom h_t_readTo h_t_readLong h_t_pullOf h_t_pullAt h_t_peals h_t_swings h_t_lastRang h_t_heardSince h_t_readingOf h_t_readingAt h_t_readingIs h_t_sheetSize h_t_sheetLane h_t_sheet h_t_hands t_fault t_bells t_tied t_ropes t_spanNow t_readAt t_readBells t_readRopes t_pulls t_readings t_traceNow (4 : Int32) hu3) dX7_cellsBarred_49 ⟨by decide, by decide⟩ rfl rfl (rest := []) rfl (Nat.le_of_ble_eq_true rfl) [0] (by decide) rfl rfl (w2 := (w_X7_cellsBarred G h_t h_t_sheetSize h_t_sheetLane h_t_kindOf h_t_needsOf h_t_fromOf h_t_toOf h_t_longOf h_t_readKind h_t_readNeeds h_t_readFrom h_t_readTo h_t_readLong h_t_pullOf h_t_pullAt h_t_peals h_t_swings h_t_lastRang h_t_heardSince h_t_readingOf h_t_readingAt h_t_readingIs h_t_sheet h_t_hands u3.2 t_bells t_tied t_ropes t_spanNow t_readAt t_readBells t_readRopes t_pulls t_readings t_traceNow t_sheetSize t_sheetLane)) [1, 2] 3 rfl [(h_t_sheetSize, .inl (G.2.1, 4, .inl t_sheetSize)), (h_t_sheetLane, .inl (G.2.1, 4, .inl t_sheetLane))] rfl rfl rfl (by decide) (st2 := [.int u3.1]) rfl ?_
        obtain rfl := Option.some.inj hm
        exact k_iret 52 cx dX7_cellsBarred_52 rfl rfl
    · refine k_aload_n 34 cx dX7_cellsBarred_34 rfl 0 rfl ?_
      refine k_iconst 35 cx (v := (1 : Int32)) dX7_cellsBarred_35 (by decide) ?_
      obtain ⟨u4, hu4, hm⟩ := bnd hm
      refine k_callV 36 cx cwX7_121 (c_X7_failed X.2.1 G h_t h_t_kindOf h_t_needsOf h_t_fromOf h_t_toOf h_t_longOf h_t_readKind h_t_readNeeds h_t_readFrom h_t_readTo h_t_readLong h_t_pullOf h_t_pullAt h_t_peals h_t_swings h_t_lastRang h_t_heardSince h_t_readingOf h_t_readingAt h_t_readingIs h_t_sheetSize h_t_sheetLane h_t_sheet h_t_hands t_fault t_bells t_tied t_ropes t_spanNow t_readAt t_readBells t_readRopes t_pulls t_readings t_traceNow (1 : Int32) hu4) dX7_cellsBarred_36 ⟨by decide, by decide⟩ rfl rfl (rest := []) rfl (Nat.le_of_ble_eq_true rfl) [0] (by decide) rfl rfl (w2 := (w_X7_cellsBarred G h_t h_t_sheetSize h_t_sheetLane h_t_kindOf h_t_needsOf h_t_fromOf h_t_toOf h_t_longOf h_t_readKind h_t_readNeeds h_t_readFrom h_t_readTo h_t_readLong h_t_pullOf h_t_pullAt h_t_peals h_t_swings h_t_lastRang h_t_heardSince h_t_readingOf h_t_readingAt h_t_readingIs h_t_sheet h_t_hands u4.2 t_bells t_tied t_ropes t_spanNow t_readAt t_readBells t_readRopes t_pulls t_readings t_traceNow t_sheetSize t_sheetLane)) [1, 2] 3 rfl [(h_t_sheetSize, .inl (G.2.1, 4, .inl t_sheetSize)), (h_t_sheetLane, .inl (G.2.1, 4, .inl t_sheetLane))] rfl rfl rfl (by decide) (st2 := [.int u4.1]) rfl ?_
      obtain rfl := Option.some.inj hm
      exact k_iret 39 cx dX7_cellsBarred_39 rfl rfl
  · refine k_aload_n 9 cx dX7_cellsBarred_9 rfl 0 rfl ?_
    refine fgX7_71 10 cx dX7_cellsBarred_10 0 rfl rfl ?_
    refine k_iload_n 13 cx dX7_cellsBarred_13 rfl 1 rfl ?_
    refine k_iald 14 cx dX7_cellsBarred_14 2 rfl hm (fun hm => ?_)
    refine k_iload_n 15 cx dX7_cellsBarred_15 rfl 2 rfl ?_
    refine k_icmp_eq 16 cx (tgt := 25) dX7_cellsBarred_16 (by decide) hm (fun hc hm => ?_) (fun hc hm => ?_)
    · refine k_aload_n 25 cx dX7_cellsBarred_25 rfl 0 rfl ?_
      refine fgX7_68 26 cx dX7_cellsBarred_26 0 rfl rfl ?_
      refine k_iload_n 29 cx dX7_cellsBarred_29 rfl 1 rfl ?_
      refine k_iald 30 cx dX7_cellsBarred_30 1 rfl hm (fun hm => ?_)
      refine k_if_ge 31 cx (tgt := 40) dX7_cellsBarred_31 (by decide) hm (fun hc hm => ?_) (fun hc hm => ?_)
      · refine k_lload 40 cx dX7_cellsBarred_40 4 rfl ?_
        refine k_lconst 42 cx (v := (0 : Int64)) dX7_cellsBarred_42 (by decide) ?_
        refine k_lcmp 43 cx dX7_cellsBarred_43 ?_
        refine k_if_ge 44 cx (tgt := 53) dX7_cellsBarred_44 (by decide) hm (fun hc hm => ?_) (fun hc hm => ?_)
        · refine k_iload_n 53 cx dX7_cellsBarred_53 rfl 3 rfl ?_
          refine k_lload 54 cx dX7_cellsBarred_54 4 rfl ?_
          refine k_aload_n 56 cx dX7_cellsBarred_56 rfl 0 rfl ?_
          refine fgX7_68 57 cx dX7_cellsBarred_57 0 rfl rfl ?_
          refine k_iload_n 60 cx dX7_cellsBarred_60 rfl 1 rfl ?_
          refine k_iald 61 cx dX7_cellsBarred_61 1 rfl hm (fun hm => ?_)
          obtain ⟨u5, hu5, hm⟩ := bnd hm
          refine k_callS 62 cx cwX7_125 (c_X7_isBeyond X.2.1 G a3 a4 (t_sheetSize (Int32.toNatClampNeg a1)) hu5) dX7_cellsBarred_62 ⟨by decide, by decide⟩ rfl (rest := []) rfl (Nat.le_of_ble_eq_true rfl) [] (by decide) rfl rfl (w2 := (w_X7_cellsBarred G h_t h_t_sheetSize h_t_sheetLane h_t_kindOf h_t_needsOf h_t_fromOf h_t_toOf h_t_longOf h_t_readKind h_t_readNeeds h_t_readFrom h_t_readTo h_t_readLong h_t_pullOf h_t_pullAt h_t_peals h_t_swings h_t_lastRang h_t_heardSince h_t_readingOf h_t_readingAt h_t_readingIs h_t_sheet h_t_hands t_fault t_bells t_tied t_ropes t_spanNow t_readAt t_readBells t_readRopes t_pulls t_readings t_traceNow t_sheetSize t_sheetLane)) [0, 1, 2] 3 rfl [(h_t, .inr (7, [.int t_fault, .int t_bells, .ref h_t_kindOf, .ref h_t_needsOf, .int t_tied, .int t_ropes, .ref h_t_fromOf, .ref h_t_toOf, .ref h_t_longOf, .int t_spanNow, .int t_readAt, .int t_readBells, .int t_readRopes, .ref h_t_readKind, .ref h_t_readNeeds, .ref h_t_readFrom, .ref h_t_readTo, .ref h_t_readLong, .int t_pulls, .ref h_t_pullOf, .ref h_t_pullAt, .ref h_t_peals, .ref h_t_swings, .ref h_t_lastRang, .ref h_t_heardSince, .int t_readings, .ref h_t_readingOf, .ref h_t_readingAt, .ref h_t_readingIs, .ref h_t_sheetSize, .ref h_t_sheetLane, .ref h_t_sheet, .ref h_t_hands, .int t_traceNow])), (h_t_sheetSize, .inl (G.2.1, 4, .inl t_sheetSize)), (h_t_sheetLane, .inl (G.2.1, 4, .inl t_sheetLane))] rfl rfl rfl (by decide) (st2 := [.int u5]) rfl ?_
          refine k_if_eq 65 cx (tgt := 76) dX7_cellsBarred_65 (by decide) hm (fun hc hm => ?_) (fun hc hm => ?_)
          · refine k_iconst 76 cx (v := (0 : Int32)) dX7_cellsBarred_76 (by decide) ?_
            obtain rfl := Option.some.inj hm
            exact k_iret 77 cx dX7_cellsBarred_77 rfl rfl
          · refine k_aload_n 68 cx dX7_cellsBarred_68 rfl 0 rfl ?_
            refine k_iconst 69 cx (v := (3 : Int32)) dX7_cellsBarred_69 (by decide) ?_
            obtain ⟨u6, hu6, hm⟩ := bnd hm
            refine k_callV 70 cx cwX7_121 (c_X7_failed X.2.1 G h_t h_t_kindOf h_t_needsOf h_t_fromOf h_t_toOf h_t_longOf h_t_readKind h_t_readNeeds h_t_readFrom h_t_readTo h_t_readLong h_t_pullOf h_t_pullAt h_t_peals h_t_swings h_t_lastRang h_t_heardSince h_t_readingOf h_t_readingAt h_t_readingIs h_t_sheetSize h_t_sheetLane h_t_sheet h_t_hands t_fault t_bells t_tied t_ropes t_spanNow t_readAt t_readBells t_readRopes t_pulls t_readings t_traceNow (3 : Int32) hu6) dX7_cellsBarred_70 ⟨by decide, by decide⟩ rfl rfl (rest := []) rfl (Nat.le_of_ble_eq_true rfl) [0] (by decide) rfl rfl (w2 := (w_X7_cellsBarred G h_t h_t_sheetSize h_t_sheetLane h_t_kindOf h_t_needsOf h_t_fromOf h_t_toOf h_t_longOf h_t_readKind h_t_readNeeds h_t_readFrom h_t_readTo h_t_readLong h_t_pullOf h_t_pullAt h_t_peals h_t_swings h_t_lastRang h_t_heardSince h_t_readingOf h_t_readingAt h_t_readingIs h_t_sheet h_t_hands u6.2 t_bells t_tied t_ropes t_spanNow t_readAt t_readBells t_readRopes t_pulls t_readings t_traceNow t_sheetSize t_sheetLane)) [1, 2] 3 rfl [(h_t_sheetSize, .inl (G.2.1, 4, .inl t_sheetSize)), (h_t_sheetLane, .inl (G.2.1, 4, .inl t_sheetLane))] rfl rfl rfl (by decide) (st2 := [.int u6.1]) rfl ?_
            refine k_goto 73 cx (tgt := 77) dX7_cellsBarred_73 (by decide) ?_
            obtain rfl := Option.some.inj hm
            exact k_iret 77 cx dX7_cellsBarred_77 rfl rfl
        · refine k_aload_n 47 cx dX7_cellsBarred_47 rfl 0 rfl ?_
          refine k_iconst 48 cx (v := (4 : Int32)) dX7_cellsBarred_48 (by decide) ?_
          obtain ⟨u7, hu7, hm⟩ := bnd hm
          refine k_callV 49 cx cwX7_121 (c_X7_failed X.2.1 G h_t h_t_kindOf h_t_needsOf h_t_fromOf h_t_toOf h_t_longOf h_t_readKind h_t_readNeeds h_t_readFrom h_t_readTo h_t_readLong h_t_pullOf h_t_pullAt h_t_peals h_t_swings h_t_lastRang h_t_heardSince h_t_readingOf h_t_readingAt h_t_readingIs h_t_sheetSize h_t_sheetLane h_t_sheet h_t_hands t_fault t_bells t_tied t_ropes t_spanNow t_readAt t_readBells t_readRopes t_pulls t_readings t_traceNow (4 : Int32) hu7) dX7_cellsBarred_49 ⟨by decide, by decide⟩ rfl rfl (rest := []) rfl (Nat.le_of_ble_eq_true rfl) [0] (by decide) rfl rfl (w2 := (w_X7_cellsBarred G h_t h_t_sheetSize h_t_sheetLane h_t_kindOf h_t_needsOf h_t_fromOf h_t_toOf h_t_longOf h_t_readKind h_t_readNeeds h_t_readFrom h_t_readTo h_t_readLong h_t_pullOf h_t_pullAt h_t_peals h_t_swings h_t_lastRang h_t_heardSince h_t_readingOf h_t_readingAt h_t_readingIs h_t_sheet h_t_hands u7.2 t_bells t_tied t_ropes t_spanNow t_readAt t_readBells t_readRopes t_pulls t_readings t_traceNow t_sheetSize t_sheetLane)) [1, 2] 3 rfl [(h_t_sheetSize, .inl (G.2.1, 4, .inl t_sheetSize)), (h_t_sheetLane, .inl (G.2.1, 4, .inl t_sheetLane))] rfl rfl rfl (by decide) (st2 := [.int u7.1]) rfl ?_
          obtain rfl := Option.some.inj hm
          exact k_iret 52 cx dX7_cellsBarred_52 rfl rfl
      · refine k_aload_n 34 cx dX7_cellsBarred_34 rfl 0 rfl ?_
        refine k_iconst 35 cx (v := (1 : Int32)) dX7_cellsBarred_35 (by decide) ?_
        obtain ⟨u8, hu8, hm⟩ := bnd hm
        refine k_callV 36 cx cwX7_121 (c_X7_failed X.2.1 G h_t h_t_kindOf h_t_needsOf h_t_fromOf h_t_toOf h_t_longOf h_t_readKind h_t_readNeeds h_t_readFrom h_t_readTo h_t_readLong h_t_pullOf h_t_pullAt h_t_peals h_t_swings h_t_lastRang h_t_heardSince h_t_readingOf h_t_readingAt h_t_readingIs h_t_sheetSize h_t_sheetLane h_t_sheet h_t_hands t_fault t_bells t_tied t_ropes t_spanNow t_readAt t_readBells t_readRopes t_pulls t_readings t_traceNow (1 : Int32) hu8) dX7_cellsBarred_36 ⟨by decide, by decide⟩ rfl rfl (rest := []) rfl (Nat.le_of_ble_eq_true rfl) [0] (by decide) rfl rfl (w2 := (w_X7_cellsBarred G h_t h_t_sheetSize h_t_sheetLane h_t_kindOf h_t_needsOf h_t_fromOf h_t_toOf h_t_longOf h_t_readKind h_t_readNeeds h_t_readFrom h_t_readTo h_t_readLong h_t_pullOf h_t_pullAt h_t_peals h_t_swings h_t_lastRang h_t_heardSince h_t_readingOf h_t_readingAt h_t_readingIs h_t_sheet h_t_hands u8.2 t_bells t_tied t_ropes t_spanNow t_readAt t_readBells t_readRopes t_pulls t_readings t_traceNow t_sheetSize t_sheetLane)) [1, 2] 3 rfl [(h_t_sheetSize, .inl (G.2.1, 4, .inl t_sheetSize)), (h_t_sheetLane, .inl (G.2.1, 4, .inl t_sheetLane))] rfl rfl rfl (by decide) (st2 := [.int u8.1]) rfl ?_
        obtain rfl := Option.some.inj hm
        exact k_iret 39 cx dX7_cellsBarred_39 rfl rfl
    · refine k_aload_n 19 cx dX7_cellsBarred_19 rfl 0 rfl ?_
      refine k_iconst 20 cx (v := (2 : Int32)) dX7_cellsBarred_20 (by decide) ?_
      obtain ⟨u9, hu9, hm⟩ := bnd hm
      refine k_callV 21 cx cwX7_121 (c_X7_failed X.2.1 G h_t h_t_kindOf h_t_needsOf h_t_fromOf h_t_toOf h_t_longOf h_t_readKind h_t_readNeeds h_t_readFrom h_t_readTo h_t_readLong h_t_pullOf h_t_pullAt h_t_peals h_t_swings h_t_lastRang h_t_heardSince h_t_readingOf h_t_readingAt h_t_readingIs h_t_sheetSize h_t_sheetLane h_t_sheet h_t_hands t_fault t_bells t_tied t_ropes t_spanNow t_readAt t_readBells t_readRopes t_pulls t_readings t_traceNow (2 : Int32) hu9) dX7_cellsBarred_21 ⟨by decide, by decide⟩ rfl rfl (rest := []) rfl (Nat.le_of_ble_eq_true rfl) [0] (by decide) rfl rfl (w2 := (w_X7_cellsBarred G h_t h_t_sheetSize h_t_sheetLane h_t_kindOf h_t_needsOf h_t_fromOf h_t_toOf h_t_longOf h_t_readKind h_t_readNeeds h_t_readFrom h_t_readTo h_t_readLong h_t_pullOf h_t_pullAt h_t_peals h_t_swings h_t_lastRang h_t_heardSince h_t_readingOf h_t_readingAt h_t_readingIs h_t_sheet h_t_hands u9.2 t_bells t_tied t_ropes t_spanNow t_readAt t_readBells t_readRopes t_pulls t_readings t_traceNow t_sheetSize t_sheetLane)) [1, 2] 3 rfl [(h_t_sheetSize, .inl (G.2.1, 4, .inl t_sheetSize)), (h_t_sheetLane, .inl (G.2.1, 4, .inl t_sheetLane))] rfl rfl rfl (by decide) (st2 := [.int u9.1]) rfl ?_
      obtain rfl := Option.some.inj hm
      exact k_iret 24 cx dX7_cellsBarred_24 rfl rfl
def w_X7_noSheet (G : GT) : va_W := []
def M_X7_noSheet (a1 : Int32) : Option (Int32) := ((M_X7_in (Int32.toInt64 a1) (0 : Int64) (3 : Int64)).bind (fun u1 => (if u1 = 0 then (some (1 : Int32)) else (some (0 : Int32)))))
set_option maxHeartbeats 4000000 in
set_option maxRecDepth 100000 in
theorem c_X7_noSheet (l : Launch) (G : GT) (a1 : Int32) {u : Int32} (hm : M_X7_noSheet a1 = some u) : CT l yX7_noSheet cX7_noSheet 1 (some .boolean) 1 25 [.int a1] G (w_X7_noSheet G) (some (.int u)) (w_X7_noSheet G) := by
  refine ct_intro RX7 [(0, .int a1)] (by decide) rfl (Nat.le_of_ble_eq_true rfl) rfl (fun X hX cx => ?_)
  unfold M_X7_noSheet at hm
  refine k_iload_n 0 cx dX7_noSheet_0 rfl 0 rfl ?_
  refine k_i2l 1 cx dX7_noSheet_1 ?_
  refine k_lconst 2 cx (v := (0 : Int64)) dX7_noSheet_2 (by decide) ?_
  refine k_ldc2_w 3 cx (v := (3 : Int64)) dX7_noSheet_3 (tb_m (i := 759) rfl rfl) ?_
  obtain ⟨u1, hu1, hm⟩ := bnd hm
  refine k_callS 6 cx cwX7_93 (c_X7_in X.2.1 G (Int32.toInt64 a1) (0 : Int64) (3 : Int64) hu1) dX7_noSheet_6 ⟨by decide, by decide⟩ rfl (rest := []) rfl (Nat.le_of_ble_eq_true rfl) [] (by decide) rfl rfl (w2 := (w_X7_noSheet G)) [] 0 rfl [] rfl rfl rfl (by decide) (st2 := [.int u1]) rfl ?_
  refine k_if_ne 9 cx (tgt := 16) dX7_noSheet_9 (by decide) hm (fun hc hm => ?_) (fun hc hm => ?_)
  · refine k_iconst 12 cx (v := (1 : Int32)) dX7_noSheet_12 (by decide) ?_
    refine k_goto 13 cx (tgt := 17) dX7_noSheet_13 (by decide) ?_
    obtain rfl := Option.some.inj hm
    exact k_zret 17 cx dX7_noSheet_17 (by decide) rfl rfl
  · refine k_iconst 16 cx (v := (0 : Int32)) dX7_noSheet_16 (by decide) ?_
    obtain rfl := Option.some.inj hm
    exact k_zret 17 cx dX7_noSheet_17 (by decide) rfl rfl
set_option maxRecDepth 100000 in
theorem fgX7_7 {X : XT} {Q : State → Prop} {G : GT} {A : Nat → Prop} {nL : Nat} {lv : List (Nat × Value)} {st : List Value} {ws : va_W} {cc : ByteArray} {fr lo : Nat} {ret : Option FieldType} (pc : Nat) (cx : Cx X cc nL RX7 G fr lo ret) {a : Nat} {fs : List Value} {v : Value} (hd : decode cc pc = .ok (.getfield 7, 3)) (q0 : Nat) (he : ws[q0]? = some (a, .inr (7, fs))) (hv : fs[2]? = some v) (k : KJ X Q G A nL (pc + 3) lv (v :: st) ws) : KJ X Q G A nL pc lv (.ref a :: st) ws :=
  k_get (ref := RX7) (T := TX7) (N := 34) (ci := 7) pc cx inX7 rfl 2 (by decide) (tb_m (i := 651) rfl rfl) rfl hd q0 he hv k
set_option maxRecDepth 100000 in
theorem fgX7_13 {X : XT} {Q : State → Prop} {G : GT} {A : Nat → Prop} {nL : Nat} {lv : List (Nat × Value)} {st : List Value} {ws : va_W} {cc : ByteArray} {fr lo : Nat} {ret : Option FieldType} (pc : Nat) (cx : Cx X cc nL RX7 G fr lo ret) {a : Nat} {fs : List Value} {v : Value} (hd : decode cc pc = .ok (.getfield 13, 3)) (q0 : Nat) (he : ws[q0]? = some (a, .inr (7, fs))) (hv : fs[3]? = some v) (k : KJ X Q G A nL (pc + 3) lv (v :: st) ws) : KJ X Q G A nL pc lv (.ref a :: st) ws :=
  k_get (ref := RX7) (T := TX7) (N := 34) (ci := 7) pc cx inX7 rfl 3 (by decide) (tb_m (i := 652) rfl rfl) rfl hd q0 he hv k
set_option maxRecDepth 100000 in
theorem fgX7_16 {X : XT} {Q : State → Prop} {G : GT} {A : Nat → Prop} {nL : Nat} {lv : List (Nat × Value)} {st : List Value} {ws : va_W} {cc : ByteArray} {fr lo : Nat} {ret : Option FieldType} (pc : Nat) (cx : Cx X cc nL RX7 G fr lo ret) {a : Nat} {fs : List Value} {v : Value} (hd : decode cc pc = .ok (.getfield 16, 3)) (q0 : Nat) (he : ws[q0]? = some (a, .inr (7, fs))) (hv : fs[6]? = some v) (k : KJ X Q G A nL (pc + 3) lv (v :: st) ws) : KJ X Q G A nL pc lv (.ref a :: st) ws :=
  k_get (ref := RX7) (T := TX7) (N := 34) (ci := 7) pc cx inX7 rfl 6 (by decide) (tb_m (i := 655) rfl rfl) rfl hd q0 he hv k
set_option maxRecDepth 100000 in
theorem fgX7_19 {X : XT} {Q : State → Prop} {G : GT} {A : Nat → Prop} {nL : Nat} {lv : List (Nat × Value)} {st : List Value} {ws : va_W} {cc : ByteArray} {fr lo : Nat} {ret : Option FieldType} (pc : Nat) (cx : Cx X cc nL RX7 G fr lo ret) {a : Nat} {fs : List Value} {v : Value} (hd : decode cc pc = .ok (.getfield 19, 3)) (q0 : Nat) (he : ws[q0]? = some (a, .inr (7, fs))) (hv : fs[7]? = some v) (k : KJ X Q G A nL (pc + 3) lv (v :: st) ws) : KJ X Q G A nL pc lv (.ref a :: st) ws :=
  k_get (ref := RX7) (T := TX7) (N := 34) (ci := 7) pc cx inX7 rfl 7 (by decide) (tb_m (i := 656) rfl rfl) rfl hd q0 he hv k
set_option maxRecDepth 100000 in
theorem fgX7_22 {X : XT} {Q : State → Prop} {G : GT} {A : Nat → Prop} {nL : Nat} {lv : List (Nat × Value)} {st : List Value} {ws : va_W} {cc : ByteArray} {fr lo : Nat} {ret : Option FieldType} (pc : Nat) (cx : Cx X cc nL RX7 G fr lo ret) {a : Nat} {fs : List Value} {v : Value} (hd : decode cc pc = .ok (.getfield 22, 3)) (q0 : Nat) (he : ws[q0]? = some (a, .inr (7, fs))) (hv : fs[8]? = some v) (k : KJ X Q G A nL (pc + 3) lv (v :: st) ws) : KJ X Q G A nL pc lv (.ref a :: st) ws :=
  k_get (ref := RX7) (T := TX7) (N := 34) (ci := 7) pc cx inX7 rfl 8 (by decide) (tb_m (i := 657) rfl rfl) rfl hd q0 he hv k
set_option maxRecDepth 100000 in
theorem fgX7_145 {X : XT} {Q : State → Prop} {G : GT} {A : Nat → Prop} {nL : Nat} {lv : List (Nat × Value)} {st : List Value} {ws : va_W} {cc : ByteArray} {fr lo : Nat} {ret : Option FieldType} (pc : Nat) (cx : Cx X cc nL RX7 G fr lo ret) {a : Nat} {fs : List Value} {v : Value} (hd : decode cc pc = .ok (.getfield 145, 3)) (q0 : Nat) (he : ws[q0]? = some (a, .inr (7, fs))) (hv : fs[5]? = some v) (k : KJ X Q G A nL (pc + 3) lv (v :: st) ws) : KJ X Q G A nL pc lv (.ref a :: st) ws :=
  k_get (ref := RX7) (T := TX7) (N := 34) (ci := 7) pc cx inX7 rfl 5 (by decide) (tb_m (i := 654) rfl rfl) rfl hd q0 he hv k
set_option maxRecDepth 100000 in
theorem fpX7_90 {X : XT} {Q : State → Prop} {G : GT} {A : Nat → Prop} {nL : Nat} {lv : List (Nat × Value)} {st : List Value} {ws : va_W} {cc : ByteArray} {fr lo : Nat} {ret : Option FieldType} (pc : Nat) (cx : Cx X cc nL RX7 G fr lo ret) {a : Nat} {fs : List Value} {v : Value} (hd : decode cc pc = .ok (.putfield 90, 3)) (q0 : Nat) (he : ws[q0]? = some (a, .inr (7, fs))) (hn : narrow .int v = v) (hfit : fits .int v = true) (hlen : 1 < fs.length) (w1 : va_W) (hw : ws.set q0 (a, .inr (7, fs.set 1 v)) = w1) (k : KJ X Q G A nL (pc + 3) lv st w1) : KJ X Q G A nL pc lv (v :: .ref a :: st) ws :=
  k_put (ref := RX7) (T := TX7) (N := 34) (ci := 7) (ty := .int) pc cx inX7 rfl tyX7 tyX7_ok nmX7 1 (by decide) (tb_m (i := 650) rfl rfl) rfl rfl (by decide +kernel) hd q0 he hn hfit hlen w1 hw k
set_option maxRecDepth 100000 in
theorem fpX7_145 {X : XT} {Q : State → Prop} {G : GT} {A : Nat → Prop} {nL : Nat} {lv : List (Nat × Value)} {st : List Value} {ws : va_W} {cc : ByteArray} {fr lo : Nat} {ret : Option FieldType} (pc : Nat) (cx : Cx X cc nL RX7 G fr lo ret) {a : Nat} {fs : List Value} {v : Value} (hd : decode cc pc = .ok (.putfield 145, 3)) (q0 : Nat) (he : ws[q0]? = some (a, .inr (7, fs))) (hn : narrow .int v = v) (hfit : fits .int v = true) (hlen : 5 < fs.length) (w1 : va_W) (hw : ws.set q0 (a, .inr (7, fs.set 5 v)) = w1) (k : KJ X Q G A nL (pc + 3) lv st w1) : KJ X Q G A nL pc lv (v :: .ref a :: st) ws :=
  k_put (ref := RX7) (T := TX7) (N := 34) (ci := 7) (ty := .int) pc cx inX7 rfl tyX7 tyX7_ok nmX7 5 (by decide) (tb_m (i := 654) rfl rfl) rfl rfl (by decide +kernel) hd q0 he hn hfit hlen w1 hw k
set_option maxRecDepth 100000 in
theorem fpX7_148 {X : XT} {Q : State → Prop} {G : GT} {A : Nat → Prop} {nL : Nat} {lv : List (Nat × Value)} {st : List Value} {ws : va_W} {cc : ByteArray} {fr lo : Nat} {ret : Option FieldType} (pc : Nat) (cx : Cx X cc nL RX7 G fr lo ret) {a : Nat} {fs : List Value} {v : Value} (hd : decode cc pc = .ok (.putfield 148, 3)) (q0 : Nat) (he : ws[q0]? = some (a, .inr (7, fs))) (hn : narrow .int v = v) (hfit : fits .int v = true) (hlen : 4 < fs.length) (w1 : va_W) (hw : ws.set q0 (a, .inr (7, fs.set 4 v)) = w1) (k : KJ X Q G A nL (pc + 3) lv st w1) : KJ X Q G A nL pc lv (v :: .ref a :: st) ws :=
  k_put (ref := RX7) (T := TX7) (N := 34) (ci := 7) (ty := .int) pc cx inX7 rfl tyX7 tyX7_ok nmX7 4 (by decide) (tb_m (i := 653) rfl rfl) rfl rfl (by decide +kernel) hd q0 he hn hfit hlen w1 hw k
set_option maxRecDepth 100000 in
theorem fpX7_151 {X : XT} {Q : State → Prop} {G : GT} {A : Nat → Prop} {nL : Nat} {lv : List (Nat × Value)} {st : List Value} {ws : va_W} {cc : ByteArray} {fr lo : Nat} {ret : Option FieldType} (pc : Nat) (cx : Cx X cc nL RX7 G fr lo ret) {a : Nat} {fs : List Value} {v : Value} (hd : decode cc pc = .ok (.putfield 151, 3)) (q0 : Nat) (he : ws[q0]? = some (a, .inr (7, fs))) (hn : narrow .int v = v) (hfit : fits .int v = true) (hlen : 9 < fs.length) (w1 : va_W) (hw : ws.set q0 (a, .inr (7, fs.set 9 v)) = w1) (k : KJ X Q G A nL (pc + 3) lv st w1) : KJ X Q G A nL pc lv (v :: .ref a :: st) ws :=
  k_put (ref := RX7) (T := TX7) (N := 34) (ci := 7) (ty := .int) pc cx inX7 rfl tyX7 tyX7_ok nmX7 9 (by decide) (tb_m (i := 658) rfl rfl) rfl rfl (by decide +kernel) hd q0 he hn hfit hlen w1 hw k
set_option maxRecDepth 100000 in
theorem fpX7_154 {X : XT} {Q : State → Prop} {G : GT} {A : Nat → Prop} {nL : Nat} {lv : List (Nat × Value)} {st : List Value} {ws : va_W} {cc : ByteArray} {fr lo : Nat} {ret : Option FieldType} (pc : Nat) (cx : Cx X cc nL RX7 G fr lo ret) {a : Nat} {fs : List Value} {v : Value} (hd : decode cc pc = .ok (.putfield 154, 3)) (q0 : Nat) (he : ws[q0]? = some (a, .inr (7, fs))) (hn : narrow .int v = v) (hfit : fits .int v = true) (hlen : 18 < fs.length) (w1 : va_W) (hw : ws.set q0 (a, .inr (7, fs.set 18 v)) = w1) (k : KJ X Q G A nL (pc + 3) lv st w1) : KJ X Q G A nL pc lv (v :: .ref a :: st) ws :=
  k_put (ref := RX7) (T := TX7) (N := 34) (ci := 7) (ty := .int) pc cx inX7 rfl tyX7 tyX7_ok nmX7 18 (by decide) (tb_m (i := 667) rfl rfl) rfl rfl (by decide +kernel) hd q0 he hn hfit hlen w1 hw k
set_option maxRecDepth 100000 in
theorem fpX7_157 {X : XT} {Q : State → Prop} {G : GT} {A : Nat → Prop} {nL : Nat} {lv : List (Nat × Value)} {st : List Value} {ws : va_W} {cc : ByteArray} {fr lo : Nat} {ret : Option FieldType} (pc : Nat) (cx : Cx X cc nL RX7 G fr lo ret) {a : Nat} {fs : List Value} {v : Value} (hd : decode cc pc = .ok (.putfield 157, 3)) (q0 : Nat) (he : ws[q0]? = some (a, .inr (7, fs))) (hn : narrow .int v = v) (hfit : fits .int v = true) (hlen : 25 < fs.length) (w1 : va_W) (hw : ws.set q0 (a, .inr (7, fs.set 25 v)) = w1) (k : KJ X Q G A nL (pc + 3) lv st w1) : KJ X Q G A nL pc lv (v :: .ref a :: st) ws :=
  k_put (ref := RX7) (T := TX7) (N := 34) (ci := 7) (ty := .int) pc cx inX7 rfl tyX7 tyX7_ok nmX7 25 (by decide) (tb_m (i := 674) rfl rfl) rfl rfl (by decide +kernel) hd q0 he hn hfit hlen w1 hw k
set_option maxRecDepth 100000 in
theorem cwX7_129 : CWS RX7 129 yX7_noSheet cX7_noSheet 1 (some .boolean) 1 := ⟨tb_m (i := 756) rfl rfl, tb_m (i := 757) rfl rfl, tb_m (i := 58) rfl rfl, tb_m (i := 758) rfl rfl, ⟨by decide +kernel, by decide +kernel, by decide +kernel⟩⟩
set_option maxRecDepth 100000 in
theorem cwX7_133 : CWV RX7 133 RX7 yX7_refused cX7_refused 2 (some .int) 1 7 TX7 34 := ⟨tb_m (i := 763) rfl rfl, tb_m (i := 765) rfl rfl, tb_m (i := 28) rfl rfl, tb_m (i := 58) rfl rfl, tb_m (i := 766) rfl rfl, ⟨by decide +kernel, by decide +kernel, by decide +kernel⟩, rfl⟩
set_option maxRecDepth 100000 in
theorem cwX7_138 : CWV RX7 138 RX7 yX7_cellsBarred cX7_cellsBarred 6 (some .int) 4 7 TX7 34 := ⟨tb_m (i := 768) rfl rfl, tb_m (i := 770) rfl rfl, tb_m (i := 29) rfl rfl, tb_m (i := 58) rfl rfl, tb_m (i := 771) rfl rfl, ⟨by decide +kernel, by decide +kernel, by decide +kernel⟩, rfl⟩
set_option maxRecDepth 100000 in
theorem cwX7_142 : CWV RX7 142 RX7 yX7_readsValley cX7_readsValley 4 (some .boolean) 2 7 TX7 34 := ⟨tb_m (i := 779) rfl rfl, tb_m (i := 781) rfl rfl, tb_m (i := 31) rfl rfl, tb_m (i := 58) rfl rfl, tb_m (i := 782) rfl rfl, ⟨by decide +kernel, by decide +kernel, by decide +kernel⟩, rfl⟩
def w_X7_valley (G : GT) (h_t : Nat) (h_t_sheetSize : Nat) (h_t_sheetLane : Nat) (h_t_sheet : Nat) (h_t_readKind : Nat) (h_t_readNeeds : Nat) (h_t_readFrom : Nat) (h_t_readTo : Nat) (h_t_readLong : Nat) (h_t_kindOf : Nat) (h_t_needsOf : Nat) (h_t_fromOf : Nat) (h_t_toOf : Nat) (h_t_longOf : Nat) (h_t_pullOf : Nat) (h_t_pullAt : Nat) (h_t_peals : Nat) (h_t_swings : Nat) (h_t_lastRang : Nat) (h_t_heardSince : Nat) (h_t_readingOf : Nat) (h_t_readingAt : Nat) (h_t_readingIs : Nat) (h_t_hands : Nat) (t_fault : Int32) (t_bells : Int32) (t_tied : Int32) (t_ropes : Int32) (t_spanNow : Int32) (t_readAt : Int32) (t_readBells : Int32) (t_readRopes : Int32) (t_pulls : Int32) (t_readings : Int32) (t_traceNow : Int32) (t_sheetSize : (Nat → Int32)) (t_sheetLane : (Nat → Int32)) (t_sheet : (Nat → Int32)) (t_readKind : (Nat → Int32)) (t_readNeeds : (Nat → Int32)) (t_readFrom : (Nat → Int32)) (t_readTo : (Nat → Int32)) (t_readLong : (Nat → Int32)) (t_kindOf : (Nat → Int32)) (t_needsOf : (Nat → Int32)) (t_fromOf : (Nat → Int32)) (t_toOf : (Nat → Int32)) (t_longOf : (Nat → Int32)) : va_W := [(h_t, .inr (7, [.int t_fault, .int t_bells, .ref h_t_kindOf, .ref h_t_needsOf, .int t_tied, .int t_ropes, .ref h_t_fromOf, .ref h_t_toOf, .ref h_t_longOf, .int t_spanNow, .int t_readAt, .int t_readBells, .int t_readRopes, .ref h_t_readKind, .ref h_t_readNeeds, .ref h_t_readFrom, .ref h_t_readTo, .ref h_t_readLong, .int t_pulls, .ref h_t_pullOf, .ref h_t_pullAt, .ref h_t_peals, .ref h_t_swings, .ref h_t_lastRang, .ref h_t_heardSince, .int t_readings, .ref h_t_readingOf, .ref h_t_readingAt, .ref h_t_readingIs, .ref h_t_sheetSize, .ref h_t_sheetLane, .ref h_t_sheet, .ref h_t_hands, .int t_traceNow])), (h_t_sheetSize, .inl (G.2.1, 4, .inl t_sheetSize)), (h_t_sheetLane, .inl (G.2.1, 4, .inl t_sheetLane)), (h_t_sheet, .inl (G.2.1, 240, .inl t_sheet)), (h_t_readKind, .inl (G.2.1, 6, .inl t_readKind)), (h_t_readNeeds, .inl (G.2.1, 6, .inl t_readNeeds)), (h_t_readFrom, .inl (G.2.1, 8, .inl t_readFrom)), (h_t_readTo, .inl (G.2.1, 8, .inl t_readTo)), (h_t_readLong, .inl (G.2.1, 8, .inl t_readLong)), (h_t_kindOf, .inl (G.2.1, 6, .inl t_kindOf)), (h_t_needsOf, .inl (G.2.1, 6, .inl t_needsOf)), (h_t_fromOf, .inl (G.2.1, 9, .inl t_fromOf)), (h_t_toOf, .inl (G.2.1, 9, .inl t_toOf)), (h_t_longOf, .inl (G.2.1, 9, .inl t_longOf))]
def L_X7_valley_98 (t_bells : Int32) (t_readKind : (Nat → Int32)) (t_readNeeds : (Nat → Int32)) : Nat → Int32 → (Nat → Int32) → (Nat → Int32) → Option (Int32 × (Nat → Int32) × (Nat → Int32))
  | 0, _, _, _ => none
  | n + 1, x6, t_kindOf, t_needsOf => (if t_bells ≤ x6 then (some (x6, t_kindOf, t_needsOf)) else (gB (inb x6 6) (gB (inb x6 6) (nme (upd t_kindOf (Int32.toNatClampNeg x6) (t_readKind (Int32.toNatClampNeg x6))) (fun f14 => (gB (inb x6 6) (gB (inb x6 6) (nme (upd t_needsOf (Int32.toNatClampNeg x6) (t_readNeeds (Int32.toNatClampNeg x6))) (fun f15 => (nme (x6 + (1 : Int32)) (fun v16 => (L_X7_valley_98 t_bells t_readKind t_readNeeds n v16 f14 f15))))))))))))
def L_X7_valley_144 (t_ropes : Int32) (t_readFrom : (Nat → Int32)) (t_readTo : (Nat → Int32)) (t_readLong : (Nat → Int32)) : Nat → Int32 → (Nat → Int32) → (Nat → Int32) → (Nat → Int32) → Option (Int32 × (Nat → Int32) × (Nat → Int32) × (Nat → Int32))
  | 0, _, _, _, _ => none
  | n + 1, x6, t_fromOf, t_toOf, t_longOf => (if t_ropes ≤ x6 then (some (x6, t_fromOf, t_toOf, t_longOf)) else (gB (inb x6 8) (gB (inb x6 9) (nme (upd t_fromOf (Int32.toNatClampNeg x6) (t_readFrom (Int32.toNatClampNeg x6))) (fun f30 => (gB (inb x6 8) (gB (inb x6 9) (nme (upd t_toOf (Int32.toNatClampNeg x6) (t_readTo (Int32.toNatClampNeg x6))) (fun f31 => (gB (inb x6 8) (gB (inb x6 9) (nme (upd t_longOf (Int32.toNatClampNeg x6) (t_readLong (Int32.toNatClampNeg x6))) (fun f32 => (nme (x6 + (1 : Int32)) (fun v33 => (L_X7_valley_144 t_ropes t_readFrom t_readTo t_readLong n v33 f30 f31 f32))))))))))))))))
def M_X7_valley (t_fault : Int32) (t_bells : Int32) (t_tied : Int32) (t_ropes : Int32) (t_spanNow : Int32) (t_readAt : Int32) (t_readBells : Int32) (t_readRopes : Int32) (t_pulls : Int32) (t_readings : Int32) (t_sheetSize : (Nat → Int32)) (t_sheetLane : (Nat → Int32)) (t_sheet : (Nat → Int32)) (t_readKind : (Nat → Int32)) (t_readNeeds : (Nat → Int32)) (t_readFrom : (Nat → Int32)) (t_readTo : (Nat → Int32)) (t_readLong : (Nat → Int32)) (t_kindOf : (Nat → Int32)) (t_needsOf : (Nat → Int32)) (t_fromOf : (Nat → Int32)) (t_toOf : (Nat → Int32)) (t_longOf : (Nat → Int32)) (a1 : Int32) (a2 : Int32) (a3 : Int32) (a4 : Int32) : Option (Int32 × Int32 × Int32 × Int32 × Int32 × Int32 × Int32 × Int32 × Int32 × Int32 × Int32 × (Nat → Int32) × (Nat → Int32) × (Nat → Int32) × (Nat → Int32) × (Nat → Int32) × (Nat → Int32) × (Nat → Int32) × (Nat → Int32) × (Nat → Int32) × (Nat → Int32)) := ((M_X7_noSheet a1).bind (fun u1 => (if u1 = 0 then ((M_X7_in (Int32.toInt64 a2) (0 : Int64) (2 : Int64)).bind (fun u2 => (if u2 = 0 then ((M_X7_refused (-2 : Int32)).bind (fun u37 => (some (u37.1, u37.2, t_bells, t_tied, t_ropes, t_spanNow, t_readAt, t_readBells, t_readRopes, t_pulls, t_readings, t_readKind, t_readNeeds, t_readFrom, t_readTo, t_readLong, t_kindOf, t_needsOf, t_fromOf, t_toOf, t_longOf)))) else ((M_X7_cellsBarred t_fault t_sheetSize t_sheetLane a1 a2 a3 (Int32.toInt64 a4)).bind (fun u3 => (if 0 ≤ u3.1 then ((M_X7_readsValley t_sheet t_readKind t_readNeeds t_readFrom t_readTo t_readLong (((60 : Int32) * a1) + a3) a4).bind (fun u4 => (if u4.1 = 0 then ((M_X7_refused ((-100 : Int32) - u4.2.1)).bind (fun u36 => (some (u36.1, u36.2, t_bells, t_tied, t_ropes, t_spanNow, u4.2.1, u4.2.2.1, u4.2.2.2.1, t_pulls, t_readings, u4.2.2.2.2.1, u4.2.2.2.2.2.1, u4.2.2.2.2.2.2.1, u4.2.2.2.2.2.2.2.1, u4.2.2.2.2.2.2.2.2, t_kindOf, t_needsOf, t_fromOf, t_toOf, t_longOf)))) else ((L_X7_valley_98 u4.2.2.1 u4.2.2.2.2.1 u4.2.2.2.2.2.1 1000 (0 : Int32) t_kindOf t_needsOf).bind (fun u17 => ((L_X7_valley_144 u4.2.2.2.1 u4.2.2.2.2.2.2.1 u4.2.2.2.2.2.2.2.1 u4.2.2.2.2.2.2.2.2 1000 (0 : Int32) t_fromOf t_toOf t_longOf).bind (fun u34 => ((M_X7_refused u4.2.2.1).bind (fun u35 => (some (u35.1, u35.2, u4.2.2.1, (0 : Int32), u4.2.2.2.1, (2 : Int32), u4.2.1, u4.2.2.1, u4.2.2.2.1, (0 : Int32), (0 : Int32), u4.2.2.2.2.1, u4.2.2.2.2.2.1, u4.2.2.2.2.2.2.1, u4.2.2.2.2.2.2.2.1, u4.2.2.2.2.2.2.2.2, u17.2.1, u17.2.2, u34.2.1, u34.2.2.1, u34.2.2.2))))))))))) else (some (u3.1, u3.2, t_bells, t_tied, t_ropes, t_spanNow, t_readAt, t_readBells, t_readRopes, t_pulls, t_readings, t_readKind, t_readNeeds, t_readFrom, t_readTo, t_readLong, t_kindOf, t_needsOf, t_fromOf, t_toOf, t_longOf)))))))) else ((M_X7_refused (-1 : Int32)).bind (fun u38 => (some (u38.1, u38.2, t_bells, t_tied, t_ropes, t_spanNow, t_readAt, t_readBells, t_readRopes, t_pulls, t_readings, t_readKind, t_readNeeds, t_readFrom, t_readTo, t_readLong, t_kindOf, t_needsOf, t_fromOf, t_toOf, t_longOf)))))))
set_option maxHeartbeats 4000000 in
set_option maxRecDepth 100000 in
theorem c_X7_valley (l : Launch) (G : GT) (h_t : Nat) (h_t_sheetSize : Nat) (h_t_sheetLane : Nat) (h_t_sheet : Nat) (h_t_readKind : Nat) (h_t_readNeeds : Nat) (h_t_readFrom : Nat) (h_t_readTo : Nat) (h_t_readLong : Nat) (h_t_kindOf : Nat) (h_t_needsOf : Nat) (h_t_fromOf : Nat) (h_t_toOf : Nat) (h_t_longOf : Nat) (h_t_pullOf : Nat) (h_t_pullAt : Nat) (h_t_peals : Nat) (h_t_swings : Nat) (h_t_lastRang : Nat) (h_t_heardSince : Nat) (h_t_readingOf : Nat) (h_t_readingAt : Nat) (h_t_readingIs : Nat) (h_t_hands : Nat) (t_fault : Int32) (t_bells : Int32) (t_tied : Int32) (t_ropes : Int32) (t_spanNow : Int32) (t_readAt : Int32) (t_readBells : Int32) (t_readRopes : Int32) (t_pulls : Int32) (t_readings : Int32) (t_traceNow : Int32) (t_sheetSize : (Nat → Int32)) (t_sheetLane : (Nat → Int32)) (t_sheet : (Nat → Int32)) (t_readKind : (Nat → Int32)) (t_readNeeds : (Nat → Int32)) (t_readFrom : (Nat → Int32)) (t_readTo : (Nat → Int32)) (t_readLong : (Nat → Int32)) (t_kindOf : (Nat → Int32)) (t_needsOf : (Nat → Int32)) (t_fromOf : (Nat → Int32)) (t_toOf : (Nat → Int32)) (t_longOf : (Nat → Int32)) (a1 : Int32) (a2 : Int32) (a3 : Int32) (a4 : Int32) {u : Int32 × Int32 × Int32 × Int32 × Int32 × Int32 × Int32 × Int32 × Int32 × Int32 × Int32 × (Nat → Int32) × (Nat → Int32) × (Nat → Int32) × (Nat → Int32) × (Nat → Int32) × (Nat → Int32) × (Nat → Int32) × (Nat → Int32) × (Nat → Int32) × (Nat → Int32)} (hm : M_X7_valley t_fault t_bells t_tied t_ropes t_spanNow t_readAt t_readBells t_readRopes t_pulls t_readings t_sheetSize t_sheetLane t_sheet t_readKind t_readNeeds t_readFrom t_readTo t_readLong t_kindOf t_needsOf t_fromOf t_toOf t_longOf a1 a2 a3 a4 = some u) : CT l yX7_valley cX7_valley 7 (some .int) 4 99 [.ref h_t, .int a1, .int a2, .int a3, .int a4] G (w_X7_valley G h_t h_t_sheetSize h_t_sheetLane h_t_sheet h_t_readKind h_t_readNeeds h_t_readFrom h_t_readTo h_t_readLong h_t_kindOf h_t_needsOf h_t_fromOf h_t_toOf h_t_longOf h_t_pullOf h_t_pullAt h_t_peals h_t_swings h_t_lastRang h_t_heardSince h_t_readingOf h_t_readingAt h_t_readingIs h_t_hands t_fault t_bells t_tied t_ropes t_spanNow t_readAt t_readBells t_readRopes t_pulls t_readings t_traceNow t_sheetSize t_sheetLane t_sheet t_readKind t_readNeeds t_readFrom t_readTo t_readLong t_kindOf t_needsOf t_fromOf t_toOf t_longOf) (some (.int u.1)) (w_X7_valley G h_t h_t_sheetSize h_t_sheetLane h_t_sheet h_t_readKind h_t_readNeeds h_t_readFrom h_t_readTo h_t_readLong h_t_kindOf h_t_needsOf h_t_fromOf h_t_toOf h_t_longOf h_t_pullOf h_t_pullAt h_t_peals h_t_swings h_t_lastRang h_t_heardSince h_t_readingOf h_t_readingAt h_t_readingIs h_t_hands u.2.1 u.2.2.1 u.2.2.2.1 u.2.2.2.2.1 u.2.2.2.2.2.1 u.2.2.2.2.2.2.1 u.2.2.2.2.2.2.2.1 u.2.2.2.2.2.2.2.2.1 u.2.2.2.2.2.2.2.2.2.1 u.2.2.2.2.2.2.2.2.2.2.1 t_traceNow t_sheetSize t_sheetLane t_sheet u.2.2.2.2.2.2.2.2.2.2.2.1 u.2.2.2.2.2.2.2.2.2.2.2.2.1 u.2.2.2.2.2.2.2.2.2.2.2.2.2.1 u.2.2.2.2.2.2.2.2.2.2.2.2.2.2.1 u.2.2.2.2.2.2.2.2.2.2.2.2.2.2.2.1 u.2.2.2.2.2.2.2.2.2.2.2.2.2.2.2.2.1 u.2.2.2.2.2.2.2.2.2.2.2.2.2.2.2.2.2.1 u.2.2.2.2.2.2.2.2.2.2.2.2.2.2.2.2.2.2.1 u.2.2.2.2.2.2.2.2.2.2.2.2.2.2.2.2.2.2.2.1 u.2.2.2.2.2.2.2.2.2.2.2.2.2.2.2.2.2.2.2.2) := by
  refine ct_intro RX7 [(0, .ref h_t), (1, .int a1), (2, .int a2), (3, .int a3), (4, .int a4)] (by decide) rfl (Nat.le_of_ble_eq_true rfl) rfl (fun X hX cx => ?_)
  have lp98 : ∀ (Q : State → Prop) (A : Nat → Prop) (t_fault : Int32) (t_bells : Int32) (t_tied : Int32) (t_ropes : Int32) (t_spanNow : Int32) (t_readAt : Int32) (t_readBells : Int32) (t_readRopes : Int32) (t_pulls : Int32) (t_readings : Int32) (t_traceNow : Int32) (t_sheetSize : (Nat → Int32)) (t_sheetLane : (Nat → Int32)) (t_sheet : (Nat → Int32)) (t_readKind : (Nat → Int32)) (t_readNeeds : (Nat → Int32)) (t_readFrom : (Nat → Int32)) (t_readTo : (Nat → Int32)) (t_readLong : (Nat → Int32)) (t_fromOf : (Nat → Int32)) (t_toOf : (Nat → Int32)) (t_longOf : (Nat → Int32)) (n : Nat) (x6 : Int32) (t_kindOf : (Nat → Int32)) (t_needsOf : (Nat → Int32)) (y : Int32 × (Nat → Int32) × (Nat → Int32)), L_X7_valley_98 t_bells t_readKind t_readNeeds n x6 t_kindOf t_needsOf = some y → (KJ X Q G A 7 141 [(0, .ref h_t)] [] (w_X7_valley G h_t h_t_sheetSize h_t_sheetLane h_t_sheet h_t_readKind h_t_readNeeds h_t_readFrom h_t_readTo h_t_readLong h_t_kindOf h_t_needsOf h_t_fromOf h_t_toOf h_t_longOf h_t_pullOf h_t_pullAt h_t_peals h_t_swings h_t_lastRang h_t_heardSince h_t_readingOf h_t_readingAt h_t_readingIs h_t_hands t_fault t_bells t_tied t_ropes t_spanNow t_readAt t_readBells t_readRopes t_pulls t_readings t_traceNow t_sheetSize t_sheetLane t_sheet t_readKind t_readNeeds t_readFrom t_readTo t_readLong y.2.1 y.2.2 t_fromOf t_toOf t_longOf)) → KJ X Q G A 7 98 [(0, .ref h_t), (6, .int x6)] [] (w_X7_valley G h_t h_t_sheetSize h_t_sheetLane h_t_sheet h_t_readKind h_t_readNeeds h_t_readFrom h_t_readTo h_t_readLong h_t_kindOf h_t_needsOf h_t_fromOf h_t_toOf h_t_longOf h_t_pullOf h_t_pullAt h_t_peals h_t_swings h_t_lastRang h_t_heardSince h_t_readingOf h_t_readingAt h_t_readingIs h_t_hands t_fault t_bells t_tied t_ropes t_spanNow t_readAt t_readBells t_readRopes t_pulls t_readings t_traceNow t_sheetSize t_sheetLane t_sheet t_readKind t_readNeeds t_readFrom t_readTo t_readLong t_kindOf t_needsOf t_fromOf t_toOf t_longOf) := by
    intro Q A t_fault t_bells t_tied t_ropes t_spanNow t_readAt t_readBells t_readRopes t_pulls t_readings t_traceNow t_sheetSize t_sheetLane t_sheet t_readKind t_readNeeds t_readFrom t_readTo t_readLong t_fromOf t_toOf t_longOf n
    induction n with
    | zero => intro x6 t_kindOf t_needsOf y hm _; exact noS hm
    | succ n ih =>
      intro x6 t_kindOf t_needsOf y hm k0
      rw [L_X7_valley_98] at hm
      refine k_iload 98 cx dX7_valley_98 1 rfl ?_
      refine k_aload_n 100 cx dX7_valley_100 rfl 0 rfl ?_
      refine fgX7_90 101 cx dX7_valley_101 0 rfl rfl ?_
      refine k_icmp_ge 104 cx (tgt := 141) dX7_valley_104 (by decide) hm (fun hc hm => ?_) (fun hc hm => ?_)
      · obtain rfl := Option.some.inj hm
        refine k_lv [0] rfl ?_
        exact k0
      · refine k_aload_n 107 cx dX7_valley_107 rfl 0 rfl ?_
        refine fgX7_7 108 cx dX7_valley_108 0 rfl rfl ?_
        refine k_iload 111 cx dX7_valley_111 1 rfl ?_
        refine k_aload_n 113 cx dX7_valley_113 rfl 0 rfl ?_
        refine fgX7_25 114 cx dX7_valley_114 0 rfl rfl ?_
        refine k_iload 117 cx dX7_valley_117 1 rfl ?_
        refine k_iald 119 cx dX7_valley_119 4 rfl hm (fun hm => ?_)
        refine k_iast 120 cx dX7_valley_120 9 rfl (fun f14 => (w_X7_valley G h_t h_t_sheetSize h_t_sheetLane h_t_sheet h_t_readKind h_t_readNeeds h_t_readFrom h_t_readTo h_t_readLong h_t_kindOf h_t_needsOf h_t_fromOf h_t_toOf h_t_longOf h_t_pullOf h_t_pullAt h_t_peals h_t_swings h_t_lastRang h_t_heardSince h_t_readingOf h_t_readingAt h_t_readingIs h_t_hands t_fault t_bells t_tied t_ropes t_spanNow t_readAt t_readBells t_readRopes t_pulls t_readings t_traceNow t_sheetSize t_sheetLane t_sheet t_readKind t_readNeeds t_readFrom t_readTo t_readLong f14 t_needsOf t_fromOf t_toOf t_longOf)) (fun _ => rfl) hm (fun f14 hm => ?_)
        refine k_aload_n 121 cx dX7_valley_121 rfl 0 rfl ?_
        refine fgX7_13 122 cx dX7_valley_122 0 rfl rfl ?_
        refine k_iload 125 cx dX7_valley_125 1 rfl ?_
        refine k_aload_n 127 cx dX7_valley_127 rfl 0 rfl ?_
        refine fgX7_28 128 cx dX7_valley_128 0 rfl rfl ?_
        refine k_iload 131 cx dX7_valley_131 1 rfl ?_
        refine k_iald 133 cx dX7_valley_133 5 rfl hm (fun hm => ?_)
        refine k_iast 134 cx dX7_valley_134 10 rfl (fun f15 => (w_X7_valley G h_t h_t_sheetSize h_t_sheetLane h_t_sheet h_t_readKind h_t_readNeeds h_t_readFrom h_t_readTo h_t_readLong h_t_kindOf h_t_needsOf h_t_fromOf h_t_toOf h_t_longOf h_t_pullOf h_t_pullAt h_t_peals h_t_swings h_t_lastRang h_t_heardSince h_t_readingOf h_t_readingAt h_t_readingIs h_t_hands t_fault t_bells t_tied t_ropes t_spanNow t_readAt t_readBells t_readRopes t_pulls t_readings t_traceNow t_sheetSize t_sheetLane t_sheet t_readKind t_readNeeds t_readFrom t_readTo t_readLong f14 f15 t_fromOf t_toOf t_longOf)) (fun _ => rfl) hm (fun f15 hm => ?_)
        refine k_iinc 135 cx dX7_valley_135 1 rfl (by decide) (by decide) (fun v16 => [(6, .int v16), (0, .ref h_t)]) (fun _ => rfl) hm (fun v16 hm => ?_)
        refine k_goto 138 cx (tgt := 98) dX7_valley_138 (by decide) ?_
        refine k_lv [1, 0] rfl ?_
        exact ih v16 f14 f15 _ hm k0
  have lp144 : ∀ (Q : State → Prop) (A : Nat → Prop) (t_fault : Int32) (t_bells : Int32) (t_tied : Int32) (t_ropes : Int32) (t_spanNow : Int32) (t_readAt : Int32) (t_readBells : Int32) (t_readRopes : Int32) (t_pulls : Int32) (t_readings : Int32) (t_traceNow : Int32) (t_sheetSize : (Nat → Int32)) (t_sheetLane : (Nat → Int32)) (t_sheet : (Nat → Int32)) (t_readKind : (Nat → Int32)) (t_readNeeds : (Nat → Int32)) (t_readFrom : (Nat → Int32)) (t_readTo : (Nat → Int32)) (t_readLong : (Nat → Int32)) (t_kindOf : (Nat → Int32)) (t_needsOf : (Nat → Int32)) (n : Nat) (x6 : Int32) (t_fromOf : (Nat → Int32)) (t_toOf : (Nat → Int32)) (t_longOf : (Nat → Int32)) (y : Int32 × (Nat → Int32) × (Nat → Int32) × (Nat → Int32)), L_X7_valley_144 t_ropes t_readFrom t_readTo t_readLong n x6 t_fromOf t_toOf t_longOf = some y → (KJ X Q G A 7 201 [(0, .ref h_t)] [] (w_X7_valley G h_t h_t_sheetSize h_t_sheetLane h_t_sheet h_t_readKind h_t_readNeeds h_t_readFrom h_t_readTo h_t_readLong h_t_kindOf h_t_needsOf h_t_fromOf h_t_toOf h_t_longOf h_t_pullOf h_t_pullAt h_t_peals h_t_swings h_t_lastRang h_t_heardSince h_t_readingOf h_t_readingAt h_t_readingIs h_t_hands t_fault t_bells t_tied t_ropes t_spanNow t_readAt t_readBells t_readRopes t_pulls t_readings t_traceNow t_sheetSize t_sheetLane t_sheet t_readKind t_readNeeds t_readFrom t_readTo t_readLong t_kindOf t_needsOf y.2.1 y.2.2.1 y.2.2.2)) → KJ X Q G A 7 144 [(0, .ref h_t), (6, .int x6)] [] (w_X7_valley G h_t h_t_sheetSize h_t_sheetLane h_t_sheet h_t_readKind h_t_readNeeds h_t_readFrom h_t_readTo h_t_readLong h_t_kindOf h_t_needsOf h_t_fromOf h_t_toOf h_t_longOf h_t_pullOf h_t_pullAt h_t_peals h_t_swings h_t_lastRang h_t_heardSince h_t_readingOf h_t_readingAt h_t_readingIs h_t_hands t_fault t_bells t_tied t_ropes t_spanNow t_readAt t_readBells t_readRopes t_pulls t_readings t_traceNow t_sheetSize t_sheetLane t_sheet t_readKind t_readNeeds t_readFrom t_readTo t_readLong t_kindOf t_needsOf t_fromOf t_toOf t_longOf) := by
    intro Q A t_fault t_bells t_tied t_ropes t_spanNow t_readAt t_readBells t_readRopes t_pulls t_readings t_traceNow t_sheetSize t_sheetLane t_sheet t_readKind t_readNeeds t_readFrom t_readTo t_readLong t_kindOf t_needsOf n
    induction n with
    | zero => intro x6 t_fromOf t_toOf t_longOf y hm _; exact noS hm
    | succ n ih =>
      intro x6 t_fromOf t_toOf t_longOf y hm k0
      rw [L_X7_valley_144] at hm
      refine k_iload 144 cx dX7_valley_144 1 rfl ?_
      refine k_aload_n 146 cx dX7_valley_146 rfl 0 rfl ?_
      refine fgX7_145 147 cx dX7_valley_147 0 rfl rfl ?_
      refine k_icmp_ge 150 cx (tgt := 201) dX7_valley_150 (by decide) hm (fun hc hm => ?_) (fun hc hm => ?_)
      · obtain rfl := Option.some.inj hm
        refine k_lv [0] rfl ?_
        exact k0
      · refine k_aload_n 153 cx dX7_valley_153 rfl 0 rfl ?_
        refine fgX7_16 154 cx dX7_valley_154 0 rfl rfl ?_
        refine k_iload 157 cx dX7_valley_157 1 rfl ?_
        refine k_aload_n 159 cx dX7_valley_159 rfl 0 rfl ?_
        refine fgX7_31 160 cx dX7_valley_160 0 rfl rfl ?_
        refine k_iload 163 cx dX7_valley_163 1 rfl ?_
        refine k_iald 165 cx dX7_valley_165 6 rfl hm (fun hm => ?_)
        refine k_iast 166 cx dX7_valley_166 11 rfl (fun f30 => (w_X7_valley G h_t h_t_sheetSize h_t_sheetLane h_t_sheet h_t_readKind h_t_readNeeds h_t_readFrom h_t_readTo h_t_readLong h_t_kindOf h_t_needsOf h_t_fromOf h_t_toOf h_t_longOf h_t_pullOf h_t_pullAt h_t_peals h_t_swings h_t_lastRang h_t_heardSince h_t_readingOf h_t_readingAt h_t_readingIs h_t_hands t_fault t_bells t_tied t_ropes t_spanNow t_readAt t_readBells t_readRopes t_pulls t_readings t_traceNow t_sheetSize t_sheetLane t_sheet t_readKind t_readNeeds t_readFrom t_readTo t_readLong t_kindOf t_needsOf f30 t_toOf t_longOf)) (fun _ => rfl) hm (fun f30 hm => ?_)
        refine k_aload_n 167 cx dX7_valley_167 rfl 0 rfl ?_
        refine fgX7_19 168 cx dX7_valley_168 0 rfl rfl ?_
        refine k_iload 171 cx dX7_valley_171 1 rfl ?_
        refine k_aload_n 173 cx dX7_valley_173 rfl 0 rfl ?_
        refine fgX7_34 174 cx dX7_valley_174 0 rfl rfl ?_
        refine k_iload 177 cx dX7_valley_177 1 rfl ?_
        refine k_iald 179 cx dX7_valley_179 7 rfl hm (fun hm => ?_)
        refine k_iast 180 cx dX7_valley_180 12 rfl (fun f31 => (w_X7_valley G h_t h_t_sheetSize h_t_sheetLane h_t_sheet h_t_readKind h_t_readNeeds h_t_readFrom h_t_readTo h_t_readLong h_t_kindOf h_t_needsOf h_t_fromOf h_t_toOf h_t_longOf h_t_pullOf h_t_pullAt h_t_peals h_t_swings h_t_lastRang h_t_heardSince h_t_readingOf h_t_readingAt h_t_readingIs h_t_hands t_fault t_bells t_tied t_ropes t_spanNow t_readAt t_readBells t_readRopes t_pulls t_readings t_traceNow t_sheetSize t_sheetLane t_sheet t_readKind t_readNeeds t_readFrom t_readTo t_readLong t_kindOf t_needsOf f30 f31 t_longOf)) (fun _ => rfl) hm (fun f31 hm => ?_)
        refine k_aload_n 181 cx dX7_valley_181 rfl 0 rfl ?_
        refine fgX7_22 182 cx dX7_valley_182 0 rfl rfl ?_
        refine k_iload 185 cx dX7_valley_185 1 rfl ?_
        refine k_aload_n 187 cx dX7_valley_187 rfl 0 rfl ?_
        refine fgX7_37 188 cx dX7_valley_188 0 rfl rfl ?_
        refine k_iload 191 cx dX7_valley_191 1 rfl ?_
        refine k_iald 193 cx dX7_valley_193 8 rfl hm (fun hm => ?_)
        refine k_iast 194 cx dX7_valley_194 13 rfl (fun f32 => (w_X7_valley G h_t h_t_sheetSize h_t_sheetLane h_t_sheet h_t_readKind h_t_readNeeds h_t_readFrom h_t_readTo h_t_readLong h_t_kindOf h_t_needsOf h_t_fromOf h_t_toOf h_t_longOf h_t_pullOf h_t_pullAt h_t_peals h_t_swings h_t_lastRang h_t_heardSince h_t_readingOf h_t_readingAt h_t_readingIs h_t_hands t_fault t_bells t_tied t_ropes t_spanNow t_readAt t_readBells t_readRopes t_pulls t_readings t_traceNow t_sheetSize t_sheetLane t_sheet t_readKind t_readNeeds t_readFrom t_readTo t_readLong t_kindOf t_needsOf f30 f31 f32)) (fun _ => rfl) hm (fun f32 hm => ?_)
        refine k_iinc 195 cx dX7_valley_195 1 rfl (by decide) (by decide) (fun v33 => [(6, .int v33), (0, .ref h_t)]) (fun _ => rfl) hm (fun v33 hm => ?_)
        refine k_goto 198 cx (tgt := 144) dX7_valley_198 (by decide) ?_
        refine k_lv [1, 0] rfl ?_
        exact ih v33 f30 f31 f32 _ hm k0
  unfold M_X7_valley at hm
  refine k_iload_n 0 cx dX7_valley_0 rfl 1 rfl ?_
  obtain ⟨u1, hu1, hm⟩ := bnd hm
  refine k_callS 1 cx cwX7_129 (c_X7_noSheet X.2.1 G a1 hu1) dX7_valley_1 ⟨by decide, by decide⟩ rfl (rest := []) rfl (Nat.le_of_ble_eq_true rfl) [] (by decide) rfl rfl (w2 := (w_X7_valley G h_t h_t_sheetSize h_t_sheetLane h_t_sheet h_t_readKind h_t_readNeeds h_t_readFrom h_t_readTo h_t_readLong h_t_kindOf h_t_needsOf h_t_fromOf h_t_toOf h_t_longOf h_t_pullOf h_t_pullAt h_t_peals h_t_swings h_t_lastRang h_t_heardSince h_t_readingOf h_t_readingAt h_t_readingIs h_t_hands t_fault t_bells t_tied t_ropes t_spanNow t_readAt t_readBells t_readRopes t_pulls t_readings t_traceNow t_sheetSize t_sheetLane t_sheet t_readKind t_readNeeds t_readFrom t_readTo t_readLong t_kindOf t_needsOf t_fromOf t_toOf t_longOf)) [0, 1, 2, 3, 4, 5, 6, 7, 8, 9, 10, 11, 12, 13] 14 rfl [(h_t, .inr (7, [.int t_fault, .int t_bells, .ref h_t_kindOf, .ref h_t_needsOf, .int t_tied, .int t_ropes, .ref h_t_fromOf, .ref h_t_toOf, .ref h_t_longOf, .int t_spanNow, .int t_readAt, .int t_readBells, .int t_readRopes, .ref h_t_readKind, .ref h_t_readNeeds, .ref h_t_readFrom, .ref h_t_readTo, .ref h_t_readLong, .int t_pulls, .ref h_t_pullOf, .ref h_t_pullAt, .ref h_t_peals, .ref h_t_swings, .ref h_t_lastRang, .ref h_t_heardSince, .int t_readings, .ref h_t_readingOf, .ref h_t_readingAt, .ref h_t_readingIs, .ref h_t_sheetSize, .ref h_t_sheetLane, .ref h_t_sheet, .ref h_t_hands, .int t_traceNow])), (h_t_sheetSize, .inl (G.2.1, 4, .inl t_sheetSize)), (h_t_sheetLane, .inl (G.2.1, 4, .inl t_sheetLane)), (h_t_sheet, .inl (G.2.1, 240, .inl t_sheet)), (h_t_readKind, .inl (G.2.1, 6, .inl t_readKind)), (h_t_readNeeds, .inl (G.2.1, 6, .inl t_readNeeds)), (h_t_readFrom, .inl (G.2.1, 8, .inl t_readFrom)), (h_t_readTo, .inl (G.2.1, 8, .inl t_readTo)), (h_t_readLong, .inl (G.2.1, 8, .inl t_readLong)), (h_t_kindOf, .inl (G.2.1, 6, .inl t_kindOf)), (h_t_needsOf, .inl (G.2.1, 6, .inl t_needsOf)), (h_t_fromOf, .inl (G.2.1, 9, .inl t_fromOf)), (h_t_toOf, .inl (G.2.1, 9, .inl t_toOf)), (h_t_longOf, .inl (G.2.1, 9, .inl t_longOf))] rfl rfl rfl (by decide) (st2 := [.int u1]) rfl ?_
  refine k_if_eq 4 cx (tgt := 13) dX7_valley_4 (by decide) hm (fun hc hm => ?_) (fun hc hm => ?_)
  · refine k_iload_n 13 cx dX7_valley_13 rfl 2 rfl ?_
    refine k_i2l 14 cx dX7_valley_14 ?_
    refine k_lconst 15 cx (v := (0 : Int64)) dX7_valley_15 (by decide) ?_
    refine k_ldc2_w 16 cx (v := (2 : Int64)) dX7_valley_16 (tb_m (i := 767) rfl rfl) ?_
    obtain ⟨u2, hu2, hm⟩ := bnd hm
    refine k_callS 19 cx cwX7_93 (c_X7_in X.2.1 G (Int32.toInt64 a2) (0 : Int64) (2 : Int64) hu2) dX7_valley_19 ⟨by decide, by decide⟩ rfl (rest := []) rfl (Nat.le_of_ble_eq_true rfl) [] (by decide) rfl rfl (w2 := (w_X7_valley G h_t h_t_sheetSize h_t_sheetLane h_t_sheet h_t_readKind h_t_readNeeds h_t_readFrom h_t_readTo h_t_readLong h_t_kindOf h_t_needsOf h_t_fromOf h_t_toOf h_t_longOf h_t_pullOf h_t_pullAt h_t_peals h_t_swings h_t_lastRang h_t_heardSince h_t_readingOf h_t_readingAt h_t_readingIs h_t_hands t_fault t_bells t_tied t_ropes t_spanNow t_readAt t_readBells t_readRopes t_pulls t_readings t_traceNow t_sheetSize t_sheetLane t_sheet t_readKind t_readNeeds t_readFrom t_readTo t_readLong t_kindOf t_needsOf t_fromOf t_toOf t_longOf)) [0, 1, 2, 3, 4, 5, 6, 7, 8, 9, 10, 11, 12, 13] 14 rfl [(h_t, .inr (7, [.int t_fault, .int t_bells, .ref h_t_kindOf, .ref h_t_needsOf, .int t_tied, .int t_ropes, .ref h_t_fromOf, .ref h_t_toOf, .ref h_t_longOf, .int t_spanNow, .int t_readAt, .int t_readBells, .int t_readRopes, .ref h_t_readKind, .ref h_t_readNeeds, .ref h_t_readFrom, .ref h_t_readTo, .ref h_t_readLong, .int t_pulls, .ref h_t_pullOf, .ref h_t_pullAt, .ref h_t_peals, .ref h_t_swings, .ref h_t_lastRang, .ref h_t_heardSince, .int t_readings, .ref h_t_readingOf, .ref h_t_readingAt, .ref h_t_readingIs, .ref h_t_sheetSize, .ref h_t_sheetLane, .ref h_t_sheet, .ref h_t_hands, .int t_traceNow])), (h_t_sheetSize, .inl (G.2.1, 4, .inl t_sheetSize)), (h_t_sheetLane, .inl (G.2.1, 4, .inl t_sheetLane)), (h_t_sheet, .inl (G.2.1, 240, .inl t_sheet)), (h_t_readKind, .inl (G.2.1, 6, .inl t_readKind)), (h_t_readNeeds, .inl (G.2.1, 6, .inl t_readNeeds)), (h_t_readFrom, .inl (G.2.1, 8, .inl t_readFrom)), (h_t_readTo, .inl (G.2.1, 8, .inl t_readTo)), (h_t_readLong, .inl (G.2.1, 8, .inl t_readLong)), (h_t_kindOf, .inl (G.2.1, 6, .inl t_kindOf)), (h_t_needsOf, .inl (G.2.1, 6, .inl t_needsOf)), (h_t_fromOf, .inl (G.2.1, 9, .inl t_fromOf)), (h_t_toOf, .inl (G.2.1, 9, .inl t_toOf)), (h_t_longOf, .inl (G.2.1, 9, .inl t_longOf))] rfl rfl rfl (by decide) (st2 := [.int u2]) rfl ?_
    refine k_if_ne 22 cx (tgt := 32) dX7_valley_22 (by decide) hm (fun hc hm => ?_) (fun hc hm => ?_)
    · refine k_aload_n 25 cx dX7_valley_25 rfl 0 rfl ?_
      refine k_bipush 26 cx (v := (-2 : Int32)) dX7_valley_26 (by decide) ?_
      obtain ⟨u37, hu37, hm⟩ := bnd hm
      refine k_callV 28 cx cwX7_133 (c_X7_refused X.2.1 G h_t h_t_kindOf h_t_needsOf h_t_fromOf h_t_toOf h_t_longOf h_t_readKind h_t_readNeeds h_t_readFrom h_t_readTo h_t_readLong h_t_pullOf h_t_pullAt h_t_peals h_t_swings h_t_lastRang h_t_heardSince h_t_readingOf h_t_readingAt h_t_readingIs h_t_sheetSize h_t_sheetLane h_t_sheet h_t_hands t_fault t_bells t_tied t_ropes t_spanNow t_readAt t_readBells t_readRopes t_pulls t_readings t_traceNow (-2 : Int32) hu37) dX7_valley_28 ⟨by decide, by decide⟩ rfl rfl (rest := []) rfl (Nat.le_of_ble_eq_true rfl) [0] (by decide) rfl rfl (w2 := (w_X7_valley G h_t h_t_sheetSize h_t_sheetLane h_t_sheet h_t_readKind h_t_readNeeds h_t_readFrom h_t_readTo h_t_readLong h_t_kindOf h_t_needsOf h_t_fromOf h_t_toOf h_t_longOf h_t_pullOf h_t_pullAt h_t_peals h_t_swings h_t_lastRang h_t_heardSince h_t_readingOf h_t_readingAt h_t_readingIs h_t_hands u37.2 t_bells t_tied t_ropes t_spanNow t_readAt t_readBells t_readRopes t_pulls t_readings t_traceNow t_sheetSize t_sheetLane t_sheet t_readKind t_readNeeds t_readFrom t_readTo t_readLong t_kindOf t_needsOf t_fromOf t_toOf t_longOf)) [1, 2, 3, 4, 5, 6, 7, 8, 9, 10, 11, 12, 13] 14 rfl [(h_t_sheetSize, .inl (G.2.1, 4, .inl t_sheetSize)), (h_t_sheetLane, .inl (G.2.1, 4, .inl t_sheetLane)), (h_t_sheet, .inl (G.2.1, 240, .inl t_sheet)), (h_t_readKind, .inl (G.2.1, 6, .inl t_readKind)), (h_t_readNeeds, .inl (G.2.1, 6, .inl t_readNeeds)), (h_t_readFrom, .inl (G.2.1, 8, .inl t_readFrom)), (h_t_readTo, .inl (G.2.1, 8, .inl t_readTo)), (h_t_readLong, .inl (G.2.1, 8, .inl t_readLong)), (h_t_kindOf, .inl (G.2.1, 6, .inl t_kindOf)), (h_t_needsOf, .inl (G.2.1, 6, .inl t_needsOf)), (h_t_fromOf, .inl (G.2.1, 9, .inl t_fromOf)), (h_t_toOf, .inl (G.2.1, 9, .inl t_toOf)), (h_t_longOf, .inl (G.2.1, 9, .inl t_longOf))] rfl rfl rfl (by decide) (st2 := [.int u37.1]) rfl ?_
      obtain rfl := Option.some.inj hm
      exact k_iret 31 cx dX7_valley_31 rfl rfl
    · refine k_aload_n 32 cx dX7_valley_32 rfl 0 rfl ?_
      refine k_iload_n 33 cx dX7_valley_33 rfl 1 rfl ?_
      refine k_iload_n 34 cx dX7_valley_34 rfl 2 rfl ?_
      refine k_iload_n 35 cx dX7_valley_35 rfl 3 rfl ?_
      refine k_iload 36 cx dX7_valley_36 4 rfl ?_
      refine k_i2l 38 cx dX7_valley_38 ?_
      obtain ⟨u3, hu3, hm⟩ := bnd hm
      refine k_callV 39 cx cwX7_138 (c_X7_cellsBarred X.2.1 G h_t h_t_sheetSize h_t_sheetLane h_t_kindOf h_t_needsOf h_t_fromOf h_t_toOf h_t_longOf h_t_readKind h_t_readNeeds h_t_readFrom h_t_readTo h_t_readLong h_t_pullOf h_t_pullAt h_t_peals h_t_swings h_t_lastRang h_t_heardSince h_t_readingOf h_t_readingAt h_t_readingIs h_t_sheet h_t_hands t_fault t_bells t_tied t_ropes t_spanNow t_readAt t_readBells t_readRopes t_pulls t_readings t_traceNow t_sheetSize t_sheetLane a1 a2 a3 (Int32.toInt64 a4) hu3) dX7_valley_39 ⟨by decide, by decide⟩ rfl rfl (rest := []) rfl (Nat.le_of_ble_eq_true rfl) [0, 1, 2] (by decide) rfl rfl (w2 := (w_X7_valley G h_t h_t_sheetSize h_t_sheetLane h_t_sheet h_t_readKind h_t_readNeeds h_t_readFrom h_t_readTo h_t_readLong h_t_kindOf h_t_needsOf h_t_fromOf h_t_toOf h_t_longOf h_t_pullOf h_t_pullAt h_t_peals h_t_swings h_t_lastRang h_t_heardSince h_t_readingOf h_t_readingAt h_t_readingIs h_t_hands u3.2 t_bells t_tied t_ropes t_spanNow t_readAt t_readBells t_readRopes t_pulls t_readings t_traceNow t_sheetSize t_sheetLane t_sheet t_readKind t_readNeeds t_readFrom t_readTo t_readLong t_kindOf t_needsOf t_fromOf t_toOf t_longOf)) [3, 4, 5, 6, 7, 8, 9, 10, 11, 12, 13] 14 rfl [(h_t_sheet, .inl (G.2.1, 240, .inl t_sheet)), (h_t_readKind, .inl (G.2.1, 6, .inl t_readKind)), (h_t_readNeeds, .inl (G.2.1, 6, .inl t_readNeeds)), (h_t_readFrom, .inl (G.2.1, 8, .inl t_readFrom)), (h_t_readTo, .inl (G.2.1, 8, .inl t_readTo)), (h_t_readLong, .inl (G.2.1, 8, .inl t_readLong)), (h_t_kindOf, .inl (G.2.1, 6, .inl t_kindOf)), (h_t_needsOf, .inl (G.2.1, 6, .inl t_needsOf)), (h_t_fromOf, .inl (G.2.1, 9, .inl t_fromOf)), (h_t_toOf, .inl (G.2.1, 9, .inl t_toOf)), (h_t_longOf, .inl (G.2.1, 9, .inl t_longOf))] rfl rfl rfl (by decide) (st2 := [.int u3.1]) rfl ?_
      refine k_istore 42 cx dX7_valley_42 (by decide) (lv' := [(5, .int u3.1), (0, .ref h_t), (1, .int a1), (2, .int a2), (3, .int a3), (4, .int a4)]) rfl ?_
      refine k_iload 44 cx dX7_valley_44 0 rfl ?_
      refine k_if_ge 46 cx (tgt := 52) dX7_valley_46 (by decide) hm (fun hc hm => ?_) (fun hc hm => ?_)
      · refine k_aload_n 52 cx dX7_valley_52 rfl 1 rfl ?_
        refine k_bipush 53 cx (v := (60 : Int32)) dX7_valley_53 (by decide) ?_
        refine k_iload_n 55 cx dX7_valley_55 rfl 2 rfl ?_
        refine k_imul 56 cx dX7_valley_56 ?_
        refine k_iload_n 57 cx dX7_valley_57 rfl 4 rfl ?_
        refine k_iadd 58 cx dX7_valley_58 ?_
        refine k_iload 59 cx dX7_valley_59 5 rfl ?_
        obtain ⟨u4, hu4, hm⟩ := bnd hm
        refine k_callV 61 cx cwX7_142 (c_X7_readsValley X.2.1 G h_t h_t_sheet h_t_readKind h_t_readNeeds h_t_readFrom h_t_readTo h_t_readLong h_t_kindOf h_t_needsOf h_t_fromOf h_t_toOf h_t_longOf h_t_pullOf h_t_pullAt h_t_peals h_t_swings h_t_lastRang h_t_heardSince h_t_readingOf h_t_readingAt h_t_readingIs h_t_sheetSize h_t_sheetLane h_t_hands u3.2 t_bells t_tied t_ropes t_spanNow t_readAt t_readBells t_readRopes t_pulls t_readings t_traceNow t_sheet t_readKind t_readNeeds t_readFrom t_readTo t_readLong (((60 : Int32) * a1) + a3) a4 hu4) dX7_valley_61 ⟨by decide, by decide⟩ rfl rfl (rest := []) rfl (Nat.le_of_ble_eq_true rfl) [0, 3, 4, 5, 6, 7, 8] (by decide) rfl rfl (w2 := (w_X7_valley G h_t h_t_sheetSize h_t_sheetLane h_t_sheet h_t_readKind h_t_readNeeds h_t_readFrom h_t_readTo h_t_readLong h_t_kindOf h_t_needsOf h_t_fromOf h_t_toOf h_t_longOf h_t_pullOf h_t_pullAt h_t_peals h_t_swings h_t_lastRang h_t_heardSince h_t_readingOf h_t_readingAt h_t_readingIs h_t_hands u3.2 t_bells t_tied t_ropes t_spanNow u4.2.1 u4.2.2.1 u4.2.2.2.1 t_pulls t_readings t_traceNow t_sheetSize t_sheetLane t_sheet u4.2.2.2.2.1 u4.2.2.2.2.2.1 u4.2.2.2.2.2.2.1 u4.2.2.2.2.2.2.2.1 u4.2.2.2.2.2.2.2.2 t_kindOf t_needsOf t_fromOf t_toOf t_longOf)) [1, 2, 9, 10, 11, 12, 13] 14 rfl [(h_t_sheetSize, .inl (G.2.1, 4, .inl t_sheetSize)), (h_t_sheetLane, .inl (G.2.1, 4, .inl t_sheetLane)), (h_t_kindOf, .inl (G.2.1, 6, .inl t_kindOf)), (h_t_needsOf, .inl (G.2.1, 6, .inl t_needsOf)), (h_t_fromOf, .inl (G.2.1, 9, .inl t_fromOf)), (h_t_toOf, .inl (G.2.1, 9, .inl t_toOf)), (h_t_longOf, .inl (G.2.1, 9, .inl t_longOf))] rfl rfl rfl (by decide) (st2 := [.int u4.1]) rfl ?_
        refine k_if_ne 64 cx (tgt := 79) dX7_valley_64 (by decide) hm (fun hc hm => ?_) (fun hc hm => ?_)
        · refine k_aload_n 67 cx dX7_valley_67 rfl 1 rfl ?_
          refine k_bipush 68 cx (v := (-100 : Int32)) dX7_valley_68 (by decide) ?_
          refine k_aload_n 70 cx dX7_valley_70 rfl 1 rfl ?_
          refine fgX7_97 71 cx dX7_valley_71 0 rfl rfl ?_
          refine k_isub 74 cx dX7_valley_74 ?_
          obtain ⟨u36, hu36, hm⟩ := bnd hm
          refine k_callV 75 cx cwX7_133 (c_X7_refused X.2.1 G h_t h_t_kindOf h_t_needsOf h_t_fromOf h_t_toOf h_t_longOf h_t_readKind h_t_readNeeds h_t_readFrom h_t_readTo h_t_readLong h_t_pullOf h_t_pullAt h_t_peals h_t_swings h_t_lastRang h_t_heardSince h_t_readingOf h_t_readingAt h_t_readingIs h_t_sheetSize h_t_sheetLane h_t_sheet h_t_hands u3.2 t_bells t_tied t_ropes t_spanNow u4.2.1 u4.2.2.1 u4.2.2.2.1 t_pulls t_readings t_traceNow ((-100 : Int32) - u4.2.1) hu36) dX7_valley_75 ⟨by decide, by decide⟩ rfl rfl (rest := []) rfl (Nat.le_of_ble_eq_true rfl) [0] (by decide) rfl rfl (w2 := (w_X7_valley G h_t h_t_sheetSize h_t_sheetLane h_t_sheet h_t_readKind h_t_readNeeds h_t_readFrom h_t_readTo h_t_readLong h_t_kindOf h_t_needsOf h_t_fromOf h_t_toOf h_t_longOf h_t_pullOf h_t_pullAt h_t_peals h_t_swings h_t_lastRang h_t_heardSince h_t_readingOf h_t_readingAt h_t_readingIs h_t_hands u36.2 t_bells t_tied t_ropes t_spanNow u4.2.1 u4.2.2.1 u4.2.2.2.1 t_pulls t_readings t_traceNow t_sheetSize t_sheetLane t_sheet u4.2.2.2.2.1 u4.2.2.2.2.2.1 u4.2.2.2.2.2.2.1 u4.2.2.2.2.2.2.2.1 u4.2.2.2.2.2.2.2.2 t_kindOf t_needsOf t_fromOf t_toOf t_longOf)) [1, 2, 3, 4, 5, 6, 7, 8, 9, 10, 11, 12, 13] 14 rfl [(h_t_sheetSize, .inl (G.2.1, 4, .inl t_sheetSize)), (h_t_sheetLane, .inl (G.2.1, 4, .inl t_sheetLane)), (h_t_sheet, .inl (G.2.1, 240, .inl t_sheet)), (h_t_readKind, .inl (G.2.1, 6, .inl u4.2.2.2.2.1)), (h_t_readNeeds, .inl (G.2.1, 6, .inl u4.2.2.2.2.2.1)), (h_t_readFrom, .inl (G.2.1, 8, .inl u4.2.2.2.2.2.2.1)), (h_t_readTo, .inl (G.2.1, 8, .inl u4.2.2.2.2.2.2.2.1)), (h_t_readLong, .inl (G.2.1, 8, .inl u4.2.2.2.2.2.2.2.2)), (h_t_kindOf, .inl (G.2.1, 6, .inl t_kindOf)), (h_t_needsOf, .inl (G.2.1, 6, .inl t_needsOf)), (h_t_fromOf, .inl (G.2.1, 9, .inl t_fromOf)), (h_t_toOf, .inl (G.2.1, 9, .inl t_toOf)), (h_t_longOf, .inl (G.2.1, 9, .inl t_longOf))] rfl rfl rfl (by decide) (st2 := [.int u36.1]) rfl ?_
          obtain rfl := Option.some.inj hm
          exact k_iret 78 cx dX7_valley_78 rfl rfl
        · refine k_aload_n 79 cx dX7_valley_79 rfl 1 rfl ?_
          refine k_aload_n 80 cx dX7_valley_80 rfl 1 rfl ?_
          refine fgX7_104 81 cx dX7_valley_81 0 rfl rfl ?_
          refine fpX7_90 84 cx dX7_valley_84 0 rfl rfl rfl (by simp) (w1 := (w_X7_valley G h_t h_t_sheetSize h_t_sheetLane h_t_sheet h_t_readKind h_t_readNeeds h_t_readFrom h_t_readTo h_t_readLong h_t_kindOf h_t_needsOf h_t_fromOf h_t_toOf h_t_longOf h_t_pullOf h_t_pullAt h_t_peals h_t_swings h_t_lastRang h_t_heardSince h_t_readingOf h_t_readingAt h_t_readingIs h_t_hands u3.2 u4.2.2.1 t_tied t_ropes t_spanNow u4.2.1 u4.2.2.1 u4.2.2.2.1 t_pulls t_readings t_traceNow t_sheetSize t_sheetLane t_sheet u4.2.2.2.2.1 u4.2.2.2.2.2.1 u4.2.2.2.2.2.2.1 u4.2.2.2.2.2.2.2.1 u4.2.2.2.2.2.2.2.2 t_kindOf t_needsOf t_fromOf t_toOf t_longOf)) rfl ?_
          refine k_aload_n 87 cx dX7_valley_87 rfl 1 rfl ?_
          refine k_aload_n 88 cx dX7_valley_88 rfl 1 rfl ?_
          refine fgX7_111 89 cx dX7_valley_89 0 rfl rfl ?_
          refine fpX7_145 92 cx dX7_valley_92 0 rfl rfl rfl (by simp) (w1 := (w_X7_valley G h_t h_t_sheetSize h_t_sheetLane h_t_sheet h_t_readKind h_t_readNeeds h_t_readFrom h_t_readTo h_t_readLong h_t_kindOf h_t_needsOf h_t_fromOf h_t_toOf h_t_longOf h_t_pullOf h_t_pullAt h_t_peals h_t_swings h_t_lastRang h_t_heardSince h_t_readingOf h_t_readingAt h_t_readingIs h_t_hands u3.2 u4.2.2.1 t_tied u4.2.2.2.1 t_spanNow u4.2.1 u4.2.2.1 u4.2.2.2.1 t_pulls t_readings t_traceNow t_sheetSize t_sheetLane t_sheet u4.2.2.2.2.1 u4.2.2.2.2.2.1 u4.2.2.2.2.2.2.1 u4.2.2.2.2.2.2.2.1 u4.2.2.2.2.2.2.2.2 t_kindOf t_needsOf t_fromOf t_toOf t_longOf)) rfl ?_
          refine k_iconst 95 cx (v := (0 : Int32)) dX7_valley_95 (by decide) ?_
          refine k_istore 96 cx dX7_valley_96 (by decide) (lv' := [(6, .int (0 : Int32)), (5, .int u3.1), (0, .ref h_t), (1, .int a1), (2, .int a2), (3, .int a3), (4, .int a4)]) rfl ?_
          refine k_lv [2, 0] rfl ?_
          obtain ⟨u17, hu17, hm⟩ := bnd hm
          refine lp98 _ _ u3.2 u4.2.2.1 t_tied u4.2.2.2.1 t_spanNow u4.2.1 u4.2.2.1 u4.2.2.2.1 t_pulls t_readings t_traceNow t_sheetSize t_sheetLane t_sheet u4.2.2.2.2.1 u4.2.2.2.2.2.1 u4.2.2.2.2.2.2.1 u4.2.2.2.2.2.2.2.1 u4.2.2.2.2.2.2.2.2 t_fromOf t_toOf t_longOf 1000 (0 : Int32) t_kindOf t_needsOf u17 hu17 ?_
          refine k_iconst 141 cx (v := (0 : Int32)) dX7_valley_141 (by decide) ?_
          refine k_istore 142 cx dX7_valley_142 (by decide) (lv' := [(6, .int (0 : Int32)), (0, .ref h_t)]) rfl ?_
          refine k_lv [1, 0] rfl ?_
          obtain ⟨u34, hu34, hm⟩ := bnd hm
          refine lp144 _ _ u3.2 u4.2.2.1 t_tied u4.2.2.2.1 t_spanNow u4.2.1 u4.2.2.1 u4.2.2.2.1 t_pulls t_readings t_traceNow t_sheetSize t_sheetLane t_sheet u4.2.2.2.2.1 u4.2.2.2.2.2.1 u4.2.2.2.2.2.2.1 u4.2.2.2.2.2.2.2.1 u4.2.2.2.2.2.2.2.2 u17.2.1 u17.2.2 1000 (0 : Int32) t_fromOf t_toOf t_longOf u34 hu34 ?_
          refine k_aload_n 201 cx dX7_valley_201 rfl 0 rfl ?_
          refine k_iconst 202 cx (v := (0 : Int32)) dX7_valley_202 (by decide) ?_
          refine fpX7_148 203 cx dX7_valley_203 0 rfl rfl rfl (by simp) (w1 := (w_X7_valley G h_t h_t_sheetSize h_t_sheetLane h_t_sheet h_t_readKind h_t_readNeeds h_t_readFrom h_t_readTo h_t_readLong h_t_kindOf h_t_needsOf h_t_fromOf h_t_toOf h_t_longOf h_t_pullOf h_t_pullAt h_t_peals h_t_swings h_t_lastRang h_t_heardSince h_t_readingOf h_t_readingAt h_t_readingIs h_t_hands u3.2 u4.2.2.1 (0 : Int32) u4.2.2.2.1 t_spanNow u4.2.1 u4.2.2.1 u4.2.2.2.1 t_pulls t_readings t_traceNow t_sheetSize t_sheetLane t_sheet u4.2.2.2.2.1 u4.2.2.2.2.2.1 u4.2.2.2.2.2.2.1 u4.2.2.2.2.2.2.2.1 u4.2.2.2.2.2.2.2.2 u17.2.1 u17.2.2 u34.2.1 u34.2.2.1 u34.2.2.2)) rfl ?_
          refine k_aload_n 206 cx dX7_valley_206 rfl 0 rfl ?_
          refine k_iconst 207 cx (v := (2 : Int32)) dX7_valley_207 (by decide) ?_
          refine fpX7_151 208 cx dX7_valley_208 0 rfl rfl rfl (by simp) (w1 := (w_X7_valley G h_t h_t_sheetSize h_t_sheetLane h_t_sheet h_t_readKind h_t_readNeeds h_t_readFrom h_t_readTo h_t_readLong h_t_kindOf h_t_needsOf h_t_fromOf h_t_toOf h_t_longOf h_t_pullOf h_t_pullAt h_t_peals h_t_swings h_t_lastRang h_t_heardSince h_t_readingOf h_t_readingAt h_t_readingIs h_t_hands u3.2 u4.2.2.1 (0 : Int32) u4.2.2.2.1 (2 : Int32) u4.2.1 u4.2.2.1 u4.2.2.2.1 t_pulls t_readings t_traceNow t_sheetSize t_sheetLane t_sheet u4.2.2.2.2.1 u4.2.2.2.2.2.1 u4.2.2.2.2.2.2.1 u4.2.2.2.2.2.2.2.1 u4.2.2.2.2.2.2.2.2 u17.2.1 u17.2.2 u34.2.1 u34.2.2.1 u34.2.2.2)) rfl ?_
          refine k_aload_n 211 cx dX7_valley_211 rfl 0 rfl ?_
          refine k_iconst 212 cx (v := (0 : Int32)) dX7_valley_212 (by decide) ?_
          refine fpX7_154 213 cx dX7_valley_213 0 rfl rfl rfl (by simp) (w1 := (w_X7_valley G h_t h_t_sheetSize h_t_sheetLane h_t_sheet h_t_readKind h_t_readNeeds h_t_readFrom h_t_readTo h_t_readLong h_t_kindOf h_t_needsOf h_t_fromOf h_t_toOf h_t_longOf h_t_pullOf h_t_pullAt h_t_peals h_t_swings h_t_lastRang h_t_heardSince h_t_readingOf h_t_readingAt h_t_readingIs h_t_hands u3.2 u4.2.2.1 (0 : Int32) u4.2.2.2.1 (2 : Int32) u4.2.1 u4.2.2.1 u4.2.2.2.1 (0 : Int32) t_readings t_traceNow t_sheetSize t_sheetLane t_sheet u4.2.2.2.2.1 u4.2.2.2.2.2.1 u4.2.2.2.2.2.2.1 u4.2.2.2.2.2.2.2.1 u4.2.2.2.2.2.2.2.2 u17.2.1 u17.2.2 u34.2.1 u34.2.2.1 u34.2.2.2)) rfl ?_
          refine k_aload_n 216 cx dX7_valley_216 rfl 0 rfl ?_
          refine k_iconst 217 cx (v := (0 : Int32)) dX7_valley_217 (by decide) ?_
          refine fpX7_157 218 cx dX7_valley_218 0 rfl rfl rfl (by simp) (w1 := (w_X7_valley G h_t h_t_sheetSize h_t_sheetLane h_t_sheet h_t_readKind h_t_readNeeds h_t_readFrom h_t_readTo h_t_readLong h_t_kindOf h_t_needsOf h_t_fromOf h_t_toOf h_t_longOf h_t_pullOf h_t_pullAt h_t_peals h_t_swings h_t_lastRang h_t_heardSince h_t_readingOf h_t_readingAt h_t_readingIs h_t_hands u3.2 u4.2.2.1 (0 : Int32) u4.2.2.2.1 (2 : Int32) u4.2.1 u4.2.2.1 u4.2.2.2.1 (0 : Int32) (0 : Int32) t_traceNow t_sheetSize t_sheetLane t_sheet u4.2.2.2.2.1 u4.2.2.2.2.2.1 u4.2.2.2.2.2.2.1 u4.2.2.2.2.2.2.2.1 u4.2.2.2.2.2.2.2.2 u17.2.1 u17.2.2 u34.2.1 u34.2.2.1 u34.2.2.2)) rfl ?_
          refine k_aload_n 221 cx dX7_valley_221 rfl 0 rfl ?_
          refine k_aload_n 222 cx dX7_valley_222 rfl 0 rfl ?_
          refine fgX7_90 223 cx dX7_valley_223 0 rfl rfl ?_
          obtain ⟨u35, hu35, hm⟩ := bnd hm
          refine k_callV 226 cx cwX7_133 (c_X7_refused X.2.1 G h_t h_t_kindOf h_t_needsOf h_t_fromOf h_t_toOf h_t_longOf h_t_readKind h_t_readNeeds h_t_readFrom h_t_readTo h_t_readLong h_t_pullOf h_t_pullAt h_t_peals h_t_swings h_t_lastRang h_t_heardSince h_t_readingOf h_t_readingAt h_t_readingIs h_t_sheetSize h_t_sheetLane h_t_sheet h_t_hands u3.2 u4.2.2.1 (0 : Int32) u4.2.2.2.1 (2 : Int32) u4.2.1 u4.2.2.1 u4.2.2.2.1 (0 : Int32) (0 : Int32) t_traceNow u4.2.2.1 hu35) dX7_valley_226 ⟨by decide, by decide⟩ rfl rfl (rest := []) rfl (Nat.le_of_ble_eq_true rfl) [0] (by decide) rfl rfl (w2 := (w_X7_valley G h_t h_t_sheetSize h_t_sheetLane h_t_sheet h_t_readKind h_t_readNeeds h_t_readFrom h_t_readTo h_t_readLong h_t_kindOf h_t_needsOf h_t_fromOf h_t_toOf h_t_longOf h_t_pullOf h_t_pullAt h_t_peals h_t_swings h_t_lastRang h_t_heardSince h_t_readingOf h_t_readingAt h_t_readingIs h_t_hands u35.2 u4.2.2.1 (0 : Int32) u4.2.2.2.1 (2 : Int32) u4.2.1 u4.2.2.1 u4.2.2.2.1 (0 : Int32) (0 : Int32) t_traceNow t_sheetSize t_sheetLane t_sheet u4.2.2.2.2.1 u4.2.2.2.2.2.1 u4.2.2.2.2.2.2.1 u4.2.2.2.2.2.2.2.1 u4.2.2.2.2.2.2.2.2 u17.2.1 u17.2.2 u34.2.1 u34.2.2.1 u34.2.2.2)) [1, 2, 3, 4, 5, 6, 7, 8, 9, 10, 11, 12, 13] 14 rfl [(h_t_sheetSize, .inl (G.2.1, 4, .inl t_sheetSize)), (h_t_sheetLane, .inl (G.2.1, 4, .inl t_sheetLane)), (h_t_sheet, .inl (G.2.1, 240, .inl t_sheet)), (h_t_readKind, .inl (G.2.1, 6, .inl u4.2.2.2.2.1)), (h_t_readNeeds, .inl (G.2.1, 6, .inl u4.2.2.2.2.2.1)), (h_t_readFrom, .inl (G.2.1, 8, .inl u4.2.2.2.2.2.2.1)), (h_t_readTo, .inl (G.2.1, 8, .inl u4.2.2.2.2.2.2.2.1)), (h_t_readLong, .inl (G.2.1, 8, .inl u4.2.2.2.2.2.2.2.2)), (h_t_kindOf, .inl (G.2.1, 6, .inl u17.2.1)), (h_t_needsOf, .inl (G.2.1, 6, .inl u17.2.2)), (h_t_fromOf, .inl (G.2.1, 9, .inl u34.2.1)), (h_t_toOf, .inl (G.2.1, 9, .inl u34.2.2.1)), (h_t_longOf, .inl (G.2.1, 9, .inl u34.2.2.2))] rfl rfl rfl (by decide) (st2 := [.int u35.1]) rfl ?_
          obtain rfl := Option.some.inj hm
          exact k_iret 229 cx dX7_valley_229 rfl rfl
      · refine k_iload 49 cx dX7_valley_49 0 rfl ?_
        obtain rfl := Option.some.inj hm
        exact k_iret 51 cx dX7_valley_51 rfl rfl
  · refine k_aload_n 7 cx dX7_valley_7 rfl 0 rfl ?_
    refine k_iconst 8 cx (v := (-1 : Int32)) dX7_valley_8 (by decide) ?_
    obtain ⟨u38, hu38, hm⟩ := bnd hm
    refine k_callV 9 cx cwX7_133 (c_X7_refused X.2.1 G h_t h_t_kindOf h_t_needsOf h_t_fromOf h_t_toOf h_t_longOf h_t_readKind h_t_readNeeds h_t_readFrom h_t_readTo h_t_readLong h_t_pullOf h_t_pullAt h_t_peals h_t_swings h_t_lastRang h_t_heardSince h_t_readingOf h_t_readingAt h_t_readingIs h_t_sheetSize h_t_sheetLane h_t_sheet h_t_hands t_fault t_bells t_tied t_ropes t_spanNow t_readAt t_readBells t_readRopes t_pulls t_readings t_traceNow (-1 : Int32) hu38) dX7_valley_9 ⟨by decide, by decide⟩ rfl rfl (rest := []) rfl (Nat.le_of_ble_eq_true rfl) [0] (by decide) rfl rfl (w2 := (w_X7_valley G h_t h_t_sheetSize h_t_sheetLane h_t_sheet h_t_readKind h_t_readNeeds h_t_readFrom h_t_readTo h_t_readLong h_t_kindOf h_t_needsOf h_t_fromOf h_t_toOf h_t_longOf h_t_pullOf h_t_pullAt h_t_peals h_t_swings h_t_lastRang h_t_heardSince h_t_readingOf h_t_readingAt h_t_readingIs h_t_hands u38.2 t_bells t_tied t_ropes t_spanNow t_readAt t_readBells t_readRopes t_pulls t_readings t_traceNow t_sheetSize t_sheetLane t_sheet t_readKind t_readNeeds t_readFrom t_readTo t_readLong t_kindOf t_needsOf t_fromOf t_toOf t_longOf)) [1, 2, 3, 4, 5, 6, 7, 8, 9, 10, 11, 12, 13] 14 rfl [(h_t_sheetSize, .inl (G.2.1, 4, .inl t_sheetSize)), (h_t_sheetLane, .inl (G.2.1, 4, .inl t_sheetLane)), (h_t_sheet, .inl (G.2.1, 240, .inl t_sheet)), (h_t_readKind, .inl (G.2.1, 6, .inl t_readKind)), (h_t_readNeeds, .inl (G.2.1, 6, .inl t_readNeeds)), (h_t_readFrom, .inl (G.2.1, 8, .inl t_readFrom)), (h_t_readTo, .inl (G.2.1, 8, .inl t_readTo)), (h_t_readLong, .inl (G.2.1, 8, .inl t_readLong)), (h_t_kindOf, .inl (G.2.1, 6, .inl t_kindOf)), (h_t_needsOf, .inl (G.2.1, 6, .inl t_needsOf)), (h_t_fromOf, .inl (G.2.1, 9, .inl t_fromOf)), (h_t_toOf, .inl (G.2.1, 9, .inl t_toOf)), (h_t_longOf, .inl (G.2.1, 9, .inl t_longOf))] rfl rfl rfl (by decide) (st2 := [.int u38.1]) rfl ?_
    obtain rfl := Option.some.inj hm
    exact k_iret 12 cx dX7_valley_12 rfl rfl
