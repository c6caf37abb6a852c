theorem fgX0_9 {X : XT} {Q : State → Prop} {G : GT} {A : Nat → Prop} {nL : Nat} {lv : List (Nat × Value)} {st : List Value} {ws : va_W} {cc : ByteArray} {fr lo : Nat} {ret : Option FieldType} (pc : Nat) (cx : Cx X cc nL RX0 G fr lo ret) {a : Nat} {fs : List Value} {v : Value} (hd : decode cc pc = .ok (.getfield 9, 3)) (q0 : Nat) (he : ws[q0]? = some (a, .inr (0, fs))) (hv : fs[1]? = some v) (k : KJ X Q G A nL (pc + 3) lv (v :: st) ws) : KJ X Q G A nL pc lv (.ref a :: st) ws :=
  k_get (ref := RX0) (T := TX0) (N := 6) (ci := 0) pc cx inX0 rfl 1 (by decide) (tb_m (i := 196) rfl rfl) rfl hd q0 he hv k
def w_X0_rangAt (G : GT) (h_t : Nat) (h_t_rang : Nat) (h_t_valley : Nat) (h_t_underWay : Nat) (h_t_counting : Nat) (h_t_cameByRopes : Nat) (t_lastDue : Int32) (t_rang : (Nat → Int32)) : va_W := [(h_t, .inr (0, [.ref h_t_valley, .ref h_t_rang, .ref h_t_underWay, .ref h_t_counting, .ref h_t_cameByRopes, .int t_lastDue])), (h_t_rang, .inl (G.2.1, 400, .inl t_rang))]
def M_X0_rangAt (t_rang : (Nat → Int32)) (a1 : Int32) (a2 : Int32) : Option (Int32) := (gB (inb a2 400) (if (((t_rang (Int32.toNatClampNeg a2)) >>> (a1 &&& 31)) &&& (1 : Int32)) = 0 then (some (0 : Int32)) else (some (1 : Int32))))
set_option maxHeartbeats 4000000 in
set_option maxRecDepth 100000 in
theorem c_X0_rangAt (l : Launch) (G : GT) (h_t : Nat) (h_t_rang : Nat) (h_t_valley : Nat) (h_t_underWay : Nat) (h_t_counting : Nat) (h_t_cameByRopes : Nat) (t_lastDue : Int32) (t_rang : (Nat → Int32)) (a1 : Int32) (a2 : Int32) {u : Int32} (hm : M_X0_rangAt t_rang a1 a2 = some u) : CT l yX0_rangAt cX0_rangAt 3 (some .boolean) 0 0 [.ref h_t, .int a1, .int a2] G (w_X0_rangAt G h_t h_t_rang h_t_valley h_t_underWay h_t_counting h_t_cameByRopes t_lastDue t_rang) (some (.int u)) (w_X0_rangAt G h_t h_t_rang h_t_valley h_t_underWay h_t_counting h_t_cameByRopes t_lastDue t_rang) := by
  refine ct_intro RX0 [(0, .ref h_t), (1, .int a1), (2, .int a2)] (by decide) rfl (Nat.le_of_ble_eq_true rfl) rfl (fun X hX cx => ?_)
  unfold M_X0_rangAt at hm
  refine k_aload_n 0 cx dX0_rangAt_0 rfl 0 rfl ?_
  refine fgX0_9 1 cx dX0_rangAt_1 0 rfl rfl ?_
  refine k_iload_n 4 cx dX0_rangAt_4 rfl 2 rfl ?_
  refine k_iald 5 cx dX0_rangAt_5 1 rfl hm (fun hm => ?_)
  refine k_iload_n 6 cx dX0_rangAt_6 rfl 1 rfl ?_
  refine k_ishr 7 cx dX0_rangAt_7 ?_
  refine k_iconst 8 cx (v := (1 : Int32)) dX0_rangAt_8 (by decide) ?_
  refine k_iand 9 cx dX0_rangAt_9 ?_
  refine k_if_eq 10 cx (tgt := 17) dX0_rangAt_10 (by decide) hm (fun hc hm => ?_) (fun hc hm => ?_)
  · refine k_iconst 17 cx (v := (0 : Int32)) dX0_rangAt_17 (by decide) ?_
    obtain rfl := Option.some.inj hm
    exact k_zret 18 cx dX0_rangAt_18 (by decide) rfl rfl
  · refine k_iconst 13 cx (v := (1 : Int32)) dX0_rangAt_13 (by decide) ?_
    refine k_goto 14 cx (tgt := 18) dX0_rangAt_14 (by decide) ?_
    obtain rfl := Option.some.inj hm
    exact k_zret 18 cx dX0_rangAt_18 (by decide) rfl rfl
theorem fgX0_18 {X : XT} {Q : State → Prop} {G : GT} {A : Nat → Prop} {nL : Nat} {lv : List (Nat × Value)} {st : List Value} {ws : va_W} {cc : ByteArray} {fr lo : Nat} {ret : Option FieldType} (pc : Nat) (cx : Cx X cc nL RX0 G fr lo ret) {a : Nat} {fs : List Value} {v : Value} (hd : decode cc pc = .ok (.getfield 18, 3)) (q0 : Nat) (he : ws[q0]? = some (a, .inr (0, fs))) (hv : fs[3]? = some v) (k : KJ X Q G A nL (pc + 3) lv (v :: st) ws) : KJ X Q G A nL pc lv (.ref a :: st) ws :=
  k_get (ref := RX0) (T := TX0) (N := 6) (ci := 0) pc cx inX0 rfl 3 (by decide) (tb_m (i := 199) rfl rfl) rfl hd q0 he hv k
theorem fgX0_24 {X : XT} {Q : State → Prop} {G : GT} {A : Nat → Prop} {nL : Nat} {lv : List (Nat × Value)} {st : List Value} {ws : va_W} {cc : ByteArray} {fr lo : Nat} {ret : Option FieldType} (pc : Nat) (cx : Cx X cc nL RX0 G fr lo ret) {a : Nat} {fs : List Value} {v : Value} (hd : decode cc pc = .ok (.getfield 24, 3)) (q0 : Nat) (he : ws[q0]? = some (a, .inr (0, fs))) (hv : fs[0]? = some v) (k : KJ X Q G A nL (pc + 3) lv (v :: st) ws) : KJ X Q G A nL pc lv (.ref a :: st) ws :=
  k_get (ref := RX0) (T := TX0) (N := 6) (ci := 0) pc cx inX0 rfl 0 (by decide) (tb_m (i := 195) rfl rfl) rfl hd q0 he hv k
theorem fgX0_92 {X : XT} {Q : State → Prop} {G : GT} {A : Nat → Prop} {nL : Nat} {lv : List (Nat × Value)} {st : List Value} {ws : va_W} {cc : ByteArray} {fr lo : Nat} {ret : Option FieldType} (pc : Nat) (cx : Cx X cc nL RX0 G fr lo ret) {a : Nat} {fs : List Value} {v : Value} (hd : decode cc pc = .ok (.getfield 92, 3)) (q0 : Nat) (he : ws[q0]? = some (a, .inr (5, fs))) (hv : fs[7]? = some v) (k : KJ X Q G A nL (pc + 3) lv (v :: st) ws) : KJ X Q G A nL pc lv (.ref a :: st) ws :=
  k_get (ref := RX5) (T := TX5) (N := 9) (ci := 5) pc cx inX5 rfl 7 (by decide) (tb_m (i := 105) rfl rfl) rfl hd q0 he hv k
def w_X0_countTogether (G : GT) (h_t : Nat) (h_t_valley : Nat) (h_t_counting : Nat) (h_t_rang : Nat) (h_t_underWay : Nat) (h_t_cameByRopes : Nat) (h_t_valley_kinds : Nat) (h_t_valley_needs : Nat) (h_t_valley_from : Nat) (h_t_valley_to : Nat) (h_t_valley_lasts : Nat) (t_lastDue : Int32) (t_valley_bells : Int32) (t_valley_ropes : Int32) (t_valley_span : Int32) (t_valley_tied : Int32) (t_counting : (Nat → Int32)) : va_W := [(h_t, .inr (0, [.ref h_t_valley, .ref h_t_rang, .ref h_t_underWay, .ref h_t_counting, .ref h_t_cameByRopes, .int t_lastDue])), (h_t_valley, .inr (5, [.ref h_t_valley_kinds, .ref h_t_valley_needs, .ref h_t_valley_from, .ref h_t_valley_to, .ref h_t_valley_lasts, .int t_valley_bells, .int t_valley_ropes, .int t_valley_span, .int t_valley_tied])), (h_t_counting, .inl (G.2.1, 36, .inl t_counting))]
def L_X0_countTogether_5 (x1 : Int32) (x2 : Int32) (t_valley_span : Int32) (t_counting : (Nat → Int32)) : Nat → Int32 → Int32 → Option (Int32 × Int32)
  | 0, _, _ => none
  | n + 1, x3, x4 => (if t_valley_span < x4 then (some (x3, x4)) else (if x2 < x4 then (some (x3, x4)) else (nme (x2 - x4) (fun x10 => (gB (inb (((x10 - x10 / (6 : Int32) * (6 : Int32)) * (6 : Int32)) + x1) 36) (nme (x3 + (t_counting (Int32.toNatClampNeg (((x10 - x10 / (6 : Int32) * (6 : Int32)) * (6 : Int32)) + x1)))) (fun x11 => (nme (x4 + (1 : Int32)) (fun x12 => (L_X0_countTogether_5 x1 x2 t_valley_span t_counting n x11 x12))))))))))
def M_X0_countTogether (t_valley_span : Int32) (t_counting : (Nat → Int32)) (a1 : Int32) (a2 : Int32) : Option (Int32) := ((L_X0_countTogether_5 a1 a2 t_valley_span t_counting 1000 (0 : Int32) (0 : Int32)).bind (fun u13 => (some u13.1)))
set_option maxHeartbeats 4000000 in
set_option maxRecDepth 100000 in
theorem c_X0_countTogether (l : Launch) (G : GT) (h_t : Nat) (h_t_valley : Nat) (h_t_counting : Nat) (h_t_rang : Nat) (h_t_underWay : Nat) (h_t_cameByRopes : Nat) (h_t_valley_kinds : Nat) (h_t_valley_needs : Nat) (h_t_valley_from : Nat) (h_t_valley_to : Nat) (h_t_valley_lasts : Nat) (t_lastDue : Int32) (t_valley_bells : Int32) (t_valley_ropes : Int32) (t_valley_span : Int32) (t_valley_tied : Int32) (t_counting : (Nat → Int32)) (a1 : Int32) (a2 : Int32) {u : Int32} (hm : M_X0_countTogether t_valley_span t_counting a1 a2 = some u) : CT l yX0_countTogether cX0_countTogether 5 (some .int) 0 0 [.ref h_t, .int a1, .int a2] G (w_X0_countTogether G h_t h_t_valley h_t_counting h_t_rang h_t_underWay h_t_cameByRopes h_t_valley_kinds h_t_valley_needs h_t_valley_from h_t_valley_to h_t_valley_lasts t_lastDue t_valley_bells t_valley_ropes t_valley_span t_valley_tied t_counting) (some (.int u)) (w_X0_countTogether G h_t h_t_valley h_t_counting h_t_rang h_t_underWay h_t_cameByRopes h_t_valley_kinds h_t_valley_needs h_t_valley_from h_t_valley_to h_t_valley_lasts t_lastDue t_valley_bells t_valley_ropes t_valley_span t_valley_tied t_counting) := by
  refine ct_intro RX0 [(0, .ref h_t), (1, .int a1), (2, .int a2)] (by decide) rfl (Nat.le_of_ble_eq_true rfl) rfl (fun X hX cx => ?_)
  have lp5 : ∀ (Q : State → Prop) (A : Nat → Prop) (x1 : Int32) (x2 : Int32) (t_lastDue : Int32) (t_valley_bells : Int32) (t_valley_ropes : Int32) (t_valley_span : Int32) (t_valley_tied : Int32) (t_counting : (Nat → Int32)) (n : Nat) (x3 : Int32) (x4 : Int32) (y : Int32 × Int32), L_X0_countTogether_5 x1 x2 t_valley_span t_counting n x3 x4 = some y → (KJ X Q G A 5 49 [(3, .int y.1)] [] (w_X0_countTogether G h_t h_t_valley h_t_counting h_t_rang h_t_underWay h_t_cameByRopes h_t_valley_kinds h_t_valley_needs h_t_valley_from h_t_valley_to h_t_valley_lasts t_lastDue t_valley_bells t_valley_ropes t_valley_span t_valley_tied t_counting)) → KJ X Q G A 5 5 [(0, .ref h_t), (1, .int x1), (2, .int x2), (3, .int x3), (4, .int x4)] [] (w_X0_countTogether G h_t h_t_valley h_t_counting h_t_rang h_t_underWay h_t_cameByRopes h_t_valley_kinds h_t_valley_needs h_t_valley_from h_t_valley_to h_t_valley_lasts t_lastDue t_valley_bells t_valley_ropes t_valley_span t_valley_tied t_counting) := by
    intro Q A x1 x2 t_lastDue t_valley_bells t_valley_ropes t_valley_span t_valley_tied t_counting n
    induction n with
    | zero => intro x3 x4 y hm _; exact noS hm
    | succ n ih =>
      intro x3 x4 y hm k0
      rw [L_X0_countTogether_5] at hm
      refine k_iload 5 cx dX0_countTogether_5 4 rfl ?_
      refine k_aload_n 7 cx dX0_countTogether_7 rfl 0 rfl ?_
      refine fgX0_24 8 cx dX0_countTogether_8 0 rfl rfl ?_
      refine fgX0_92 11 cx dX0_countTogether_11 1 rfl rfl ?_
      refine k_icmp_gt 14 cx (tgt := 49) dX0_countTogether_14 (by decide) hm (fun hc hm => ?_) (fun hc hm => ?_)
      · obtain rfl := Option.some.inj hm
        refine k_lv [3] rfl ?_
        exact k0
      · refine k_iload 17 cx dX0_countTogether_17 4 rfl ?_
        refine k_iload_n 19 cx dX0_countTogether_19 rfl 2 rfl ?_
        refine k_icmp_gt 20 cx (tgt := 49) dX0_countTogether_20 (by decide) hm (fun hc hm => ?_) (fun hc hm => ?_)
        · obtain rfl := Option.some.inj hm
          refine k_lv [3] rfl ?_
          exact k0
        · refine k_iload_n 23 cx dX0_countTogether_23 rfl 3 rfl ?_
          refine k_aload_n 24 cx dX0_countTogether_24 rfl 0 rfl ?_
          refine fgX0_18 25 cx dX0_countTogether_25 0 rfl rfl ?_
          refine k_iload_n 28 cx dX0_countTogether_28 rfl 2 rfl ?_
          refine k_iload 29 cx dX0_countTogether_29 4 rfl ?_
          refine k_isub 31 cx dX0_countTogether_31 ?_
          refine k_bipush 32 cx (v := (6 : Int32)) dX0_countTogether_32 (by decide) ?_
          refine k_nm1 hm (fun x10 hm => ?_)
          refine k_irem_c 34 cx dX0_countTogether_34 (by decide) ?_
          refine k_bipush 35 cx (v := (6 : Int32)) dX0_countTogether_35 (by decide) ?_
          refine k_imul 37 cx dX0_countTogether_37 ?_
          refine k_iload_n 38 cx dX0_countTogether_38 rfl 1 rfl ?_
          refine k_iadd 39 cx dX0_countTogether_39 ?_
          refine k_iald 40 cx dX0_countTogether_40 2 rfl hm (fun hm => ?_)
          refine k_iadd 41 cx dX0_countTogether_41 ?_
          refine k_nm hm (fun x11 hm => ?_)
          refine k_istore_n 42 cx dX0_countTogether_42 rfl (by decide) (lv' := [(3, .int x11), (0, .ref h_t), (1, .int x1), (2, .int x2), (4, .int x4)]) rfl ?_
          refine k_iinc 43 cx dX0_countTogether_43 4 rfl (by decide) (by decide) (fun x12 => [(4, .int x12), (3, .int x11), (0, .ref h_t), (1, .int x1), (2, .int x2)]) (fun _ => rfl) hm (fun x12 hm => ?_)
          refine k_goto 46 cx (tgt := 5) dX0_countTogether_46 (by decide) ?_
          refine k_lv [2, 3, 4, 1, 0] rfl ?_
          exact ih x11 x12 _ hm k0
  unfold M_X0_countTogether at hm
  refine k_iconst 0 cx (v := (0 : Int32)) dX0_countTogether_0 (by decide) ?_
  refine k_istore_n 1 cx dX0_countTogether_1 rfl (by decide) (lv' := [(3, .int (0 : Int32)), (0, .ref h_t), (1, .int a1), (2, .int a2)]) rfl ?_
  refine k_iconst 2 cx (v := (0 : Int32)) dX0_countTogether_2 (by decide) ?_
  refine k_istore 3 cx dX0_countTogether_3 (by decide) (lv' := [(4, .int (0 : Int32)), (3, .int (0 : Int32)), (0, .ref h_t), (1, .int a1), (2, .int a2)]) rfl ?_
  refine k_lv [2, 3, 4, 1, 0] rfl ?_
  obtain ⟨u13, hu13, hm⟩ := bnd hm
  refine lp5 _ _ a1 a2 t_lastDue t_valley_bells t_valley_ropes t_valley_span t_valley_tied t_counting 1000 (0 : Int32) (0 : Int32) u13 hu13 ?_
  refine k_iload_n 49 cx dX0_countTogether_49 rfl 0 rfl ?_
  obtain rfl := Option.some.inj hm
  exact k_iret 50 cx dX0_countTogether_50 rfl rfl
theorem fgX5_9 {X : XT} {Q : State → Prop} {G : GT} {A : Nat → Prop} {nL : Nat} {lv : List (Nat × Value)} {st : List Value} {ws : va_W} {cc : ByteArray} {fr lo : Nat} {ret : Option FieldType} (pc : Nat) (cx : Cx X cc nL RX5 G fr lo ret) {a : Nat} {fs : List Value} {v : Value} (hd : decode cc pc = .ok (.getfield 9, 3)) (q0 : Nat) (he : ws[q0]? = some (a, .inr (5, fs))) (hv : fs[0]? = some v) (k : KJ X Q G A nL (pc + 3) lv (v :: st) ws) : KJ X Q G A nL pc lv (.ref a :: st) ws :=
  k_get (ref := RX5) (T := TX5) (N := 9) (ci := 5) pc cx inX5 rfl 0 (by decide) (tb_m (i := 77) rfl rfl) rfl hd q0 he hv k
theorem fgX5_15 {X : XT} {Q : State → Prop} {G : GT} {A : Nat → Prop} {nL : Nat} {lv : List (Nat × Value)} {st : List Value} {ws : va_W} {cc : ByteArray} {fr lo : Nat} {ret : Option FieldType} (pc : Nat) (cx : Cx X cc nL RX5 G fr lo ret) {a : Nat} {fs : List Value} {v : Value} (hd : decode cc pc = .ok (.getfield 15, 3)) (q0 : Nat) (he : ws[q0]? = some (a, .inr (5, fs))) (hv : fs[1]? = some v) (k : KJ X Q G A nL (pc + 3) lv (v :: st) ws) : KJ X Q G A nL pc lv (.ref a :: st) ws :=
  k_get (ref := RX5) (T := TX5) (N := 9) (ci := 5) pc cx inX5 rfl 1 (by decide) (tb_m (i := 81) rfl rfl) rfl hd q0 he hv k
def w_X5_swingsFor (G : GT) (h_t : Nat) (h_t_kinds : Nat) (h_t_needs : Nat) (h_t_from : Nat) (h_t_to : Nat) (h_t_lasts : Nat) (t_bells : Int32) (t_ropes : Int32) (t_span : Int32) (t_tied : Int32) (t_kinds : (Nat → Int32)) (t_needs : (Nat → Int32)) : va_W := [(h_t, .inr (5, [.ref h_t_kinds, .ref h_t_needs, .ref h_t_from, .ref h_t_to, .ref h_t_lasts, .int t_bells, .int t_ropes, .int t_span, .int t_tied])), (h_t_kinds, .inl (G.2.1, 6, .inl t_kinds)), (h_t_needs, .inl (G.2.1, 6, .inl t_needs))]
def M_X5_swingsFor (t_kinds : (Nat → Int32)) (t_needs : (Nat → Int32)) (a1 : Int32) : Option (Int32) := (gB (inb a1 6) (if (t_kinds (Int32.toNatClampNeg a1)) = 0 then (gB (inb a1 6) (some (t_needs (Int32.toNatClampNeg a1)))) else (gB (inb a1 6) (some ((t_needs (Int32.toNatClampNeg a1)) + (1 : Int32))))))
set_option maxHeartbeats 4000000 in
set_option maxRecDepth 100000 in
theorem c_X5_swingsFor (l : Launch) (G : GT) (h_t : Nat) (h_t_kinds : Nat) (h_t_needs : Nat) (h_t_from : Nat) (h_t_to : Nat) (h_t_lasts : Nat) (t_bells : Int32) (t_ropes : Int32) (t_span : Int32) (t_tied : Int32) (t_kinds : (Nat → Int32)) (t_needs : (Nat → Int32)) (a1 : Int32) {u : Int32} (hm : M_X5_swingsFor t_kinds t_needs a1 = some u) : CT l yX5_swingsFor cX5_swingsFor 2 (some .int) 0 0 [.ref h_t, .int a1] G (w_X5_swingsFor G h_t h_t_kinds h_t_needs h_t_from h_t_to h_t_lasts t_bells t_ropes t_span t_tied t_kinds t_needs) (some (.int u)) (w_X5_swingsFor G h_t h_t_kinds h_t_needs h_t_from h_t_to h_t_lasts t_bells t_ropes t_span t_tied t_kinds t_needs) := by
  refine ct_intro RX5 [(0, .ref h_t), (1, .int a1)] (by decide) rfl (Nat.le_of_ble_eq_true rfl) rfl (fun X hX cx => ?_)
  unfold M_X5_swingsFor at hm
  refine k_aload_n 0 cx dX5_swingsFor_0 rfl 0 rfl ?_
  refine fgX5_9 1 cx dX5_swingsFor_1 0 rfl rfl ?_
  refine k_iload_n 4 cx dX5_swingsFor_4 rfl 1 rfl ?_
  refine k_iald 5 cx dX5_swingsFor_5 1 rfl hm (fun hm => ?_)
  refine k_if_ne 6 cx (tgt := 18) dX5_swingsFor_6 (by decide) hm (fun hc hm => ?_) (fun hc hm => ?_)
  · refine k_aload_n 9 cx dX5_swingsFor_9 rfl 0 rfl ?_
    refine fgX5_15 10 cx dX5_swingsFor_10 0 rfl rfl ?_
    refine k_iload_n 13 cx dX5_swingsFor_13 rfl 1 rfl ?_
    refine k_iald 14 cx dX5_swingsFor_14 2 rfl hm (fun hm => ?_)
    refine k_goto 15 cx (tgt := 26) dX5_swingsFor_15 (by decide) ?_
    obtain rfl := Option.some.inj hm
    exact k_iret 26 cx dX5_swingsFor_26 rfl rfl
  · refine k_aload_n 18 cx dX5_swingsFor_18 rfl 0 rfl ?_
    refine fgX5_15 19 cx dX5_swingsFor_19 0 rfl rfl ?_
    refine k_iload_n 22 cx dX5_swingsFor_22 rfl 1 rfl ?_
    refine k_iald 23 cx dX5_swingsFor_23 2 rfl hm (fun hm => ?_)
    refine k_iconst 24 cx (v := (1 : Int32)) dX5_swingsFor_24 (by decide) ?_
    refine k_iadd 25 cx dX5_swingsFor_25 ?_
    obtain rfl := Option.some.inj hm
    exact k_iret 26 cx dX5_swingsFor_26 rfl rfl
theorem fgX0_21 {X : XT} {Q : State → Prop} {G : GT} {A : Nat → Prop} {nL : Nat} {lv : List (Nat × Value)} {st : List Value} {ws : va_W} {cc : ByteArray} {fr lo : Nat} {ret : Option FieldType} (pc : Nat) (cx : Cx X cc nL RX0 G fr lo ret) {a : Nat} {fs : List Value} {v : Value} (hd : decode cc pc = .ok (.getfield 21, 3)) (q0 : Nat) (he : ws[q0]? = some (a, .inr (0, fs))) (hv : fs[4]? = some v) (k : KJ X Q G A nL (pc + 3) lv (v :: st) ws) : KJ X Q G A nL pc lv (.ref a :: st) ws :=
  k_get (ref := RX0) (T := TX0) (N := 6) (ci := 0) pc cx inX0 rfl 4 (by decide) (tb_m (i := 200) rfl rfl) rfl hd q0 he hv k
def w_X0_forget (G : GT) (h_t : Nat) (h_t_counting : Nat) (h_t_cameByRopes : Nat) (h_t_valley : Nat) (h_t_rang : Nat) (h_t_underWay : Nat) (t_lastDue : Int32) (t_counting : (Nat → Int32)) (t_cameByRopes : (Nat → Int32)) : va_W := [(h_t, .inr (0, [.ref h_t_valley, .ref h_t_rang, .ref h_t_underWay, .ref h_t_counting, .ref h_t_cameByRopes, .int t_lastDue])), (h_t_counting, .inl (G.2.1, 36, .inl t_counting)), (h_t_cameByRopes, .inl (G.2.1, 6, .inl t_cameByRopes))]
def L_X0_forget_2 (x1 : Int32) : Nat → Int32 → (Nat → Int32) → Option (Int32 × (Nat → Int32))
  | 0, _, _ => none
  | n + 1, x2, t_counting => (if (6 : Int32) ≤ x2 then (some (x2, t_counting)) else (gB (inb ((x2 * (6 : Int32)) + x1) 36) (nme (upd t_counting (Int32.toNatClampNeg ((x2 * (6 : Int32)) + x1)) (0 : Int32)) (fun f9 => (nme (x2 + (1 : Int32)) (fun x10 => (L_X0_forget_2 x1 n x10 f9)))))))
def M_X0_forget (t_counting : (Nat → Int32)) (t_cameByRopes : (Nat → Int32)) (a1 : Int32) : Option ((Nat → Int32) × (Nat → Int32)) := ((L_X0_forget_2 a1 1000 (0 : Int32) t_counting).bind (fun u11 => (gB (inb a1 6) (nme (upd t_cameByRopes (Int32.toNatClampNeg a1) (0 : Int32)) (fun f12 => (some (u11.2, f12)))))))
set_option maxHeartbeats 4000000 in
set_option maxRecDepth 100000 in
theorem c_X0_forget (l : Launch) (G : GT) (h_t : Nat) (h_t_counting : Nat) (h_t_cameByRopes : Nat) (h_t_valley : Nat) (h_t_rang : Nat) (h_t_underWay : Nat) (t_lastDue : Int32) (t_counting : (Nat → Int32)) (t_cameByRopes : (Nat → Int32)) (a1 : Int32) {u : (Nat → Int32) × (Nat → Int32)} (hm : M_X0_forget t_counting t_cameByRopes a1 = some u) : CT l yX0_forget cX0_forget 3 none 0 0 [.ref h_t, .int a1] G (w_X0_forget G h_t h_t_counting h_t_cameByRopes h_t_valley h_t_rang h_t_underWay t_lastDue t_counting t_cameByRopes) none (w_X0_forget G h_t h_t_counting h_t_cameByRopes h_t_valley h_t_rang h_t_underWay t_lastDue u.1 u.2) := by
  refine ct_intro RX0 [(0, .ref h_t), (1, .int a1)] (by decide) rfl (Nat.le_of_ble_eq_true rfl) rfl (fun X hX cx => ?_)
  have lp2 : ∀ (Q : State → Prop) (A : Nat → Prop) (x1 : Int32) (t_lastDue : Int32) (t_cameByRopes : (Nat → Int32)) (n : Nat) (x2 : Int32) (t_counting : (Nat → Int32)) (y : Int32 × (Nat → Int32)), L_X0_forget_2 x1 n x2 t_counting = some y → (KJ X Q G A 3 26 [(0, .ref h_t), (1, .int x1)] [] (w_X0_forget G h_t h_t_counting h_t_cameByRopes h_t_valley h_t_rang h_t_underWay t_lastDue y.2 t_cameByRopes)) → KJ X Q G A 3 2 [(0, .ref h_t), (1, .int x1), (2, .int x2)] [] (w_X0_forget G h_t h_t_counting h_t_cameByRopes h_t_valley h_t_rang h_t_underWay t_lastDue t_counting t_cameByRopes) := by
    intro Q A x1 t_lastDue t_cameByRopes n
    induction n with
    | zero => intro x2 t_counting y hm _; exact noS hm
    | succ n ih =>
      intro x2 t_counting y hm k0
      rw [L_X0_forget_2] at hm
      refine k_iload_n 2 cx dX0_forget_2 rfl 2 rfl ?_
      refine k_bipush 3 cx (v := (6 : Int32)) dX0_forget_3 (by decide) ?_
      refine k_icmp_ge 5 cx (tgt := 26) dX0_forget_5 (by decide) hm (fun hc hm => ?_) (fun hc hm => ?_)
      · obtain rfl := Option.some.inj hm
        refine k_lv [0, 1] rfl ?_
        exact k0
      · refine k_aload_n 8 cx dX0_forget_8 rfl 0 rfl ?_
        refine fgX0_18 9 cx dX0_forget_9 0 rfl rfl ?_
        refine k_iload_n 12 cx dX0_forget_12 rfl 2 rfl ?_
        refine k_bipush 13 cx (v := (6 : Int32)) dX0_forget_13 (by decide) ?_
        refine k_imul 15 cx dX0_forget_15 ?_
        refine k_iload_n 16 cx dX0_forget_16 rfl 1 rfl ?_
        refine k_iadd 17 cx dX0_forget_17 ?_
        refine k_iconst 18 cx (v := (0 : Int32)) dX0_forget_18 (by decide) ?_
        refine k_iast 19 cx dX0_forget_19 1 rfl (fun f9 => (w_X0_forget G h_t h_t_counting h_t_cameByRopes h_t_valley h_t_rang h_t_underWay t_lastDue f9 t_cameByRopes)) (fun _ => rfl) hm (fun f9 hm => ?_)
        refine k_iinc 20 cx dX0_forget_20 2 rfl (by decide) (by decide) (fun x10 => [(2, .int x10), (0, .ref h_t), (1, .int x1)]) (fun _ => rfl) hm (fun x10 hm => ?_)
        refine k_goto 23 cx (tgt := 2) dX0_forget_23 (by decide) ?_
        refine k_lv [1, 2, 0] rfl ?_
        exact ih x10 f9 _ hm k0
  unfold M_X0_forget at hm
  refine k_iconst 0 cx (v := (0 : Int32)) dX0_forget_0 (by decide) ?_
  refine k_istore_n 1 cx dX0_forget_1 rfl (by decide) (lv' := [(2, .int (0 : Int32)), (0, .ref h_t), (1, .int a1)]) rfl ?_
  refine k_lv [1, 2, 0] rfl ?_
  obtain ⟨u11, hu11, hm⟩ := bnd hm
  refine lp2 _ _ a1 t_lastDue t_cameByRopes 1000 (0 : Int32) t_counting u11 hu11 ?_
  refine k_aload_n 26 cx dX0_forget_26 rfl 0 rfl ?_
  refine fgX0_21 27 cx dX0_forget_27 0 rfl rfl ?_
  refine k_iload_n 30 cx dX0_forget_30 rfl 1 rfl ?_
  refine k_iconst 31 cx (v := (0 : Int32)) dX0_forget_31 (by decide) ?_
  refine k_iast 32 cx dX0_forget_32 2 rfl (fun f12 => (w_X0_forget G h_t h_t_counting h_t_cameByRopes h_t_valley h_t_rang h_t_underWay t_lastDue u11.2 f12)) (fun _ => rfl) hm (fun f12 hm => ?_)
  obtain rfl := Option.some.inj hm
  exact k_vret 33 cx dX0_forget_33 rfl rfl
theorem fgX0_59 {X : XT} {Q : State → Prop} {G : GT} {A : Nat → Prop} {nL : Nat} {lv : List (Nat × Value)} {st : List Value} {ws : va_W} {cc : ByteArray} {fr lo : Nat} {ret : Option FieldType} (pc : Nat) (cx : Cx X cc nL RX0 G fr lo ret) {a : Nat} {fs : List Value} {v : Value} (hd : decode cc pc = .ok (.getfield 59, 3)) (q0 : Nat) (he : ws[q0]? = some (a, .inr (5, fs))) (hv : fs[5]? = some v) (k : KJ X Q G A nL (pc + 3) lv (v :: st) ws) : KJ X Q G A nL pc lv (.ref a :: st) ws :=
  k_get (ref := RX5) (T := TX5) (N := 9) (ci := 5) pc cx inX5 rfl 5 (by decide) (tb_m (i := 99) rfl rfl) rfl hd q0 he hv k
theorem cwX0_82 : CWV RX0 82 RX0 yX0_countTogether cX0_countTogether 5 (some .int) 2 0 TX0 6 := ⟨tb_m (i := 428) rfl rfl, tb_m (i := 430) rfl rfl, tb_m (i := 13) rfl rfl, tb_m (i := 56) rfl rfl, tb_m (i := 431) rfl rfl, ⟨by decide +kernel, by decide +kernel, by decide +kernel⟩, rfl⟩
theorem cwX0_85 : CWV RX0 85 RX5 yX5_swingsFor cX5_swingsFor 2 (some .int) 1 5 TX5 9 := ⟨tb_m (i := 432) rfl rfl, tb_m (i := 351) rfl rfl, tb_m (i := 352) rfl rfl, tb_m (i := 52) rfl rfl, tb_m (i := 353) rfl rfl, ⟨by decide +kernel, by decide +kernel, by decide +kernel⟩, rfl⟩
theorem cwX0_89 : CWV RX0 89 RX0 yX0_forget cX0_forget 3 none 1 0 TX0 6 := ⟨tb_m (i := 433) rfl rfl, tb_m (i := 435) rfl rfl, tb_m (i := 14) rfl rfl, tb_m (i := 56) rfl rfl, tb_m (i := 436) rfl rfl, ⟨by decide +kernel, by decide +kernel, by decide +kernel⟩, rfl⟩
def w_X0_ringAll (G : GT) (h_t : Nat) (h_t_valley : Nat) (h_t_counting : Nat) (h_t_valley_kinds : Nat) (h_t_valley_needs : Nat) (h_t_rang : Nat) (h_t_cameByRopes : Nat) (h_t_underWay : Nat) (h_t_valley_from : Nat) (h_t_valley_to : Nat) (h_t_valley_lasts : Nat) (t_lastDue : Int32) (t_valley_bells : Int32) (t_valley_ropes : Int32) (t_valley_span : Int32) (t_valley_tied : Int32) (t_counting : (Nat → Int32)) (t_valley_kinds : (Nat → Int32)) (t_valley_needs : (Nat → Int32)) (t_rang : (Nat → Int32)) (t_cameByRopes : (Nat → Int32)) : va_W := [(h_t, .inr (0, [.ref h_t_valley, .ref h_t_rang, .ref h_t_underWay, .ref h_t_counting, .ref h_t_cameByRopes, .int t_lastDue])), (h_t_valley, .inr (5, [.ref h_t_valley_kinds, .ref h_t_valley_needs, .ref h_t_valley_from, .ref h_t_valley_to, .ref h_t_valley_lasts, .int t_valley_bells, .int t_valley_ropes, .int t_valley_span, .int t_valley_tied])), (h_t_counting, .inl (G.2.1, 36, .inl t_counting)), (h_t_valley_kinds, .inl (G.2.1, 6, .inl t_valley_kinds)), (h_t_valley_needs, .inl (G.2.1, 6, .inl t_valley_needs)), (h_t_rang, .inl (G.2.1, 400, .inl t_rang)), (h_t_cameByRopes, .inl (G.2.1, 6, .inl t_cameByRopes))]
def L_X0_ringAll_2 (x1 : Int32) (x2 : Int32) (t_valley_bells : Int32) (t_valley_span : Int32) (t_valley_kinds : (Nat → Int32)) (t_valley_needs : (Nat → Int32)) : Nat → Int32 → (Nat → Int32) → (Nat → Int32) → (Nat → Int32) → Option (Int32 × (Nat → Int32) × (Nat → Int32) × (Nat → Int32))
  | 0, _, _, _, _ => none
  | n + 1, x3, t_counting, t_rang, t_cameByRopes => (if t_valley_bells ≤ x3 then (some (x3, t_counting, t_rang, t_cameByRopes)) else (if ((x2 >>> (x3 &&& 31)) &&& (1 : Int32)) = 0 then ((M_X0_countTogether t_valley_span t_counting x3 x1).bind (fun u23 => ((M_X5_swingsFor t_valley_kinds t_valley_needs x3).bind (fun u24 => (if u23 < u24 then (nme (x3 + (1 : Int32)) (fun x25 => (L_X0_ringAll_2 x1 x2 t_valley_bells t_valley_span t_valley_kinds t_valley_needs n x25 t_counting t_rang t_cameByRopes))) else (gB (inb x1 400) (gB (inb x1 400) (nme (upd t_rang (Int32.toNatClampNeg x1) ((t_rang (Int32.toNatClampNeg x1)) ||| ((1 : Int32) <<< (x3 &&& 31)))) (fun f26 => ((M_X0_forget t_counting t_cameByRopes x3).bind (fun u27 => (nme (x3 + (1 : Int32)) (fun x28 => (L_X0_ringAll_2 x1 x2 t_valley_bells t_valley_span t_valley_kinds t_valley_needs n x28 u27.1 f26 u27.2)))))))))))))) else (nme (x3 + (1 : Int32)) (fun x22 => (L_X0_ringAll_2 x1 x2 t_valley_bells t_valley_span t_valley_kinds t_valley_needs n x22 t_counting t_rang t_cameByRopes)))))
def M_X0_ringAll (t_valley_bells : Int32) (t_valley_span : Int32) (t_counting : (Nat → Int32)) (t_valley_kinds : (Nat → Int32)) (t_valley_needs : (Nat → Int32)) (t_rang : (Nat → Int32)) (t_cameByRopes : (Nat → Int32)) (a1 : Int32) (a2 : Int32) : Option ((Nat → Int32) × (Nat → Int32) × (Nat → Int32)) := ((L_X0_ringAll_2 a1 a2 t_valley_bells t_valley_span t_valley_kinds t_valley_needs 1000 (0 : Int32) t_counting t_rang t_cameByRopes).bind (fun u29 => (some (u29.2.1, u29.2.2.1, u29.2.2.2))))
set_option maxHeartbeats 4000000 in
set_option maxRecDepth 100000 in
theorem c_X0_ringAll (l : Launch) (G : GT) (h_t : Nat) (h_t_valley : Nat) (h_t_counting : Nat) (h_t_valley_kinds : Nat) (h_t_valley_needs : Nat) (h_t_rang : Nat) (h_t_cameByRopes : Nat) (h_t_underWay : Nat) (h_t_valley_from : Nat) (h_t_valley_to : Nat) (h_t_valley_lasts : Nat) (t_lastDue : Int32) (t_valley_bells : Int32) (t_valley_ropes : Int32) (t_valley_span : Int32) (t_valley_tied : Int32) (t_counting : (Nat → Int32)) (t_valley_kinds : (Nat → Int32)) (t_valley_needs : (Nat → Int32)) (t_rang : (Nat → Int32)) (t_cameByRopes : (Nat → Int32)) (a1 : Int32) (a2 : Int32) {u : (Nat → Int32) × (Nat → Int32) × (Nat → Int32)} (hm : M_X0_ringAll t_valley_bells t_valley_span t_counting t_valley_kinds t_valley_needs t_rang t_cameByRopes a1 a2 = some u) : CT l yX0_ringAll cX0_ringAll 4 none 1 24 [.ref h_t, .int a1, .int a2] G (w_X0_ringAll G h_t h_t_valley h_t_counting h_t_valley_kinds h_t_valley_needs h_t_rang h_t_cameByRopes h_t_underWay h_t_valley_from h_t_valley_to h_t_valley_lasts t_lastDue t_valley_bells t_valley_ropes t_valley_span t_valley_tied t_counting t_valley_kinds t_valley_needs t_rang t_cameByRopes) none (w_X0_ringAll G h_t h_t_valley h_t_counting h_t_valley_kinds h_t_valley_needs h_t_rang h_t_cameByRopes h_t_underWay h_t_valley_from h_t_valley_to h_t_valley_lasts t_lastDue t_valley_bells t_valley_ropes t_valley_span t_valley_tied u.1 t_valley_kinds t_valley_needs u.2.1 u.2.2) := by
  refine ct_intro RX0 [(0, .ref h_t), (1, .int a1), (2, .int a2)] (by decide) rfl (Nat.le_of_ble_eq_true rfl) rfl (fun X hX cx => ?_)
  have lp2 : ∀ (Q : State → Prop) (A : Nat → Prop) (x1 : Int32) (x2 : Int32) (t_lastDue : Int32) (t_valley_bells : Int32) (t_valley_ropes : Int32) (t_valley_span : Int32) (t_valley_tied : Int32) (t_valley_kinds : (Nat → Int32)) (t_valley_needs : (Nat → Int32)) (n : Nat) (x3 : Int32) (t_counting : (Nat → Int32)) (t_rang : (Nat → Int32)) (t_cameByRopes : (Nat → Int32)) (y : Int32 × (Nat → Int32) × (Nat → Int32) × (Nat → Int32)), L_X0_ringAll_2 x1 x2 t_valley_bells t_valley_span t_valley_kinds t_valley_needs n x3 t_counting t_rang t_cameByRopes = some y → (KJ X Q G A 4 61 [] [] (w_X0_ringAll G h_t h_t_valley h_t_counting h_t_valley_kinds h_t_valley_needs h_t_rang h_t_cameByRopes h_t_underWay h_t_valley_from h_t_valley_to h_t_valley_lasts t_lastDue t_valley_bells t_valley_ropes t_valley_span t_valley_tied y.2.1 t_valley_kinds t_valley_needs y.2.2.1 y.2.2.2)) → KJ X Q G A 4 2 [(0, .ref h_t), (1, .int x1), (2, .int x2), (3, .int x3)] [] (w_X0_ringAll G h_t h_t_valley h_t_counting h_t_valley_kinds h_t_valley_needs h_t_rang h_t_cameByRopes h_t_underWay h_t_valley_from h_t_valley_to h_t_valley_lasts t_lastDue t_valley_bells t_valley_ropes t_valley_span t_valley_tied t_counting t_valley_kinds t_valley_needs t_rang t_cameByRopes) := by
    intro Q A x1 x2 t_lastDue t_valley_bells t_valley_ropes t_valley_span t_valley_tied t_valley_kinds t_valley_needs n
    induction n with
    | zero => intro x3 t_counting t_rang t_cameByRopes y hm _; exact noS hm
    | succ n ih =>
      intro x3 t_counting t_rang t_cameByRopes y hm k0
      rw [L_X0_ringAll_2] at hm
      refine k_iload_n 2 cx dX0_ringAll_2 rfl 3 rfl ?_
      refine k_aload_n 3 cx dX0_ringAll_3 rfl 0 rfl ?_
      refine fgX0_24 4 cx dX0_ringAll_4 0 rfl rfl ?_
      refine fgX0_59 7 cx dX0_ringAll_7 1 rfl rfl ?_
      refine k_icmp_ge 10 cx (tgt := 61) dX0_ringAll_10 (by decide) hm (fun hc hm => ?_) (fun hc hm => ?_)
      · obtain rfl := Option.some.inj hm
        refine k_lv [] rfl ?_
        exact k0
      · refine k_iload_n 13 cx dX0_ringAll_13 rfl 2 rfl ?_
        refine k_iload_n 14 cx dX0_ringAll_14 rfl 3 rfl ?_
        refine k_ishr 15 cx dX0_ringAll_15 ?_
        refine k_iconst 16 cx (v := (1 : Int32)) dX0_ringAll_16 (by decide) ?_
        refine k_iand 17 cx dX0_ringAll_17 ?_
        refine k_if_ne 18 cx (tgt := 55) dX0_ringAll_18 (by decide) hm (fun hc hm => ?_) (fun hc hm => ?_)
        · refine k_aload_n 21 cx dX0_ringAll_21 rfl 0 rfl ?_
          refine k_iload_n 22 cx dX0_ringAll_22 rfl 3 rfl ?_
          refine k_iload_n 23 cx dX0_ringAll_23 rfl 1 rfl ?_
          obtain ⟨u23, hu23, hm⟩ := bnd hm
          refine k_callV 24 cx cwX0_82 (c_X0_countTogether X.2.1 G h_t h_t_valley h_t_counting h_t_rang h_t_underWay h_t_cameByRopes h_t_valley_kinds h_t_valley_needs h_t_valley_from h_t_valley_to h_t_valley_lasts t_lastDue t_valley_bells t_valley_ropes t_valley_span t_valley_tied t_counting x3 x1 hu23) dX0_ringAll_24 ⟨by decide, by decide⟩ rfl rfl (rest := []) rfl (Nat.le_of_ble_eq_true rfl) [0, 1, 2] (by decide) rfl rfl (w2 := (w_X0_ringAll G h_t h_t_valley h_t_counting h_t_valley_kinds h_t_valley_needs h_t_rang h_t_cameByRopes h_t_underWay h_t_valley_from h_t_valley_to h_t_valley_lasts t_lastDue t_valley_bells t_valley_ropes t_valley_span t_valley_tied t_counting t_valley_kinds t_valley_needs t_rang t_cameByRopes)) rfl (st2 := [.int u23]) rfl ?_
          refine k_aload_n 27 cx dX0_ringAll_27 rfl 0 rfl ?_
          refine fgX0_24 28 cx dX0_ringAll_28 0 rfl rfl ?_
          refine k_iload_n 31 cx dX0_ringAll_31 rfl 3 rfl ?_
          obtain ⟨u24, hu24, hm⟩ := bnd hm
          refine k_callV 32 cx cwX0_85 (c_X5_swingsFor X.2.1 G h_t_valley h_t_valley_kinds h_t_valley_needs h_t_valley_from h_t_valley_to h_t_valley_lasts t_valley_bells t_valley_ropes t_valley_span t_valley_tied t_valley_kinds t_valley_needs x3 hu24) dX0_ringAll_32 ⟨by decide, by decide⟩ rfl rfl (rest := [.int u23]) rfl (Nat.le_of_ble_eq_true rfl) [1, 3, 4] (by decide) rfl rfl (w2 := (w_X0_ringAll G h_t h_t_valley h_t_counting h_t_valley_kinds h_t_valley_needs h_t_rang h_t_cameByRopes h_t_underWay h_t_valley_from h_t_valley_to h_t_valley_lasts t_lastDue t_valley_bells t_valley_ropes t_valley_span t_valley_tied t_counting t_valley_kinds t_valley_needs t_rang t_cameByRopes)) rfl (st2 := [.int u24, .int u23]) rfl ?_
          refine k_icmp_lt 35 cx (tgt := 55) dX0_ringAll_35 (by decide) hm (fun hc hm => ?_) (fun hc hm => ?_)
          · refine k_iinc 55 cx dX0_ringAll_55 3 rfl (by decide) (by decide) (fun x25 => [(3, .int x25), (0, .ref h_t), (1, .int x1), (2, .int x2)]) (fun _ => rfl) hm (fun x25 hm => ?_)
            refine k_goto 58 cx (tgt := 2) dX0_ringAll_58 (by decide) ?_
            refine k_lv [1, 2, 3, 0] rfl ?_
            exact ih x25 t_counting t_rang t_cameByRopes _ hm k0
          · refine k_aload_n 38 cx dX0_ringAll_38 rfl 0 rfl ?_
            refine fgX0_9 39 cx dX0_ringAll_39 0 rfl rfl ?_
            refine k_iload_n 42 cx dX0_ringAll_42 rfl 1 rfl ?_
            refine k_dup2 43 cx dX0_ringAll_43 rfl rfl ?_
            refine k_iald 44 cx dX0_ringAll_44 5 rfl hm (fun hm => ?_)
            refine k_iconst 45 cx (v := (1 : Int32)) dX0_ringAll_45 (by decide) ?_
            refine k_iload_n 46 cx dX0_ringAll_46 rfl 3 rfl ?_
            refine k_ishl 47 cx dX0_ringAll_47 ?_
            refine k_ior 48 cx dX0_ringAll_48 ?_
            refine k_iast 49 cx dX0_ringAll_49 5 rfl (fun f26 => (w_X0_ringAll G h_t h_t_valley h_t_counting h_t_valley_kinds h_t_valley_needs h_t_rang h_t_cameByRopes h_t_underWay h_t_valley_from h_t_valley_to h_t_valley_lasts t_lastDue t_valley_bells t_valley_ropes t_valley_span t_valley_tied t_counting t_valley_kinds t_valley_needs f26 t_cameByRopes)) (fun _ => rfl) hm (fun f26 hm => ?_)
            refine k_aload_n 50 cx dX0_ringAll_50 rfl 0 rfl ?_
            refine k_iload_n 51 cx dX0_ringAll_51 rfl 3 rfl ?_
            obtain ⟨u27, hu27, hm⟩ := bnd hm
            refine k_callV 52 cx cwX0_89 (c_X0_forget X.2.1 G h_t h_t_counting h_t_cameByRopes h_t_valley h_t_rang h_t_underWay t_lastDue t_counting t_cameByRopes x3 hu27) dX0_ringAll_52 ⟨by decide, by decide⟩ rfl rfl (rest := []) rfl (Nat.le_of_ble_eq_true rfl) [0, 2, 6] (by decide) rfl rfl (w2 := (w_X0_ringAll G h_t h_t_valley h_t_counting h_t_valley_kinds h_t_valley_needs h_t_rang h_t_cameByRopes h_t_underWay h_t_valley_from h_t_valley_to h_t_valley_lasts t_lastDue t_valley_bells t_valley_ropes t_valley_span t_valley_tied u27.1 t_valley_kinds t_valley_needs f26 u27.2)) rfl (st2 := []) rfl ?_
            refine k_iinc 55 cx dX0_ringAll_55 3 rfl (by decide) (by decide) (fun x28 => [(3, .int x28), (0, .ref h_t), (1, .int x1), (2, .int x2)]) (fun _ => rfl) hm (fun x28 hm => ?_)
            refine k_goto 58 cx (tgt := 2) dX0_ringAll_58 (by decide) ?_
            refine k_lv [1, 2, 3, 0] rfl ?_
            exact ih x28 u27.1 f26 u27.2 _ hm k0
        · refine k_iinc 55 cx dX0_ringAll_55 3 rfl (by decide) (by decide) (fun x22 => [(3, .int x22), (0, .ref h_t), (1, .int x1), (2, .int x2)]) (fun _ => rfl) hm (fun x22 hm => ?_)
          refine k_goto 58 cx (tgt := 2) dX0_ringAll_58 (by decide) ?_
          refine k_lv [1, 2, 3, 0] rfl ?_
          exact ih x22 t_counting t_rang t_cameByRopes _ hm k0
  unfold M_X0_ringAll at hm
  refine k_iconst 0 cx (v := (0 : Int32)) dX0_ringAll_0 (by decide) ?_
  refine k_istore_n 1 cx dX0_ringAll_1 rfl (by decide) (lv' := [(3, .int (0 : Int32)), (0, .ref h_t), (1, .int a1), (2, .int a2)]) rfl ?_
  refine k_lv [1, 2, 3, 0] rfl ?_
  obtain ⟨u29, hu29, hm⟩ := bnd hm
  refine lp2 _ _ a1 a2 t_lastDue t_valley_bells t_valley_ropes t_valley_span t_valley_tied t_valley_kinds t_valley_needs 1000 (0 : Int32) t_counting t_rang t_cameByRopes u29 hu29 ?_
  obtain rfl := Option.some.inj hm
  exact k_vret 61 cx dX0_ringAll_61 rfl rfl
