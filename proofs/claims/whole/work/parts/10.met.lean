set_option maxRecDepth 100000 in
theorem fgX0_9 {X : XT} {Q : State → Prop} {G : GT} {A : Nat → Prop} {nL : Nat} {lv : List (Nat × Value)} {st : List Value} {ws : va_W} {cc : ByteArray} {fr lo : Nat} {ret : Option FieldType} (pc : Nat) (cx : Cx X cc nL RX0 G fr lo ret) {a : Nat} {fs : List Value} {v : Value} (hd : decode cc pc = .ok (.getfield 9, 3)) (q0 : Nat) (he : ws[q0]? = some (a, .inr (0, fs))) (hv : fs[1]? = some v) (k : KJ X Q G A nL (pc + 3) lv (v :: st) ws) : KJ X Q G A nL pc lv (.ref a :: st) ws :=
  k_get (ref := RX0) (T := TX0) (N := 6) (ci := 0) pc cx inX0 rfl 1 (by decide) (tb_m (i := 196) rfl rfl) rfl hd q0 he hv k
def w_X0_rangAt (G : GT) (h_t : Nat) (h_t_rang : Nat) (h_t_valley : Nat) (h_t_underWay : Nat) (h_t_counting : Nat) (h_t_cameByRopes : Nat) (t_lastDue : Int32) (t_rang : (Nat → Int32)) : va_W := [(h_t, .inr (0, [.ref h_t_valley, .ref h_t_rang, .ref h_t_underWay, .ref h_t_counting, .ref h_t_cameByRopes, .int t_lastDue])), (h_t_rang, .inl (G.2.1, 400, .inl t_rang))]
def M_X0_rangAt (t_rang : (Nat → Int32)) (a1 : Int32) (a2 : Int32) : Option (Int32) := (gB (inb a2 400) (if (((t_rang (Int32.toNatClampNeg a2)) >>> (a1 &&& 31)) &&& (1 : Int32)) = 0 then (some (0 : Int32)) else (some (1 : Int32))))
set_option maxHeartbeats 4000000 in
set_option maxRecDepth 100000 in
theorem c_X0_rangAt (l : Launch) (G : GT) (h_t : Nat) (h_t_rang : Nat) (h_t_valley : Nat) (h_t_underWay : Nat) (h_t_counting : Nat) (h_t_cameByRopes : Nat) (t_lastDue : Int32) (t_rang : (Nat → Int32)) (a1 : Int32) (a2 : Int32) {u : Int32} (hm : M_X0_rangAt t_rang a1 a2 = some u) : CT l yX0_rangAt cX0_rangAt 3 (some .boolean) 0 0 [.ref h_t, .int a1, .int a2] G (w_X0_rangAt G h_t h_t_rang h_t_valley h_t_underWay h_t_counting h_t_cameByRopes t_lastDue t_rang) (some (.int u)) (w_X0_rangAt G h_t h_t_rang h_t_valley h_t_underWay h_t_counting h_t_cameByRopes t_lastDue t_rang) := by
  refine ct_intro RX0 [(0, .ref h_t), (1, .int a1), (2, .int a2)] (by decide) rfl (Nat.le_of_ble_eq_true rfl) rfl (fun X hX cx => ?_)
  unfold M_X0_rangAt at hm
  refine k_aload_n 0 cx dX0_rangAt_0 rfl 0 rfl ?_
  refine fgX0_9 1 cx dX0_rangAt_1 0 rfl rfl ?_
  refine k_iload_n 4 cx dX0_rangAt_4 rfl 2 rfl ?_
  refine k_iald 5 cx dX0_rangAt_5 1 rfl hm (fun hm => ?_)
  refine k_iload_n 6 cx dX0_rangAt_6 rfl 1 rfl ?_
  refine k_ishr 7 cx dX0_rangAt_7 ?_
  refine k_iconst 8 cx (v := (1 : Int32)) dX0_rangAt_8 (by decide) ?_
  refine k_iand 9 cx dX0_rangAt_9 ?_
  refine k_if_eq 10 cx (tgt := 17) dX0_rangAt_10 (by decide) hm (fun hc hm => ?_) (fun hc hm => ?_)
  · refine k_iconst 17 cx (v := (0 : Int32)) dX0_rangAt_17 (by decide) ?_
    obtain rfl := Option.some.inj hm
    exact k_zret 18 cx dX0_rangAt_18 (by decide) rfl rfl
  · refine k_iconst 13 cx (v := (1 : Int32)) dX0_rangAt_13 (by decide) ?_
    refine k_goto 14 cx (tgt := 18) dX0_rangAt_14 (by decide) ?_
    obtain rfl := Option.some.inj hm
    exact k_zret 18 cx dX0_rangAt_18 (by decide) rfl rfl
def w_X0_bellsBefore (G : GT) (h_t : Nat) (h_t_rang : Nat) (h_t_valley : Nat) (h_t_underWay : Nat) (h_t_counting : Nat) (h_t_cameByRopes : Nat) (t_lastDue : Int32) (t_rang : (Nat → Int32)) : va_W := [(h_t, .inr (0, [.ref h_t_valley, .ref h_t_rang, .ref h_t_underWay, .ref h_t_counting, .ref h_t_cameByRopes, .int t_lastDue])), (h_t_rang, .inl (G.2.1, 400, .inl t_rang))]
def L_X0_bellsBefore_4 (x1 : Int32) (t_rang : (Nat → Int32)) : Nat → Int32 → Int32 → Option (Int32 × Int32)
  | 0, _, _ => none
  | n + 1, x2, x3 => (if x1 ≤ x3 then (some (x2, x3)) else (gB (inb x3 400) (nme (x2 ||| (t_rang (Int32.toNatClampNeg x3))) (fun v7 => (nme (x3 + (1 : Int32)) (fun v8 => (L_X0_bellsBefore_4 x1 t_rang n v7 v8)))))))
def M_X0_bellsBefore (t_rang : (Nat → Int32)) (a1 : Int32) : Option (Int32) := ((L_X0_bellsBefore_4 a1 t_rang 1000 (0 : Int32) (0 : Int32)).bind (fun u9 => (some u9.1)))
set_option maxHeartbeats 4000000 in
set_option maxRecDepth 100000 in
theorem c_X0_bellsBefore (l : Launch) (G : GT) (h_t : Nat) (h_t_rang : Nat) (h_t_valley : Nat) (h_t_underWay : Nat) (h_t_counting : Nat) (h_t_cameByRopes : Nat) (t_lastDue : Int32) (t_rang : (Nat → Int32)) (a1 : Int32) {u : Int32} (hm : M_X0_bellsBefore t_rang a1 = some u) : CT l yX0_bellsBefore cX0_bellsBefore 4 (some .int) 0 0 [.ref h_t, .int a1] G (w_X0_bellsBefore G h_t h_t_rang h_t_valley h_t_underWay h_t_counting h_t_cameByRopes t_lastDue t_rang) (some (.int u)) (w_X0_bellsBefore G h_t h_t_rang h_t_valley h_t_underWay h_t_counting h_t_cameByRopes t_lastDue t_rang) := by
  refine ct_intro RX0 [(0, .ref h_t), (1, .int a1)] (by decide) rfl (Nat.le_of_ble_eq_true rfl) rfl (fun X hX cx => ?_)
  have lp4 : ∀ (Q : State → Prop) (A : Nat → Prop) (x1 : Int32) (t_lastDue : Int32) (t_rang : (Nat → Int32)) (n : Nat) (x2 : Int32) (x3 : Int32) (y : Int32 × Int32), L_X0_bellsBefore_4 x1 t_rang n x2 x3 = some y → (KJ X Q G A 4 24 [(2, .int y.1)] [] (w_X0_bellsBefore G h_t h_t_rang h_t_valley h_t_underWay h_t_counting h_t_cameByRopes t_lastDue t_rang)) → KJ X Q G A 4 4 [(0, .ref h_t), (1, .int x1), (2, .int x2), (3, .int x3)] [] (w_X0_bellsBefore G h_t h_t_rang h_t_valley h_t_underWay h_t_counting h_t_cameByRopes t_lastDue t_rang) := by
    intro Q A x1 t_lastDue t_rang n
    induction n with
    | zero => intro x2 x3 y hm _; exact noS hm
    | succ n ih =>
      intro x2 x3 y hm k0
      rw [L_X0_bellsBefore_4] at hm
      refine k_iload_n 4 cx dX0_bellsBefore_4 rfl 3 rfl ?_
      refine k_iload_n 5 cx dX0_bellsBefore_5 rfl 1 rfl ?_
      refine k_icmp_ge 6 cx (tgt := 24) dX0_bellsBefore_6 (by decide) hm (fun hc hm => ?_) (fun hc hm => ?_)
      · obtain rfl := Option.some.inj hm
        refine k_lv [2] rfl ?_
        exact k0
      · refine k_iload_n 9 cx dX0_bellsBefore_9 rfl 2 rfl ?_
        refine k_aload_n 10 cx dX0_bellsBefore_10 rfl 0 rfl ?_
        refine fgX0_9 11 cx dX0_bellsBefore_11 0 rfl rfl ?_
        refine k_iload_n 14 cx dX0_bellsBefore_14 rfl 3 rfl ?_
        refine k_iald 15 cx dX0_bellsBefore_15 1 rfl hm (fun hm => ?_)
        refine k_ior 16 cx dX0_bellsBefore_16 ?_
        refine k_nm hm (fun v7 hm => ?_)
        refine k_istore_n 17 cx dX0_bellsBefore_17 rfl (by decide) (lv' := [(2, .int v7), (0, .ref h_t), (1, .int x1), (3, .int x3)]) rfl ?_
        refine k_iinc 18 cx dX0_bellsBefore_18 3 rfl (by decide) (by decide) (fun v8 => [(3, .int v8), (2, .int v7), (0, .ref h_t), (1, .int x1)]) (fun _ => rfl) hm (fun v8 hm => ?_)
        refine k_goto 21 cx (tgt := 4) dX0_bellsBefore_21 (by decide) ?_
        refine k_lv [2, 3, 1, 0] rfl ?_
        exact ih v7 v8 _ hm k0
  unfold M_X0_bellsBefore at hm
  refine k_iconst 0 cx (v := (0 : Int32)) dX0_bellsBefore_0 (by decide) ?_
  refine k_istore_n 1 cx dX0_bellsBefore_1 rfl (by decide) (lv' := [(2, .int (0 : Int32)), (0, .ref h_t), (1, .int a1)]) rfl ?_
  refine k_iconst 2 cx (v := (0 : Int32)) dX0_bellsBefore_2 (by decide) ?_
  refine k_istore_n 3 cx dX0_bellsBefore_3 rfl (by decide) (lv' := [(3, .int (0 : Int32)), (2, .int (0 : Int32)), (0, .ref h_t), (1, .int a1)]) rfl ?_
  refine k_lv [2, 3, 1, 0] rfl ?_
  obtain ⟨u9, hu9, hm⟩ := bnd hm
  refine lp4 _ _ a1 t_lastDue t_rang 1000 (0 : Int32) (0 : Int32) u9 hu9 ?_
  refine k_iload_n 24 cx dX0_bellsBefore_24 rfl 0 rfl ?_
  obtain rfl := Option.some.inj hm
  exact k_iret 25 cx dX0_bellsBefore_25 rfl rfl
def w_X0_lastMinute (G : GT) (h_t : Nat) (h_t_rang : Nat) (h_t_valley : Nat) (h_t_underWay : Nat) (h_t_counting : Nat) (h_t_cameByRopes : Nat) (t_lastDue : Int32) (t_rang : (Nat → Int32)) : va_W := [(h_t, .inr (0, [.ref h_t_valley, .ref h_t_rang, .ref h_t_underWay, .ref h_t_counting, .ref h_t_cameByRopes, .int t_lastDue])), (h_t_rang, .inl (G.2.1, 400, .inl t_rang))]
def L_X0_lastMinute_4 (t_rang : (Nat → Int32)) : Nat → Int32 → Option (Nat × Int32)
  | 0, _ => none
  | n + 1, x1 => (if x1 < 0 then (some (1, x1)) else (gB (inb x1 400) (if (t_rang (Int32.toNatClampNeg x1)) = 0 then (nme (x1 + (-1 : Int32)) (fun v4 => (L_X0_lastMinute_4 t_rang n v4))) else (some (0, x1)))))
def M_X0_lastMinute (t_rang : (Nat → Int32)) : Option (Int32) := ((L_X0_lastMinute_4 t_rang 1000 (399 : Int32)).bind (fun u5 => (if u5.1 = 0 then (some u5.2) else (some (-9 : Int32)))))
set_option maxHeartbeats 4000000 in
set_option maxRecDepth 100000 in
theorem c_X0_lastMinute (l : Launch) (G : GT) (h_t : Nat) (h_t_rang : Nat) (h_t_valley : Nat) (h_t_underWay : Nat) (h_t_counting : Nat) (h_t_cameByRopes : Nat) (t_lastDue : Int32) (t_rang : (Nat → Int32)) {u : Int32} (hm : M_X0_lastMinute t_rang = some u) : CT l yX0_lastMinute cX0_lastMinute 2 (some .int) 0 0 [.ref h_t] G (w_X0_lastMinute G h_t h_t_rang h_t_valley h_t_underWay h_t_counting h_t_cameByRopes t_lastDue t_rang) (some (.int u)) (w_X0_lastMinute G h_t h_t_rang h_t_valley h_t_underWay h_t_counting h_t_cameByRopes t_lastDue t_rang) := by
  refine ct_intro RX0 [(0, .ref h_t)] (by decide) rfl (Nat.le_of_ble_eq_true rfl) rfl (fun X hX cx => ?_)
  have lp4 : ∀ (Q : State → Prop) (A : Nat → Prop) (t_lastDue : Int32) (t_rang : (Nat → Int32)) (n : Nat) (x1 : Int32) (y : Nat × Int32), L_X0_lastMinute_4 t_rang n x1 = some y → (y.1 = 0 → KJ X Q G A 2 17 [(1, .int y.2)] [] (w_X0_lastMinute G h_t h_t_rang h_t_valley h_t_underWay h_t_counting h_t_cameByRopes t_lastDue t_rang)) → (y.1 = 1 → KJ X Q G A 2 25 [] [] (w_X0_lastMinute G h_t h_t_rang h_t_valley h_t_underWay h_t_counting h_t_cameByRopes t_lastDue t_rang)) → KJ X Q G A 2 4 [(0, .ref h_t), (1, .int x1)] [] (w_X0_lastMinute G h_t h_t_rang h_t_valley h_t_underWay h_t_counting h_t_cameByRopes t_lastDue t_rang) := by
    intro Q A t_lastDue t_rang n
    induction n with
    | zero => intro x1 y hm _ _; exact noS hm
    | succ n ih =>
      intro x1 y hm k0 k1
      rw [L_X0_lastMinute_4] at hm
      refine k_iload_n 4 cx dX0_lastMinute_4 rfl 1 rfl ?_
      refine k_if_lt 5 cx (tgt := 25) dX0_lastMinute_5 (by decide) hm (fun hc hm => ?_) (fun hc hm => ?_)
      · obtain rfl := Option.some.inj hm
        refine k_lv [] rfl ?_
        exact k1 rfl
      · refine k_aload_n 8 cx dX0_lastMinute_8 rfl 0 rfl ?_
        refine fgX0_9 9 cx dX0_lastMinute_9 0 rfl rfl ?_
        refine k_iload_n 12 cx dX0_lastMinute_12 rfl 1 rfl ?_
        refine k_iald 13 cx dX0_lastMinute_13 1 rfl hm (fun hm => ?_)
        refine k_if_eq 14 cx (tgt := 19) dX0_lastMinute_14 (by decide) hm (fun hc hm => ?_) (fun hc hm => ?_)
        · refine k_iinc 19 cx dX0_lastMinute_19 1 rfl (by decide) (by decide) (fun v4 => [(1, .int v4), (0, .ref h_t)]) (fun _ => rfl) hm (fun v4 hm => ?_)
          refine k_goto 22 cx (tgt := 4) dX0_lastMinute_22 (by decide) ?_
          refine k_lv [1, 0] rfl ?_
          exact ih v4 _ hm k0 k1
        · obtain rfl := Option.some.inj hm
          refine k_lv [1] rfl ?_
          exact k0 rfl
  unfold M_X0_lastMinute at hm
  refine k_sipush 0 cx (v := (399 : Int32)) dX0_lastMinute_0 (by decide) ?_
  refine k_istore_n 3 cx dX0_lastMinute_3 rfl (by decide) (lv' := [(1, .int (399 : Int32)), (0, .ref h_t)]) rfl ?_
  refine k_lv [1, 0] rfl ?_
  obtain ⟨u5, hu5, hm⟩ := bnd hm
  refine lp4 _ _ t_lastDue t_rang 1000 (399 : Int32) u5 hu5 (fun hk => ?_) (fun hk => ?_)
  · have hm := (if_pos hk).symm.trans hm
    refine k_iload_n 17 cx dX0_lastMinute_17 rfl 0 rfl ?_
    obtain rfl := Option.some.inj hm
    exact k_iret 18 cx dX0_lastMinute_18 rfl rfl
  · have hm := (if_neg (by rw [hk]; decide)).symm.trans hm
    refine k_bipush 25 cx (v := (-9 : Int32)) dX0_lastMinute_25 (by decide) ?_
    obtain rfl := Option.some.inj hm
    exact k_iret 27 cx dX0_lastMinute_27 rfl rfl
def w_J7_fill_53178 (G : GT) (nn : Nat) (h_p1 : Nat) (p1 : (Nat → Int32)) : va_W := [(h_p1, .inl (G.2.1, nn, .inl p1))]
def L_J7_fill_53178_5 (nn : Nat) (x1 : Int32) (x3 : Int32) : Nat → Int32 → (Nat → Int32) → Option (Int32 × (Nat → Int32))
  | 0, _, _ => none
  | n + 1, x2, p1 => (if x3 ≤ x2 then (some (x2, p1)) else (gB (inb x2 nn) (nme (upd p1 (Int32.toNatClampNeg x2) x1) (fun f8 => (nme (x2 + (1 : Int32)) (fun v9 => (L_J7_fill_53178_5 nn x1 x3 n v9 f8)))))))
def M_J7_fill_53178 (nn : Nat) (p1 : (Nat → Int32)) (a2 : Int32) : Option ((Nat → Int32)) := (nme (Int32.ofNat nn) (fun v1 => ((L_J7_fill_53178_5 nn a2 v1 1000 (0 : Int32) p1).bind (fun u10 => (some u10.2)))))
set_option maxHeartbeats 4000000 in
set_option maxRecDepth 100000 in
theorem c_J7_fill_53178 (l : Launch) (G : GT) (nn : Nat) (h_p1 : Nat) (p1 : (Nat → Int32)) (a2 : Int32) {u : (Nat → Int32)} (hm : M_J7_fill_53178 nn p1 a2 = some u) : CT l yJ7_fill_53178 cJ7_fill_53178 4 none 0 0 [.ref h_p1, .int a2] G (w_J7_fill_53178 G nn h_p1 p1) none (w_J7_fill_53178 G nn h_p1 u) := by
  refine ct_intro RJ7 [(0, .ref h_p1), (1, .int a2)] (by decide) rfl (Nat.le_of_ble_eq_true rfl) rfl (fun X hX cx => ?_)
  have lp5 : ∀ (Q : State → Prop) (A : Nat → Prop) (x1 : Int32) (x3 : Int32) (n : Nat) (x2 : Int32) (p1 : (Nat → Int32)) (y : Int32 × (Nat → Int32)), L_J7_fill_53178_5 nn x1 x3 n x2 p1 = some y → (KJ X Q G A 4 20 [] [] (w_J7_fill_53178 G nn h_p1 y.2)) → KJ X Q G A 4 5 [(0, .ref h_p1), (1, .int x1), (2, .int x2), (3, .int x3)] [] (w_J7_fill_53178 G nn h_p1 p1) := by
    intro Q A x1 x3 n
    induction n with
    | zero => intro x2 p1 y hm _; exact noS hm
    | succ n ih =>
      intro x2 p1 y hm k0
      rw [L_J7_fill_53178_5] at hm
      refine k_iload_n 5 cx dJ7_fill_53178_5 rfl 2 rfl ?_
      refine k_iload_n 6 cx dJ7_fill_53178_6 rfl 3 rfl ?_
      refine k_icmp_ge 7 cx (tgt := 20) dJ7_fill_53178_7 (by decide) hm (fun hc hm => ?_) (fun hc hm => ?_)
      · obtain rfl := Option.some.inj hm
        refine k_lv [] rfl ?_
        exact k0
      · refine k_aload_n 10 cx dJ7_fill_53178_10 rfl 0 rfl ?_
        refine k_iload_n 11 cx dJ7_fill_53178_11 rfl 2 rfl ?_
        refine k_iload_n 12 cx dJ7_fill_53178_12 rfl 1 rfl ?_
        refine k_iast 13 cx dJ7_fill_53178_13 0 rfl (fun f8 => (w_J7_fill_53178 G nn h_p1 f8)) (fun _ => rfl) hm (fun f8 hm => ?_)
        refine k_iinc 14 cx dJ7_fill_53178_14 2 rfl (by decide) (by decide) (fun v9 => [(2, .int v9), (0, .ref h_p1), (1, .int x1), (3, .int x3)]) (fun _ => rfl) hm (fun v9 hm => ?_)
        refine k_goto 17 cx (tgt := 5) dJ7_fill_53178_17 (by decide) ?_
        refine k_lv [1, 2, 0, 3] rfl ?_
        exact ih v9 f8 _ hm k0
  unfold M_J7_fill_53178 at hm
  refine k_iconst 0 cx (v := (0 : Int32)) dJ7_fill_53178_0 (by decide) ?_
  refine k_istore_n 1 cx dJ7_fill_53178_1 rfl (by decide) (lv' := [(2, .int (0 : Int32)), (0, .ref h_p1), (1, .int a2)]) rfl ?_
  refine k_aload_n 2 cx dJ7_fill_53178_2 rfl 1 rfl ?_
  refine k_alen 3 cx dJ7_fill_53178_3 0 rfl ?_
  refine k_nm hm (fun v1 hm => ?_)
  refine k_istore_n 4 cx dJ7_fill_53178_4 rfl (by decide) (lv' := [(3, .int v1), (2, .int (0 : Int32)), (0, .ref h_p1), (1, .int a2)]) rfl ?_
  refine k_lv [2, 3, 1, 0] rfl ?_
  obtain ⟨u10, hu10, hm⟩ := bnd hm
  refine lp5 _ _ a2 v1 1000 (0 : Int32) p1 u10 hu10 ?_
  obtain rfl := Option.some.inj hm
  exact k_vret 20 cx dJ7_fill_53178_20 rfl rfl
set_option maxRecDepth 100000 in
theorem fgX1_15 {X : XT} {Q : State → Prop} {G : GT} {A : Nat → Prop} {nL : Nat} {lv : List (Nat × Value)} {st : List Value} {ws : va_W} {cc : ByteArray} {fr lo : Nat} {ret : Option FieldType} (pc : Nat) (cx : Cx X cc nL RX1 G fr lo ret) {a : Nat} {fs : List Value} {v : Value} (hd : decode cc pc = .ok (.getfield 15, 3)) (q0 : Nat) (he : ws[q0]? = some (a, .inr (1, fs))) (hv : fs[1]? = some v) (k : KJ X Q G A nL (pc + 3) lv (v :: st) ws) : KJ X Q G A nL pc lv (.ref a :: st) ws :=
  k_get (ref := RX1) (T := TX1) (N := 4) (ci := 1) pc cx inX1 rfl 1 (by decide) (tb_m (i := 152) rfl rfl) rfl hd q0 he hv k
set_option maxRecDepth 100000 in
theorem fgX1_21 {X : XT} {Q : State → Prop} {G : GT} {A : Nat → Prop} {nL : Nat} {lv : List (Nat × Value)} {st : List Value} {ws : va_W} {cc : ByteArray} {fr lo : Nat} {ret : Option FieldType} (pc : Nat) (cx : Cx X cc nL RX1 G fr lo ret) {a : Nat} {fs : List Value} {v : Value} (hd : decode cc pc = .ok (.getfield 21, 3)) (q0 : Nat) (he : ws[q0]? = some (a, .inr (1, fs))) (hv : fs[3]? = some v) (k : KJ X Q G A nL (pc + 3) lv (v :: st) ws) : KJ X Q G A nL pc lv (.ref a :: st) ws :=
  k_get (ref := RX1) (T := TX1) (N := 4) (ci := 1) pc cx inX1 rfl 3 (by decide) (tb_m (i := 156) rfl rfl) rfl hd q0 he hv k
set_option maxRecDepth 100000 in
theorem mxX1_25 : Cond.methodLink RX1 25 Lib.Math.max.name ∈ TB ∧ Cond.static Lib.Math.max.name ∈ TB ∧ Cond.initialized "java/lang/Math" ∈ TB ∧ Cond.code Lib.Math.max.name Lib.Math.max.code 2 (some .int) ∈ TB := ⟨tb_m (i := 409) rfl rfl, tb_m (i := 410) rfl rfl, tb_m (i := 61) rfl rfl, tb_m (i := 411) rfl rfl⟩
def w_X1_lastMinute (G : GT) (h_t : Nat) (h_t_minutes : Nat) (h_t_bells : Nat) (h_t_times : Nat) (t_count : Int32) (t_minutes : (Nat → Int32)) : va_W := [(h_t, .inr (1, [.ref h_t_bells, .ref h_t_minutes, .ref h_t_times, .int t_count])), (h_t_minutes, .inl (G.2.1, 6, .inl t_minutes))]
def L_X1_lastMinute_5 (t_count : Int32) (t_minutes : (Nat → Int32)) : Nat → Int32 → Int32 → Option (Int32 × Int32)
  | 0, _, _ => none
  | n + 1, x1, x2 => (if t_count ≤ x2 then (some (x1, x2)) else (gB (inb x2 6) (nme (if x1 < (t_minutes (Int32.toNatClampNeg x2)) then (t_minutes (Int32.toNatClampNeg x2)) else x1) (fun v7 => (nme (x2 + (1 : Int32)) (fun v8 => (L_X1_lastMinute_5 t_count t_minutes n v7 v8)))))))
def M_X1_lastMinute (t_count : Int32) (t_minutes : (Nat → Int32)) : Option (Int32) := ((L_X1_lastMinute_5 t_count t_minutes 1000 (-9 : Int32) (0 : Int32)).bind (fun u9 => (some u9.1)))
set_option maxHeartbeats 4000000 in
set_option maxRecDepth 100000 in
theorem c_X1_lastMinute (l : Launch) (G : GT) (h_t : Nat) (h_t_minutes : Nat) (h_t_bells : Nat) (h_t_times : Nat) (t_count : Int32) (t_minutes : (Nat → Int32)) {u : Int32} (hm : M_X1_lastMinute t_count t_minutes = some u) : CT l yX1_lastMinute cX1_lastMinute 3 (some .int) 1 13 [.ref h_t] G (w_X1_lastMinute G h_t h_t_minutes h_t_bells h_t_times t_count t_minutes) (some (.int u)) (w_X1_lastMinute G h_t h_t_minutes h_t_bells h_t_times t_count t_minutes) := by
  refine ct_intro RX1 [(0, .ref h_t)] (by decide) rfl (Nat.le_of_ble_eq_true rfl) rfl (fun X hX cx => ?_)
  have lp5 : ∀ (Q : State → Prop) (A : Nat → Prop) (t_count : Int32) (t_minutes : (Nat → Int32)) (n : Nat) (x1 : Int32) (x2 : Int32) (y : Int32 × Int32), L_X1_lastMinute_5 t_count t_minutes n x1 x2 = some y → (KJ X Q G A 3 30 [(1, .int y.1)] [] (w_X1_lastMinute G h_t h_t_minutes h_t_bells h_t_times t_count t_minutes)) → KJ X Q G A 3 5 [(0, .ref h_t), (1, .int x1), (2, .int x2)] [] (w_X1_lastMinute G h_t h_t_minutes h_t_bells h_t_times t_count t_minutes) := by
    intro Q A t_count t_minutes n
    induction n with
    | zero => intro x1 x2 y hm _; exact noS hm
    | succ n ih =>
      intro x1 x2 y hm k0
      rw [L_X1_lastMinute_5] at hm
      refine k_iload_n 5 cx dX1_lastMinute_5 rfl 2 rfl ?_
      refine k_aload_n 6 cx dX1_lastMinute_6 rfl 0 rfl ?_
      refine fgX1_21 7 cx dX1_lastMinute_7 0 rfl rfl ?_
      refine k_icmp_ge 10 cx (tgt := 30) dX1_lastMinute_10 (by decide) hm (fun hc hm => ?_) (fun hc hm => ?_)
      · obtain rfl := Option.some.inj hm
        refine k_lv [1] rfl ?_
        exact k0
      · refine k_iload_n 13 cx dX1_lastMinute_13 rfl 1 rfl ?_
        refine k_aload_n 14 cx dX1_lastMinute_14 rfl 0 rfl ?_
        refine fgX1_15 15 cx dX1_lastMinute_15 0 rfl rfl ?_
        refine k_iload_n 18 cx dX1_lastMinute_18 rfl 2 rfl ?_
        refine k_iald 19 cx dX1_lastMinute_19 1 rfl hm (fun hm => ?_)
        refine k_max 20 cx mxX1_25 dX1_lastMinute_20 ⟨by decide, Nat.le_of_ble_eq_true rfl⟩ ?_
        refine k_nm hm (fun v7 hm => ?_)
        refine k_istore_n 23 cx dX1_lastMinute_23 rfl (by decide) (lv' := [(1, .int v7), (0, .ref h_t), (2, .int x2)]) rfl ?_
        refine k_iinc 24 cx dX1_lastMinute_24 2 rfl (by decide) (by decide) (fun v8 => [(2, .int v8), (1, .int v7), (0, .ref h_t)]) (fun _ => rfl) hm (fun v8 hm => ?_)
        refine k_goto 27 cx (tgt := 5) dX1_lastMinute_27 (by decide) ?_
        refine k_lv [2, 1, 0] rfl ?_
        exact ih v7 v8 _ hm k0
  unfold M_X1_lastMinute at hm
  refine k_bipush 0 cx (v := (-9 : Int32)) dX1_lastMinute_0 (by decide) ?_
  refine k_istore_n 2 cx dX1_lastMinute_2 rfl (by decide) (lv' := [(1, .int (-9 : Int32)), (0, .ref h_t)]) rfl ?_
  refine k_iconst 3 cx (v := (0 : Int32)) dX1_lastMinute_3 (by decide) ?_
  refine k_istore_n 4 cx dX1_lastMinute_4 rfl (by decide) (lv' := [(2, .int (0 : Int32)), (1, .int (-9 : Int32)), (0, .ref h_t)]) rfl ?_
  refine k_lv [2, 1, 0] rfl ?_
  obtain ⟨u9, hu9, hm⟩ := bnd hm
  refine lp5 _ _ t_count t_minutes 1000 (-9 : Int32) (0 : Int32) u9 hu9 ?_
  refine k_iload_n 30 cx dX1_lastMinute_30 rfl 0 rfl ?_
  obtain rfl := Option.some.inj hm
  exact k_iret 31 cx dX1_lastMinute_31 rfl rfl
set_option maxRecDepth 100000 in
theorem fgX0_21 {X : XT} {Q : State → Prop} {G : GT} {A : Nat → Prop} {nL : Nat} {lv : List (Nat × Value)} {st : List Value} {ws : va_W} {cc : ByteArray} {fr lo : Nat} {ret : Option FieldType} (pc : Nat) (cx : Cx X cc nL RX0 G fr lo ret) {a : Nat} {fs : List Value} {v : Value} (hd : decode cc pc = .ok (.getfield 21, 3)) (q0 : Nat) (he : ws[q0]? = some (a, .inr (0, fs))) (hv : fs[4]? = some v) (k : KJ X Q G A nL (pc + 3) lv (v :: st) ws) : KJ X Q G A nL pc lv (.ref a :: st) ws :=
  k_get (ref := RX0) (T := TX0) (N := 6) (ci := 0) pc cx inX0 rfl 4 (by decide) (tb_m (i := 200) rfl rfl) rfl hd q0 he hv k
set_option maxRecDepth 100000 in
theorem fgX0_24 {X : XT} {Q : State → Prop} {G : GT} {A : Nat → Prop} {nL : Nat} {lv : List (Nat × Value)} {st : List Value} {ws : va_W} {cc : ByteArray} {fr lo : Nat} {ret : Option FieldType} (pc : Nat) (cx : Cx X cc nL RX0 G fr lo ret) {a : Nat} {fs : List Value} {v : Value} (hd : decode cc pc = .ok (.getfield 24, 3)) (q0 : Nat) (he : ws[q0]? = some (a, .inr (0, fs))) (hv : fs[0]? = some v) (k : KJ X Q G A nL (pc + 3) lv (v :: st) ws) : KJ X Q G A nL pc lv (.ref a :: st) ws :=
  k_get (ref := RX0) (T := TX0) (N := 6) (ci := 0) pc cx inX0 rfl 0 (by decide) (tb_m (i := 195) rfl rfl) rfl hd q0 he hv k
set_option maxRecDepth 100000 in
theorem fgX0_68 {X : XT} {Q : State → Prop} {G : GT} {A : Nat → Prop} {nL : Nat} {lv : List (Nat × Value)} {st : List Value} {ws : va_W} {cc : ByteArray} {fr lo : Nat} {ret : Option FieldType} (pc : Nat) (cx : Cx X cc nL RX0 G fr lo ret) {a : Nat} {fs : List Value} {v : Value} (hd : decode cc pc = .ok (.getfield 68, 3)) (q0 : Nat) (he : ws[q0]? = some (a, .inr (5, fs))) (hv : fs[0]? = some v) (k : KJ X Q G A nL (pc + 3) lv (v :: st) ws) : KJ X Q G A nL pc lv (.ref a :: st) ws :=
  k_get (ref := RX5) (T := TX5) (N := 9) (ci := 5) pc cx inX5 rfl 0 (by decide) (tb_m (i := 80) rfl rfl) rfl hd q0 he hv k
def w_X0_countedOf (G : GT) (h_t : Nat) (h_t_valley : Nat) (h_t_valley_kinds : Nat) (h_t_cameByRopes : Nat) (h_t_rang : Nat) (h_t_underWay : Nat) (h_t_counting : Nat) (h_t_valley_needs : Nat) (h_t_valley_from : Nat) (h_t_valley_to : Nat) (h_t_valley_lasts : Nat) (t_lastDue : Int32) (t_valley_bells : Int32) (t_valley_ropes : Int32) (t_valley_span : Int32) (t_valley_tied : Int32) (t_valley_kinds : (Nat → Int32)) (t_cameByRopes : (Nat → Int32)) : va_W := [(h_t, .inr (0, [.ref h_t_valley, .ref h_t_rang, .ref h_t_underWay, .ref h_t_counting, .ref h_t_cameByRopes, .int t_lastDue])), (h_t_valley, .inr (5, [.ref h_t_valley_kinds, .ref h_t_valley_needs, .ref h_t_valley_from, .ref h_t_valley_to, .ref h_t_valley_lasts, .int t_valley_bells, .int t_valley_ropes, .int t_valley_span, .int t_valley_tied])), (h_t_valley_kinds, .inl (G.2.1, 6, .inl t_valley_kinds)), (h_t_cameByRopes, .inl (G.2.1, 6, .inl t_cameByRopes))]
def M_X0_countedOf (t_valley_kinds : (Nat → Int32)) (t_cameByRopes : (Nat → Int32)) (a1 : Int32) (a2 : Int32) : Option (Int32 × (Nat → Int32)) := (gB (inb a1 6) (if (t_valley_kinds (Int32.toNatClampNeg a1)) = (2 : Int32) then (gB (inb a1 6) (nme (t_cameByRopes (Int32.toNatClampNeg a1)) (fun v1 => (gB (inb a1 6) (nme (upd t_cameByRopes (Int32.toNatClampNeg a1) (v1 + a2)) (fun f2 => (some ((((v1 + a2) / (2 : Int32)) - (v1 / (2 : Int32))), f2)))))))) else (some (a2, t_cameByRopes))))
set_option maxHeartbeats 4000000 in
set_option maxRecDepth 100000 in
theorem c_X0_countedOf (l : Launch) (G : GT) (h_t : Nat) (h_t_valley : Nat) (h_t_valley_kinds : Nat) (h_t_cameByRopes : Nat) (h_t_rang : Nat) (h_t_underWay : Nat) (h_t_counting : Nat) (h_t_valley_needs : Nat) (h_t_valley_from : Nat) (h_t_valley_to : Nat) (h_t_valley_lasts : Nat) (t_lastDue : Int32) (t_valley_bells : Int32) (t_valley_ropes : Int32) (t_valley_span : Int32) (t_valley_tied : Int32) (t_valley_kinds : (Nat → Int32)) (t_cameByRopes : (Nat → Int32)) (a1 : Int32) (a2 : Int32) {u : Int32 × (Nat → Int32)} (hm : M_X0_countedOf t_valley_kinds t_cameByRopes a1 a2 = some u) : CT l yX0_countedOf cX0_countedOf 4 (some .int) 0 0 [.ref h_t, .int a1, .int a2] G (w_X0_countedOf G h_t h_t_valley h_t_valley_kinds h_t_cameByRopes h_t_rang h_t_underWay h_t_counting h_t_valley_needs h_t_valley_from h_t_valley_to h_t_valley_lasts t_lastDue t_valley_bells t_valley_ropes t_valley_span t_valley_tied t_valley_kinds t_cameByRopes) (some (.int u.1)) (w_X0_countedOf G h_t h_t_valley h_t_valley_kinds h_t_cameByRopes h_t_rang h_t_underWay h_t_counting h_t_valley_needs h_t_valley_from h_t_valley_to h_t_valley_lasts t_lastDue t_valley_bells t_valley_ropes t_valley_span t_valley_tied t_valley_kinds u.2) := by
  refine ct_intro RX0 [(0, .ref h_t), (1, .int a1), (2, .int a2)] (by decide) rfl (Nat.le_of_ble_eq_true rfl) rfl (fun X hX cx => ?_)
  unfold M_X0_countedOf at hm
  refine k_aload_n 0 cx dX0_countedOf_0 rfl 0 rfl ?_
  refine fgX0_24 1 cx dX0_countedOf_1 0 rfl rfl ?_
  refine fgX0_68 4 cx dX0_countedOf_4 1 rfl rfl ?_
  refine k_iload_n 7 cx dX0_countedOf_7 rfl 1 rfl ?_
  refine k_iald 8 cx dX0_countedOf_8 2 rfl hm (fun hm => ?_)
  refine k_iconst 9 cx (v := (2 : Int32)) dX0_countedOf_9 (by decide) ?_
  refine k_icmp_eq 10 cx (tgt := 15) dX0_countedOf_10 (by decide) hm (fun hc hm => ?_) (fun hc hm => ?_)
  · refine k_aload_n 15 cx dX0_countedOf_15 rfl 0 rfl ?_
    refine fgX0_21 16 cx dX0_countedOf_16 0 rfl rfl ?_
    refine k_iload_n 19 cx dX0_countedOf_19 rfl 1 rfl ?_
    refine k_iald 20 cx dX0_countedOf_20 3 rfl hm (fun hm => ?_)
    refine k_nm hm (fun v1 hm => ?_)
    refine k_istore_n 21 cx dX0_countedOf_21 rfl (by decide) (lv' := [(3, .int v1), (0, .ref h_t), (1, .int a1), (2, .int a2)]) rfl ?_
    refine k_aload_n 22 cx dX0_countedOf_22 rfl 1 rfl ?_
    refine fgX0_21 23 cx dX0_countedOf_23 0 rfl rfl ?_
    refine k_iload_n 26 cx dX0_countedOf_26 rfl 2 rfl ?_
    refine k_iload_n 27 cx dX0_countedOf_27 rfl 0 rfl ?_
    refine k_iload_n 28 cx dX0_countedOf_28 rfl 3 rfl ?_
    refine k_iadd 29 cx dX0_countedOf_29 ?_
    refine k_iast 30 cx dX0_countedOf_30 3 rfl (fun f2 => (w_X0_countedOf G h_t h_t_valley h_t_valley_kinds h_t_cameByRopes h_t_rang h_t_underWay h_t_counting h_t_valley_needs h_t_valley_from h_t_valley_to h_t_valley_lasts t_lastDue t_valley_bells t_valley_ropes t_valley_span t_valley_tied t_valley_kinds f2)) (fun _ => rfl) hm (fun f2 hm => ?_)
    refine k_iload_n 31 cx dX0_countedOf_31 rfl 0 rfl ?_
    refine k_iload_n 32 cx dX0_countedOf_32 rfl 3 rfl ?_
    refine k_iadd 33 cx dX0_countedOf_33 ?_
    refine k_iconst 34 cx (v := (2 : Int32)) dX0_countedOf_34 (by decide) ?_
    refine k_idiv_c 35 cx dX0_countedOf_35 (by decide) ?_
    refine k_iload_n 36 cx dX0_countedOf_36 rfl 0 rfl ?_
    refine k_iconst 37 cx (v := (2 : Int32)) dX0_countedOf_37 (by decide) ?_
    refine k_idiv_c 38 cx dX0_countedOf_38 (by decide) ?_
    refine k_isub 39 cx dX0_countedOf_39 ?_
    obtain rfl := Option.some.inj hm
    exact k_iret 40 cx dX0_countedOf_40 rfl rfl
  · refine k_iload_n 13 cx dX0_countedOf_13 rfl 2 rfl ?_
    obtain rfl := Option.some.inj hm
    exact k_iret 14 cx dX0_countedOf_14 rfl rfl
set_option maxRecDepth 100000 in
theorem fgX0_15 {X : XT} {Q : State → Prop} {G : GT} {A : Nat → Prop} {nL : Nat} {lv : List (Nat × Value)} {st : List Value} {ws : va_W} {cc : ByteArray} {fr lo : Nat} {ret : Option FieldType} (pc : Nat) (cx : Cx X cc nL RX0 G fr lo ret) {a : Nat} {fs : List Value} {v : Value} (hd : decode cc pc = .ok (.getfield 15, 3)) (q0 : Nat) (he : ws[q0]? = some (a, .inr (0, fs))) (hv : fs[2]? = some v) (k : KJ X Q G A nL (pc + 3) lv (v :: st) ws) : KJ X Q G A nL pc lv (.ref a :: st) ws :=
  k_get (ref := RX0) (T := TX0) (N := 6) (ci := 0) pc cx inX0 rfl 2 (by decide) (tb_m (i := 198) rfl rfl) rfl hd q0 he hv k
set_option maxRecDepth 100000 in
theorem fgX0_18 {X : XT} {Q : State → Prop} {G : GT} {A : Nat → Prop} {nL : Nat} {lv : List (Nat × Value)} {st : List Value} {ws : va_W} {cc : ByteArray} {fr lo : Nat} {ret : Option FieldType} (pc : Nat) (cx : Cx X cc nL RX0 G fr lo ret) {a : Nat} {fs : List Value} {v : Value} (hd : decode cc pc = .ok (.getfield 18, 3)) (q0 : Nat) (he : ws[q0]? = some (a, .inr (0, fs))) (hv : fs[3]? = some v) (k : KJ X Q G A nL (pc + 3) lv (v :: st) ws) : KJ X Q G A nL pc lv (.ref a :: st) ws :=
  k_get (ref := RX0) (T := TX0) (N := 6) (ci := 0) pc cx inX0 rfl 3 (by decide) (tb_m (i := 199) rfl rfl) rfl hd q0 he hv k
set_option maxRecDepth 100000 in
theorem fgX0_59 {X : XT} {Q : State → Prop} {G : GT} {A : Nat → Prop} {nL : Nat} {lv : List (Nat × Value)} {st : List Value} {ws : va_W} {cc : ByteArray} {fr lo : Nat} {ret : Option FieldType} (pc : Nat) (cx : Cx X cc nL RX0 G fr lo ret) {a : Nat} {fs : List Value} {v : Value} (hd : decode cc pc = .ok (.getfield 59, 3)) (q0 : Nat) (he : ws[q0]? = some (a, .inr (5, fs))) (hv : fs[5]? = some v) (k : KJ X Q G A nL (pc + 3) lv (v :: st) ws) : KJ X Q G A nL pc lv (.ref a :: st) ws :=
  k_get (ref := RX5) (T := TX5) (N := 9) (ci := 5) pc cx inX5 rfl 5 (by decide) (tb_m (i := 99) rfl rfl) rfl hd q0 he hv k
set_option maxRecDepth 100000 in
theorem cwX0_64 : CWV RX0 64 RX0 yX0_countedOf cX0_countedOf 4 (some .int) 2 0 TX0 6 := ⟨tb_m (i := 416) rfl rfl, tb_m (i := 418) rfl rfl, tb_m (i := 10) rfl rfl, tb_m (i := 56) rfl rfl, tb_m (i := 419) rfl rfl, ⟨by decide +kernel, by decide +kernel, by decide +kernel⟩, rfl⟩
def w_X0_swingByRopes (G : GT) (h_t : Nat) (h_t_valley : Nat) (h_t_underWay : Nat) (h_t_valley_kinds : Nat) (h_t_cameByRopes : Nat) (h_t_counting : Nat) (h_t_rang : Nat) (h_t_valley_needs : Nat) (h_t_valley_from : Nat) (h_t_valley_to : Nat) (h_t_valley_lasts : Nat) (t_lastDue : Int32) (t_valley_bells : Int32) (t_valley_ropes : Int32) (t_valley_span : Int32) (t_valley_tied : Int32) (t_underWay : (Nat → Int32)) (t_valley_kinds : (Nat → Int32)) (t_cameByRopes : (Nat → Int32)) (t_counting : (Nat → Int32)) : va_W := [(h_t, .inr (0, [.ref h_t_valley, .ref h_t_rang, .ref h_t_underWay, .ref h_t_counting, .ref h_t_cameByRopes, .int t_lastDue])), (h_t_valley, .inr (5, [.ref h_t_valley_kinds, .ref h_t_valley_needs, .ref h_t_valley_from, .ref h_t_valley_to, .ref h_t_valley_lasts, .int t_valley_bells, .int t_valley_ropes, .int t_valley_span, .int t_valley_tied])), (h_t_underWay, .inl (G.2.1, 60, .inl t_underWay)), (h_t_valley_kinds, .inl (G.2.1, 6, .inl t_valley_kinds)), (h_t_cameByRopes, .inl (G.2.1, 6, .inl t_cameByRopes)), (h_t_counting, .inl (G.2.1, 36, .inl t_counting))]
def L_X0_swingByRopes_19 (x2 : Int32) (x3 : Int32) (t_valley_bells : Int32) (t_valley_kinds : (Nat → Int32)) : Nat → Int32 → (Nat → Int32) → (Nat → Int32) → (Nat → Int32) → Option (Int32 × (Nat → Int32) × (Nat → Int32) × (Nat → Int32))
  | 0, _, _, _, _ => none
  | n + 1, x4, t_underWay, t_cameByRopes, t_counting => (if t_valley_bells ≤ x4 then (some (x4, t_underWay, t_cameByRopes, t_counting)) else (gB (inb (x2 + x4) 60) ((M_X0_countedOf t_valley_kinds t_cameByRopes x4 (t_underWay (Int32.toNatClampNeg (x2 + x4)))).bind (fun u15 => (gB (inb (x3 + x4) 36) (nme (upd t_counting (Int32.toNatClampNeg (x3 + x4)) u15.1) (fun f16 => (gB (inb (x2 + x4) 60) (nme (upd t_underWay (Int32.toNatClampNeg (x2 + x4)) (0 : Int32)) (fun f17 => (nme (x4 + (1 : Int32)) (fun v18 => (L_X0_swingByRopes_19 x2 x3 t_valley_bells t_valley_kinds n v18 f17 u15.2 f16)))))))))))))
def M_X0_swingByRopes (t_valley_bells : Int32) (t_underWay : (Nat → Int32)) (t_valley_kinds : (Nat → Int32)) (t_cameByRopes : (Nat → Int32)) (t_counting : (Nat → Int32)) (a1 : Int32) : Option ((Nat → Int32) × (Nat → Int32) × (Nat → Int32)) := (nme ((a1 - a1 / (10 : Int32) * (10 : Int32)) * (6 : Int32)) (fun v1 => (nme ((a1 - a1 / (6 : Int32) * (6 : Int32)) * (6 : Int32)) (fun v2 => ((L_X0_swingByRopes_19 v1 v2 t_valley_bells t_valley_kinds 1000 (0 : Int32) t_underWay t_cameByRopes t_counting).bind (fun u19 => (some (u19.2.1, u19.2.2.1, u19.2.2.2))))))))
set_option maxHeartbeats 4000000 in
set_option maxRecDepth 100000 in
theorem c_X0_swingByRopes (l : Launch) (G : GT) (h_t : Nat) (h_t_valley : Nat) (h_t_underWay : Nat) (h_t_valley_kinds : Nat) (h_t_cameByRopes : Nat) (h_t_counting : Nat) (h_t_rang : Nat) (h_t_valley_needs : Nat) (h_t_valley_from : Nat) (h_t_valley_to : Nat) (h_t_valley_lasts : Nat) (t_lastDue : Int32) (t_valley_bells : Int32) (t_valley_ropes : Int32) (t_valley_span : Int32) (t_valley_tied : Int32) (t_underWay : (Nat → Int32)) (t_valley_kinds : (Nat → Int32)) (t_cameByRopes : (Nat → Int32)) (t_counting : (Nat → Int32)) (a1 : Int32) {u : (Nat → Int32) × (Nat → Int32) × (Nat → Int32)} (hm : M_X0_swingByRopes t_valley_bells t_underWay t_valley_kinds t_cameByRopes t_counting a1 = some u) : CT l yX0_swingByRopes cX0_swingByRopes 5 none 1 23 [.ref h_t, .int a1] G (w_X0_swingByRopes G h_t h_t_valley h_t_underWay h_t_valley_kinds h_t_cameByRopes h_t_counting h_t_rang h_t_valley_needs h_t_valley_from h_t_valley_to h_t_valley_lasts t_lastDue t_valley_bells t_valley_ropes t_valley_span t_valley_tied t_underWay t_valley_kinds t_cameByRopes t_counting) none (w_X0_swingByRopes G h_t h_t_valley h_t_underWay h_t_valley_kinds h_t_cameByRopes h_t_counting h_t_rang h_t_valley_needs h_t_valley_from h_t_valley_to h_t_valley_lasts t_lastDue t_valley_bells t_valley_ropes t_valley_span t_valley_tied u.1 t_valley_kinds u.2.1 u.2.2) := by
  refine ct_intro RX0 [(0, .ref h_t), (1, .int a1)] (by decide) rfl (Nat.le_of_ble_eq_true rfl) rfl (fun X hX cx => ?_)
  have lp19 : ∀ (Q : State → Prop) (A : Nat → Prop) (x2 : Int32) (x3 : Int32) (t_lastDue : Int32) (t_valley_bells : Int32) (t_valley_ropes : Int32) (t_valley_span : Int32) (t_valley_tied : Int32) (t_valley_kinds : (Nat → Int32)) (n : Nat) (x4 : Int32) (t_underWay : (Nat → Int32)) (t_cameByRopes : (Nat → Int32)) (t_counting : (Nat → Int32)) (y : Int32 × (Nat → Int32) × (Nat → Int32) × (Nat → Int32)), L_X0_swingByRopes_19 x2 x3 t_valley_bells t_valley_kinds n x4 t_underWay t_cameByRopes t_counting = some y → (KJ X Q G A 5 71 [] [] (w_X0_swingByRopes G h_t h_t_valley h_t_underWay h_t_valley_kinds h_t_cameByRopes h_t_counting h_t_rang h_t_valley_needs h_t_valley_from h_t_valley_to h_t_valley_lasts t_lastDue t_valley_bells t_valley_ropes t_valley_span t_valley_tied y.2.1 t_valley_kinds y.2.2.1 y.2.2.2)) → KJ X Q G A 5 19 [(0, .ref h_t), (2, .int x2), (3, .int x3), (4, .int x4)] [] (w_X0_swingByRopes G h_t h_t_valley h_t_underWay h_t_valley_kinds h_t_cameByRopes h_t_counting h_t_rang h_t_valley_needs h_t_valley_from h_t_valley_to h_t_valley_lasts t_lastDue t_valley_bells t_valley_ropes t_valley_span t_valley_tied t_underWay t_valley_kinds t_cameByRopes t_counting) := by
    intro Q A x2 x3 t_lastDue t_valley_bells t_valley_ropes t_valley_span t_valley_tied t_valley_kinds n
    induction n with
    | zero => intro x4 t_underWay t_cameByRopes t_counting y hm _; exact noS hm
    | succ n ih =>
      intro x4 t_underWay t_cameByRopes t_counting y hm k0
      rw [L_X0_swingByRopes_19] at hm
      refine k_iload 19 cx dX0_swingByRopes_19 3 rfl ?_
      refine k_aload_n 21 cx dX0_swingByRopes_21 rfl 0 rfl ?_
      refine fgX0_24 22 cx dX0_swingByRopes_22 0 rfl rfl ?_
      refine fgX0_59 25 cx dX0_swingByRopes_25 1 rfl rfl ?_
      refine k_icmp_ge 28 cx (tgt := 71) dX0_swingByRopes_28 (by decide) hm (fun hc hm => ?_) (fun hc hm => ?_)
      · obtain rfl := Option.some.inj hm
        refine k_lv [] rfl ?_
        exact k0
      · refine k_aload_n 31 cx dX0_swingByRopes_31 rfl 0 rfl ?_
        refine fgX0_18 32 cx dX0_swingByRopes_32 0 rfl rfl ?_
        refine k_iload_n 35 cx dX0_swingByRopes_35 rfl 2 rfl ?_
        refine k_iload 36 cx dX0_swingByRopes_36 3 rfl ?_
        refine k_iadd 38 cx dX0_swingByRopes_38 ?_
        refine k_aload_n 39 cx dX0_swingByRopes_39 rfl 0 rfl ?_
        refine k_iload 40 cx dX0_swingByRopes_40 3 rfl ?_
        refine k_aload_n 42 cx dX0_swingByRopes_42 rfl 0 rfl ?_
        refine fgX0_15 43 cx dX0_swingByRopes_43 0 rfl rfl ?_
        refine k_iload_n 46 cx dX0_swingByRopes_46 rfl 1 rfl ?_
        refine k_iload 47 cx dX0_swingByRopes_47 3 rfl ?_
        refine k_iadd 49 cx dX0_swingByRopes_49 ?_
        refine k_iald 50 cx dX0_swingByRopes_50 2 rfl hm (fun hm => ?_)
        obtain ⟨u15, hu15, hm⟩ := bnd hm
        refine k_callV 51 cx cwX0_64 (c_X0_countedOf X.2.1 G h_t h_t_valley h_t_valley_kinds h_t_cameByRopes h_t_rang h_t_underWay h_t_counting h_t_valley_needs h_t_valley_from h_t_valley_to h_t_valley_lasts t_lastDue t_valley_bells t_valley_ropes t_valley_span t_valley_tied t_valley_kinds t_cameByRopes x4 (t_underWay (Int32.toNatClampNeg (x2 + x4))) hu15) dX0_swingByRopes_51 ⟨by decide, by decide⟩ rfl rfl (rest := [.int (x3 + x4), .ref h_t_counting]) rfl (Nat.le_of_ble_eq_true rfl) [0, 1, 3, 4] (by decide) rfl rfl (w2 := (w_X0_swingByRopes G h_t h_t_valley h_t_underWay h_t_valley_kinds h_t_cameByRopes h_t_counting h_t_rang h_t_valley_needs h_t_valley_from h_t_valley_to h_t_valley_lasts t_lastDue t_valley_bells t_valley_ropes t_valley_span t_valley_tied t_underWay t_valley_kinds u15.2 t_counting)) [2, 5] 6 rfl [(h_t_underWay, .inl (G.2.1, 60, .inl t_underWay)), (h_t_counting, .inl (G.2.1, 36, .inl t_counting))] rfl rfl rfl (by decide) (st2 := [.int u15.1, .int (x3 + x4), .ref h_t_counting]) rfl ?_
        refine k_iast 54 cx dX0_swingByRopes_54 5 rfl (fun f16 => (w_X0_swingByRopes G h_t h_t_valley h_t_underWay h_t_valley_kinds h_t_cameByRopes h_t_counting h_t_rang h_t_valley_needs h_t_valley_from h_t_valley_to h_t_valley_lasts t_lastDue t_valley_bells t_valley_ropes t_valley_span t_valley_tied t_underWay t_valley_kinds u15.2 f16)) (fun _ => rfl) hm (fun f16 hm => ?_)
        refine k_aload_n 55 cx dX0_swingByRopes_55 rfl 0 rfl ?_
        refine fgX0_15 56 cx dX0_swingByRopes_56 0 rfl rfl ?_
        refine k_iload_n 59 cx dX0_swingByRopes_59 rfl 1 rfl ?_
        refine k_iload 60 cx dX0_swingByRopes_60 3 rfl ?_
        refine k_iadd 62 cx dX0_swingByRopes_62 ?_
        refine k_iconst 63 cx (v := (0 : Int32)) dX0_swingByRopes_63 (by decide) ?_
        refine k_iast 64 cx dX0_swingByRopes_64 2 rfl (fun f17 => (w_X0_swingByRopes G h_t h_t_valley h_t_underWay h_t_valley_kinds h_t_cameByRopes h_t_counting h_t_rang h_t_valley_needs h_t_valley_from h_t_valley_to h_t_valley_lasts t_lastDue t_valley_bells t_valley_ropes t_valley_span t_valley_tied f17 t_valley_kinds u15.2 f16)) (fun _ => rfl) hm (fun f17 hm => ?_)
        refine k_iinc 65 cx dX0_swingByRopes_65 3 rfl (by decide) (by decide) (fun v18 => [(4, .int v18), (0, .ref h_t), (2, .int x2), (3, .int x3)]) (fun _ => rfl) hm (fun v18 hm => ?_)
        refine k_goto 68 cx (tgt := 19) dX0_swingByRopes_68 (by decide) ?_
        refine k_lv [1, 2, 3, 0] rfl ?_
        exact ih v18 f17 u15.2 f16 _ hm k0
  unfold M_X0_swingByRopes at hm
  refine k_iload_n 0 cx dX0_swingByRopes_0 rfl 1 rfl ?_
  refine k_bipush 1 cx (v := (10 : Int32)) dX0_swingByRopes_1 (by decide) ?_
  refine k_irem_c 3 cx dX0_swingByRopes_3 (by decide) ?_
  refine k_bipush 4 cx (v := (6 : Int32)) dX0_swingByRopes_4 (by decide) ?_
  refine k_imul 6 cx dX0_swingByRopes_6 ?_
  refine k_nm hm (fun v1 hm => ?_)
  refine k_istore_n 7 cx dX0_swingByRopes_7 rfl (by decide) (lv' := [(2, .int v1), (0, .ref h_t), (1, .int a1)]) rfl ?_
  refine k_iload_n 8 cx dX0_swingByRopes_8 rfl 2 rfl ?_
  refine k_bipush 9 cx (v := (6 : Int32)) dX0_swingByRopes_9 (by decide) ?_
  refine k_irem_c 11 cx dX0_swingByRopes_11 (by decide) ?_
  refine k_bipush 12 cx (v := (6 : Int32)) dX0_swingByRopes_12 (by decide) ?_
  refine k_imul 14 cx dX0_swingByRopes_14 ?_
  refine k_nm hm (fun v2 hm => ?_)
  refine k_istore_n 15 cx dX0_swingByRopes_15 rfl (by decide) (lv' := [(3, .int v2), (2, .int v1), (0, .ref h_t), (1, .int a1)]) rfl ?_
  refine k_iconst 16 cx (v := (0 : Int32)) dX0_swingByRopes_16 (by decide) ?_
  refine k_istore 17 cx dX0_swingByRopes_17 (by decide) (lv' := [(4, .int (0 : Int32)), (3, .int v2), (2, .int v1), (0, .ref h_t), (1, .int a1)]) rfl ?_
  refine k_lv [3, 2, 1, 0] rfl ?_
  obtain ⟨u19, hu19, hm⟩ := bnd hm
  refine lp19 _ _ v1 v2 t_lastDue t_valley_bells t_valley_ropes t_valley_span t_valley_tied t_valley_kinds 1000 (0 : Int32) t_underWay t_cameByRopes t_counting u19 hu19 ?_
  obtain rfl := Option.some.inj hm
  exact k_vret 71 cx dX0_swingByRopes_71 rfl rfl
set_option maxRecDepth 100000 in
theorem fgX0_71 {X : XT} {Q : State → Prop} {G : GT} {A : Nat → Prop} {nL : Nat} {lv : List (Nat × Value)} {st : List Value} {ws : va_W} {cc : ByteArray} {fr lo : Nat} {ret : Option FieldType} (pc : Nat) (cx : Cx X cc nL RX0 G fr lo ret) {a : Nat} {fs : List Value} {v : Value} (hd : decode cc pc = .ok (.getfield 71, 3)) (q0 : Nat) (he : ws[q0]? = some (a, .inr (1, fs))) (hv : fs[3]? = some v) (k : KJ X Q G A nL (pc + 3) lv (v :: st) ws) : KJ X Q G A nL pc lv (.ref a :: st) ws :=
  k_get (ref := RX1) (T := TX1) (N := 4) (ci := 1) pc cx inX1 rfl 3 (by decide) (tb_m (i := 158) rfl rfl) rfl hd q0 he hv k
set_option maxRecDepth 100000 in
theorem fgX0_74 {X : XT} {Q : State → Prop} {G : GT} {A : Nat → Prop} {nL : Nat} {lv : List (Nat × Value)} {st : List Value} {ws : va_W} {cc : ByteArray} {fr lo : Nat} {ret : Option FieldType} (pc : Nat) (cx : Cx X cc nL RX0 G fr lo ret) {a : Nat} {fs : List Value} {v : Value} (hd : decode cc pc = .ok (.getfield 74, 3)) (q0 : Nat) (he : ws[q0]? = some (a, .inr (1, fs))) (hv : fs[1]? = some v) (k : KJ X Q G A nL (pc + 3) lv (v :: st) ws) : KJ X Q G A nL pc lv (.ref a :: st) ws :=
  k_get (ref := RX1) (T := TX1) (N := 4) (ci := 1) pc cx inX1 rfl 1 (by decide) (tb_m (i := 153) rfl rfl) rfl hd q0 he hv k
set_option maxRecDepth 100000 in
theorem fgX0_77 {X : XT} {Q : State → Prop} {G : GT} {A : Nat → Prop} {nL : Nat} {lv : List (Nat × Value)} {st : List Value} {ws : va_W} {cc : ByteArray} {fr lo : Nat} {ret : Option FieldType} (pc : Nat) (cx : Cx X cc nL RX0 G fr lo ret) {a : Nat} {fs : List Value} {v : Value} (hd : decode cc pc = .ok (.getfield 77, 3)) (q0 : Nat) (he : ws[q0]? = some (a, .inr (1, fs))) (hv : fs[0]? = some v) (k : KJ X Q G A nL (pc + 3) lv (v :: st) ws) : KJ X Q G A nL pc lv (.ref a :: st) ws :=
  k_get (ref := RX1) (T := TX1) (N := 4) (ci := 1) pc cx inX1 rfl 0 (by decide) (tb_m (i := 151) rfl rfl) rfl hd q0 he hv k
set_option maxRecDepth 100000 in
theorem fgX0_79 {X : XT} {Q : State → Prop} {G : GT} {A : Nat → Prop} {nL : Nat} {lv : List (Nat × Value)} {st : List Value} {ws : va_W} {cc : ByteArray} {fr lo : Nat} {ret : Option FieldType} (pc : Nat) (cx : Cx X cc nL RX0 G fr lo ret) {a : Nat} {fs : List Value} {v : Value} (hd : decode cc pc = .ok (.getfield 79, 3)) (q0 : Nat) (he : ws[q0]? = some (a, .inr (1, fs))) (hv : fs[2]? = some v) (k : KJ X Q G A nL (pc + 3) lv (v :: st) ws) : KJ X Q G A nL pc lv (.ref a :: st) ws :=
  k_get (ref := RX1) (T := TX1) (N := 4) (ci := 1) pc cx inX1 rfl 2 (by decide) (tb_m (i := 155) rfl rfl) rfl hd q0 he hv k
def w_X0_swingByPulls (G : GT) (h_t : Nat) (h_p1 : Nat) (h_p1_minutes : Nat) (h_p1_bells : Nat) (h_t_counting : Nat) (h_p1_times : Nat) (h_t_valley : Nat) (h_t_rang : Nat) (h_t_underWay : Nat) (h_t_cameByRopes : Nat) (t_lastDue : Int32) (p1_count : Int32) (p1_minutes : (Nat → Int32)) (p1_bells : (Nat → Int32)) (t_counting : (Nat → Int32)) (p1_times : (Nat → Int32)) : va_W := [(h_t, .inr (0, [.ref h_t_valley, .ref h_t_rang, .ref h_t_underWay, .ref h_t_counting, .ref h_t_cameByRopes, .int t_lastDue])), (h_p1, .inr (1, [.ref h_p1_bells, .ref h_p1_minutes, .ref h_p1_times, .int p1_count])), (h_p1_minutes, .inl (G.2.1, 6, .inl p1_minutes)), (h_p1_bells, .inl (G.2.1, 6, .inl p1_bells)), (h_t_counting, .inl (G.2.1, 36, .inl t_counting)), (h_p1_times, .inl (G.2.1, 6, .inl p1_times))]
def L_X0_swingByPulls_11 (x2 : Int32) (x3 : Int32) (p1_count : Int32) (p1_minutes : (Nat → Int32)) (p1_bells : (Nat → Int32)) (p1_times : (Nat → Int32)) : Nat → Int32 → (Nat → Int32) → Option (Int32 × (Nat → Int32))
  | 0, _, _ => none
  | n + 1, x4, t_counting => (if p1_count ≤ x4 then (some (x4, t_counting)) else (gB (inb x4 6) (if (p1_minutes (Int32.toNatClampNeg x4)) = x2 then (gB (inb x4 6) (gB (inb (x3 + (p1_bells (Int32.toNatClampNeg x4))) 36) (gB (inb x4 6) (gB (inb (x3 + (p1_bells (Int32.toNatClampNeg x4))) 36) (nme (upd t_counting (Int32.toNatClampNeg (x3 + (p1_bells (Int32.toNatClampNeg x4)))) ((t_counting (Int32.toNatClampNeg (x3 + (p1_bells (Int32.toNatClampNeg x4))))) + (p1_times (Int32.toNatClampNeg x4)))) (fun f12 => (nme (x4 + (1 : Int32)) (fun v13 => (L_X0_swingByPulls_11 x2 x3 p1_count p1_minutes p1_bells p1_times n v13 f12))))))))) else (nme (x4 + (1 : Int32)) (fun v11 => (L_X0_swingByPulls_11 x2 x3 p1_count p1_minutes p1_bells p1_times n v11 t_counting))))))
def M_X0_swingByPulls (p1_count : Int32) (p1_minutes : (Nat → Int32)) (p1_bells : (Nat → Int32)) (t_counting : (Nat → Int32)) (p1_times : (Nat → Int32)) (a2 : Int32) : Option ((Nat → Int32)) := (nme ((a2 - a2 / (6 : Int32) * (6 : Int32)) * (6 : Int32)) (fun v1 => ((L_X0_swingByPulls_11 a2 v1 p1_count p1_minutes p1_bells p1_times 1000 (0 : Int32) t_counting).bind (fun u14 => (some u14.2)))))
set_option maxHeartbeats 4000000 in
set_option maxRecDepth 100000 in
theorem c_X0_swingByPulls (l : Launch) (G : GT) (h_t : Nat) (h_p1 : Nat) (h_p1_minutes : Nat) (h_p1_bells : Nat) (h_t_counting : Nat) (h_p1_times : Nat) (h_t_valley : Nat) (h_t_rang : Nat) (h_t_underWay : Nat) (h_t_cameByRopes : Nat) (t_lastDue : Int32) (p1_count : Int32) (p1_minutes : (Nat → Int32)) (p1_bells : (Nat → Int32)) (t_counting : (Nat → Int32)) (p1_times : (Nat → Int32)) (a2 : Int32) {u : (Nat → Int32)} (hm : M_X0_swingByPulls p1_count p1_minutes p1_bells t_counting p1_times a2 = some u) : CT l yX0_swingByPulls cX0_swingByPulls 5 none 0 0 [.ref h_t, .ref h_p1, .int a2] G (w_X0_swingByPulls G h_t h_p1 h_p1_minutes h_p1_bells h_t_counting h_p1_times h_t_valley h_t_rang h_t_underWay h_t_cameByRopes t_lastDue p1_count p1_minutes p1_bells t_counting p1_times) none (w_X0_swingByPulls G h_t h_p1 h_p1_minutes h_p1_bells h_t_counting h_p1_times h_t_valley h_t_rang h_t_underWay h_t_cameByRopes t_lastDue p1_count p1_minutes p1_bells u p1_times) := by
  refine ct_intro RX0 [(0, .ref h_t), (1, .ref h_p1), (2, .int a2)] (by decide) rfl (Nat.le_of_ble_eq_true rfl) rfl (fun X hX cx => ?_)
  have lp11 : ∀ (Q : State → Prop) (A : Nat → Prop) (x2 : Int32) (x3 : Int32) (t_lastDue : Int32) (p1_count : Int32) (p1_minutes : (Nat → Int32)) (p1_bells : (Nat → Int32)) (p1_times : (Nat → Int32)) (n : Nat) (x4 : Int32) (t_counting : (Nat → Int32)) (y : Int32 × (Nat → Int32)), L_X0_swingByPulls_11 x2 x3 p1_count p1_minutes p1_bells p1_times n x4 t_counting = some y → (KJ X Q G A 5 61 [] [] (w_X0_swingByPulls G h_t h_p1 h_p1_minutes h_p1_bells h_t_counting h_p1_times h_t_valley h_t_rang h_t_underWay h_t_cameByRopes t_lastDue p1_count p1_minutes p1_bells y.2 p1_times)) → KJ X Q G A 5 11 [(0, .ref h_t), (1, .ref h_p1), (2, .int x2), (3, .int x3), (4, .int x4)] [] (w_X0_swingByPulls G h_t h_p1 h_p1_minutes h_p1_bells h_t_counting h_p1_times h_t_valley h_t_rang h_t_underWay h_t_cameByRopes t_lastDue p1_count p1_minutes p1_bells t_counting p1_times) := by
    intro Q A x2 x3 t_lastDue p1_count p1_minutes p1_bells p1_times n
    induction n with
    | zero => intro x4 t_counting y hm _; exact noS hm
    | succ n ih =>
      intro x4 t_counting y hm k0
      rw [L_X0_swingByPulls_11] at hm
      refine k_iload 11 cx dX0_swingByPulls_11 4 rfl ?_
      refine k_aload_n 13 cx dX0_swingByPulls_13 rfl 1 rfl ?_
      refine fgX0_71 14 cx dX0_swingByPulls_14 1 rfl rfl ?_
      refine k_icmp_ge 17 cx (tgt := 61) dX0_swingByPulls_17 (by decide) hm (fun hc hm => ?_) (fun hc hm => ?_)
      · obtain rfl := Option.some.inj hm
        refine k_lv [] rfl ?_
        exact k0
      · refine k_aload_n 20 cx dX0_swingByPulls_20 rfl 1 rfl ?_
        refine fgX0_74 21 cx dX0_swingByPulls_21 1 rfl rfl ?_
        refine k_iload 24 cx dX0_swingByPulls_24 4 rfl ?_
        refine k_iald 26 cx dX0_swingByPulls_26 2 rfl hm (fun hm => ?_)
        refine k_iload_n 27 cx dX0_swingByPulls_27 rfl 2 rfl ?_
        refine k_icmp_ne 28 cx (tgt := 55) dX0_swingByPulls_28 (by decide) hm (fun hc hm => ?_) (fun hc hm => ?_)
        · refine k_aload_n 31 cx dX0_swingByPulls_31 rfl 0 rfl ?_
          refine fgX0_18 32 cx dX0_swingByPulls_32 0 rfl rfl ?_
          refine k_iload_n 35 cx dX0_swingByPulls_35 rfl 3 rfl ?_
          refine k_aload_n 36 cx dX0_swingByPulls_36 rfl 1 rfl ?_
          refine fgX0_77 37 cx dX0_swingByPulls_37 1 rfl rfl ?_
          refine k_iload 40 cx dX0_swingByPulls_40 4 rfl ?_
          refine k_iald 42 cx dX0_swingByPulls_42 3 rfl hm (fun hm => ?_)
          refine k_iadd 43 cx dX0_swingByPulls_43 ?_
          refine k_dup2 44 cx dX0_swingByPulls_44 rfl rfl ?_
          refine k_iald 45 cx dX0_swingByPulls_45 4 rfl hm (fun hm => ?_)
          refine k_aload_n 46 cx dX0_swingByPulls_46 rfl 1 rfl ?_
          refine fgX0_79 47 cx dX0_swingByPulls_47 1 rfl rfl ?_
          refine k_iload 50 cx dX0_swingByPulls_50 4 rfl ?_
          refine k_iald 52 cx dX0_swingByPulls_52 5 rfl hm (fun hm => ?_)
          refine k_iadd 53 cx dX0_swingByPulls_53 ?_
          refine k_iast 54 cx dX0_swingByPulls_54 4 rfl (fun f12 => (w_X0_swingByPulls G h_t h_p1 h_p1_minutes h_p1_bells h_t_counting h_p1_times h_t_valley h_t_rang h_t_underWay h_t_cameByRopes t_lastDue p1_count p1_minutes p1_bells f12 p1_times)) (fun _ => rfl) hm (fun f12 hm => ?_)
          refine k_iinc 55 cx dX0_swingByPulls_55 4 rfl (by decide) (by decide) (fun v13 => [(4, .int v13), (0, .ref h_t), (1, .ref h_p1), (2, .int x2), (3, .int x3)]) (fun _ => rfl) hm (fun v13 hm => ?_)
          refine k_goto 58 cx (tgt := 11) dX0_swingByPulls_58 (by decide) ?_
          refine k_lv [1, 2, 3, 4, 0] rfl ?_
          exact ih v13 f12 _ hm k0
        · refine k_iinc 55 cx dX0_swingByPulls_55 4 rfl (by decide) (by decide) (fun v11 => [(4, .int v11), (0, .ref h_t), (1, .ref h_p1), (2, .int x2), (3, .int x3)]) (fun _ => rfl) hm (fun v11 hm => ?_)
          refine k_goto 58 cx (tgt := 11) dX0_swingByPulls_58 (by decide) ?_
          refine k_lv [1, 2, 3, 4, 0] rfl ?_
          exact ih v11 t_counting _ hm k0
  unfold M_X0_swingByPulls at hm
  refine k_iload_n 0 cx dX0_swingByPulls_0 rfl 2 rfl ?_
  refine k_bipush 1 cx (v := (6 : Int32)) dX0_swingByPulls_1 (by decide) ?_
  refine k_irem_c 3 cx dX0_swingByPulls_3 (by decide) ?_
  refine k_bipush 4 cx (v := (6 : Int32)) dX0_swingByPulls_4 (by decide) ?_
  refine k_imul 6 cx dX0_swingByPulls_6 ?_
  refine k_nm hm (fun v1 hm => ?_)
  refine k_istore_n 7 cx dX0_swingByPulls_7 rfl (by decide) (lv' := [(3, .int v1), (0, .ref h_t), (1, .ref h_p1), (2, .int a2)]) rfl ?_
  refine k_iconst 8 cx (v := (0 : Int32)) dX0_swingByPulls_8 (by decide) ?_
  refine k_istore 9 cx dX0_swingByPulls_9 (by decide) (lv' := [(4, .int (0 : Int32)), (3, .int v1), (0, .ref h_t), (1, .ref h_p1), (2, .int a2)]) rfl ?_
  refine k_lv [2, 3, 4, 1, 0] rfl ?_
  obtain ⟨u14, hu14, hm⟩ := bnd hm
  refine lp11 _ _ a2 v1 t_lastDue p1_count p1_minutes p1_bells p1_times 1000 (0 : Int32) t_counting u14 hu14 ?_
  obtain rfl := Option.some.inj hm
  exact k_vret 61 cx dX0_swingByPulls_61 rfl rfl
set_option maxRecDepth 100000 in
theorem fgX0_92 {X : XT} {Q : State → Prop} {G : GT} {A : Nat → Prop} {nL : Nat} {lv : List (Nat × Value)} {st : List Value} {ws : va_W} {cc : ByteArray} {fr lo : Nat} {ret : Option FieldType} (pc : Nat) (cx : Cx X cc nL RX0 G fr lo ret) {a : Nat} {fs : List Value} {v : Value} (hd : decode cc pc = .ok (.getfield 92, 3)) (q0 : Nat) (he : ws[q0]? = some (a, .inr (5, fs))) (hv : fs[7]? = some v) (k : KJ X Q G A nL (pc + 3) lv (v :: st) ws) : KJ X Q G A nL pc lv (.ref a :: st) ws :=
  k_get (ref := RX5) (T := TX5) (N := 9) (ci := 5) pc cx inX5 rfl 7 (by decide) (tb_m (i := 105) rfl rfl) rfl hd q0 he hv k
def w_X0_countTogether (G : GT) (h_t : Nat) (h_t_valley : Nat) (h_t_counting : Nat) (h_t_rang : Nat) (h_t_underWay : Nat) (h_t_cameByRopes : Nat) (h_t_valley_kinds : Nat) (h_t_valley_needs : Nat) (h_t_valley_from : Nat) (h_t_valley_to : Nat) (h_t_valley_lasts : Nat) (t_lastDue : Int32) (t_valley_bells : Int32) (t_valley_ropes : Int32) (t_valley_span : Int32) (t_valley_tied : Int32) (t_counting : (Nat → Int32)) : va_W := [(h_t, .inr (0, [.ref h_t_valley, .ref h_t_rang, .ref h_t_underWay, .ref h_t_counting, .ref h_t_cameByRopes, .int t_lastDue])), (h_t_valley, .inr (5, [.ref h_t_valley_kinds, .ref h_t_valley_needs, .ref h_t_valley_from, .ref h_t_valley_to, .ref h_t_valley_lasts, .int t_valley_bells, .int t_valley_ropes, .int t_valley_span, .int t_valley_tied])), (h_t_counting, .inl (G.2.1, 36, .inl t_counting))]
def L_X0_countTogether_5 (x1 : Int32) (x2 : Int32) (t_valley_span : Int32) (t_counting : (Nat → Int32)) : Nat → Int32 → Int32 → Option (Int32 × Int32)
  | 0, _, _ => none
  | n + 1, x3, x4 => (if t_valley_span < x4 then (some (x3, x4)) else (if x2 < x4 then (some (x3, x4)) else (nme (x2 - x4) (fun v10 => (gB (inb (((v10 - v10 / (6 : Int32) * (6 : Int32)) * (6 : Int32)) + x1) 36) (nme (x3 + (t_counting (Int32.toNatClampNeg (((v10 - v10 / (6 : Int32) * (6 : Int32)) * (6 : Int32)) + x1)))) (fun v11 => (nme (x4 + (1 : Int32)) (fun v12 => (L_X0_countTogether_5 x1 x2 t_valley_span t_counting n v11 v12))))))))))
def M_X0_countTogether (t_valley_span : Int32) (t_counting : (Nat → Int32)) (a1 : Int32) (a2 : Int32) : Option (Int32) := ((L_X0_countTogether_5 a1 a2 t_valley_span t_counting 1000 (0 : Int32) (0 : Int32)).bind (fun u13 => (some u13.1)))
set_option maxHeartbeats 4000000 in
set_option maxRecDepth 100000 in
theorem c_X0_countTogether (l : Launch) (G : GT) (h_t : Nat) (h_t_valley : Nat) (h_t_counting : Nat) (h_t_rang : Nat) (h_t_underWay : Nat) (h_t_cameByRopes : Nat) (h_t_valley_kinds : Nat) (h_t_valley_needs : Nat) (h_t_valley_from : Nat) (h_t_valley_to : Nat) (h_t_valley_lasts : Nat) (t_lastDue : Int32) (t_valley_bells : Int32) (t_valley_ropes : Int32) (t_valley_span : Int32) (t_valley_tied : Int32) (t_counting : (Nat → Int32)) (a1 : Int32) (a2 : Int32) {u : Int32} (hm : M_X0_countTogether t_valley_span t_counting a1 a2 = some u) : CT l yX0_countTogether cX0_countTogether 5 (some .int) 0 0 [.ref h_t, .int a1, .int a2] G (w_X0_countTogether G h_t h_t_valley h_t_counting h_t_rang h_t_underWay h_t_cameByRopes h_t_valley_kinds h_t_valley_needs h_t_valley_from h_t_valley_to h_t_valley_lasts t_lastDue t_valley_bells t_valley_ropes t_valley_span t_valley_tied t_counting) (some (.int u)) (w_X0_countTogether G h_t h_t_valley h_t_counting h_t_rang h_t_underWay h_t_cameByRopes h_t_valley_kinds h_t_valley_needs h_t_valley_from h_t_valley_to h_t_valley_lasts t_lastDue t_valley_bells t_valley_ropes t_valley_span t_valley_tied t_counting) := by
  refine ct_intro RX0 [(0, .ref h_t), (1, .int a1), (2, .int a2)] (by decide) rfl (Nat.le_of_ble_eq_true rfl) rfl (fun X hX cx => ?_)
  have lp5 : ∀ (Q : State → Prop) (A : Nat → Prop) (x1 : Int32) (x2 : Int32) (t_lastDue : Int32) (t_valley_bells : Int32) (t_valley_ropes : Int32) (t_valley_span : Int32) (t_valley_tied : Int32) (t_counting : (Nat → Int32)) (n : Nat) (x3 : Int32) (x4 : Int32) (y : Int32 × Int32), L_X0_countTogether_5 x1 x2 t_valley_span t_counting n x3 x4 = some y → (KJ X Q G A 5 49 [(3, .int y.1)] [] (w_X0_countTogether G h_t h_t_valley h_t_counting h_t_rang h_t_underWay h_t_cameByRopes h_t_valley_kinds h_t_valley_needs h_t_valley_from h_t_valley_to h_t_valley_lasts t_lastDue t_valley_bells t_valley_ropes t_valley_span t_valley_tied t_counting)) → KJ X Q G A 5 5 [(0, .ref h_t), (1, .int x1), (2, .int x2), (3, .int x3), (4, .int x4)] [] (w_X0_countTogether G h_t h_t_valley h_t_counting h_t_rang h_t_underWay h_t_cameByRopes h_t_valley_kinds h_t_valley_needs h_t_valley_from h_t_valley_to h_t_valley_lasts t_lastDue t_valley_bells t_valley_ropes t_valley_span t_valley_tied t_counting) := by
    intro Q A x1 x2 t_lastDue t_valley_bells t_valley_ropes t_valley_span t_valley_tied t_counting n
    induction n with
    | zero => intro x3 x4 y hm _; exact noS hm
    | succ n ih =>
      intro x3 x4 y hm k0
      rw [L_X0_countTogether_5] at hm
      refine k_iload 5 cx dX0_countTogether_5 4 rfl ?_
      refine k_aload_n 7 cx dX0_countTogether_7 rfl 0 rfl ?_
      refine fgX0_24 8 cx dX0_countTogether_8 0 rfl rfl ?_
      refine fgX0_92 11 cx dX0_countTogether_11 1 rfl rfl ?_
      refine k_icmp_gt 14 cx (tgt := 49) dX0_countTogether_14 (by decide) hm (fun hc hm => ?_) (fun hc hm => ?_)
      · obtain rfl := Option.some.inj hm
        refine k_lv [3] rfl ?_
        exact k0
      · refine k_iload 17 cx dX0_countTogether_17 4 rfl ?_
        refine k_iload_n 19 cx dX0_countTogether_19 rfl 2 rfl ?_
        refine k_icmp_gt 20 cx (tgt := 49) dX0_countTogether_20 (by decide) hm (fun hc hm => ?_) (fun hc hm => ?_)
        · obtain rfl := Option.some.inj hm
          refine k_lv [3] rfl ?_
          exact k0
        · refine k_iload_n 23 cx dX0_countTogether_23 rfl 3 rfl ?_
          refine k_aload_n 24 cx dX0_countTogether_24 rfl 0 rfl ?_
          refine fgX0_18 25 cx dX0_countTogether_25 0 rfl rfl ?_
          refine k_iload_n 28 cx dX0_countTogether_28 rfl 2 rfl ?_
          refine k_iload 29 cx dX0_countTogether_29 4 rfl ?_
          refine k_isub 31 cx dX0_countTogether_31 ?_
          refine k_bipush 32 cx (v := (6 : Int32)) dX0_countTogether_32 (by decide) ?_
          refine k_nm1 hm (fun v10 hm => ?_)
          refine k_irem_c 34 cx dX0_countTogether_34 (by decide) ?_
          refine k_bipush 35 cx (v := (6 : Int32)) dX0_countTogether_35 (by decide) ?_
          refine k_imul 37 cx dX0_countTogether_37 ?_
          refine k_iload_n 38 cx dX0_countTogether_38 rfl 1 rfl ?_
          refine k_iadd 39 cx dX0_countTogether_39 ?_
          refine k_iald 40 cx dX0_countTogether_40 2 rfl hm (fun hm => ?_)
          refine k_iadd 41 cx dX0_countTogether_41 ?_
          refine k_nm hm (fun v11 hm => ?_)
          refine k_istore_n 42 cx dX0_countTogether_42 rfl (by decide) (lv' := [(3, .int v11), (0, .ref h_t), (1, .int x1), (2, .int x2), (4, .int x4)]) rfl ?_
          refine k_iinc 43 cx dX0_countTogether_43 4 rfl (by decide) (by decide) (fun v12 => [(4, .int v12), (3, .int v11), (0, .ref h_t), (1, .int x1), (2, .int x2)]) (fun _ => rfl) hm (fun v12 hm => ?_)
          refine k_goto 46 cx (tgt := 5) dX0_countTogether_46 (by decide) ?_
          refine k_lv [2, 3, 4, 1, 0] rfl ?_
          exact ih v11 v12 _ hm k0
  unfold M_X0_countTogether at hm
  refine k_iconst 0 cx (v := (0 : Int32)) dX0_countTogether_0 (by decide) ?_
  refine k_istore_n 1 cx dX0_countTogether_1 rfl (by decide) (lv' := [(3, .int (0 : Int32)), (0, .ref h_t), (1, .int a1), (2, .int a2)]) rfl ?_
  refine k_iconst 2 cx (v := (0 : Int32)) dX0_countTogether_2 (by decide) ?_
  refine k_istore 3 cx dX0_countTogether_3 (by decide) (lv' := [(4, .int (0 : Int32)), (3, .int (0 : Int32)), (0, .ref h_t), (1, .int a1), (2, .int a2)]) rfl ?_
  refine k_lv [2, 3, 4, 1, 0] rfl ?_
  obtain ⟨u13, hu13, hm⟩ := bnd hm
  refine lp5 _ _ a1 a2 t_lastDue t_valley_bells t_valley_ropes t_valley_span t_valley_tied t_counting 1000 (0 : Int32) (0 : Int32) u13 hu13 ?_
  refine k_iload_n 49 cx dX0_countTogether_49 rfl 0 rfl ?_
  obtain rfl := Option.some.inj hm
  exact k_iret 50 cx dX0_countTogether_50 rfl rfl
set_option maxRecDepth 100000 in
theorem fgX5_9 {X : XT} {Q : State → Prop} {G : GT} {A : Nat → Prop} {nL : Nat} {lv : List (Nat × Value)} {st : List Value} {ws : va_W} {cc : ByteArray} {fr lo : Nat} {ret : Option FieldType} (pc : Nat) (cx : Cx X cc nL RX5 G fr lo ret) {a : Nat} {fs : List Value} {v : Value} (hd : decode cc pc = .ok (.getfield 9, 3)) (q0 : Nat) (he : ws[q0]? = some (a, .inr (5, fs))) (hv : fs[0]? = some v) (k : KJ X Q G A nL (pc + 3) lv (v :: st) ws) : KJ X Q G A nL pc lv (.ref a :: st) ws :=
  k_get (ref := RX5) (T := TX5) (N := 9) (ci := 5) pc cx inX5 rfl 0 (by decide) (tb_m (i := 77) rfl rfl) rfl hd q0 he hv k
set_option maxRecDepth 100000 in
theorem fgX5_15 {X : XT} {Q : State → Prop} {G : GT} {A : Nat → Prop} {nL : Nat} {lv : List (Nat × Value)} {st : List Value} {ws : va_W} {cc : ByteArray} {fr lo : Nat} {ret : Option FieldType} (pc : Nat) (cx : Cx X cc nL RX5 G fr lo ret) {a : Nat} {fs : List Value} {v : Value} (hd : decode cc pc = .ok (.getfield 15, 3)) (q0 : Nat) (he : ws[q0]? = some (a, .inr (5, fs))) (hv : fs[1]? = some v) (k : KJ X Q G A nL (pc + 3) lv (v :: st) ws) : KJ X Q G A nL pc lv (.ref a :: st) ws :=
  k_get (ref := RX5) (T := TX5) (N := 9) (ci := 5) pc cx inX5 rfl 1 (by decide) (tb_m (i := 81) rfl rfl) rfl hd q0 he hv k
def w_X5_swingsFor (G : GT) (h_t : Nat) (h_t_kinds : Nat) (h_t_needs : Nat) (h_t_from : Nat) (h_t_to : Nat) (h_t_lasts : Nat) (t_bells : Int32) (t_ropes : Int32) (t_span : Int32) (t_tied : Int32) (t_kinds : (Nat → Int32)) (t_needs : (Nat → Int32)) : va_W := [(h_t, .inr (5, [.ref h_t_kinds, .ref h_t_needs, .ref h_t_from, .ref h_t_to, .ref h_t_lasts, .int t_bells, .int t_ropes, .int t_span, .int t_tied])), (h_t_kinds, .inl (G.2.1, 6, .inl t_kinds)), (h_t_needs, .inl (G.2.1, 6, .inl t_needs))]
def M_X5_swingsFor (t_kinds : (Nat → Int32)) (t_needs : (Nat → Int32)) (a1 : Int32) : Option (Int32) := (gB (inb a1 6) (if (t_kinds (Int32.toNatClampNeg a1)) = 0 then (gB (inb a1 6) (some (t_needs (Int32.toNatClampNeg a1)))) else (gB (inb a1 6) (some ((t_needs (Int32.toNatClampNeg a1)) + (1 : Int32))))))
set_option maxHeartbeats 4000000 in
set_option maxRecDepth 100000 in
theorem c_X5_swingsFor (l : Launch) (G : GT) (h_t : Nat) (h_t_kinds : Nat) (h_t_needs : Nat) (h_t_from : Nat) (h_t_to : Nat) (h_t_lasts : Nat) (t_bells : Int32) (t_ropes : Int32) (t_span : Int32) (t_tied : Int32) (t_kinds : (Nat → Int32)) (t_needs : (Nat → Int32)) (a1 : Int32) {u : Int32} (hm : M_X5_swingsFor t_kinds t_needs a1 = some u) : CT l yX5_swingsFor cX5_swingsFor 2 (some .int) 0 0 [.ref h_t, .int a1] G (w_X5_swingsFor G h_t h_t_kinds h_t_needs h_t_from h_t_to h_t_lasts t_bells t_ropes t_span t_tied t_kinds t_needs) (some (.int u)) (w_X5_swingsFor G h_t h_t_kinds h_t_needs h_t_from h_t_to h_t_lasts t_bells t_ropes t_span t_tied t_kinds t_needs) := by
  refine ct_intro RX5 [(0, .ref h_t), (1, .int a1)] (by decide) rfl (Nat.le_of_ble_eq_true rfl) rfl (fun X hX cx => ?_)
  unfold M_X5_swingsFor at hm
  refine k_aload_n 0 cx dX5_swingsFor_0 rfl 0 rfl ?_
  refine fgX5_9 1 cx dX5_swingsFor_1 0 rfl rfl ?_
  refine k_iload_n 4 cx dX5_swingsFor_4 rfl 1 rfl ?_
  refine k_iald 5 cx dX5_swingsFor_5 1 rfl hm (fun hm => ?_)
  refine k_if_ne 6 cx (tgt := 18) dX5_swingsFor_6 (by decide) hm (fun hc hm => ?_) (fun hc hm => ?_)
  · refine k_aload_n 9 cx dX5_swingsFor_9 rfl 0 rfl ?_
    refine fgX5_15 10 cx dX5_swingsFor_10 0 rfl rfl ?_
    refine k_iload_n 13 cx dX5_swingsFor_13 rfl 1 rfl ?_
    refine k_iald 14 cx dX5_swingsFor_14 2 rfl hm (fun hm => ?_)
    refine k_goto 15 cx (tgt := 26) dX5_swingsFor_15 (by decide) ?_
    obtain rfl := Option.some.inj hm
    exact k_iret 26 cx dX5_swingsFor_26 rfl rfl
  · refine k_aload_n 18 cx dX5_swingsFor_18 rfl 0 rfl ?_
    refine fgX5_15 19 cx dX5_swingsFor_19 0 rfl rfl ?_
    refine k_iload_n 22 cx dX5_swingsFor_22 rfl 1 rfl ?_
    refine k_iald 23 cx dX5_swingsFor_23 2 rfl hm (fun hm => ?_)
    refine k_iconst 24 cx (v := (1 : Int32)) dX5_swingsFor_24 (by decide) ?_
    refine k_iadd 25 cx dX5_swingsFor_25 ?_
    obtain rfl := Option.some.inj hm
    exact k_iret 26 cx dX5_swingsFor_26 rfl rfl
def w_X0_forget (G : GT) (h_t : Nat) (h_t_counting : Nat) (h_t_cameByRopes : Nat) (h_t_valley : Nat) (h_t_rang : Nat) (h_t_underWay : Nat) (t_lastDue : Int32) (t_counting : (Nat → Int32)) (t_cameByRopes : (Nat → Int32)) : va_W := [(h_t, .inr (0, [.ref h_t_valley, .ref h_t_rang, .ref h_t_underWay, .ref h_t_counting, .ref h_t_cameByRopes, .int t_lastDue])), (h_t_counting, .inl (G.2.1, 36, .inl t_counting)), (h_t_cameByRopes, .inl (G.2.1, 6, .inl t_cameByRopes))]
def L_X0_forget_2 (x1 : Int32) : Nat → Int32 → (Nat → Int32) → Option (Int32 × (Nat → Int32))
  | 0, _, _ => none
  | n + 1, x2, t_counting => (if (6 : Int32) ≤ x2 then (some (x2, t_counting)) else (gB (inb ((x2 * (6 : Int32)) + x1) 36) (nme (upd t_counting (Int32.toNatClampNeg ((x2 * (6 : Int32)) + x1)) (0 : Int32)) (fun f7 => (nme (x2 + (1 : Int32)) (fun v8 => (L_X0_forget_2 x1 n v8 f7)))))))
def M_X0_forget (t_counting : (Nat → Int32)) (t_cameByRopes : (Nat → Int32)) (a1 : Int32) : Option ((Nat → Int32) × (Nat → Int32)) := ((L_X0_forget_2 a1 1000 (0 : Int32) t_counting).bind (fun u9 => (gB (inb a1 6) (nme (upd t_cameByRopes (Int32.toNatClampNeg a1) (0 : Int32)) (fun f10 => (some (u9.2, f10)))))))
set_option maxHeartbeats 4000000 in
set_option maxRecDepth 100000 in
theorem c_X0_forget (l : Launch) (G : GT) (h_t : Nat) (h_t_counting : Nat) (h_t_cameByRopes : Nat) (h_t_valley : Nat) (h_t_rang : Nat) (h_t_underWay : Nat) (t_lastDue : Int32) (t_counting : (Nat → Int32)) (t_cameByRopes : (Nat → Int32)) (a1 : Int32) {u : (Nat → Int32) × (Nat → Int32)} (hm : M_X0_forget t_counting t_cameByRopes a1 = some u) : CT l yX0_forget cX0_forget 3 none 0 0 [.ref h_t, .int a1] G (w_X0_forget G h_t h_t_counting h_t_cameByRopes h_t_valley h_t_rang h_t_underWay t_lastDue t_counting t_cameByRopes) none (w_X0_forget G h_t h_t_counting h_t_cameByRopes h_t_valley h_t_rang h_t_underWay t_lastDue u.1 u.2) := by
  refine ct_intro RX0 [(0, .ref h_t), (1, .int a1)] (by decide) rfl (Nat.le_of_ble_eq_true rfl) rfl (fun X hX cx => ?_)
  have lp2 : ∀ (Q : State → Prop) (A : Nat → Prop) (x1 : Int32) (t_lastDue : Int32) (t_cameByRopes : (Nat → Int32)) (n : Nat) (x2 : Int32) (t_counting : (Nat → Int32)) (y : Int32 × (Nat → Int32)), L_X0_forget_2 x1 n x2 t_counting = some y → (KJ X Q G A 3 26 [(0, .ref h_t), (1, .int x1)] [] (w_X0_forget G h_t h_t_counting h_t_cameByRopes h_t_valley h_t_rang h_t_underWay t_lastDue y.2 t_cameByRopes)) → KJ X Q G A 3 2 [(0, .ref h_t), (1, .int x1), (2, .int x2)] [] (w_X0_forget G h_t h_t_counting h_t_cameByRopes h_t_valley h_t_rang h_t_underWay t_lastDue t_counting t_cameByRopes) := by
    intro Q A x1 t_lastDue t_cameByRopes n
    induction n with
    | zero => intro x2 t_counting y hm _; exact noS hm
    | succ n ih =>
      intro x2 t_counting y hm k0
      rw [L_X0_forget_2] at hm
      refine k_iload_n 2 cx dX0_forget_2 rfl 2 rfl ?_
      refine k_bipush 3 cx (v := (6 : Int32)) dX0_forget_3 (by decide) ?_
      refine k_icmp_ge 5 cx (tgt := 26) dX0_forget_5 (by decide) hm (fun hc hm => ?_) (fun hc hm => ?_)
      · obtain rfl := Option.some.inj hm
        refine k_lv [0, 1] rfl ?_
        exact k0
      · refine k_aload_n 8 cx dX0_forget_8 rfl 0 rfl ?_
        refine fgX0_18 9 cx dX0_forget_9 0 rfl rfl ?_
        refine k_iload_n 12 cx dX0_forget_12 rfl 2 rfl ?_
        refine k_bipush 13 cx (v := (6 : Int32)) dX0_forget_13 (by decide) ?_
        refine k_imul 15 cx dX0_forget_15 ?_
        refine k_iload_n 16 cx dX0_forget_16 rfl 1 rfl ?_
        refine k_iadd 17 cx dX0_forget_17 ?_
        refine k_iconst 18 cx (v := (0 : Int32)) dX0_forget_18 (by decide) ?_
        refine k_iast 19 cx dX0_forget_19 1 rfl (fun f7 => (w_X0_forget G h_t h_t_counting h_t_cameByRopes h_t_valley h_t_rang h_t_underWay t_lastDue f7 t_cameByRopes)) (fun _ => rfl) hm (fun f7 hm => ?_)
        refine k_iinc 20 cx dX0_forget_20 2 rfl (by decide) (by decide) (fun v8 => [(2, .int v8), (0, .ref h_t), (1, .int x1)]) (fun _ => rfl) hm (fun v8 hm => ?_)
        refine k_goto 23 cx (tgt := 2) dX0_forget_23 (by decide) ?_
        refine k_lv [1, 2, 0] rfl ?_
        exact ih v8 f7 _ hm k0
  unfold M_X0_forget at hm
  refine k_iconst 0 cx (v := (0 : Int32)) dX0_forget_0 (by decide) ?_
  refine k_istore_n 1 cx dX0_forget_1 rfl (by decide) (lv' := [(2, .int (0 : Int32)), (0, .ref h_t), (1, .int a1)]) rfl ?_
  refine k_lv [1, 2, 0] rfl ?_
  obtain ⟨u9, hu9, hm⟩ := bnd hm
  refine lp2 _ _ a1 t_lastDue t_cameByRopes 1000 (0 : Int32) t_counting u9 hu9 ?_
  refine k_aload_n 26 cx dX0_forget_26 rfl 0 rfl ?_
  refine fgX0_21 27 cx dX0_forget_27 0 rfl rfl ?_
  refine k_iload_n 30 cx dX0_forget_30 rfl 1 rfl ?_
  refine k_iconst 31 cx (v := (0 : Int32)) dX0_forget_31 (by decide) ?_
  refine k_iast 32 cx dX0_forget_32 2 rfl (fun f10 => (w_X0_forget G h_t h_t_counting h_t_cameByRopes h_t_valley h_t_rang h_t_underWay t_lastDue u9.2 f10)) (fun _ => rfl) hm (fun f10 hm => ?_)
  obtain rfl := Option.some.inj hm
  exact k_vret 33 cx dX0_forget_33 rfl rfl
set_option maxRecDepth 100000 in
theorem cwX0_82 : CWV RX0 82 RX0 yX0_countTogether cX0_countTogether 5 (some .int) 2 0 TX0 6 := ⟨tb_m (i := 428) rfl rfl, tb_m (i := 430) rfl rfl, tb_m (i := 13) rfl rfl, tb_m (i := 56) rfl rfl, tb_m (i := 431) rfl rfl, ⟨by decide +kernel, by decide +kernel, by decide +kernel⟩, rfl⟩
set_option maxRecDepth 100000 in
theorem cwX0_85 : CWV RX0 85 RX5 yX5_swingsFor cX5_swingsFor 2 (some .int) 1 5 TX5 9 := ⟨tb_m (i := 432) rfl rfl, tb_m (i := 351) rfl rfl, tb_m (i := 352) rfl rfl, tb_m (i := 52) rfl rfl, tb_m (i := 353) rfl rfl, ⟨by decide +kernel, by decide +kernel, by decide +kernel⟩, rfl⟩
set_option maxRecDepth 100000 in
theorem cwX0_89 : CWV RX0 89 RX0 yX0_forget cX0_forget 3 none 1 0 TX0 6 := ⟨tb_m (i := 433) rfl rfl, tb_m (i := 435) rfl rfl, tb_m (i := 14) rfl rfl, tb_m (i := 56) rfl rfl, tb_m (i := 436) rfl rfl, ⟨by decide +kernel, by decide +kernel, by decide +kernel⟩, rfl⟩
def w_X0_ringAll (G : GT) (h_t : Nat) (h_t_valley : Nat) (h_t_counting : Nat) (h_t_valley_kinds : Nat) (h_t_valley_needs : Nat) (h_t_rang : Nat) (h_t_cameByRopes : Nat) (h_t_underWay : Nat) (h_t_valley_from : Nat) (h_t_valley_to : Nat) (h_t_valley_lasts : Nat) (t_lastDue : Int32) (t_valley_bells : Int32) (t_valley_ropes : Int32) (t_valley_span : Int32) (t_valley_tied : Int32) (t_counting : (Nat → Int32)) (t_valley_kinds : (Nat → Int32)) (t_valley_needs : (Nat → Int32)) (t_rang : (Nat → Int32)) (t_cameByRopes : (Nat → Int32)) : va_W := [(h_t, .inr (0, [.ref h_t_valley, .ref h_t_rang, .ref h_t_underWay, .ref h_t_counting, .ref h_t_cameByRopes, .int t_lastDue])), (h_t_valley, .inr (5, [.ref h_t_valley_kinds, .ref h_t_valley_needs, .ref h_t_valley_from, .ref h_t_valley_to, .ref h_t_valley_lasts, .int t_valley_bells, .int t_valley_ropes, .int t_valley_span, .int t_valley_tied])), (h_t_counting, .inl (G.2.1, 36, .inl t_counting)), (h_t_valley_kinds, .inl (G.2.1, 6, .inl t_valley_kinds)), (h_t_valley_needs, .inl (G.2.1, 6, .inl t_valley_needs)), (h_t_rang, .inl (G.2.1, 400, .inl t_rang)), (h_t_cameByRopes, .inl (G.2.1, 6, .inl t_cameByRopes))]
def L_X0_ringAll_2 (x1 : Int32) (x2 : Int32) (t_valley_bells : Int32) (t_valley_span : Int32) (t_valley_kinds : (Nat → Int32)) (t_valley_needs : (Nat → Int32)) : Nat → Int32 → (Nat → Int32) → (Nat → Int32) → (Nat → Int32) → Option (Int32 × (Nat → Int32) × (Nat → Int32) × (Nat → Int32))
  | 0, _, _, _, _ => none
  | n + 1, x3, t_counting, t_rang, t_cameByRopes => (if t_valley_bells ≤ x3 then (some (x3, t_counting, t_rang, t_cameByRopes)) else (if ((x2 >>> (x3 &&& 31)) &&& (1 : Int32)) = 0 then ((M_X0_countTogether t_valley_span t_counting x3 x1).bind (fun u23 => ((M_X5_swingsFor t_valley_kinds t_valley_needs x3).bind (fun u24 => (if u23 < u24 then (nme (x3 + (1 : Int32)) (fun v25 => (L_X0_ringAll_2 x1 x2 t_valley_bells t_valley_span t_valley_kinds t_valley_needs n v25 t_counting t_rang t_cameByRopes))) else (gB (inb x1 400) (gB (inb x1 400) (nme (upd t_rang (Int32.toNatClampNeg x1) ((t_rang (Int32.toNatClampNeg x1)) ||| ((1 : Int32) <<< (x3 &&& 31)))) (fun f26 => ((M_X0_forget t_counting t_cameByRopes x3).bind (fun u27 => (nme (x3 + (1 : Int32)) (fun v28 => (L_X0_ringAll_2 x1 x2 t_valley_bells t_valley_span t_valley_kinds t_valley_needs n v28 u27.1 f26 u27.2)))))))))))))) else (nme (x3 + (1 : Int32)) (fun v22 => (L_X0_ringAll_2 x1 x2 t_valley_bells t_valley_span t_valley_kinds t_valley_needs n v22 t_counting t_rang t_cameByRopes)))))
def M_X0_ringAll (t_valley_bells : Int32) (t_valley_span : Int32) (t_counting : (Nat → Int32)) (t_valley_kinds : (Nat → Int32)) (t_valley_needs : (Nat → Int32)) (t_rang : (Nat → Int32)) (t_cameByRopes : (Nat → Int32)) (a1 : Int32) (a2 : Int32) : Option ((Nat → Int32) × (Nat → Int32) × (Nat → Int32)) := ((L_X0_ringAll_2 a1 a2 t_valley_bells t_valley_span t_valley_kinds t_valley_needs 1000 (0 : Int32) t_counting t_rang t_cameByRopes).bind (fun u29 => (some (u29.2.1, u29.2.2.1, u29.2.2.2))))
set_option maxHeartbeats 4000000 in
set_option maxRecDepth 100000 in
theorem c_X0_ringAll (l : Launch) (G : GT) (h_t : Nat) (h_t_valley : Nat) (h_t_counting : Nat) (h_t_valley_kinds : Nat) (h_t_valley_needs : Nat) (h_t_rang : Nat) (h_t_cameByRopes : Nat) (h_t_underWay : Nat) (h_t_valley_from : Nat) (h_t_valley_to : Nat) (h_t_valley_lasts : Nat) (t_lastDue : Int32) (t_valley_bells : Int32) (t_valley_ropes : Int32) (t_valley_span : Int32) (t_valley_tied : Int32) (t_counting : (Nat → Int32)) (t_valley_kinds : (Nat → Int32)) (t_valley_needs : (Nat → Int32)) (t_rang : (Nat → Int32)) (t_cameByRopes : (Nat → Int32)) (a1 : Int32) (a2 : Int32) {u : (Nat → Int32) × (Nat → Int32) × (Nat → Int32)} (hm : M_X0_ringAll t_valley_bells t_valley_span t_counting t_valley_kinds t_valley_needs t_rang t_cameByRopes a1 a2 = some u) : CT l yX0_ringAll cX0_ringAll 4 none 1 24 [.ref h_t, .int a1, .int a2] G (w_X0_ringAll G h_t h_t_valley h_t_counting h_t_valley_kinds h_t_valley_needs h_t_rang h_t_cameByRopes h_t_underWay h_t_valley_from h_t_valley_to h_t_valley_lasts t_lastDue t_valley_bells t_valley_ropes t_valley_span t_valley_tied t_counting t_valley_kinds t_valley_needs t_rang t_cameByRopes) none (w_X0_ringAll G h_t h_t_valley h_t_counting h_t_valley_kinds h_t_valley_needs h_t_rang h_t_cameByRopes h_t_underWay h_t_valley_from h_t_valley_to h_t_valley_lasts t_lastDue t_valley_bells t_valley_ropes t_valley_span t_valley_tied u.1 t_valley_kinds t_valley_needs u.2.1 u.2.2) := by
  refine ct_intro RX0 [(0, .ref h_t), (1, .int a1), (2, .int a2)] (by decide) rfl (Nat.le_of_ble_eq_true rfl) rfl (fun X hX cx => ?_)
  have lp2 : ∀ (Q : State → Prop) (A : Nat → Prop) (x1 : Int32) (x2 : Int32) (t_lastDue : Int32) (t_valley_bells : Int32) (t_valley_ropes : Int32) (t_valley_span : Int32) (t_valley_tied : Int32) (t_valley_kinds : (Nat → Int32)) (t_valley_needs : (Nat → Int32)) (n : Nat) (x3 : Int32) (t_counting : (Nat → Int32)) (t_rang : (Nat → Int32)) (t_cameByRopes : (Nat → Int32)) (y : Int32 × (Nat → Int32) × (Nat → Int32) × (Nat → Int32)), L_X0_ringAll_2 x1 x2 t_valley_bells t_valley_span t_valley_kinds t_valley_needs n x3 t_counting t_rang t_cameByRopes = some y → (KJ X Q G A 4 61 [] [] (w_X0_ringAll G h_t h_t_valley h_t_counting h_t_valley_kinds h_t_valley_needs h_t_rang h_t_cameByRopes h_t_underWay h_t_valley_from h_t_valley_to h_t_valley_lasts t_lastDue t_valley_bells t_valley_ropes t_valley_span t_valley_tied y.2.1 t_valley_kinds t_valley_needs y.2.2.1 y.2.2.2)) → KJ X Q G A 4 2 [(0, .ref h_t), (1, .int x1), (2, .int x2), (3, .int x3)] [] (w_X0_ringAll G h_t h_t_valley h_t_counting h_t_valley_kinds h_t_valley_needs h_t_rang h_t_cameByRopes h_t_underWay h_t_valley_from h_t_valley_to h_t_valley_lasts t_lastDue t_valley_bells t_valley_ropes t_valley_span t_valley_tied t_counting t_valley_kinds t_valley_needs t_rang t_cameByRopes) := by
    intro Q A x1 x2 t_lastDue t_valley_bells t_valley_ropes t_valley_span t_valley_tied t_valley_kinds t_valley_needs n
    induction n with
    | zero => intro x3 t_counting t_rang t_cameByRopes y hm _; exact noS hm
    | succ n ih =>
      intro x3 t_counting t_rang t_cameByRopes y hm k0
      rw [L_X0_ringAll_2] at hm
      refine k_iload_n 2 cx dX0_ringAll_2 rfl 3 rfl ?_
      refine k_aload_n 3 cx dX0_ringAll_3 rfl 0 rfl ?_
      refine fgX0_24 4 cx dX0_ringAll_4 0 rfl rfl ?_
      refine fgX0_59 7 cx dX0_ringAll_7 1 rfl rfl ?_
      refine k_icmp_ge 10 cx (tgt := 61) dX0_ringAll_10 (by decide) hm (fun hc hm => ?_) (fun hc hm => ?_)
      · obtain rfl := Option.some.inj hm
        refine k_lv [] rfl ?_
        exact k0
      · refine k_iload_n 13 cx dX0_ringAll_13 rfl 2 rfl ?_
        refine k_iload_n 14 cx dX0_ringAll_14 rfl 3 rfl ?_
        refine k_ishr 15 cx dX0_ringAll_15 ?_
        refine k_iconst 16 cx (v := (1 : Int32)) dX0_ringAll_16 (by decide) ?_
        refine k_iand 17 cx dX0_ringAll_17 ?_
        refine k_if_ne 18 cx (tgt := 55) dX0_ringAll_18 (by decide) hm (fun hc hm => ?_) (fun hc hm => ?_)
        · refine k_aload_n 21 cx dX0_ringAll_21 rfl 0 rfl ?_
          refine k_iload_n 22 cx dX0_ringAll_22 rfl 3 rfl ?_
          refine k_iload_n 23 cx dX0_ringAll_23 rfl 1 rfl ?_
          obtain ⟨u23, hu23, hm⟩ := bnd hm
          refine k_callV 24 cx cwX0_82 (c_X0_countTogether X.2.1 G h_t h_t_valley h_t_counting h_t_rang h_t_underWay h_t_cameByRopes h_t_valley_kinds h_t_valley_needs h_t_valley_from h_t_valley_to h_t_valley_lasts t_lastDue t_valley_bells t_valley_ropes t_valley_span t_valley_tied t_counting x3 x1 hu23) dX0_ringAll_24 ⟨by decide, by decide⟩ rfl rfl (rest := []) rfl (Nat.le_of_ble_eq_true rfl) [0, 1, 2] (by decide) rfl rfl (w2 := (w_X0_ringAll G h_t h_t_valley h_t_counting h_t_valley_kinds h_t_valley_needs h_t_rang h_t_cameByRopes h_t_underWay h_t_valley_from h_t_valley_to h_t_valley_lasts t_lastDue t_valley_bells t_valley_ropes t_valley_span t_valley_tied t_counting t_valley_kinds t_valley_needs t_rang t_cameByRopes)) [3, 4, 5, 6] 7 rfl [(h_t_valley_kinds, .inl (G.2.1, 6, .inl t_valley_kinds)), (h_t_valley_needs, .inl (G.2.1, 6, .inl t_valley_needs)), (h_t_rang, .inl (G.2.1, 400, .inl t_rang)), (h_t_cameByRopes, .inl (G.2.1, 6, .inl t_cameByRopes))] rfl rfl rfl (by decide) (st2 := [.int u23]) rfl ?_
          refine k_aload_n 27 cx dX0_ringAll_27 rfl 0 rfl ?_
          refine fgX0_24 28 cx dX0_ringAll_28 0 rfl rfl ?_
          refine k_iload_n 31 cx dX0_ringAll_31 rfl 3 rfl ?_
          obtain ⟨u24, hu24, hm⟩ := bnd hm
          refine k_callV 32 cx cwX0_85 (c_X5_swingsFor X.2.1 G h_t_valley h_t_valley_kinds h_t_valley_needs h_t_valley_from h_t_valley_to h_t_valley_lasts t_valley_bells t_valley_ropes t_valley_span t_valley_tied t_valley_kinds t_valley_needs x3 hu24) dX0_ringAll_32 ⟨by decide, by decide⟩ rfl rfl (rest := [.int u23]) rfl (Nat.le_of_ble_eq_true rfl) [1, 3, 4] (by decide) rfl rfl (w2 := (w_X0_ringAll G h_t h_t_valley h_t_counting h_t_valley_kinds h_t_valley_needs h_t_rang h_t_cameByRopes h_t_underWay h_t_valley_from h_t_valley_to h_t_valley_lasts t_lastDue t_valley_bells t_valley_ropes t_valley_span t_valley_tied t_counting t_valley_kinds t_valley_needs t_rang t_cameByRopes)) [0, 2, 5, 6] 7 rfl [(h_t, .inr (0, [.ref h_t_valley, .ref h_t_rang, .ref h_t_underWay, .ref h_t_counting, .ref h_t_cameByRopes, .int t_lastDue])), (h_t_counting, .inl (G.2.1, 36, .inl t_counting)), (h_t_rang, .inl (G.2.1, 400, .inl t_rang)), (h_t_cameByRopes, .inl (G.2.1, 6, .inl t_cameByRopes))] rfl rfl rfl (by decide) (st2 := [.int u24, .int u23]) rfl ?_
          refine k_icmp_lt 35 cx (tgt := 55) dX0_ringAll_35 (by decide) hm (fun hc hm => ?_) (fun hc hm => ?_)
          · refine k_iinc 55 cx dX0_ringAll_55 3 rfl (by decide) (by decide) (fun v25 => [(3, .int v25), (0, .ref h_t), (1, .int x1), (2, .int x2)]) (fun _ => rfl) hm (fun v25 hm => ?_)
            refine k_goto 58 cx (tgt := 2) dX0_ringAll_58 (by decide) ?_
            refine k_lv [1, 2, 3, 0] rfl ?_
            exact ih v25 t_counting t_rang t_cameByRopes _ hm k0
          · refine k_aload_n 38 cx dX0_ringAll_38 rfl 0 rfl ?_
            refine fgX0_9 39 cx dX0_ringAll_39 0 rfl rfl ?_
            refine k_iload_n 42 cx dX0_ringAll_42 rfl 1 rfl ?_
            refine k_dup2 43 cx dX0_ringAll_43 rfl rfl ?_
            refine k_iald 44 cx dX0_ringAll_44 5 rfl hm (fun hm => ?_)
            refine k_iconst 45 cx (v := (1 : Int32)) dX0_ringAll_45 (by decide) ?_
            refine k_iload_n 46 cx dX0_ringAll_46 rfl 3 rfl ?_
            refine k_ishl 47 cx dX0_ringAll_47 ?_
            refine k_ior 48 cx dX0_ringAll_48 ?_
            refine k_iast 49 cx dX0_ringAll_49 5 rfl (fun f26 => (w_X0_ringAll G h_t h_t_valley h_t_counting h_t_valley_kinds h_t_valley_needs h_t_rang h_t_cameByRopes h_t_underWay h_t_valley_from h_t_valley_to h_t_valley_lasts t_lastDue t_valley_bells t_valley_ropes t_valley_span t_valley_tied t_counting t_valley_kinds t_valley_needs f26 t_cameByRopes)) (fun _ => rfl) hm (fun f26 hm => ?_)
            refine k_aload_n 50 cx dX0_ringAll_50 rfl 0 rfl ?_
            refine k_iload_n 51 cx dX0_ringAll_51 rfl 3 rfl ?_
            obtain ⟨u27, hu27, hm⟩ := bnd hm
            refine k_callV 52 cx cwX0_89 (c_X0_forget X.2.1 G h_t h_t_counting h_t_cameByRopes h_t_valley h_t_rang h_t_underWay t_lastDue t_counting t_cameByRopes x3 hu27) dX0_ringAll_52 ⟨by decide, by decide⟩ rfl rfl (rest := []) rfl (Nat.le_of_ble_eq_true rfl) [0, 2, 6] (by decide) rfl rfl (w2 := (w_X0_ringAll G h_t h_t_valley h_t_counting h_t_valley_kinds h_t_valley_needs h_t_rang h_t_cameByRopes h_t_underWay h_t_valley_from h_t_valley_to h_t_valley_lasts t_lastDue t_valley_bells t_valley_ropes t_valley_span t_valley_tied u27.1 t_valley_kinds t_valley_needs f26 u27.2)) [1, 3, 4, 5] 7 rfl [(h_t_valley, .inr (5, [.ref h_t_valley_kinds, .ref h_t_valley_needs, .ref h_t_valley_from, .ref h_t_valley_to, .ref h_t_valley_lasts, .int t_valley_bells, .int t_valley_ropes, .int t_valley_span, .int t_valley_tied])), (h_t_valley_kinds, .inl (G.2.1, 6, .inl t_valley_kinds)), (h_t_valley_needs, .inl (G.2.1, 6, .inl t_valley_needs)), (h_t_rang, .inl (G.2.1, 400, .inl f26))] rfl rfl rfl (by decide) (st2 := []) rfl ?_
            refine k_iinc 55 cx dX0_ringAll_55 3 rfl (by decide) (by decide) (fun v28 => [(3, .int v28), (0, .ref h_t), (1, .int x1), (2, .int x2)]) (fun _ => rfl) hm (fun v28 hm => ?_)
            refine k_goto 58 cx (tgt := 2) dX0_ringAll_58 (by decide) ?_
            refine k_lv [1, 2, 3, 0] rfl ?_
            exact ih v28 u27.1 f26 u27.2 _ hm k0
        · refine k_iinc 55 cx dX0_ringAll_55 3 rfl (by decide) (by decide) (fun v22 => [(3, .int v22), (0, .ref h_t), (1, .int x1), (2, .int x2)]) (fun _ => rfl) hm (fun v22 hm => ?_)
          refine k_goto 58 cx (tgt := 2) dX0_ringAll_58 (by decide) ?_
          refine k_lv [1, 2, 3, 0] rfl ?_
          exact ih v22 t_counting t_rang t_cameByRopes _ hm k0
  unfold M_X0_ringAll at hm
  refine k_iconst 0 cx (v := (0 : Int32)) dX0_ringAll_0 (by decide) ?_
  refine k_istore_n 1 cx dX0_ringAll_1 rfl (by decide) (lv' := [(3, .int (0 : Int32)), (0, .ref h_t), (1, .int a1), (2, .int a2)]) rfl ?_
  refine k_lv [1, 2, 3, 0] rfl ?_
  obtain ⟨u29, hu29, hm⟩ := bnd hm
  refine lp2 _ _ a1 a2 t_lastDue t_valley_bells t_valley_ropes t_valley_span t_valley_tied t_valley_kinds t_valley_needs 1000 (0 : Int32) t_counting t_rang t_cameByRopes u29 hu29 ?_
  obtain rfl := Option.some.inj hm
  exact k_vret 61 cx dX0_ringAll_61 rfl rfl
set_option maxRecDepth 100000 in
theorem fgX0_40 {X : XT} {Q : State → Prop} {G : GT} {A : Nat → Prop} {nL : Nat} {lv : List (Nat × Value)} {st : List Value} {ws : va_W} {cc : ByteArray} {fr lo : Nat} {ret : Option FieldType} (pc : Nat) (cx : Cx X cc nL RX0 G fr lo ret) {a : Nat} {fs : List Value} {v : Value} (hd : decode cc pc = .ok (.getfield 40, 3)) (q0 : Nat) (he : ws[q0]? = some (a, .inr (0, fs))) (hv : fs[5]? = some v) (k : KJ X Q G A nL (pc + 3) lv (v :: st) ws) : KJ X Q G A nL pc lv (.ref a :: st) ws :=
  k_get (ref := RX0) (T := TX0) (N := 6) (ci := 0) pc cx inX0 rfl 5 (by decide) (tb_m (i := 201) rfl rfl) rfl hd q0 he hv k
set_option maxRecDepth 100000 in
theorem fgX0_95 {X : XT} {Q : State → Prop} {G : GT} {A : Nat → Prop} {nL : Nat} {lv : List (Nat × Value)} {st : List Value} {ws : va_W} {cc : ByteArray} {fr lo : Nat} {ret : Option FieldType} (pc : Nat) (cx : Cx X cc nL RX0 G fr lo ret) {a : Nat} {fs : List Value} {v : Value} (hd : decode cc pc = .ok (.getfield 95, 3)) (q0 : Nat) (he : ws[q0]? = some (a, .inr (5, fs))) (hv : fs[2]? = some v) (k : KJ X Q G A nL (pc + 3) lv (v :: st) ws) : KJ X Q G A nL pc lv (.ref a :: st) ws :=
  k_get (ref := RX5) (T := TX5) (N := 9) (ci := 5) pc cx inX5 rfl 2 (by decide) (tb_m (i := 87) rfl rfl) rfl hd q0 he hv k
set_option maxRecDepth 100000 in
theorem fgX0_102 {X : XT} {Q : State → Prop} {G : GT} {A : Nat → Prop} {nL : Nat} {lv : List (Nat × Value)} {st : List Value} {ws : va_W} {cc : ByteArray} {fr lo : Nat} {ret : Option FieldType} (pc : Nat) (cx : Cx X cc nL RX0 G fr lo ret) {a : Nat} {fs : List Value} {v : Value} (hd : decode cc pc = .ok (.getfield 102, 3)) (q0 : Nat) (he : ws[q0]? = some (a, .inr (5, fs))) (hv : fs[4]? = some v) (k : KJ X Q G A nL (pc + 3) lv (v :: st) ws) : KJ X Q G A nL pc lv (.ref a :: st) ws :=
  k_get (ref := RX5) (T := TX5) (N := 9) (ci := 5) pc cx inX5 rfl 4 (by decide) (tb_m (i := 95) rfl rfl) rfl hd q0 he hv k
set_option maxRecDepth 100000 in
theorem fgX0_105 {X : XT} {Q : State → Prop} {G : GT} {A : Nat → Prop} {nL : Nat} {lv : List (Nat × Value)} {st : List Value} {ws : va_W} {cc : ByteArray} {fr lo : Nat} {ret : Option FieldType} (pc : Nat) (cx : Cx X cc nL RX0 G fr lo ret) {a : Nat} {fs : List Value} {v : Value} (hd : decode cc pc = .ok (.getfield 105, 3)) (q0 : Nat) (he : ws[q0]? = some (a, .inr (5, fs))) (hv : fs[3]? = some v) (k : KJ X Q G A nL (pc + 3) lv (v :: st) ws) : KJ X Q G A nL pc lv (.ref a :: st) ws :=
  k_get (ref := RX5) (T := TX5) (N := 9) (ci := 5) pc cx inX5 rfl 3 (by decide) (tb_m (i := 91) rfl rfl) rfl hd q0 he hv k
set_option maxRecDepth 100000 in
theorem fpX0_40 {X : XT} {Q : State → Prop} {G : GT} {A : Nat → Prop} {nL : Nat} {lv : List (Nat × Value)} {st : List Value} {ws : va_W} {cc : ByteArray} {fr lo : Nat} {ret : Option FieldType} (pc : Nat) (cx : Cx X cc nL RX0 G fr lo ret) {a : Nat} {fs : List Value} {v : Value} (hd : decode cc pc = .ok (.putfield 40, 3)) (q0 : Nat) (he : ws[q0]? = some (a, .inr (0, fs))) (hn : narrow .int v = v) (hfit : fits .int v = true) (hlen : 5 < fs.length) (w1 : va_W) (hw : ws.set q0 (a, .inr (0, fs.set 5 v)) = w1) (k : KJ X Q G A nL (pc + 3) lv st w1) : KJ X Q G A nL pc lv (v :: .ref a :: st) ws :=
  k_put (ref := RX0) (T := TX0) (N := 6) (ci := 0) (ty := .int) pc cx inX0 rfl tyX0 tyX0_ok nmX0 5 (by decide) (tb_m (i := 201) rfl rfl) rfl rfl (by decide +kernel) hd q0 he hn hfit hlen w1 hw k
set_option maxRecDepth 100000 in
theorem cwX0_98 : CWV RX0 98 RX0 yX0_rangAt cX0_rangAt 3 (some .boolean) 2 0 TX0 6 := ⟨tb_m (i := 441) rfl rfl, tb_m (i := 442) rfl rfl, tb_m (i := 443) rfl rfl, tb_m (i := 56) rfl rfl, tb_m (i := 444) rfl rfl, ⟨by decide +kernel, by decide +kernel, by decide +kernel⟩, rfl⟩
set_option maxRecDepth 100000 in
theorem mxX0_108 : Cond.methodLink RX0 108 Lib.Math.max.name ∈ TB ∧ Cond.static Lib.Math.max.name ∈ TB ∧ Cond.initialized "java/lang/Math" ∈ TB ∧ Cond.code Lib.Math.max.name Lib.Math.max.code 2 (some .int) ∈ TB := ⟨tb_m (i := 445) rfl rfl, tb_m (i := 410) rfl rfl, tb_m (i := 61) rfl rfl, tb_m (i := 411) rfl rfl⟩
def w_X0_sendOn (G : GT) (h_t : Nat) (h_t_valley : Nat) (h_t_valley_from : Nat) (h_t_rang : Nat) (h_t_valley_lasts : Nat) (h_t_valley_to : Nat) (h_t_underWay : Nat) (h_t_counting : Nat) (h_t_cameByRopes : Nat) (h_t_valley_kinds : Nat) (h_t_valley_needs : Nat) (t_lastDue : Int32) (t_valley_bells : Int32) (t_valley_ropes : Int32) (t_valley_span : Int32) (t_valley_tied : Int32) (t_valley_from : (Nat → Int32)) (t_rang : (Nat → Int32)) (t_valley_lasts : (Nat → Int32)) (t_valley_to : (Nat → Int32)) (t_underWay : (Nat → Int32)) : va_W := [(h_t, .inr (0, [.ref h_t_valley, .ref h_t_rang, .ref h_t_underWay, .ref h_t_counting, .ref h_t_cameByRopes, .int t_lastDue])), (h_t_valley, .inr (5, [.ref h_t_valley_kinds, .ref h_t_valley_needs, .ref h_t_valley_from, .ref h_t_valley_to, .ref h_t_valley_lasts, .int t_valley_bells, .int t_valley_ropes, .int t_valley_span, .int t_valley_tied])), (h_t_valley_from, .inl (G.2.1, 9, .inl t_valley_from)), (h_t_rang, .inl (G.2.1, 400, .inl t_rang)), (h_t_valley_lasts, .inl (G.2.1, 9, .inl t_valley_lasts)), (h_t_valley_to, .inl (G.2.1, 9, .inl t_valley_to)), (h_t_underWay, .inl (G.2.1, 60, .inl t_underWay))]
def L_X0_sendOn_2 (x1 : Int32) (x2 : Int32) (t_valley_from : (Nat → Int32)) (t_rang : (Nat → Int32)) (t_valley_lasts : (Nat → Int32)) (t_valley_to : (Nat → Int32)) : Nat → Int32 → Int32 → (Nat → Int32) → Option (Int32 × Int32 × (Nat → Int32))
  | 0, _, _, _ => none
  | n + 1, x3, t_lastDue, t_underWay => (if (8 : Int32) < x3 then (some (x3, t_lastDue, t_underWay)) else (if ((x2 >>> (x3 &&& 31)) &&& (1 : Int32)) = 0 then (nme (x3 + (1 : Int32)) (fun v22 => (L_X0_sendOn_2 x1 x2 t_valley_from t_rang t_valley_lasts t_valley_to n v22 t_lastDue t_underWay))) else (gB (inb x3 9) ((M_X0_rangAt t_rang (t_valley_from (Int32.toNatClampNeg x3)) x1).bind (fun u23 => (if u23 = 0 then (nme (x3 + (1 : Int32)) (fun v24 => (L_X0_sendOn_2 x1 x2 t_valley_from t_rang t_valley_lasts t_valley_to n v24 t_lastDue t_underWay))) else (gB (inb x3 9) (nme (x1 + (t_valley_lasts (Int32.toNatClampNeg x3))) (fun v25 => (gB (inb x3 9) (gB (inb (((v25 - v25 / (10 : Int32) * (10 : Int32)) * (6 : Int32)) + (t_valley_to (Int32.toNatClampNeg x3))) 60) (gB (inb (((v25 - v25 / (10 : Int32) * (10 : Int32)) * (6 : Int32)) + (t_valley_to (Int32.toNatClampNeg x3))) 60) (nme (upd t_underWay (Int32.toNatClampNeg (((v25 - v25 / (10 : Int32) * (10 : Int32)) * (6 : Int32)) + (t_valley_to (Int32.toNatClampNeg x3)))) ((t_underWay (Int32.toNatClampNeg (((v25 - v25 / (10 : Int32) * (10 : Int32)) * (6 : Int32)) + (t_valley_to (Int32.toNatClampNeg x3))))) + (1 : Int32))) (fun f26 => (nme (if t_lastDue < v25 then v25 else t_lastDue) (fun v27 => (nme (x3 + (1 : Int32)) (fun v28 => (L_X0_sendOn_2 x1 x2 t_valley_from t_rang t_valley_lasts t_valley_to n v28 v27 f26)))))))))))))))))))
def M_X0_sendOn (t_lastDue : Int32) (t_valley_from : (Nat → Int32)) (t_rang : (Nat → Int32)) (t_valley_lasts : (Nat → Int32)) (t_valley_to : (Nat → Int32)) (t_underWay : (Nat → Int32)) (a1 : Int32) (a2 : Int32) : Option (Int32 × (Nat → Int32)) := ((L_X0_sendOn_2 a1 a2 t_valley_from t_rang t_valley_lasts t_valley_to 1000 (0 : Int32) t_lastDue t_underWay).bind (fun u29 => (some (u29.2.1, u29.2.2))))
set_option maxHeartbeats 4000000 in
set_option maxRecDepth 100000 in
theorem c_X0_sendOn (l : Launch) (G : GT) (h_t : Nat) (h_t_valley : Nat) (h_t_valley_from : Nat) (h_t_rang : Nat) (h_t_valley_lasts : Nat) (h_t_valley_to : Nat) (h_t_underWay : Nat) (h_t_counting : Nat) (h_t_cameByRopes : Nat) (h_t_valley_kinds : Nat) (h_t_valley_needs : Nat) (t_lastDue : Int32) (t_valley_bells : Int32) (t_valley_ropes : Int32) (t_valley_span : Int32) (t_valley_tied : Int32) (t_valley_from : (Nat → Int32)) (t_rang : (Nat → Int32)) (t_valley_lasts : (Nat → Int32)) (t_valley_to : (Nat → Int32)) (t_underWay : (Nat → Int32)) (a1 : Int32) (a2 : Int32) {u : Int32 × (Nat → Int32)} (hm : M_X0_sendOn t_lastDue t_valley_from t_rang t_valley_lasts t_valley_to t_underWay a1 a2 = some u) : CT l yX0_sendOn cX0_sendOn 5 none 1 22 [.ref h_t, .int a1, .int a2] G (w_X0_sendOn G h_t h_t_valley h_t_valley_from h_t_rang h_t_valley_lasts h_t_valley_to h_t_underWay h_t_counting h_t_cameByRopes h_t_valley_kinds h_t_valley_needs t_lastDue t_valley_bells t_valley_ropes t_valley_span t_valley_tied t_valley_from t_rang t_valley_lasts t_valley_to t_underWay) none (w_X0_sendOn G h_t h_t_valley h_t_valley_from h_t_rang h_t_valley_lasts h_t_valley_to h_t_underWay h_t_counting h_t_cameByRopes h_t_valley_kinds h_t_valley_needs u.1 t_valley_bells t_valley_ropes t_valley_span t_valley_tied t_valley_from t_rang t_valley_lasts t_valley_to u.2) := by
  refine ct_intro RX0 [(0, .ref h_t), (1, .int a1), (2, .int a2)] (by decide) rfl (Nat.le_of_ble_eq_true rfl) rfl (fun X hX cx => ?_)
  have lp2 : ∀ (Q : State → Prop) (A : Nat → Prop) (x1 : Int32) (x2 : Int32) (t_valley_bells : Int32) (t_valley_ropes : Int32) (t_valley_span : Int32) (t_valley_tied : Int32) (t_valley_from : (Nat → Int32)) (t_rang : (Nat → Int32)) (t_valley_lasts : (Nat → Int32)) (t_valley_to : (Nat → Int32)) (n : Nat) (x3 : Int32) (t_lastDue : Int32) (t_underWay : (Nat → Int32)) (y : Int32 × Int32 × (Nat → Int32)), L_X0_sendOn_2 x1 x2 t_valley_from t_rang t_valley_lasts t_valley_to n x3 t_lastDue t_underWay = some y → (KJ X Q G A 5 92 [] [] (w_X0_sendOn G h_t h_t_valley h_t_valley_from h_t_rang h_t_valley_lasts h_t_valley_to h_t_underWay h_t_counting h_t_cameByRopes h_t_valley_kinds h_t_valley_needs y.2.1 t_valley_bells t_valley_ropes t_valley_span t_valley_tied t_valley_from t_rang t_valley_lasts t_valley_to y.2.2)) → KJ X Q G A 5 2 [(0, .ref h_t), (1, .int x1), (2, .int x2), (3, .int x3)] [] (w_X0_sendOn G h_t h_t_valley h_t_valley_from h_t_rang h_t_valley_lasts h_t_valley_to h_t_underWay h_t_counting h_t_cameByRopes h_t_valley_kinds h_t_valley_needs t_lastDue t_valley_bells t_valley_ropes t_valley_span t_valley_tied t_valley_from t_rang t_valley_lasts t_valley_to t_underWay) := by
    intro Q A x1 x2 t_valley_bells t_valley_ropes t_valley_span t_valley_tied t_valley_from t_rang t_valley_lasts t_valley_to n
    induction n with
    | zero => intro x3 t_lastDue t_underWay y hm _; exact noS hm
    | succ n ih =>
      intro x3 t_lastDue t_underWay y hm k0
      rw [L_X0_sendOn_2] at hm
      refine k_iload_n 2 cx dX0_sendOn_2 rfl 3 rfl ?_
      refine k_bipush 3 cx (v := (8 : Int32)) dX0_sendOn_3 (by decide) ?_
      refine k_icmp_gt 5 cx (tgt := 92) dX0_sendOn_5 (by decide) hm (fun hc hm => ?_) (fun hc hm => ?_)
      · obtain rfl := Option.some.inj hm
        refine k_lv [] rfl ?_
        exact k0
      · refine k_iload_n 8 cx dX0_sendOn_8 rfl 2 rfl ?_
        refine k_iload_n 9 cx dX0_sendOn_9 rfl 3 rfl ?_
        refine k_ishr 10 cx dX0_sendOn_10 ?_
        refine k_iconst 11 cx (v := (1 : Int32)) dX0_sendOn_11 (by decide) ?_
        refine k_iand 12 cx dX0_sendOn_12 ?_
        refine k_if_eq 13 cx (tgt := 86) dX0_sendOn_13 (by decide) hm (fun hc hm => ?_) (fun hc hm => ?_)
        · refine k_iinc 86 cx dX0_sendOn_86 3 rfl (by decide) (by decide) (fun v22 => [(3, .int v22), (0, .ref h_t), (1, .int x1), (2, .int x2)]) (fun _ => rfl) hm (fun v22 hm => ?_)
          refine k_goto 89 cx (tgt := 2) dX0_sendOn_89 (by decide) ?_
          refine k_lv [1, 2, 3, 0] rfl ?_
          exact ih v22 t_lastDue t_underWay _ hm k0
        · refine k_aload_n 16 cx dX0_sendOn_16 rfl 0 rfl ?_
          refine k_aload_n 17 cx dX0_sendOn_17 rfl 0 rfl ?_
          refine fgX0_24 18 cx dX0_sendOn_18 0 rfl rfl ?_
          refine fgX0_95 21 cx dX0_sendOn_21 1 rfl rfl ?_
          refine k_iload_n 24 cx dX0_sendOn_24 rfl 3 rfl ?_
          refine k_iald 25 cx dX0_sendOn_25 2 rfl hm (fun hm => ?_)
          refine k_iload_n 26 cx dX0_sendOn_26 rfl 1 rfl ?_
          obtain ⟨u23, hu23, hm⟩ := bnd hm
          refine k_callV 27 cx cwX0_98 (c_X0_rangAt X.2.1 G h_t h_t_rang h_t_valley h_t_underWay h_t_counting h_t_cameByRopes t_lastDue t_rang (t_valley_from (Int32.toNatClampNeg x3)) x1 hu23) dX0_sendOn_27 ⟨by decide, by decide⟩ rfl rfl (rest := []) rfl (Nat.le_of_ble_eq_true rfl) [0, 3] (by decide) rfl rfl (w2 := (w_X0_sendOn G h_t h_t_valley h_t_valley_from h_t_rang h_t_valley_lasts h_t_valley_to h_t_underWay h_t_counting h_t_cameByRopes h_t_valley_kinds h_t_valley_needs t_lastDue t_valley_bells t_valley_ropes t_valley_span t_valley_tied t_valley_from t_rang t_valley_lasts t_valley_to t_underWay)) [1, 2, 4, 5, 6] 7 rfl [(h_t_valley, .inr (5, [.ref h_t_valley_kinds, .ref h_t_valley_needs, .ref h_t_valley_from, .ref h_t_valley_to, .ref h_t_valley_lasts, .int t_valley_bells, .int t_valley_ropes, .int t_valley_span, .int t_valley_tied])), (h_t_valley_from, .inl (G.2.1, 9, .inl t_valley_from)), (h_t_valley_lasts, .inl (G.2.1, 9, .inl t_valley_lasts)), (h_t_valley_to, .inl (G.2.1, 9, .inl t_valley_to)), (h_t_underWay, .inl (G.2.1, 60, .inl t_underWay))] rfl rfl rfl (by decide) (st2 := [.int u23]) rfl ?_
          refine k_if_eq 30 cx (tgt := 86) dX0_sendOn_30 (by decide) hm (fun hc hm => ?_) (fun hc hm => ?_)
          · refine k_iinc 86 cx dX0_sendOn_86 3 rfl (by decide) (by decide) (fun v24 => [(3, .int v24), (0, .ref h_t), (1, .int x1), (2, .int x2)]) (fun _ => rfl) hm (fun v24 hm => ?_)
            refine k_goto 89 cx (tgt := 2) dX0_sendOn_89 (by decide) ?_
            refine k_lv [1, 2, 3, 0] rfl ?_
            exact ih v24 t_lastDue t_underWay _ hm k0
          · refine k_iload_n 33 cx dX0_sendOn_33 rfl 1 rfl ?_
            refine k_aload_n 34 cx dX0_sendOn_34 rfl 0 rfl ?_
            refine fgX0_24 35 cx dX0_sendOn_35 0 rfl rfl ?_
            refine fgX0_102 38 cx dX0_sendOn_38 1 rfl rfl ?_
            refine k_iload_n 41 cx dX0_sendOn_41 rfl 3 rfl ?_
            refine k_iald 42 cx dX0_sendOn_42 4 rfl hm (fun hm => ?_)
            refine k_iadd 43 cx dX0_sendOn_43 ?_
            refine k_nm hm (fun v25 hm => ?_)
            refine k_istore 44 cx dX0_sendOn_44 (by decide) (lv' := [(4, .int v25), (0, .ref h_t), (1, .int x1), (2, .int x2), (3, .int x3)]) rfl ?_
            refine k_aload_n 46 cx dX0_sendOn_46 rfl 1 rfl ?_
            refine fgX0_15 47 cx dX0_sendOn_47 0 rfl rfl ?_
            refine k_iload 50 cx dX0_sendOn_50 0 rfl ?_
            refine k_bipush 52 cx (v := (10 : Int32)) dX0_sendOn_52 (by decide) ?_
            refine k_irem_c 54 cx dX0_sendOn_54 (by decide) ?_
            refine k_bipush 55 cx (v := (6 : Int32)) dX0_sendOn_55 (by decide) ?_
            refine k_imul 57 cx dX0_sendOn_57 ?_
            refine k_aload_n 58 cx dX0_sendOn_58 rfl 1 rfl ?_
            refine fgX0_24 59 cx dX0_sendOn_59 0 rfl rfl ?_
            refine fgX0_105 62 cx dX0_sendOn_62 1 rfl rfl ?_
            refine k_iload_n 65 cx dX0_sendOn_65 rfl 4 rfl ?_
            refine k_iald 66 cx dX0_sendOn_66 5 rfl hm (fun hm => ?_)
            refine k_iadd 67 cx dX0_sendOn_67 ?_
            refine k_dup2 68 cx dX0_sendOn_68 rfl rfl ?_
            refine k_iald 69 cx dX0_sendOn_69 6 rfl hm (fun hm => ?_)
            refine k_iconst 70 cx (v := (1 : Int32)) dX0_sendOn_70 (by decide) ?_
            refine k_iadd 71 cx dX0_sendOn_71 ?_
            refine k_iast 72 cx dX0_sendOn_72 6 rfl (fun f26 => (w_X0_sendOn G h_t h_t_valley h_t_valley_from h_t_rang h_t_valley_lasts h_t_valley_to h_t_underWay h_t_counting h_t_cameByRopes h_t_valley_kinds h_t_valley_needs t_lastDue t_valley_bells t_valley_ropes t_valley_span t_valley_tied t_valley_from t_rang t_valley_lasts t_valley_to f26)) (fun _ => rfl) hm (fun f26 hm => ?_)
            refine k_aload_n 73 cx dX0_sendOn_73 rfl 1 rfl ?_
            refine k_aload_n 74 cx dX0_sendOn_74 rfl 1 rfl ?_
            refine fgX0_40 75 cx dX0_sendOn_75 0 rfl rfl ?_
            refine k_iload 78 cx dX0_sendOn_78 0 rfl ?_
            refine k_max 80 cx mxX0_108 dX0_sendOn_80 ⟨by decide, Nat.le_of_ble_eq_true rfl⟩ ?_
            refine k_nm hm (fun v27 hm => ?_)
            refine fpX0_40 83 cx dX0_sendOn_83 0 rfl rfl rfl (by simp) (w1 := (w_X0_sendOn G h_t h_t_valley h_t_valley_from h_t_rang h_t_valley_lasts h_t_valley_to h_t_underWay h_t_counting h_t_cameByRopes h_t_valley_kinds h_t_valley_needs v27 t_valley_bells t_valley_ropes t_valley_span t_valley_tied t_valley_from t_rang t_valley_lasts t_valley_to f26)) rfl ?_
            refine k_iinc 86 cx dX0_sendOn_86 4 rfl (by decide) (by decide) (fun v28 => [(3, .int v28), (4, .int v25), (0, .ref h_t), (1, .int x1), (2, .int x2)]) (fun _ => rfl) hm (fun v28 hm => ?_)
            refine k_goto 89 cx (tgt := 2) dX0_sendOn_89 (by decide) ?_
            refine k_lv [2, 3, 4, 0] rfl ?_
            exact ih v28 v27 f26 _ hm k0
  unfold M_X0_sendOn at hm
  refine k_iconst 0 cx (v := (0 : Int32)) dX0_sendOn_0 (by decide) ?_
  refine k_istore_n 1 cx dX0_sendOn_1 rfl (by decide) (lv' := [(3, .int (0 : Int32)), (0, .ref h_t), (1, .int a1), (2, .int a2)]) rfl ?_
  refine k_lv [1, 2, 3, 0] rfl ?_
  obtain ⟨u29, hu29, hm⟩ := bnd hm
  refine lp2 _ _ a1 a2 t_valley_bells t_valley_ropes t_valley_span t_valley_tied t_valley_from t_rang t_valley_lasts t_valley_to 1000 (0 : Int32) t_lastDue t_underWay u29 hu29 ?_
  obtain rfl := Option.some.inj hm
  exact k_vret 92 cx dX0_sendOn_92 rfl rfl
set_option maxRecDepth 100000 in
theorem cwX0_28 : CWS RX0 28 yJ7_fill_53178 cJ7_fill_53178 4 none 2 := ⟨tb_m (i := 402) rfl rfl, tb_m (i := 403) rfl rfl, tb_m (i := 60) rfl rfl, tb_m (i := 404) rfl rfl, ⟨by decide +kernel, by decide +kernel, by decide +kernel⟩⟩
set_option maxRecDepth 100000 in
theorem cwX0_34 : CWV RX0 34 RX1 yX1_lastMinute cX1_lastMinute 3 (some .int) 0 1 TX1 4 := ⟨tb_m (i := 405) rfl rfl, tb_m (i := 406) rfl rfl, tb_m (i := 407) rfl rfl, tb_m (i := 54) rfl rfl, tb_m (i := 408) rfl rfl, ⟨by decide +kernel, by decide +kernel, by decide +kernel⟩, rfl⟩
set_option maxRecDepth 100000 in
theorem cwX0_44 : CWV RX0 44 RX0 yX0_swingByRopes cX0_swingByRopes 5 none 1 0 TX0 6 := ⟨tb_m (i := 412) rfl rfl, tb_m (i := 414) rfl rfl, tb_m (i := 9) rfl rfl, tb_m (i := 56) rfl rfl, tb_m (i := 415) rfl rfl, ⟨by decide +kernel, by decide +kernel, by decide +kernel⟩, rfl⟩
set_option maxRecDepth 100000 in
theorem cwX0_48 : CWV RX0 48 RX0 yX0_swingByPulls cX0_swingByPulls 5 none 2 0 TX0 6 := ⟨tb_m (i := 420) rfl rfl, tb_m (i := 422) rfl rfl, tb_m (i := 11) rfl rfl, tb_m (i := 56) rfl rfl, tb_m (i := 423) rfl rfl, ⟨by decide +kernel, by decide +kernel, by decide +kernel⟩, rfl⟩
set_option maxRecDepth 100000 in
theorem cwX0_52 : CWV RX0 52 RX0 yX0_ringAll cX0_ringAll 4 none 2 0 TX0 6 := ⟨tb_m (i := 424) rfl rfl, tb_m (i := 426) rfl rfl, tb_m (i := 12) rfl rfl, tb_m (i := 56) rfl rfl, tb_m (i := 427) rfl rfl, ⟨by decide +kernel, by decide +kernel, by decide +kernel⟩, rfl⟩
set_option maxRecDepth 100000 in
theorem cwX0_56 : CWV RX0 56 RX0 yX0_sendOn cX0_sendOn 5 none 2 0 TX0 6 := ⟨tb_m (i := 437) rfl rfl, tb_m (i := 439) rfl rfl, tb_m (i := 15) rfl rfl, tb_m (i := 56) rfl rfl, tb_m (i := 440) rfl rfl, ⟨by decide +kernel, by decide +kernel, by decide +kernel⟩, rfl⟩
def w_X0_play (G : GT) (h_t : Nat) (h_t_rang : Nat) (h_t_underWay : Nat) (h_t_counting : Nat) (h_t_cameByRopes : Nat) (h_p1 : Nat) (h_p1_minutes : Nat) (h_t_valley : Nat) (h_t_valley_kinds : Nat) (h_p1_bells : Nat) (h_p1_times : Nat) (h_t_valley_needs : Nat) (h_t_valley_from : Nat) (h_t_valley_lasts : Nat) (h_t_valley_to : Nat) (t_lastDue : Int32) (t_rang : (Nat → Int32)) (t_underWay : (Nat → Int32)) (t_counting : (Nat → Int32)) (t_cameByRopes : (Nat → Int32)) (p1_count : Int32) (p1_minutes : (Nat → Int32)) (t_valley_bells : Int32) (t_valley_ropes : Int32) (t_valley_span : Int32) (t_valley_tied : Int32) (t_valley_kinds : (Nat → Int32)) (p1_bells : (Nat → Int32)) (p1_times : (Nat → Int32)) (t_valley_needs : (Nat → Int32)) (t_valley_from : (Nat → Int32)) (t_valley_lasts : (Nat → Int32)) (t_valley_to : (Nat → Int32)) : va_W := [(h_t, .inr (0, [.ref h_t_valley, .ref h_t_rang, .ref h_t_underWay, .ref h_t_counting, .ref h_t_cameByRopes, .int t_lastDue])), (h_t_rang, .inl (G.2.1, 400, .inl t_rang)), (h_t_underWay, .inl (G.2.1, 60, .inl t_underWay)), (h_t_counting, .inl (G.2.1, 36, .inl t_counting)), (h_t_cameByRopes, .inl (G.2.1, 6, .inl t_cameByRopes)), (h_p1, .inr (1, [.ref h_p1_bells, .ref h_p1_minutes, .ref h_p1_times, .int p1_count])), (h_p1_minutes, .inl (G.2.1, 6, .inl p1_minutes)), (h_t_valley, .inr (5, [.ref h_t_valley_kinds, .ref h_t_valley_needs, .ref h_t_valley_from, .ref h_t_valley_to, .ref h_t_valley_lasts, .int t_valley_bells, .int t_valley_ropes, .int t_valley_span, .int t_valley_tied])), (h_t_valley_kinds, .inl (G.2.1, 6, .inl t_valley_kinds)), (h_p1_bells, .inl (G.2.1, 6, .inl p1_bells)), (h_p1_times, .inl (G.2.1, 6, .inl p1_times)), (h_t_valley_needs, .inl (G.2.1, 6, .inl t_valley_needs)), (h_t_valley_from, .inl (G.2.1, 9, .inl t_valley_from)), (h_t_valley_lasts, .inl (G.2.1, 9, .inl t_valley_lasts)), (h_t_valley_to, .inl (G.2.1, 9, .inl t_valley_to))]
def L_X0_play_43 (x2 : Int32) (x3 : Int32) (x4 : Int32) (p1_count : Int32) (p1_minutes : (Nat → Int32)) (t_valley_bells : Int32) (t_valley_span : Int32) (t_valley_kinds : (Nat → Int32)) (p1_bells : (Nat → Int32)) (p1_times : (Nat → Int32)) (t_valley_needs : (Nat → Int32)) (t_valley_from : (Nat → Int32)) (t_valley_lasts : (Nat → Int32)) (t_valley_to : (Nat → Int32)) : Nat → Int32 → Int32 → (Nat → Int32) → (Nat → Int32) → (Nat → Int32) → (Nat → Int32) → Option (Int32 × Int32 × (Nat → Int32) × (Nat → Int32) × (Nat → Int32) × (Nat → Int32))
  | 0, _, _, _, _, _, _ => none
  | n + 1, x5, t_lastDue, t_rang, t_underWay, t_counting, t_cameByRopes => (if x4 ≤ x5 then (some (x5, t_lastDue, t_rang, t_underWay, t_counting, t_cameByRopes)) else (if t_lastDue < x5 then (some (x5, t_lastDue, t_rang, t_underWay, t_counting, t_cameByRopes)) else ((M_X0_swingByRopes t_valley_bells t_underWay t_valley_kinds t_cameByRopes t_counting x5).bind (fun u24 => ((M_X0_swingByPulls p1_count p1_minutes p1_bells u24.2.2 p1_times x5).bind (fun u25 => ((M_X0_ringAll t_valley_bells t_valley_span u25 t_valley_kinds t_valley_needs t_rang u24.2.1 x5 x2).bind (fun u26 => (gB (inb x5 400) (if (u26.2.1 (Int32.toNatClampNeg x5)) = 0 then (nme (x5 + (1 : Int32)) (fun v27 => (L_X0_play_43 x2 x3 x4 p1_count p1_minutes t_valley_bells t_valley_span t_valley_kinds p1_bells p1_times t_valley_needs t_valley_from t_valley_lasts t_valley_to n v27 t_lastDue u26.2.1 u24.1 u26.1 u26.2.2))) else ((M_X0_sendOn t_lastDue t_valley_from u26.2.1 t_valley_lasts t_valley_to u24.1 x5 x3).bind (fun u28 => (nme (x5 + (1 : Int32)) (fun v29 => (L_X0_play_43 x2 x3 x4 p1_count p1_minutes t_valley_bells t_valley_span t_valley_kinds p1_bells p1_times t_valley_needs t_valley_from t_valley_lasts t_valley_to n v29 u28.1 u26.2.1 u28.2 u26.1 u26.2.2)))))))))))))))
def M_X0_play (t_rang : (Nat → Int32)) (t_underWay : (Nat → Int32)) (t_counting : (Nat → Int32)) (t_cameByRopes : (Nat → Int32)) (p1_count : Int32) (p1_minutes : (Nat → Int32)) (t_valley_bells : Int32) (t_valley_span : Int32) (t_valley_kinds : (Nat → Int32)) (p1_bells : (Nat → Int32)) (p1_times : (Nat → Int32)) (t_valley_needs : (Nat → Int32)) (t_valley_from : (Nat → Int32)) (t_valley_lasts : (Nat → Int32)) (t_valley_to : (Nat → Int32)) (a2 : Int32) (a3 : Int32) (a4 : Int32) : Option (Int32 × (Nat → Int32) × (Nat → Int32) × (Nat → Int32) × (Nat → Int32)) := ((M_J7_fill_53178 400 t_rang (0 : Int32)).bind (fun u1 => ((M_J7_fill_53178 60 t_underWay (0 : Int32)).bind (fun u2 => ((M_J7_fill_53178 36 t_counting (0 : Int32)).bind (fun u3 => ((M_J7_fill_53178 6 t_cameByRopes (0 : Int32)).bind (fun u4 => ((M_X1_lastMinute p1_count p1_minutes).bind (fun u5 => ((L_X0_play_43 a2 a3 a4 p1_count p1_minutes t_valley_bells t_valley_span t_valley_kinds p1_bells p1_times t_valley_needs t_valley_from t_valley_lasts t_valley_to 1000 (0 : Int32) u5 u1 u2 u3 u4).bind (fun u30 => (some (u30.2.1, u30.2.2.1, u30.2.2.2.1, u30.2.2.2.2.1, u30.2.2.2.2.2))))))))))))))
set_option maxHeartbeats 4000000 in
set_option maxRecDepth 100000 in
theorem c_X0_play (l : Launch) (G : GT) (h_t : Nat) (h_t_rang : Nat) (h_t_underWay : Nat) (h_t_counting : Nat) (h_t_cameByRopes : Nat) (h_p1 : Nat) (h_p1_minutes : Nat) (h_t_valley : Nat) (h_t_valley_kinds : Nat) (h_p1_bells : Nat) (h_p1_times : Nat) (h_t_valley_needs : Nat) (h_t_valley_from : Nat) (h_t_valley_lasts : Nat) (h_t_valley_to : Nat) (t_lastDue : Int32) (t_rang : (Nat → Int32)) (t_underWay : (Nat → Int32)) (t_counting : (Nat → Int32)) (t_cameByRopes : (Nat → Int32)) (p1_count : Int32) (p1_minutes : (Nat → Int32)) (t_valley_bells : Int32) (t_valley_ropes : Int32) (t_valley_span : Int32) (t_valley_tied : Int32) (t_valley_kinds : (Nat → Int32)) (p1_bells : (Nat → Int32)) (p1_times : (Nat → Int32)) (t_valley_needs : (Nat → Int32)) (t_valley_from : (Nat → Int32)) (t_valley_lasts : (Nat → Int32)) (t_valley_to : (Nat → Int32)) (a2 : Int32) (a3 : Int32) (a4 : Int32) {u : Int32 × (Nat → Int32) × (Nat → Int32) × (Nat → Int32) × (Nat → Int32)} (hm : M_X0_play t_rang t_underWay t_counting t_cameByRopes p1_count p1_minutes t_valley_bells t_valley_span t_valley_kinds p1_bells p1_times t_valley_needs t_valley_from t_valley_lasts t_valley_to a2 a3 a4 = some u) : CT l yX0_play cX0_play 6 none 2 47 [.ref h_t, .ref h_p1, .int a2, .int a3, .int a4] G (w_X0_play G h_t h_t_rang h_t_underWay h_t_counting h_t_cameByRopes h_p1 h_p1_minutes h_t_valley h_t_valley_kinds h_p1_bells h_p1_times h_t_valley_needs h_t_valley_from h_t_valley_lasts h_t_valley_to t_lastDue t_rang t_underWay t_counting t_cameByRopes p1_count p1_minutes t_valley_bells t_valley_ropes t_valley_span t_valley_tied t_valley_kinds p1_bells p1_times t_valley_needs t_valley_from t_valley_lasts t_valley_to) none (w_X0_play G h_t h_t_rang h_t_underWay h_t_counting h_t_cameByRopes h_p1 h_p1_minutes h_t_valley h_t_valley_kinds h_p1_bells h_p1_times h_t_valley_needs h_t_valley_from h_t_valley_lasts h_t_valley_to u.1 u.2.1 u.2.2.1 u.2.2.2.1 u.2.2.2.2 p1_count p1_minutes t_valley_bells t_valley_ropes t_valley_span t_valley_tied t_valley_kinds p1_bells p1_times t_valley_needs t_valley_from t_valley_lasts t_valley_to) := by
  refine ct_intro RX0 [(0, .ref h_t), (1, .ref h_p1), (2, .int a2), (3, .int a3), (4, .int a4)] (by decide) rfl (Nat.le_of_ble_eq_true rfl) rfl (fun X hX cx => ?_)
  have lp43 : ∀ (Q : State → Prop) (A : Nat → Prop) (x2 : Int32) (x3 : Int32) (x4 : Int32) (p1_count : Int32) (p1_minutes : (Nat → Int32)) (t_valley_bells : Int32) (t_valley_ropes : Int32) (t_valley_span : Int32) (t_valley_tied : Int32) (t_valley_kinds : (Nat → Int32)) (p1_bells : (Nat → Int32)) (p1_times : (Nat → Int32)) (t_valley_needs : (Nat → Int32)) (t_valley_from : (Nat → Int32)) (t_valley_lasts : (Nat → Int32)) (t_valley_to : (Nat → Int32)) (n : Nat) (x5 : Int32) (t_lastDue : Int32) (t_rang : (Nat → Int32)) (t_underWay : (Nat → Int32)) (t_counting : (Nat → Int32)) (t_cameByRopes : (Nat → Int32)) (y : Int32 × Int32 × (Nat → Int32) × (Nat → Int32) × (Nat → Int32) × (Nat → Int32)), L_X0_play_43 x2 x3 x4 p1_count p1_minutes t_valley_bells t_valley_span t_valley_kinds p1_bells p1_times t_valley_needs t_valley_from t_valley_lasts t_valley_to n x5 t_lastDue t_rang t_underWay t_counting t_cameByRopes = some y → (KJ X Q G A 6 102 [] [] (w_X0_play G h_t h_t_rang h_t_underWay h_t_counting h_t_cameByRopes h_p1 h_p1_minutes h_t_valley h_t_valley_kinds h_p1_bells h_p1_times h_t_valley_needs h_t_valley_from h_t_valley_lasts h_t_valley_to y.2.1 y.2.2.1 y.2.2.2.1 y.2.2.2.2.1 y.2.2.2.2.2 p1_count p1_minutes t_valley_bells t_valley_ropes t_valley_span t_valley_tied t_valley_kinds p1_bells p1_times t_valley_needs t_valley_from t_valley_lasts t_valley_to)) → KJ X Q G A 6 43 [(0, .ref h_t), (1, .ref h_p1), (2, .int x2), (3, .int x3), (4, .int x4), (5, .int x5)] [] (w_X0_play G h_t h_t_rang h_t_underWay h_t_counting h_t_cameByRopes h_p1 h_p1_minutes h_t_valley h_t_valley_kinds h_p1_bells h_p1_times h_t_valley_needs h_t_valley_from h_t_valley_lasts h_t_valley_to t_lastDue t_rang t_underWay t_counting t_cameByRopes p1_count p1_minutes t_valley_bells t_valley_ropes t_valley_span t_valley_tied t_valley_kinds p1_bells p1_times t_valley_needs t_valley_from t_valley_lasts t_valley_to) := by
    intro Q A x2 x3 x4 p1_count p1_minutes t_valley_bells t_valley_ropes t_valley_span t_valley_tied t_valley_kinds p1_bells p1_times t_valley_needs t_valley_from t_valley_lasts t_valley_to n
    induction n with
    | zero => intro x5 t_lastDue t_rang t_underWay t_counting t_cameByRopes y hm _; exact noS hm
    | succ n ih =>
      intro x5 t_lastDue t_rang t_underWay t_counting t_cameByRopes y hm k0
      rw [L_X0_play_43] at hm
      refine k_iload 43 cx dX0_play_43 5 rfl ?_
      refine k_iload 45 cx dX0_play_45 4 rfl ?_
      refine k_icmp_ge 47 cx (tgt := 102) dX0_play_47 (by decide) hm (fun hc hm => ?_) (fun hc hm => ?_)
      · obtain rfl := Option.some.inj hm
        refine k_lv [] rfl ?_
        exact k0
      · refine k_iload 50 cx dX0_play_50 5 rfl ?_
        refine k_aload_n 52 cx dX0_play_52 rfl 0 rfl ?_
        refine fgX0_40 53 cx dX0_play_53 0 rfl rfl ?_
        refine k_icmp_gt 56 cx (tgt := 102) dX0_play_56 (by decide) hm (fun hc hm => ?_) (fun hc hm => ?_)
        · obtain rfl := Option.some.inj hm
          refine k_lv [] rfl ?_
          exact k0
        · refine k_aload_n 59 cx dX0_play_59 rfl 0 rfl ?_
          refine k_iload 60 cx dX0_play_60 5 rfl ?_
          obtain ⟨u24, hu24, hm⟩ := bnd hm
          refine k_callV 62 cx cwX0_44 (c_X0_swingByRopes X.2.1 G h_t h_t_valley h_t_underWay h_t_valley_kinds h_t_cameByRopes h_t_counting h_t_rang h_t_valley_needs h_t_valley_from h_t_valley_to h_t_valley_lasts t_lastDue t_valley_bells t_valley_ropes t_valley_span t_valley_tied t_underWay t_valley_kinds t_cameByRopes t_counting x5 hu24) dX0_play_62 ⟨by decide, by decide⟩ rfl rfl (rest := []) rfl (Nat.le_of_ble_eq_true rfl) [0, 7, 2, 8, 4, 3] (by decide) rfl rfl (w2 := (w_X0_play G h_t h_t_rang h_t_underWay h_t_counting h_t_cameByRopes h_p1 h_p1_minutes h_t_valley h_t_valley_kinds h_p1_bells h_p1_times h_t_valley_needs h_t_valley_from h_t_valley_lasts h_t_valley_to t_lastDue t_rang u24.1 u24.2.2 u24.2.1 p1_count p1_minutes t_valley_bells t_valley_ropes t_valley_span t_valley_tied t_valley_kinds p1_bells p1_times t_valley_needs t_valley_from t_valley_lasts t_valley_to)) [1, 5, 6, 9, 10, 11, 12, 13, 14] 15 rfl [(h_t_rang, .inl (G.2.1, 400, .inl t_rang)), (h_p1, .inr (1, [.ref h_p1_bells, .ref h_p1_minutes, .ref h_p1_times, .int p1_count])), (h_p1_minutes, .inl (G.2.1, 6, .inl p1_minutes)), (h_p1_bells, .inl (G.2.1, 6, .inl p1_bells)), (h_p1_times, .inl (G.2.1, 6, .inl p1_times)), (h_t_valley_needs, .inl (G.2.1, 6, .inl t_valley_needs)), (h_t_valley_from, .inl (G.2.1, 9, .inl t_valley_from)), (h_t_valley_lasts, .inl (G.2.1, 9, .inl t_valley_lasts)), (h_t_valley_to, .inl (G.2.1, 9, .inl t_valley_to))] rfl rfl rfl (by decide) (st2 := []) rfl ?_
          refine k_aload_n 65 cx dX0_play_65 rfl 0 rfl ?_
          refine k_aload_n 66 cx dX0_play_66 rfl 1 rfl ?_
          refine k_iload 67 cx dX0_play_67 5 rfl ?_
          obtain ⟨u25, hu25, hm⟩ := bnd hm
          refine k_callV 69 cx cwX0_48 (c_X0_swingByPulls X.2.1 G h_t h_p1 h_p1_minutes h_p1_bells h_t_counting h_p1_times h_t_valley h_t_rang h_t_underWay h_t_cameByRopes t_lastDue p1_count p1_minutes p1_bells u24.2.2 p1_times x5 hu25) dX0_play_69 ⟨by decide, by decide⟩ rfl rfl (rest := []) rfl (Nat.le_of_ble_eq_true rfl) [0, 5, 6, 9, 3, 10] (by decide) rfl rfl (w2 := (w_X0_play G h_t h_t_rang h_t_underWay h_t_counting h_t_cameByRopes h_p1 h_p1_minutes h_t_valley h_t_valley_kinds h_p1_bells h_p1_times h_t_valley_needs h_t_valley_from h_t_valley_lasts h_t_valley_to t_lastDue t_rang u24.1 u25 u24.2.1 p1_count p1_minutes t_valley_bells t_valley_ropes t_valley_span t_valley_tied t_valley_kinds p1_bells p1_times t_valley_needs t_valley_from t_valley_lasts t_valley_to)) [1, 2, 4, 7, 8, 11, 12, 13, 14] 15 rfl [(h_t_rang, .inl (G.2.1, 400, .inl t_rang)), (h_t_underWay, .inl (G.2.1, 60, .inl u24.1)), (h_t_cameByRopes, .inl (G.2.1, 6, .inl u24.2.1)), (h_t_valley, .inr (5, [.ref h_t_valley_kinds, .ref h_t_valley_needs, .ref h_t_valley_from, .ref h_t_valley_to, .ref h_t_valley_lasts, .int t_valley_bells, .int t_valley_ropes, .int t_valley_span, .int t_valley_tied])), (h_t_valley_kinds, .inl (G.2.1, 6, .inl t_valley_kinds)), (h_t_valley_needs, .inl (G.2.1, 6, .inl t_valley_needs)), (h_t_valley_from, .inl (G.2.1, 9, .inl t_valley_from)), (h_t_valley_lasts, .inl (G.2.1, 9, .inl t_valley_lasts)), (h_t_valley_to, .inl (G.2.1, 9, .inl t_valley_to))] rfl rfl rfl (by decide) (st2 := []) rfl ?_
          refine k_aload_n 72 cx dX0_play_72 rfl 0 rfl ?_
          refine k_iload 73 cx dX0_play_73 5 rfl ?_
          refine k_iload_n 75 cx dX0_play_75 rfl 2 rfl ?_
          obtain ⟨u26, hu26, hm⟩ := bnd hm
          refine k_callV 76 cx cwX0_52 (c_X0_ringAll X.2.1 G h_t h_t_valley h_t_counting h_t_valley_kinds h_t_valley_needs h_t_rang h_t_cameByRopes h_t_underWay h_t_valley_from h_t_valley_to h_t_valley_lasts t_lastDue t_valley_bells t_valley_ropes t_valley_span t_valley_tied u25 t_valley_kinds t_valley_needs t_rang u24.2.1 x5 x2 hu26) dX0_play_76 ⟨by decide, by decide⟩ rfl rfl (rest := []) rfl (Nat.le_of_ble_eq_true rfl) [0, 7, 3, 8, 11, 1, 4] (by decide) rfl rfl (w2 := (w_X0_play G h_t h_t_rang h_t_underWay h_t_counting h_t_cameByRopes h_p1 h_p1_minutes h_t_valley h_t_valley_kinds h_p1_bells h_p1_times h_t_valley_needs h_t_valley_from h_t_valley_lasts h_t_valley_to t_lastDue u26.2.1 u24.1 u26.1 u26.2.2 p1_count p1_minutes t_valley_bells t_valley_ropes t_valley_span t_valley_tied t_valley_kinds p1_bells p1_times t_valley_needs t_valley_from t_valley_lasts t_valley_to)) [2, 5, 6, 9, 10, 12, 13, 14] 15 rfl [(h_t_underWay, .inl (G.2.1, 60, .inl u24.1)), (h_p1, .inr (1, [.ref h_p1_bells, .ref h_p1_minutes, .ref h_p1_times, .int p1_count])), (h_p1_minutes, .inl (G.2.1, 6, .inl p1_minutes)), (h_p1_bells, .inl (G.2.1, 6, .inl p1_bells)), (h_p1_times, .inl (G.2.1, 6, .inl p1_times)), (h_t_valley_from, .inl (G.2.1, 9, .inl t_valley_from)), (h_t_valley_lasts, .inl (G.2.1, 9, .inl t_valley_lasts)), (h_t_valley_to, .inl (G.2.1, 9, .inl t_valley_to))] rfl rfl rfl (by decide) (st2 := []) rfl ?_
          refine k_aload_n 79 cx dX0_play_79 rfl 0 rfl ?_
          refine fgX0_9 80 cx dX0_play_80 0 rfl rfl ?_
          refine k_iload 83 cx dX0_play_83 5 rfl ?_
          refine k_iald 85 cx dX0_play_85 1 rfl hm (fun hm => ?_)
          refine k_if_eq 86 cx (tgt := 96) dX0_play_86 (by decide) hm (fun hc hm => ?_) (fun hc hm => ?_)
          · refine k_iinc 96 cx dX0_play_96 5 rfl (by decide) (by decide) (fun v27 => [(5, .int v27), (0, .ref h_t), (1, .ref h_p1), (2, .int x2), (3, .int x3), (4, .int x4)]) (fun _ => rfl) hm (fun v27 hm => ?_)
            refine k_goto 99 cx (tgt := 43) dX0_play_99 (by decide) ?_
            refine k_lv [1, 2, 3, 4, 5, 0] rfl ?_
            exact ih v27 t_lastDue u26.2.1 u24.1 u26.1 u26.2.2 _ hm k0
          · refine k_aload_n 89 cx dX0_play_89 rfl 0 rfl ?_
            refine k_iload 90 cx dX0_play_90 5 rfl ?_
            refine k_iload_n 92 cx dX0_play_92 rfl 3 rfl ?_
            obtain ⟨u28, hu28, hm⟩ := bnd hm
            refine k_callV 93 cx cwX0_56 (c_X0_sendOn X.2.1 G h_t h_t_valley h_t_valley_from h_t_rang h_t_valley_lasts h_t_valley_to h_t_underWay h_t_counting h_t_cameByRopes h_t_valley_kinds h_t_valley_needs t_lastDue t_valley_bells t_valley_ropes t_valley_span t_valley_tied t_valley_from u26.2.1 t_valley_lasts t_valley_to u24.1 x5 x3 hu28) dX0_play_93 ⟨by decide, by decide⟩ rfl rfl (rest := []) rfl (Nat.le_of_ble_eq_true rfl) [0, 7, 12, 1, 13, 14, 2] (by decide) rfl rfl (w2 := (w_X0_play G h_t h_t_rang h_t_underWay h_t_counting h_t_cameByRopes h_p1 h_p1_minutes h_t_valley h_t_valley_kinds h_p1_bells h_p1_times h_t_valley_needs h_t_valley_from h_t_valley_lasts h_t_valley_to u28.1 u26.2.1 u28.2 u26.1 u26.2.2 p1_count p1_minutes t_valley_bells t_valley_ropes t_valley_span t_valley_tied t_valley_kinds p1_bells p1_times t_valley_needs t_valley_from t_valley_lasts t_valley_to)) [3, 4, 5, 6, 8, 9, 10, 11] 15 rfl [(h_t_counting, .inl (G.2.1, 36, .inl u26.1)), (h_t_cameByRopes, .inl (G.2.1, 6, .inl u26.2.2)), (h_p1, .inr (1, [.ref h_p1_bells, .ref h_p1_minutes, .ref h_p1_times, .int p1_count])), (h_p1_minutes, .inl (G.2.1, 6, .inl p1_minutes)), (h_t_valley_kinds, .inl (G.2.1, 6, .inl t_valley_kinds)), (h_p1_bells, .inl (G.2.1, 6, .inl p1_bells)), (h_p1_times, .inl (G.2.1, 6, .inl p1_times)), (h_t_valley_needs, .inl (G.2.1, 6, .inl t_valley_needs))] rfl rfl rfl (by decide) (st2 := []) rfl ?_
            refine k_iinc 96 cx dX0_play_96 5 rfl (by decide) (by decide) (fun v29 => [(5, .int v29), (0, .ref h_t), (1, .ref h_p1), (2, .int x2), (3, .int x3), (4, .int x4)]) (fun _ => rfl) hm (fun v29 hm => ?_)
            refine k_goto 99 cx (tgt := 43) dX0_play_99 (by decide) ?_
            refine k_lv [1, 2, 3, 4, 5, 0] rfl ?_
            exact ih v29 u28.1 u26.2.1 u28.2 u26.1 u26.2.2 _ hm k0
  unfold M_X0_play at hm
  refine k_aload_n 0 cx dX0_play_0 rfl 0 rfl ?_
  refine fgX0_9 1 cx dX0_play_1 0 rfl rfl ?_
  refine k_iconst 4 cx (v := (0 : Int32)) dX0_play_4 (by decide) ?_
  obtain ⟨u1, hu1, hm⟩ := bnd hm
  refine k_callS 5 cx cwX0_28 (c_J7_fill_53178 X.2.1 G 400 h_t_rang t_rang (0 : Int32) hu1) dX0_play_5 ⟨by decide, by decide⟩ rfl (rest := []) rfl (Nat.le_of_ble_eq_true rfl) [1] (by decide) rfl rfl (w2 := (w_X0_play G h_t h_t_rang h_t_underWay h_t_counting h_t_cameByRopes h_p1 h_p1_minutes h_t_valley h_t_valley_kinds h_p1_bells h_p1_times h_t_valley_needs h_t_valley_from h_t_valley_lasts h_t_valley_to t_lastDue u1 t_underWay t_counting t_cameByRopes p1_count p1_minutes t_valley_bells t_valley_ropes t_valley_span t_valley_tied t_valley_kinds p1_bells p1_times t_valley_needs t_valley_from t_valley_lasts t_valley_to)) [0, 2, 3, 4, 5, 6, 7, 8, 9, 10, 11, 12, 13, 14] 15 rfl [(h_t, .inr (0, [.ref h_t_valley, .ref h_t_rang, .ref h_t_underWay, .ref h_t_counting, .ref h_t_cameByRopes, .int t_lastDue])), (h_t_underWay, .inl (G.2.1, 60, .inl t_underWay)), (h_t_counting, .inl (G.2.1, 36, .inl t_counting)), (h_t_cameByRopes, .inl (G.2.1, 6, .inl t_cameByRopes)), (h_p1, .inr (1, [.ref h_p1_bells, .ref h_p1_minutes, .ref h_p1_times, .int p1_count])), (h_p1_minutes, .inl (G.2.1, 6, .inl p1_minutes)), (h_t_valley, .inr (5, [.ref h_t_valley_kinds, .ref h_t_valley_needs, .ref h_t_valley_from, .ref h_t_valley_to, .ref h_t_valley_lasts, .int t_valley_bells, .int t_valley_ropes, .int t_valley_span, .int t_valley_tied])), (h_t_valley_kinds, .inl (G.2.1, 6, .inl t_valley_kinds)), (h_p1_bells, .inl (G.2.1, 6, .inl p1_bells)), (h_p1_times, .inl (G.2.1, 6, .inl p1_times)), (h_t_valley_needs, .inl (G.2.1, 6, .inl t_valley_needs)), (h_t_valley_from, .inl (G.2.1, 9, .inl t_valley_from)), (h_t_valley_lasts, .inl (G.2.1, 9, .inl t_valley_lasts)), (h_t_valley_to, .inl (G.2.1, 9, .inl t_valley_to))] rfl rfl rfl (by decide) (st2 := []) rfl ?_
  refine k_aload_n 8 cx dX0_play_8 rfl 0 rfl ?_
  refine fgX0_15 9 cx dX0_play_9 0 rfl rfl ?_
  refine k_iconst 12 cx (v := (0 : Int32)) dX0_play_12 (by decide) ?_
  obtain ⟨u2, hu2, hm⟩ := bnd hm
  refine k_callS 13 cx cwX0_28 (c_J7_fill_53178 X.2.1 G 60 h_t_underWay t_underWay (0 : Int32) hu2) dX0_play_13 ⟨by decide, by decide⟩ rfl (rest := []) rfl (Nat.le_of_ble_eq_true rfl) [2] (by decide) rfl rfl (w2 := (w_X0_play G h_t h_t_rang h_t_underWay h_t_counting h_t_cameByRopes h_p1 h_p1_minutes h_t_valley h_t_valley_kinds h_p1_bells h_p1_times h_t_valley_needs h_t_valley_from h_t_valley_lasts h_t_valley_to t_lastDue u1 u2 t_counting t_cameByRopes p1_count p1_minutes t_valley_bells t_valley_ropes t_valley_span t_valley_tied t_valley_kinds p1_bells p1_times t_valley_needs t_valley_from t_valley_lasts t_valley_to)) [0, 1, 3, 4, 5, 6, 7, 8, 9, 10, 11, 12, 13, 14] 15 rfl [(h_t, .inr (0, [.ref h_t_valley, .ref h_t_rang, .ref h_t_underWay, .ref h_t_counting, .ref h_t_cameByRopes, .int t_lastDue])), (h_t_rang, .inl (G.2.1, 400, .inl u1)), (h_t_counting, .inl (G.2.1, 36, .inl t_counting)), (h_t_cameByRopes, .inl (G.2.1, 6, .inl t_cameByRopes)), (h_p1, .inr (1, [.ref h_p1_bells, .ref h_p1_minutes, .ref h_p1_times, .int p1_count])), (h_p1_minutes, .inl (G.2.1, 6, .inl p1_minutes)), (h_t_valley, .inr (5, [.ref h_t_valley_kinds, .ref h_t_valley_needs, .ref h_t_valley_from, .ref h_t_valley_to, .ref h_t_valley_lasts, .int t_valley_bells, .int t_valley_ropes, .int t_valley_span, .int t_valley_tied])), (h_t_valley_kinds, .inl (G.2.1, 6, .inl t_valley_kinds)), (h_p1_bells, .inl (G.2.1, 6, .inl p1_bells)), (h_p1_times, .inl (G.2.1, 6, .inl p1_times)), (h_t_valley_needs, .inl (G.2.1, 6, .inl t_valley_needs)), (h_t_valley_from, .inl (G.2.1, 9, .inl t_valley_from)), (h_t_valley_lasts, .inl (G.2.1, 9, .inl t_valley_lasts)), (h_t_valley_to, .inl (G.2.1, 9, .inl t_valley_to))] rfl rfl rfl (by decide) (st2 := []) rfl ?_
  refine k_aload_n 16 cx dX0_play_16 rfl 0 rfl ?_
  refine fgX0_18 17 cx dX0_play_17 0 rfl rfl ?_
  refine k_iconst 20 cx (v := (0 : Int32)) dX0_play_20 (by decide) ?_
  obtain ⟨u3, hu3, hm⟩ := bnd hm
  refine k_callS 21 cx cwX0_28 (c_J7_fill_53178 X.2.1 G 36 h_t_counting t_counting (0 : Int32) hu3) dX0_play_21 ⟨by decide, by decide⟩ rfl (rest := []) rfl (Nat.le_of_ble_eq_true rfl) [3] (by decide) rfl rfl (w2 := (w_X0_play G h_t h_t_rang h_t_underWay h_t_counting h_t_cameByRopes h_p1 h_p1_minutes h_t_valley h_t_valley_kinds h_p1_bells h_p1_times h_t_valley_needs h_t_valley_from h_t_valley_lasts h_t_valley_to t_lastDue u1 u2 u3 t_cameByRopes p1_count p1_minutes t_valley_bells t_valley_ropes t_valley_span t_valley_tied t_valley_kinds p1_bells p1_times t_valley_needs t_valley_from t_valley_lasts t_valley_to)) [0, 1, 2, 4, 5, 6, 7, 8, 9, 10, 11, 12, 13, 14] 15 rfl [(h_t, .inr (0, [.ref h_t_valley, .ref h_t_rang, .ref h_t_underWay, .ref h_t_counting, .ref h_t_cameByRopes, .int t_lastDue])), (h_t_rang, .inl (G.2.1, 400, .inl u1)), (h_t_underWay, .inl (G.2.1, 60, .inl u2)), (h_t_cameByRopes, .inl (G.2.1, 6, .inl t_cameByRopes)), (h_p1, .inr (1, [.ref h_p1_bells, .ref h_p1_minutes, .ref h_p1_times, .int p1_count])), (h_p1_minutes, .inl (G.2.1, 6, .inl p1_minutes)), (h_t_valley, .inr (5, [.ref h_t_valley_kinds, .ref h_t_valley_needs, .ref h_t_valley_from, .ref h_t_valley_to, .ref h_t_valley_lasts, .int t_valley_bells, .int t_valley_ropes, .int t_valley_span, .int t_valley_tied])), (h_t_valley_kinds, .inl (G.2.1, 6, .inl t_valley_kinds)), (h_p1_bells, .inl (G.2.1, 6, .inl p1_bells)), (h_p1_times, .inl (G.2.1, 6, .inl p1_times)), (h_t_valley_needs, .inl (G.2.1, 6, .inl t_valley_needs)), (h_t_valley_from, .inl (G.2.1, 9, .inl t_valley_from)), (h_t_valley_lasts, .inl (G.2.1, 9, .inl t_valley_lasts)), (h_t_valley_to, .inl (G.2.1, 9, .inl t_valley_to))] rfl rfl rfl (by decide) (st2 := []) rfl ?_
  refine k_aload_n 24 cx dX0_play_24 rfl 0 rfl ?_
  refine fgX0_21 25 cx dX0_play_25 0 rfl rfl ?_
  refine k_iconst 28 cx (v := (0 : Int32)) dX0_play_28 (by decide) ?_
  obtain ⟨u4, hu4, hm⟩ := bnd hm
  refine k_callS 29 cx cwX0_28 (c_J7_fill_53178 X.2.1 G 6 h_t_cameByRopes t_cameByRopes (0 : Int32) hu4) dX0_play_29 ⟨by decide, by decide⟩ rfl (rest := []) rfl (Nat.le_of_ble_eq_true rfl) [4] (by decide) rfl rfl (w2 := (w_X0_play G h_t h_t_rang h_t_underWay h_t_counting h_t_cameByRopes h_p1 h_p1_minutes h_t_valley h_t_valley_kinds h_p1_bells h_p1_times h_t_valley_needs h_t_valley_from h_t_valley_lasts h_t_valley_to t_lastDue u1 u2 u3 u4 p1_count p1_minutes t_valley_bells t_valley_ropes t_valley_span t_valley_tied t_valley_kinds p1_bells p1_times t_valley_needs t_valley_from t_valley_lasts t_valley_to)) [0, 1, 2, 3, 5, 6, 7, 8, 9, 10, 11, 12, 13, 14] 15 rfl [(h_t, .inr (0, [.ref h_t_valley, .ref h_t_rang, .ref h_t_underWay, .ref h_t_counting, .ref h_t_cameByRopes, .int t_lastDue])), (h_t_rang, .inl (G.2.1, 400, .inl u1)), (h_t_underWay, .inl (G.2.1, 60, .inl u2)), (h_t_counting, .inl (G.2.1, 36, .inl u3)), (h_p1, .inr (1, [.ref h_p1_bells, .ref h_p1_minutes, .ref h_p1_times, .int p1_count])), (h_p1_minutes, .inl (G.2.1, 6, .inl p1_minutes)), (h_t_valley, .inr (5, [.ref h_t_valley_kinds, .ref h_t_valley_needs, .ref h_t_valley_from, .ref h_t_valley_to, .ref h_t_valley_lasts, .int t_valley_bells, .int t_valley_ropes, .int t_valley_span, .int t_valley_tied])), (h_t_valley_kinds, .inl (G.2.1, 6, .inl t_valley_kinds)), (h_p1_bells, .inl (G.2.1, 6, .inl p1_bells)), (h_p1_times, .inl (G.2.1, 6, .inl p1_times)), (h_t_valley_needs, .inl (G.2.1, 6, .inl t_valley_needs)), (h_t_valley_from, .inl (G.2.1, 9, .inl t_valley_from)), (h_t_valley_lasts, .inl (G.2.1, 9, .inl t_valley_lasts)), (h_t_valley_to, .inl (G.2.1, 9, .inl t_valley_to))] rfl rfl rfl (by decide) (st2 := []) rfl ?_
  refine k_aload_n 32 cx dX0_play_32 rfl 0 rfl ?_
  refine k_aload_n 33 cx dX0_play_33 rfl 1 rfl ?_
  obtain ⟨u5, hu5, hm⟩ := bnd hm
  refine k_callV 34 cx cwX0_34 (c_X1_lastMinute X.2.1 G h_p1 h_p1_minutes h_p1_bells h_p1_times p1_count p1_minutes hu5) dX0_play_34 ⟨by decide, by decide⟩ rfl rfl (rest := [.ref h_t]) rfl (Nat.le_of_ble_eq_true rfl) [5, 6] (by decide) rfl rfl (w2 := (w_X0_play G h_t h_t_rang h_t_underWay h_t_counting h_t_cameByRopes h_p1 h_p1_minutes h_t_valley h_t_valley_kinds h_p1_bells h_p1_times h_t_valley_needs h_t_valley_from h_t_valley_lasts h_t_valley_to t_lastDue u1 u2 u3 u4 p1_count p1_minutes t_valley_bells t_valley_ropes t_valley_span t_valley_tied t_valley_kinds p1_bells p1_times t_valley_needs t_valley_from t_valley_lasts t_valley_to)) [0, 1, 2, 3, 4, 7, 8, 9, 10, 11, 12, 13, 14] 15 rfl [(h_t, .inr (0, [.ref h_t_valley, .ref h_t_rang, .ref h_t_underWay, .ref h_t_counting, .ref h_t_cameByRopes, .int t_lastDue])), (h_t_rang, .inl (G.2.1, 400, .inl u1)), (h_t_underWay, .inl (G.2.1, 60, .inl u2)), (h_t_counting, .inl (G.2.1, 36, .inl u3)), (h_t_cameByRopes, .inl (G.2.1, 6, .inl u4)), (h_t_valley, .inr (5, [.ref h_t_valley_kinds, .ref h_t_valley_needs, .ref h_t_valley_from, .ref h_t_valley_to, .ref h_t_valley_lasts, .int t_valley_bells, .int t_valley_ropes, .int t_valley_span, .int t_valley_tied])), (h_t_valley_kinds, .inl (G.2.1, 6, .inl t_valley_kinds)), (h_p1_bells, .inl (G.2.1, 6, .inl p1_bells)), (h_p1_times, .inl (G.2.1, 6, .inl p1_times)), (h_t_valley_needs, .inl (G.2.1, 6, .inl t_valley_needs)), (h_t_valley_from, .inl (G.2.1, 9, .inl t_valley_from)), (h_t_valley_lasts, .inl (G.2.1, 9, .inl t_valley_lasts)), (h_t_valley_to, .inl (G.2.1, 9, .inl t_valley_to))] rfl rfl rfl (by decide) (st2 := [.int u5, .ref h_t]) rfl ?_
  refine fpX0_40 37 cx dX0_play_37 0 rfl rfl rfl (by simp) (w1 := (w_X0_play G h_t h_t_rang h_t_underWay h_t_counting h_t_cameByRopes h_p1 h_p1_minutes h_t_valley h_t_valley_kinds h_p1_bells h_p1_times h_t_valley_needs h_t_valley_from h_t_valley_lasts h_t_valley_to u5 u1 u2 u3 u4 p1_count p1_minutes t_valley_bells t_valley_ropes t_valley_span t_valley_tied t_valley_kinds p1_bells p1_times t_valley_needs t_valley_from t_valley_lasts t_valley_to)) rfl ?_
  refine k_iconst 40 cx (v := (0 : Int32)) dX0_play_40 (by decide) ?_
  refine k_istore 41 cx dX0_play_41 (by decide) (lv' := [(5, .int (0 : Int32)), (0, .ref h_t), (1, .ref h_p1), (2, .int a2), (3, .int a3), (4, .int a4)]) rfl ?_
  refine k_lv [1, 2, 3, 4, 5, 0] rfl ?_
  obtain ⟨u30, hu30, hm⟩ := bnd hm
  refine lp43 _ _ a2 a3 a4 p1_count p1_minutes t_valley_bells t_valley_ropes t_valley_span t_valley_tied t_valley_kinds p1_bells p1_times t_valley_needs t_valley_from t_valley_lasts t_valley_to 1000 (0 : Int32) u5 u1 u2 u3 u4 u30 hu30 ?_
  obtain rfl := Option.some.inj hm
  exact k_vret 102 cx dX0_play_102 rfl rfl
set_option maxRecDepth 100000 in
theorem fgX1_9 {X : XT} {Q : State → Prop} {G : GT} {A : Nat → Prop} {nL : Nat} {lv : List (Nat × Value)} {st : List Value} {ws : va_W} {cc : ByteArray} {fr lo : Nat} {ret : Option FieldType} (pc : Nat) (cx : Cx X cc nL RX1 G fr lo ret) {a : Nat} {fs : List Value} {v : Value} (hd : decode cc pc = .ok (.getfield 9, 3)) (q0 : Nat) (he : ws[q0]? = some (a, .inr (1, fs))) (hv : fs[0]? = some v) (k : KJ X Q G A nL (pc + 3) lv (v :: st) ws) : KJ X Q G A nL pc lv (.ref a :: st) ws :=
  k_get (ref := RX1) (T := TX1) (N := 4) (ci := 1) pc cx inX1 rfl 0 (by decide) (tb_m (i := 150) rfl rfl) rfl hd q0 he hv k
set_option maxRecDepth 100000 in
theorem fgX1_18 {X : XT} {Q : State → Prop} {G : GT} {A : Nat → Prop} {nL : Nat} {lv : List (Nat × Value)} {st : List Value} {ws : va_W} {cc : ByteArray} {fr lo : Nat} {ret : Option FieldType} (pc : Nat) (cx : Cx X cc nL RX1 G fr lo ret) {a : Nat} {fs : List Value} {v : Value} (hd : decode cc pc = .ok (.getfield 18, 3)) (q0 : Nat) (he : ws[q0]? = some (a, .inr (1, fs))) (hv : fs[2]? = some v) (k : KJ X Q G A nL (pc + 3) lv (v :: st) ws) : KJ X Q G A nL pc lv (.ref a :: st) ws :=
  k_get (ref := RX1) (T := TX1) (N := 4) (ci := 1) pc cx inX1 rfl 2 (by decide) (tb_m (i := 154) rfl rfl) rfl hd q0 he hv k
set_option maxRecDepth 100000 in
theorem fpX1_21 {X : XT} {Q : State → Prop} {G : GT} {A : Nat → Prop} {nL : Nat} {lv : List (Nat × Value)} {st : List Value} {ws : va_W} {cc : ByteArray} {fr lo : Nat} {ret : Option FieldType} (pc : Nat) (cx : Cx X cc nL RX1 G fr lo ret) {a : Nat} {fs : List Value} {v : Value} (hd : decode cc pc = .ok (.putfield 21, 3)) (q0 : Nat) (he : ws[q0]? = some (a, .inr (1, fs))) (hn : narrow .int v = v) (hfit : fits .int v = true) (hlen : 3 < fs.length) (w1 : va_W) (hw : ws.set q0 (a, .inr (1, fs.set 3 v)) = w1) (k : KJ X Q G A nL (pc + 3) lv st w1) : KJ X Q G A nL pc lv (v :: .ref a :: st) ws :=
  k_put (ref := RX1) (T := TX1) (N := 4) (ci := 1) (ty := .int) pc cx inX1 rfl tyX1 tyX1_ok nmX1 3 (by decide) (tb_m (i := 156) rfl rfl) rfl rfl (by decide +kernel) hd q0 he hn hfit hlen w1 hw k
def w_X1_add (G : GT) (h_t : Nat) (h_t_bells : Nat) (h_t_minutes : Nat) (h_t_times : Nat) (t_count : Int32) (t_bells : (Nat → Int32)) (t_minutes : (Nat → Int32)) (t_times : (Nat → Int32)) : va_W := [(h_t, .inr (1, [.ref h_t_bells, .ref h_t_minutes, .ref h_t_times, .int t_count])), (h_t_bells, .inl (G.2.1, 6, .inl t_bells)), (h_t_minutes, .inl (G.2.1, 6, .inl t_minutes)), (h_t_times, .inl (G.2.1, 6, .inl t_times))]
def M_X1_add (t_count : Int32) (t_bells : (Nat → Int32)) (t_minutes : (Nat → Int32)) (t_times : (Nat → Int32)) (a1 : Int32) (a2 : Int32) (a3 : Int32) : Option (Int32 × (Nat → Int32) × (Nat → Int32) × (Nat → Int32)) := (if (6 : Int32) ≤ t_count then (some (t_count, t_bells, t_minutes, t_times)) else (gB (inb t_count 6) (nme (upd t_bells (Int32.toNatClampNeg t_count) a1) (fun f1 => (gB (inb t_count 6) (nme (upd t_minutes (Int32.toNatClampNeg t_count) a2) (fun f2 => (gB (inb t_count 6) (nme (upd t_times (Int32.toNatClampNeg t_count) a3) (fun f3 => (nme (t_count + (1 : Int32)) (fun v4 => (some (v4, f1, f2, f3))))))))))))))
set_option maxHeartbeats 4000000 in
set_option maxRecDepth 100000 in
theorem c_X1_add (l : Launch) (G : GT) (h_t : Nat) (h_t_bells : Nat) (h_t_minutes : Nat) (h_t_times : Nat) (t_count : Int32) (t_bells : (Nat → Int32)) (t_minutes : (Nat → Int32)) (t_times : (Nat → Int32)) (a1 : Int32) (a2 : Int32) (a3 : Int32) {u : Int32 × (Nat → Int32) × (Nat → Int32) × (Nat → Int32)} (hm : M_X1_add t_count t_bells t_minutes t_times a1 a2 a3 = some u) : CT l yX1_add cX1_add 4 none 0 0 [.ref h_t, .int a1, .int a2, .int a3] G (w_X1_add G h_t h_t_bells h_t_minutes h_t_times t_count t_bells t_minutes t_times) none (w_X1_add G h_t h_t_bells h_t_minutes h_t_times u.1 u.2.1 u.2.2.1 u.2.2.2) := by
  refine ct_intro RX1 [(0, .ref h_t), (1, .int a1), (2, .int a2), (3, .int a3)] (by decide) rfl (Nat.le_of_ble_eq_true rfl) rfl (fun X hX cx => ?_)
  unfold M_X1_add at hm
  refine k_aload_n 0 cx dX1_add_0 rfl 0 rfl ?_
  refine fgX1_21 1 cx dX1_add_1 0 rfl rfl ?_
  refine k_bipush 4 cx (v := (6 : Int32)) dX1_add_4 (by decide) ?_
  refine k_icmp_ge 6 cx (tgt := 49) dX1_add_6 (by decide) hm (fun hc hm => ?_) (fun hc hm => ?_)
  · obtain rfl := Option.some.inj hm
    exact k_vret 49 cx dX1_add_49 rfl rfl
  · refine k_aload_n 9 cx dX1_add_9 rfl 0 rfl ?_
    refine fgX1_9 10 cx dX1_add_10 0 rfl rfl ?_
    refine k_aload_n 13 cx dX1_add_13 rfl 0 rfl ?_
    refine fgX1_21 14 cx dX1_add_14 0 rfl rfl ?_
    refine k_iload_n 17 cx dX1_add_17 rfl 1 rfl ?_
    refine k_iast 18 cx dX1_add_18 1 rfl (fun f1 => (w_X1_add G h_t h_t_bells h_t_minutes h_t_times t_count f1 t_minutes t_times)) (fun _ => rfl) hm (fun f1 hm => ?_)
    refine k_aload_n 19 cx dX1_add_19 rfl 0 rfl ?_
    refine fgX1_15 20 cx dX1_add_20 0 rfl rfl ?_
    refine k_aload_n 23 cx dX1_add_23 rfl 0 rfl ?_
    refine fgX1_21 24 cx dX1_add_24 0 rfl rfl ?_
    refine k_iload_n 27 cx dX1_add_27 rfl 2 rfl ?_
    refine k_iast 28 cx dX1_add_28 2 rfl (fun f2 => (w_X1_add G h_t h_t_bells h_t_minutes h_t_times t_count f1 f2 t_times)) (fun _ => rfl) hm (fun f2 hm => ?_)
    refine k_aload_n 29 cx dX1_add_29 rfl 0 rfl ?_
    refine fgX1_18 30 cx dX1_add_30 0 rfl rfl ?_
    refine k_aload_n 33 cx dX1_add_33 rfl 0 rfl ?_
    refine fgX1_21 34 cx dX1_add_34 0 rfl rfl ?_
    refine k_iload_n 37 cx dX1_add_37 rfl 3 rfl ?_
    refine k_iast 38 cx dX1_add_38 3 rfl (fun f3 => (w_X1_add G h_t h_t_bells h_t_minutes h_t_times t_count f1 f2 f3)) (fun _ => rfl) hm (fun f3 hm => ?_)
    refine k_aload_n 39 cx dX1_add_39 rfl 0 rfl ?_
    refine k_dup 40 cx dX1_add_40 rfl ?_
    refine fgX1_21 41 cx dX1_add_41 0 rfl rfl ?_
    refine k_iconst 44 cx (v := (1 : Int32)) dX1_add_44 (by decide) ?_
    refine k_iadd 45 cx dX1_add_45 ?_
    refine k_nm hm (fun v4 hm => ?_)
    refine fpX1_21 46 cx dX1_add_46 0 rfl rfl rfl (by simp) (w1 := (w_X1_add G h_t h_t_bells h_t_minutes h_t_times v4 f1 f2 f3)) rfl ?_
    obtain rfl := Option.some.inj hm
    exact k_vret 49 cx dX1_add_49 rfl rfl
set_option maxRecDepth 100000 in
theorem fgX2_9 {X : XT} {Q : State → Prop} {G : GT} {A : Nat → Prop} {nL : Nat} {lv : List (Nat × Value)} {st : List Value} {ws : va_W} {cc : ByteArray} {fr lo : Nat} {ret : Option FieldType} (pc : Nat) (cx : Cx X cc nL RX2 G fr lo ret) {a : Nat} {fs : List Value} {v : Value} (hd : decode cc pc = .ok (.getfield 9, 3)) (q0 : Nat) (he : ws[q0]? = some (a, .inr (2, fs))) (hv : fs[0]? = some v) (k : KJ X Q G A nL (pc + 3) lv (v :: st) ws) : KJ X Q G A nL pc lv (.ref a :: st) ws :=
  k_get (ref := RX2) (T := TX2) (N := 4) (ci := 2) pc cx inX2 rfl 0 (by decide) (tb_m (i := 174) rfl rfl) rfl hd q0 he hv k
set_option maxRecDepth 100000 in
theorem fgX2_15 {X : XT} {Q : State → Prop} {G : GT} {A : Nat → Prop} {nL : Nat} {lv : List (Nat × Value)} {st : List Value} {ws : va_W} {cc : ByteArray} {fr lo : Nat} {ret : Option FieldType} (pc : Nat) (cx : Cx X cc nL RX2 G fr lo ret) {a : Nat} {fs : List Value} {v : Value} (hd : decode cc pc = .ok (.getfield 15, 3)) (q0 : Nat) (he : ws[q0]? = some (a, .inr (2, fs))) (hv : fs[1]? = some v) (k : KJ X Q G A nL (pc + 3) lv (v :: st) ws) : KJ X Q G A nL pc lv (.ref a :: st) ws :=
  k_get (ref := RX2) (T := TX2) (N := 4) (ci := 2) pc cx inX2 rfl 1 (by decide) (tb_m (i := 175) rfl rfl) rfl hd q0 he hv k
set_option maxRecDepth 100000 in
theorem fgX2_18 {X : XT} {Q : State → Prop} {G : GT} {A : Nat → Prop} {nL : Nat} {lv : List (Nat × Value)} {st : List Value} {ws : va_W} {cc : ByteArray} {fr lo : Nat} {ret : Option FieldType} (pc : Nat) (cx : Cx X cc nL RX2 G fr lo ret) {a : Nat} {fs : List Value} {v : Value} (hd : decode cc pc = .ok (.getfield 18, 3)) (q0 : Nat) (he : ws[q0]? = some (a, .inr (2, fs))) (hv : fs[2]? = some v) (k : KJ X Q G A nL (pc + 3) lv (v :: st) ws) : KJ X Q G A nL pc lv (.ref a :: st) ws :=
  k_get (ref := RX2) (T := TX2) (N := 4) (ci := 2) pc cx inX2 rfl 2 (by decide) (tb_m (i := 176) rfl rfl) rfl hd q0 he hv k
set_option maxRecDepth 100000 in
theorem fgX2_22 {X : XT} {Q : State → Prop} {G : GT} {A : Nat → Prop} {nL : Nat} {lv : List (Nat × Value)} {st : List Value} {ws : va_W} {cc : ByteArray} {fr lo : Nat} {ret : Option FieldType} (pc : Nat) (cx : Cx X cc nL RX2 G fr lo ret) {a : Nat} {fs : List Value} {v : Value} (hd : decode cc pc = .ok (.getfield 22, 3)) (q0 : Nat) (he : ws[q0]? = some (a, .inr (2, fs))) (hv : fs[3]? = some v) (k : KJ X Q G A nL (pc + 3) lv (v :: st) ws) : KJ X Q G A nL pc lv (.ref a :: st) ws :=
  k_get (ref := RX2) (T := TX2) (N := 4) (ci := 2) pc cx inX2 rfl 3 (by decide) (tb_m (i := 177) rfl rfl) rfl hd q0 he hv k
set_option maxRecDepth 100000 in
theorem fpX2_22 {X : XT} {Q : State → Prop} {G : GT} {A : Nat → Prop} {nL : Nat} {lv : List (Nat × Value)} {st : List Value} {ws : va_W} {cc : ByteArray} {fr lo : Nat} {ret : Option FieldType} (pc : Nat) (cx : Cx X cc nL RX2 G fr lo ret) {a : Nat} {fs : List Value} {v : Value} (hd : decode cc pc = .ok (.putfield 22, 3)) (q0 : Nat) (he : ws[q0]? = some (a, .inr (2, fs))) (hn : narrow .int v = v) (hfit : fits .int v = true) (hlen : 3 < fs.length) (w1 : va_W) (hw : ws.set q0 (a, .inr (2, fs.set 3 v)) = w1) (k : KJ X Q G A nL (pc + 3) lv st w1) : KJ X Q G A nL pc lv (v :: .ref a :: st) ws :=
  k_put (ref := RX2) (T := TX2) (N := 4) (ci := 2) (ty := .int) pc cx inX2 rfl tyX2 tyX2_ok nmX2 3 (by decide) (tb_m (i := 177) rfl rfl) rfl rfl (by decide +kernel) hd q0 he hn hfit hlen w1 hw k
def w_X2_add (G : GT) (h_t : Nat) (h_t_bells : Nat) (h_t_minutes : Nat) (h_t_rang : Nat) (t_count : Int32) (t_bells : (Nat → Int32)) (t_minutes : (Nat → Int32)) (t_rang : (Nat → Int32)) : va_W := [(h_t, .inr (2, [.ref h_t_bells, .ref h_t_minutes, .ref h_t_rang, .int t_count])), (h_t_bells, .inl (G.2.1, 6, .inl t_bells)), (h_t_minutes, .inl (G.2.1, 6, .inl t_minutes)), (h_t_rang, .inl (G.2.2.1, 6, .inl t_rang))]
def M_X2_add (t_count : Int32) (t_bells : (Nat → Int32)) (t_minutes : (Nat → Int32)) (t_rang : (Nat → Int32)) (a1 : Int32) (a2 : Int32) (a3 : Int32) : Option (Int32 × (Nat → Int32) × (Nat → Int32) × (Nat → Int32)) := (if (6 : Int32) ≤ t_count then (some (t_count, t_bells, t_minutes, t_rang)) else (gB (inb t_count 6) (nme (upd t_bells (Int32.toNatClampNeg t_count) a1) (fun f1 => (gB (inb t_count 6) (nme (upd t_minutes (Int32.toNatClampNeg t_count) a2) (fun f2 => (gB (inb t_count 6) (nme (upd t_rang (Int32.toNatClampNeg t_count) (vp_nar .boolean a3)) (fun f3 => (nme (t_count + (1 : Int32)) (fun v4 => (some (v4, f1, f2, f3))))))))))))))
set_option maxHeartbeats 4000000 in
set_option maxRecDepth 100000 in
theorem c_X2_add (l : Launch) (G : GT) (h_t : Nat) (h_t_bells : Nat) (h_t_minutes : Nat) (h_t_rang : Nat) (t_count : Int32) (t_bells : (Nat → Int32)) (t_minutes : (Nat → Int32)) (t_rang : (Nat → Int32)) (a1 : Int32) (a2 : Int32) (a3 : Int32) {u : Int32 × (Nat → Int32) × (Nat → Int32) × (Nat → Int32)} (hm : M_X2_add t_count t_bells t_minutes t_rang a1 a2 a3 = some u) : CT l yX2_add cX2_add 4 none 0 0 [.ref h_t, .int a1, .int a2, .int a3] G (w_X2_add G h_t h_t_bells h_t_minutes h_t_rang t_count t_bells t_minutes t_rang) none (w_X2_add G h_t h_t_bells h_t_minutes h_t_rang u.1 u.2.1 u.2.2.1 u.2.2.2) := by
  refine ct_intro RX2 [(0, .ref h_t), (1, .int a1), (2, .int a2), (3, .int a3)] (by decide) rfl (Nat.le_of_ble_eq_true rfl) rfl (fun X hX cx => ?_)
  unfold M_X2_add at hm
  refine k_aload_n 0 cx dX2_add_0 rfl 0 rfl ?_
  refine fgX2_22 1 cx dX2_add_1 0 rfl rfl ?_
  refine k_bipush 4 cx (v := (6 : Int32)) dX2_add_4 (by decide) ?_
  refine k_icmp_ge 6 cx (tgt := 49) dX2_add_6 (by decide) hm (fun hc hm => ?_) (fun hc hm => ?_)
  · obtain rfl := Option.some.inj hm
    exact k_vret 49 cx dX2_add_49 rfl rfl
  · refine k_aload_n 9 cx dX2_add_9 rfl 0 rfl ?_
    refine fgX2_9 10 cx dX2_add_10 0 rfl rfl ?_
    refine k_aload_n 13 cx dX2_add_13 rfl 0 rfl ?_
    refine fgX2_22 14 cx dX2_add_14 0 rfl rfl ?_
    refine k_iload_n 17 cx dX2_add_17 rfl 1 rfl ?_
    refine k_iast 18 cx dX2_add_18 1 rfl (fun f1 => (w_X2_add G h_t h_t_bells h_t_minutes h_t_rang t_count f1 t_minutes t_rang)) (fun _ => rfl) hm (fun f1 hm => ?_)
    refine k_aload_n 19 cx dX2_add_19 rfl 0 rfl ?_
    refine fgX2_15 20 cx dX2_add_20 0 rfl rfl ?_
    refine k_aload_n 23 cx dX2_add_23 rfl 0 rfl ?_
    refine fgX2_22 24 cx dX2_add_24 0 rfl rfl ?_
    refine k_iload_n 27 cx dX2_add_27 rfl 2 rfl ?_
    refine k_iast 28 cx dX2_add_28 2 rfl (fun f2 => (w_X2_add G h_t h_t_bells h_t_minutes h_t_rang t_count f1 f2 t_rang)) (fun _ => rfl) hm (fun f2 hm => ?_)
    refine k_aload_n 29 cx dX2_add_29 rfl 0 rfl ?_
    refine fgX2_18 30 cx dX2_add_30 0 rfl rfl ?_
    refine k_aload_n 33 cx dX2_add_33 rfl 0 rfl ?_
    refine fgX2_22 34 cx dX2_add_34 0 rfl rfl ?_
    refine k_iload_n 37 cx dX2_add_37 rfl 3 rfl ?_
    refine k_zast 38 cx dX2_add_38 3 rfl (fun f3 => (w_X2_add G h_t h_t_bells h_t_minutes h_t_rang t_count f1 f2 f3)) (fun _ => rfl) hm (fun f3 hm => ?_)
    refine k_aload_n 39 cx dX2_add_39 rfl 0 rfl ?_
    refine k_dup 40 cx dX2_add_40 rfl ?_
    refine fgX2_22 41 cx dX2_add_41 0 rfl rfl ?_
    refine k_iconst 44 cx (v := (1 : Int32)) dX2_add_44 (by decide) ?_
    refine k_iadd 45 cx dX2_add_45 ?_
    refine k_nm hm (fun v4 hm => ?_)
    refine fpX2_22 46 cx dX2_add_46 0 rfl rfl rfl (by simp) (w1 := (w_X2_add G h_t h_t_bells h_t_minutes h_t_rang v4 f1 f2 f3)) rfl ?_
    obtain rfl := Option.some.inj hm
    exact k_vret 49 cx dX2_add_49 rfl rfl
set_option maxRecDepth 100000 in
theorem cwX2_26 : CWV RX2 26 RX0 yX0_rangAt cX0_rangAt 3 (some .boolean) 2 0 TX0 6 := ⟨tb_m (i := 540) rfl rfl, tb_m (i := 442) rfl rfl, tb_m (i := 443) rfl rfl, tb_m (i := 56) rfl rfl, tb_m (i := 444) rfl rfl, ⟨by decide +kernel, by decide +kernel, by decide +kernel⟩, rfl⟩
def w_X2_areSoIn (G : GT) (h_t : Nat) (h_t_bells : Nat) (h_t_minutes : Nat) (h_p1 : Nat) (h_p1_rang : Nat) (h_t_rang : Nat) (h_p1_valley : Nat) (h_p1_underWay : Nat) (h_p1_counting : Nat) (h_p1_cameByRopes : Nat) (t_count : Int32) (t_bells : (Nat → Int32)) (t_minutes : (Nat → Int32)) (p1_lastDue : Int32) (p1_rang : (Nat → Int32)) (t_rang : (Nat → Int32)) : va_W := [(h_t, .inr (2, [.ref h_t_bells, .ref h_t_minutes, .ref h_t_rang, .int t_count])), (h_t_bells, .inl (G.2.1, 6, .inl t_bells)), (h_t_minutes, .inl (G.2.1, 6, .inl t_minutes)), (h_p1, .inr (0, [.ref h_p1_valley, .ref h_p1_rang, .ref h_p1_underWay, .ref h_p1_counting, .ref h_p1_cameByRopes, .int p1_lastDue])), (h_p1_rang, .inl (G.2.1, 400, .inl p1_rang)), (h_t_rang, .inl (G.2.2.1, 6, .inl t_rang))]
def L_X2_areSoIn_2 (t_count : Int32) (t_bells : (Nat → Int32)) (t_minutes : (Nat → Int32)) (p1_rang : (Nat → Int32)) (t_rang : (Nat → Int32)) : Nat → Int32 → Option (Nat × Int32)
  | 0, _ => none
  | n + 1, x2 => (if t_count ≤ x2 then (some (1, x2)) else (gB (inb x2 6) (gB (inb x2 6) ((M_X0_rangAt p1_rang (t_bells (Int32.toNatClampNeg x2)) (t_minutes (Int32.toNatClampNeg x2))).bind (fun u7 => (gB (inb x2 6) (if u7 = (t_rang (Int32.toNatClampNeg x2)) then (nme (x2 + (1 : Int32)) (fun v8 => (L_X2_areSoIn_2 t_count t_bells t_minutes p1_rang t_rang n v8))) else (some (0, x2)))))))))
def M_X2_areSoIn (t_count : Int32) (t_bells : (Nat → Int32)) (t_minutes : (Nat → Int32)) (p1_rang : (Nat → Int32)) (t_rang : (Nat → Int32)) : Option (Int32) := ((L_X2_areSoIn_2 t_count t_bells t_minutes p1_rang t_rang 1000 (0 : Int32)).bind (fun u9 => (if u9.1 = 0 then (some (0 : Int32)) else (some (1 : Int32)))))
set_option maxHeartbeats 4000000 in
set_option maxRecDepth 100000 in
theorem c_X2_areSoIn (l : Launch) (G : GT) (h_t : Nat) (h_t_bells : Nat) (h_t_minutes : Nat) (h_p1 : Nat) (h_p1_rang : Nat) (h_t_rang : Nat) (h_p1_valley : Nat) (h_p1_underWay : Nat) (h_p1_counting : Nat) (h_p1_cameByRopes : Nat) (t_count : Int32) (t_bells : (Nat → Int32)) (t_minutes : (Nat → Int32)) (p1_lastDue : Int32) (p1_rang : (Nat → Int32)) (t_rang : (Nat → Int32)) {u : Int32} (hm : M_X2_areSoIn t_count t_bells t_minutes p1_rang t_rang = some u) : CT l yX2_areSoIn cX2_areSoIn 3 (some .boolean) 1 22 [.ref h_t, .ref h_p1] G (w_X2_areSoIn G h_t h_t_bells h_t_minutes h_p1 h_p1_rang h_t_rang h_p1_valley h_p1_underWay h_p1_counting h_p1_cameByRopes t_count t_bells t_minutes p1_lastDue p1_rang t_rang) (some (.int u)) (w_X2_areSoIn G h_t h_t_bells h_t_minutes h_p1 h_p1_rang h_t_rang h_p1_valley h_p1_underWay h_p1_counting h_p1_cameByRopes t_count t_bells t_minutes p1_lastDue p1_rang t_rang) := by
  refine ct_intro RX2 [(0, .ref h_t), (1, .ref h_p1)] (by decide) rfl (Nat.le_of_ble_eq_true rfl) rfl (fun X hX cx => ?_)
  have lp2 : ∀ (Q : State → Prop) (A : Nat → Prop) (t_count : Int32) (t_bells : (Nat → Int32)) (t_minutes : (Nat → Int32)) (p1_lastDue : Int32) (p1_rang : (Nat → Int32)) (t_rang : (Nat → Int32)) (n : Nat) (x2 : Int32) (y : Nat × Int32), L_X2_areSoIn_2 t_count t_bells t_minutes p1_rang t_rang n x2 = some y → (y.1 = 0 → KJ X Q G A 3 35 [] [] (w_X2_areSoIn G h_t h_t_bells h_t_minutes h_p1 h_p1_rang h_t_rang h_p1_valley h_p1_underWay h_p1_counting h_p1_cameByRopes t_count t_bells t_minutes p1_lastDue p1_rang t_rang)) → (y.1 = 1 → KJ X Q G A 3 43 [] [] (w_X2_areSoIn G h_t h_t_bells h_t_minutes h_p1 h_p1_rang h_t_rang h_p1_valley h_p1_underWay h_p1_counting h_p1_cameByRopes t_count t_bells t_minutes p1_lastDue p1_rang t_rang)) → KJ X Q G A 3 2 [(0, .ref h_t), (1, .ref h_p1), (2, .int x2)] [] (w_X2_areSoIn G h_t h_t_bells h_t_minutes h_p1 h_p1_rang h_t_rang h_p1_valley h_p1_underWay h_p1_counting h_p1_cameByRopes t_count t_bells t_minutes p1_lastDue p1_rang t_rang) := by
    intro Q A t_count t_bells t_minutes p1_lastDue p1_rang t_rang n
    induction n with
    | zero => intro x2 y hm _ _; exact noS hm
    | succ n ih =>
      intro x2 y hm k0 k1
      rw [L_X2_areSoIn_2] at hm
      refine k_iload_n 2 cx dX2_areSoIn_2 rfl 2 rfl ?_
      refine k_aload_n 3 cx dX2_areSoIn_3 rfl 0 rfl ?_
      refine fgX2_22 4 cx dX2_areSoIn_4 0 rfl rfl ?_
      refine k_icmp_ge 7 cx (tgt := 43) dX2_areSoIn_7 (by decide) hm (fun hc hm => ?_) (fun hc hm => ?_)
      · obtain rfl := Option.some.inj hm
        refine k_lv [] rfl ?_
        exact k1 rfl
      · refine k_aload_n 10 cx dX2_areSoIn_10 rfl 1 rfl ?_
        refine k_aload_n 11 cx dX2_areSoIn_11 rfl 0 rfl ?_
        refine fgX2_9 12 cx dX2_areSoIn_12 0 rfl rfl ?_
        refine k_iload_n 15 cx dX2_areSoIn_15 rfl 2 rfl ?_
        refine k_iald 16 cx dX2_areSoIn_16 1 rfl hm (fun hm => ?_)
        refine k_aload_n 17 cx dX2_areSoIn_17 rfl 0 rfl ?_
        refine fgX2_15 18 cx dX2_areSoIn_18 0 rfl rfl ?_
        refine k_iload_n 21 cx dX2_areSoIn_21 rfl 2 rfl ?_
        refine k_iald 22 cx dX2_areSoIn_22 2 rfl hm (fun hm => ?_)
        obtain ⟨u7, hu7, hm⟩ := bnd hm
        refine k_callV 23 cx cwX2_26 (c_X0_rangAt X.2.1 G h_p1 h_p1_rang h_p1_valley h_p1_underWay h_p1_counting h_p1_cameByRopes p1_lastDue p1_rang (t_bells (Int32.toNatClampNeg x2)) (t_minutes (Int32.toNatClampNeg x2)) hu7) dX2_areSoIn_23 ⟨by decide, by decide⟩ rfl rfl (rest := []) rfl (Nat.le_of_ble_eq_true rfl) [3, 4] (by decide) rfl rfl (w2 := (w_X2_areSoIn G h_t h_t_bells h_t_minutes h_p1 h_p1_rang h_t_rang h_p1_valley h_p1_underWay h_p1_counting h_p1_cameByRopes t_count t_bells t_minutes p1_lastDue p1_rang t_rang)) [0, 1, 2, 5] 6 rfl [(h_t, .inr (2, [.ref h_t_bells, .ref h_t_minutes, .ref h_t_rang, .int t_count])), (h_t_bells, .inl (G.2.1, 6, .inl t_bells)), (h_t_minutes, .inl (G.2.1, 6, .inl t_minutes)), (h_t_rang, .inl (G.2.2.1, 6, .inl t_rang))] rfl rfl rfl (by decide) (st2 := [.int u7]) rfl ?_
        refine k_aload_n 26 cx dX2_areSoIn_26 rfl 0 rfl ?_
        refine fgX2_18 27 cx dX2_areSoIn_27 0 rfl rfl ?_
        refine k_iload_n 30 cx dX2_areSoIn_30 rfl 2 rfl ?_
        refine k_zald 31 cx dX2_areSoIn_31 5 rfl hm (fun hm => ?_)
        refine k_icmp_eq 32 cx (tgt := 37) dX2_areSoIn_32 (by decide) hm (fun hc hm => ?_) (fun hc hm => ?_)
        · refine k_iinc 37 cx dX2_areSoIn_37 2 rfl (by decide) (by decide) (fun v8 => [(2, .int v8), (0, .ref h_t), (1, .ref h_p1)]) (fun _ => rfl) hm (fun v8 hm => ?_)
          refine k_goto 40 cx (tgt := 2) dX2_areSoIn_40 (by decide) ?_
          refine k_lv [1, 2, 0] rfl ?_
          exact ih v8 _ hm k0 k1
        · obtain rfl := Option.some.inj hm
          refine k_lv [] rfl ?_
          exact k0 rfl
  unfold M_X2_areSoIn at hm
  refine k_iconst 0 cx (v := (0 : Int32)) dX2_areSoIn_0 (by decide) ?_
  refine k_istore_n 1 cx dX2_areSoIn_1 rfl (by decide) (lv' := [(2, .int (0 : Int32)), (0, .ref h_t), (1, .ref h_p1)]) rfl ?_
  refine k_lv [1, 2, 0] rfl ?_
  obtain ⟨u9, hu9, hm⟩ := bnd hm
  refine lp2 _ _ t_count t_bells t_minutes p1_lastDue p1_rang t_rang 1000 (0 : Int32) u9 hu9 (fun hk => ?_) (fun hk => ?_)
  · have hm := (if_pos hk).symm.trans hm
    refine k_iconst 35 cx (v := (0 : Int32)) dX2_areSoIn_35 (by decide) ?_
    obtain rfl := Option.some.inj hm
    exact k_zret 36 cx dX2_areSoIn_36 (by decide) rfl rfl
  · have hm := (if_neg (by rw [hk]; decide)).symm.trans hm
    refine k_iconst 43 cx (v := (1 : Int32)) dX2_areSoIn_43 (by decide) ?_
    obtain rfl := Option.some.inj hm
    exact k_zret 44 cx dX2_areSoIn_44 (by decide) rfl rfl
set_option maxRecDepth 100000 in
theorem fgX3_9 {X : XT} {Q : State → Prop} {G : GT} {A : Nat → Prop} {nL : Nat} {lv : List (Nat × Value)} {st : List Value} {ws : va_W} {cc : ByteArray} {fr lo : Nat} {ret : Option FieldType} (pc : Nat) (cx : Cx X cc nL RX3 G fr lo ret) {a : Nat} {fs : List Value} {v : Value} (hd : decode cc pc = .ok (.getfield 9, 3)) (q0 : Nat) (he : ws[q0]? = some (a, .inr (3, fs))) (hv : fs[0]? = some v) (k : KJ X Q G A nL (pc + 3) lv (v :: st) ws) : KJ X Q G A nL pc lv (.ref a :: st) ws :=
  k_get (ref := RX3) (T := TX3) (N := 3) (ci := 3) pc cx inX3 rfl 0 (by decide) (tb_m (i := 222) rfl rfl) rfl hd q0 he hv k
set_option maxRecDepth 100000 in
theorem fpX3_15 {X : XT} {Q : State → Prop} {G : GT} {A : Nat → Prop} {nL : Nat} {lv : List (Nat × Value)} {st : List Value} {ws : va_W} {cc : ByteArray} {fr lo : Nat} {ret : Option FieldType} (pc : Nat) (cx : Cx X cc nL RX3 G fr lo ret) {a : Nat} {fs : List Value} {v : Value} (hd : decode cc pc = .ok (.putfield 15, 3)) (q0 : Nat) (he : ws[q0]? = some (a, .inr (3, fs))) (hn : narrow .int v = v) (hfit : fits .int v = true) (hlen : 2 < fs.length) (w1 : va_W) (hw : ws.set q0 (a, .inr (3, fs.set 2 v)) = w1) (k : KJ X Q G A nL (pc + 3) lv st w1) : KJ X Q G A nL pc lv (v :: .ref a :: st) ws :=
  k_put (ref := RX3) (T := TX3) (N := 3) (ci := 3) (ty := .int) pc cx inX3 rfl tyX3 tyX3_ok nmX3 2 (by decide) (tb_m (i := 226) rfl rfl) rfl rfl (by decide +kernel) hd q0 he hn hfit hlen w1 hw k
set_option maxRecDepth 100000 in
theorem fpX3_25 {X : XT} {Q : State → Prop} {G : GT} {A : Nat → Prop} {nL : Nat} {lv : List (Nat × Value)} {st : List Value} {ws : va_W} {cc : ByteArray} {fr lo : Nat} {ret : Option FieldType} (pc : Nat) (cx : Cx X cc nL RX3 G fr lo ret) {a : Nat} {fs : List Value} {v : Value} (hd : decode cc pc = .ok (.putfield 25, 3)) (q0 : Nat) (he : ws[q0]? = some (a, .inr (3, fs))) (hn : narrow .int v = v) (hfit : fits .int v = true) (hlen : 1 < fs.length) (w1 : va_W) (hw : ws.set q0 (a, .inr (3, fs.set 1 v)) = w1) (k : KJ X Q G A nL (pc + 3) lv st w1) : KJ X Q G A nL pc lv (v :: .ref a :: st) ws :=
  k_put (ref := RX3) (T := TX3) (N := 3) (ci := 3) (ty := .int) pc cx inX3 rfl tyX3 tyX3_ok nmX3 1 (by decide) (tb_m (i := 224) rfl rfl) rfl rfl (by decide +kernel) hd q0 he hn hfit hlen w1 hw k
set_option maxRecDepth 100000 in
theorem cwX3_19 : CWS RX3 19 yJ7_fill_53178 cJ7_fill_53178 4 none 2 := ⟨tb_m (i := 566) rfl rfl, tb_m (i := 403) rfl rfl, tb_m (i := 60) rfl rfl, tb_m (i := 404) rfl rfl, ⟨by decide +kernel, by decide +kernel, by decide +kernel⟩⟩
def w_X3_begin (G : GT) (h_t : Nat) (h_t_cells : Nat) (t_lane : Int32) (t_size : Int32) (t_cells : (Nat → Int32)) : va_W := [(h_t, .inr (3, [.ref h_t_cells, .int t_lane, .int t_size])), (h_t_cells, .inl (G.2.1, 60, .inl t_cells))]
def M_X3_begin (t_cells : (Nat → Int32)) (a1 : Int32) (a2 : Int32) : Option (Int32 × Int32 × (Nat → Int32)) := ((M_J7_fill_53178 60 t_cells (0 : Int32)).bind (fun u1 => (some (a1, a2, u1))))
set_option maxHeartbeats 4000000 in
set_option maxRecDepth 100000 in
theorem c_X3_begin (l : Launch) (G : GT) (h_t : Nat) (h_t_cells : Nat) (t_lane : Int32) (t_size : Int32) (t_cells : (Nat → Int32)) (a1 : Int32) (a2 : Int32) {u : Int32 × Int32 × (Nat → Int32)} (hm : M_X3_begin t_cells a1 a2 = some u) : CT l yX3_begin cX3_begin 3 none 1 23 [.ref h_t, .int a1, .int a2] G (w_X3_begin G h_t h_t_cells t_lane t_size t_cells) none (w_X3_begin G h_t h_t_cells u.1 u.2.1 u.2.2) := by
  refine ct_intro RX3 [(0, .ref h_t), (1, .int a1), (2, .int a2)] (by decide) rfl (Nat.le_of_ble_eq_true rfl) rfl (fun X hX cx => ?_)
  unfold M_X3_begin at hm
  refine k_aload_n 0 cx dX3_begin_0 rfl 0 rfl ?_
  refine fgX3_9 1 cx dX3_begin_1 0 rfl rfl ?_
  refine k_iconst 4 cx (v := (0 : Int32)) dX3_begin_4 (by decide) ?_
  obtain ⟨u1, hu1, hm⟩ := bnd hm
  refine k_callS 5 cx cwX3_19 (c_J7_fill_53178 X.2.1 G 60 h_t_cells t_cells (0 : Int32) hu1) dX3_begin_5 ⟨by decide, by decide⟩ rfl (rest := []) rfl (Nat.le_of_ble_eq_true rfl) [1] (by decide) rfl rfl (w2 := (w_X3_begin G h_t h_t_cells t_lane t_size u1)) [0] 2 rfl [(h_t, .inr (3, [.ref h_t_cells, .int t_lane, .int t_size]))] rfl rfl rfl (by decide) (st2 := []) rfl ?_
  refine k_aload_n 8 cx dX3_begin_8 rfl 0 rfl ?_
  refine k_iload_n 9 cx dX3_begin_9 rfl 1 rfl ?_
  refine fpX3_25 10 cx dX3_begin_10 0 rfl rfl rfl (by simp) (w1 := (w_X3_begin G h_t h_t_cells a1 t_size u1)) rfl ?_
  refine k_aload_n 13 cx dX3_begin_13 rfl 0 rfl ?_
  refine k_iload_n 14 cx dX3_begin_14 rfl 2 rfl ?_
  refine fpX3_15 15 cx dX3_begin_15 0 rfl rfl rfl (by simp) (w1 := (w_X3_begin G h_t h_t_cells a1 a2 u1)) rfl ?_
  obtain rfl := Option.some.inj hm
  exact k_vret 18 cx dX3_begin_18 rfl rfl
set_option maxRecDepth 100000 in
theorem fgX3_15 {X : XT} {Q : State → Prop} {G : GT} {A : Nat → Prop} {nL : Nat} {lv : List (Nat × Value)} {st : List Value} {ws : va_W} {cc : ByteArray} {fr lo : Nat} {ret : Option FieldType} (pc : Nat) (cx : Cx X cc nL RX3 G fr lo ret) {a : Nat} {fs : List Value} {v : Value} (hd : decode cc pc = .ok (.getfield 15, 3)) (q0 : Nat) (he : ws[q0]? = some (a, .inr (3, fs))) (hv : fs[2]? = some v) (k : KJ X Q G A nL (pc + 3) lv (v :: st) ws) : KJ X Q G A nL pc lv (.ref a :: st) ws :=
  k_get (ref := RX3) (T := TX3) (N := 3) (ci := 3) pc cx inX3 rfl 2 (by decide) (tb_m (i := 226) rfl rfl) rfl hd q0 he hv k
def w_X3_hasRow (G : GT) (h_t : Nat) (h_t_cells : Nat) (t_lane : Int32) (t_size : Int32) : va_W := [(h_t, .inr (3, [.ref h_t_cells, .int t_lane, .int t_size]))]
def M_X3_hasRow (t_size : Int32) : Option (Int32) := (if t_size = (-1 : Int32) then (some (0 : Int32)) else (some (1 : Int32)))
set_option maxHeartbeats 4000000 in
set_option maxRecDepth 100000 in
theorem c_X3_hasRow (l : Launch) (G : GT) (h_t : Nat) (h_t_cells : Nat) (t_lane : Int32) (t_size : Int32) {u : Int32} (hm : M_X3_hasRow t_size = some u) : CT l yX3_hasRow cX3_hasRow 1 (some .boolean) 0 0 [.ref h_t] G (w_X3_hasRow G h_t h_t_cells t_lane t_size) (some (.int u)) (w_X3_hasRow G h_t h_t_cells t_lane t_size) := by
  refine ct_intro RX3 [(0, .ref h_t)] (by decide) rfl (Nat.le_of_ble_eq_true rfl) rfl (fun X hX cx => ?_)
  unfold M_X3_hasRow at hm
  refine k_aload_n 0 cx dX3_hasRow_0 rfl 0 rfl ?_
  refine fgX3_15 1 cx dX3_hasRow_1 0 rfl rfl ?_
  refine k_iconst 4 cx (v := (-1 : Int32)) dX3_hasRow_4 (by decide) ?_
  refine k_icmp_eq 5 cx (tgt := 12) dX3_hasRow_5 (by decide) hm (fun hc hm => ?_) (fun hc hm => ?_)
  · refine k_iconst 12 cx (v := (0 : Int32)) dX3_hasRow_12 (by decide) ?_
    obtain rfl := Option.some.inj hm
    exact k_zret 13 cx dX3_hasRow_13 (by decide) rfl rfl
  · refine k_iconst 8 cx (v := (1 : Int32)) dX3_hasRow_8 (by decide) ?_
    refine k_goto 9 cx (tgt := 13) dX3_hasRow_9 (by decide) ?_
    obtain rfl := Option.some.inj hm
    exact k_zret 13 cx dX3_hasRow_13 (by decide) rfl rfl
def w_X3_hasCell (G : GT) (h_t : Nat) (h_t_cells : Nat) (t_lane : Int32) (t_size : Int32) : va_W := [(h_t, .inr (3, [.ref h_t_cells, .int t_lane, .int t_size]))]
def M_X3_hasCell (t_size : Int32) (a1 : Int32) : Option (Int32) := (if a1 < 0 then (some (0 : Int32)) else (if t_size ≤ a1 then (some (0 : Int32)) else (some (1 : Int32))))
set_option maxHeartbeats 4000000 in
set_option maxRecDepth 100000 in
theorem c_X3_hasCell (l : Launch) (G : GT) (h_t : Nat) (h_t_cells : Nat) (t_lane : Int32) (t_size : Int32) (a1 : Int32) {u : Int32} (hm : M_X3_hasCell t_size a1 = some u) : CT l yX3_hasCell cX3_hasCell 2 (some .boolean) 0 0 [.ref h_t, .int a1] G (w_X3_hasCell G h_t h_t_cells t_lane t_size) (some (.int u)) (w_X3_hasCell G h_t h_t_cells t_lane t_size) := by
  refine ct_intro RX3 [(0, .ref h_t), (1, .int a1)] (by decide) rfl (Nat.le_of_ble_eq_true rfl) rfl (fun X hX cx => ?_)
  unfold M_X3_hasCell at hm
  refine k_iload_n 0 cx dX3_hasCell_0 rfl 1 rfl ?_
  refine k_if_lt 1 cx (tgt := 16) dX3_hasCell_1 (by decide) hm (fun hc hm => ?_) (fun hc hm => ?_)
  · refine k_iconst 16 cx (v := (0 : Int32)) dX3_hasCell_16 (by decide) ?_
    obtain rfl := Option.some.inj hm
    exact k_zret 17 cx dX3_hasCell_17 (by decide) rfl rfl
  · refine k_iload_n 4 cx dX3_hasCell_4 rfl 1 rfl ?_
    refine k_aload_n 5 cx dX3_hasCell_5 rfl 0 rfl ?_
    refine fgX3_15 6 cx dX3_hasCell_6 0 rfl rfl ?_
    refine k_icmp_ge 9 cx (tgt := 16) dX3_hasCell_9 (by decide) hm (fun hc hm => ?_) (fun hc hm => ?_)
    · refine k_iconst 16 cx (v := (0 : Int32)) dX3_hasCell_16 (by decide) ?_
      obtain rfl := Option.some.inj hm
      exact k_zret 17 cx dX3_hasCell_17 (by decide) rfl rfl
    · refine k_iconst 12 cx (v := (1 : Int32)) dX3_hasCell_12 (by decide) ?_
      refine k_goto 13 cx (tgt := 17) dX3_hasCell_13 (by decide) ?_
      obtain rfl := Option.some.inj hm
      exact k_zret 17 cx dX3_hasCell_17 (by decide) rfl rfl
def w_X3_hasCells (G : GT) (h_t : Nat) (h_t_cells : Nat) (t_lane : Int32) (t_size : Int32) : va_W := [(h_t, .inr (3, [.ref h_t_cells, .int t_lane, .int t_size]))]
def M_X3_hasCells (t_size : Int32) (a1 : Int32) (a2 : Int32) : Option (Int32) := (if a1 < 0 then (some (0 : Int32)) else (if t_size < a1 then (some (0 : Int32)) else (if a2 < 0 then (some (0 : Int32)) else (if (t_size - a1) < a2 then (some (0 : Int32)) else (some (1 : Int32))))))
set_option maxHeartbeats 4000000 in
set_option maxRecDepth 100000 in
theorem c_X3_hasCells (l : Launch) (G : GT) (h_t : Nat) (h_t_cells : Nat) (t_lane : Int32) (t_size : Int32) (a1 : Int32) (a2 : Int32) {u : Int32} (hm : M_X3_hasCells t_size a1 a2 = some u) : CT l yX3_hasCells cX3_hasCells 3 (some .boolean) 0 0 [.ref h_t, .int a1, .int a2] G (w_X3_hasCells G h_t h_t_cells t_lane t_size) (some (.int u)) (w_X3_hasCells G h_t h_t_cells t_lane t_size) := by
  refine ct_intro RX3 [(0, .ref h_t), (1, .int a1), (2, .int a2)] (by decide) rfl (Nat.le_of_ble_eq_true rfl) rfl (fun X hX cx => ?_)
  unfold M_X3_hasCells at hm
  refine k_iload_n 0 cx dX3_hasCells_0 rfl 1 rfl ?_
  refine k_if_lt 1 cx (tgt := 30) dX3_hasCells_1 (by decide) hm (fun hc hm => ?_) (fun hc hm => ?_)
  · refine k_iconst 30 cx (v := (0 : Int32)) dX3_hasCells_30 (by decide) ?_
    obtain rfl := Option.some.inj hm
    exact k_zret 31 cx dX3_hasCells_31 (by decide) rfl rfl
  · refine k_iload_n 4 cx dX3_hasCells_4 rfl 1 rfl ?_
    refine k_aload_n 5 cx dX3_hasCells_5 rfl 0 rfl ?_
    refine fgX3_15 6 cx dX3_hasCells_6 0 rfl rfl ?_
    refine k_icmp_gt 9 cx (tgt := 30) dX3_hasCells_9 (by decide) hm (fun hc hm => ?_) (fun hc hm => ?_)
    · refine k_iconst 30 cx (v := (0 : Int32)) dX3_hasCells_30 (by decide) ?_
      obtain rfl := Option.some.inj hm
      exact k_zret 31 cx dX3_hasCells_31 (by decide) rfl rfl
    · refine k_iload_n 12 cx dX3_hasCells_12 rfl 2 rfl ?_
      refine k_if_lt 13 cx (tgt := 30) dX3_hasCells_13 (by decide) hm (fun hc hm => ?_) (fun hc hm => ?_)
      · refine k_iconst 30 cx (v := (0 : Int32)) dX3_hasCells_30 (by decide) ?_
        obtain rfl := Option.some.inj hm
        exact k_zret 31 cx dX3_hasCells_31 (by decide) rfl rfl
      · refine k_iload_n 16 cx dX3_hasCells_16 rfl 2 rfl ?_
        refine k_aload_n 17 cx dX3_hasCells_17 rfl 0 rfl ?_
        refine fgX3_15 18 cx dX3_hasCells_18 0 rfl rfl ?_
        refine k_iload_n 21 cx dX3_hasCells_21 rfl 1 rfl ?_
        refine k_isub 22 cx dX3_hasCells_22 ?_
        refine k_icmp_gt 23 cx (tgt := 30) dX3_hasCells_23 (by decide) hm (fun hc hm => ?_) (fun hc hm => ?_)
        · refine k_iconst 30 cx (v := (0 : Int32)) dX3_hasCells_30 (by decide) ?_
          obtain rfl := Option.some.inj hm
          exact k_zret 31 cx dX3_hasCells_31 (by decide) rfl rfl
        · refine k_iconst 26 cx (v := (1 : Int32)) dX3_hasCells_26 (by decide) ?_
          refine k_goto 27 cx (tgt := 31) dX3_hasCells_27 (by decide) ?_
          obtain rfl := Option.some.inj hm
          exact k_zret 31 cx dX3_hasCells_31 (by decide) rfl rfl
set_option maxRecDepth 100000 in
theorem fgX3_25 {X : XT} {Q : State → Prop} {G : GT} {A : Nat → Prop} {nL : Nat} {lv : List (Nat × Value)} {st : List Value} {ws : va_W} {cc : ByteArray} {fr lo : Nat} {ret : Option FieldType} (pc : Nat) (cx : Cx X cc nL RX3 G fr lo ret) {a : Nat} {fs : List Value} {v : Value} (hd : decode cc pc = .ok (.getfield 25, 3)) (q0 : Nat) (he : ws[q0]? = some (a, .inr (3, fs))) (hv : fs[1]? = some v) (k : KJ X Q G A nL (pc + 3) lv (v :: st) ws) : KJ X Q G A nL pc lv (.ref a :: st) ws :=
  k_get (ref := RX3) (T := TX3) (N := 3) (ci := 3) pc cx inX3 rfl 1 (by decide) (tb_m (i := 224) rfl rfl) rfl hd q0 he hv k
set_option maxRecDepth 100000 in
theorem cwX3_28 : CWV RX3 28 RX3 yX3_hasRow cX3_hasRow 1 (some .boolean) 0 3 TX3 3 := ⟨tb_m (i := 287) rfl rfl, tb_m (i := 288) rfl rfl, tb_m (i := 289) rfl rfl, tb_m (i := 57) rfl rfl, tb_m (i := 290) rfl rfl, ⟨by decide +kernel, by decide +kernel, by decide +kernel⟩, rfl⟩
def w_X3_faultOfLane (G : GT) (h_t : Nat) (h_t_cells : Nat) (t_lane : Int32) (t_size : Int32) : va_W := [(h_t, .inr (3, [.ref h_t_cells, .int t_lane, .int t_size]))]
def M_X3_faultOfLane (t_lane : Int32) (t_size : Int32) (a1 : Int32) : Option (Int32) := ((M_X3_hasRow t_size).bind (fun u1 => (if u1 = 0 then (some (1 : Int32)) else (if t_lane = a1 then (some (0 : Int32)) else (some (2 : Int32))))))
set_option maxHeartbeats 4000000 in
set_option maxRecDepth 100000 in
theorem c_X3_faultOfLane (l : Launch) (G : GT) (h_t : Nat) (h_t_cells : Nat) (t_lane : Int32) (t_size : Int32) (a1 : Int32) {u : Int32} (hm : M_X3_faultOfLane t_lane t_size a1 = some u) : CT l yX3_faultOfLane cX3_faultOfLane 2 (some .int) 1 20 [.ref h_t, .int a1] G (w_X3_faultOfLane G h_t h_t_cells t_lane t_size) (some (.int u)) (w_X3_faultOfLane G h_t h_t_cells t_lane t_size) := by
  refine ct_intro RX3 [(0, .ref h_t), (1, .int a1)] (by decide) rfl (Nat.le_of_ble_eq_true rfl) rfl (fun X hX cx => ?_)
  unfold M_X3_faultOfLane at hm
  refine k_aload_n 0 cx dX3_faultOfLane_0 rfl 0 rfl ?_
  obtain ⟨u1, hu1, hm⟩ := bnd hm
  refine k_callV 1 cx cwX3_28 (c_X3_hasRow X.2.1 G h_t h_t_cells t_lane t_size hu1) dX3_faultOfLane_1 ⟨by decide, by decide⟩ rfl rfl (rest := []) rfl (Nat.le_of_ble_eq_true rfl) [0] (by decide) rfl rfl (w2 := (w_X3_faultOfLane G h_t h_t_cells t_lane t_size)) [] 1 rfl [] rfl rfl rfl (by decide) (st2 := [.int u1]) rfl ?_
  refine k_if_ne 4 cx (tgt := 9) dX3_faultOfLane_4 (by decide) hm (fun hc hm => ?_) (fun hc hm => ?_)
  · refine k_iconst 7 cx (v := (1 : Int32)) dX3_faultOfLane_7 (by decide) ?_
    obtain rfl := Option.some.inj hm
    exact k_iret 8 cx dX3_faultOfLane_8 rfl rfl
  · refine k_aload_n 9 cx dX3_faultOfLane_9 rfl 0 rfl ?_
    refine fgX3_25 10 cx dX3_faultOfLane_10 0 rfl rfl ?_
    refine k_iload_n 13 cx dX3_faultOfLane_13 rfl 1 rfl ?_
    refine k_icmp_ne 14 cx (tgt := 21) dX3_faultOfLane_14 (by decide) hm (fun hc hm => ?_) (fun hc hm => ?_)
    · refine k_iconst 17 cx (v := (0 : Int32)) dX3_faultOfLane_17 (by decide) ?_
      refine k_goto 18 cx (tgt := 22) dX3_faultOfLane_18 (by decide) ?_
      obtain rfl := Option.some.inj hm
      exact k_iret 22 cx dX3_faultOfLane_22 rfl rfl
    · refine k_iconst 21 cx (v := (2 : Int32)) dX3_faultOfLane_21 (by decide) ?_
      obtain rfl := Option.some.inj hm
      exact k_iret 22 cx dX3_faultOfLane_22 rfl rfl
set_option maxRecDepth 100000 in
theorem cwX3_32 : CWV RX3 32 RX3 yX3_faultOfLane cX3_faultOfLane 2 (some .int) 1 3 TX3 3 := ⟨tb_m (i := 283) rfl rfl, tb_m (i := 284) rfl rfl, tb_m (i := 285) rfl rfl, tb_m (i := 57) rfl rfl, tb_m (i := 286) rfl rfl, ⟨by decide +kernel, by decide +kernel, by decide +kernel⟩, rfl⟩
set_option maxRecDepth 100000 in
theorem cwX3_36 : CWV RX3 36 RX3 yX3_hasCells cX3_hasCells 3 (some .boolean) 2 3 TX3 3 := ⟨tb_m (i := 291) rfl rfl, tb_m (i := 292) rfl rfl, tb_m (i := 293) rfl rfl, tb_m (i := 57) rfl rfl, tb_m (i := 294) rfl rfl, ⟨by decide +kernel, by decide +kernel, by decide +kernel⟩, rfl⟩
def w_X3_faultOfCells (G : GT) (h_t : Nat) (h_t_cells : Nat) (t_lane : Int32) (t_size : Int32) : va_W := [(h_t, .inr (3, [.ref h_t_cells, .int t_lane, .int t_size]))]
def M_X3_faultOfCells (t_lane : Int32) (t_size : Int32) (a1 : Int32) (a2 : Int32) (a3 : Int32) : Option (Int32) := ((M_X3_faultOfLane t_lane t_size a1).bind (fun u1 => (if u1 = 0 then (if 0 ≤ a3 then ((M_X3_hasCells t_size a2 a3).bind (fun u2 => (if u2 = 0 then (some (3 : Int32)) else (some (0 : Int32))))) else (some (4 : Int32))) else (some u1))))
set_option maxHeartbeats 4000000 in
set_option maxRecDepth 100000 in
theorem c_X3_faultOfCells (l : Launch) (G : GT) (h_t : Nat) (h_t_cells : Nat) (t_lane : Int32) (t_size : Int32) (a1 : Int32) (a2 : Int32) (a3 : Int32) {u : Int32} (hm : M_X3_faultOfCells t_lane t_size a1 a2 a3 = some u) : CT l yX3_faultOfCells cX3_faultOfCells 5 (some .int) 2 41 [.ref h_t, .int a1, .int a2, .int a3] G (w_X3_faultOfCells G h_t h_t_cells t_lane t_size) (some (.int u)) (w_X3_faultOfCells G h_t h_t_cells t_lane t_size) := by
  refine ct_intro RX3 [(0, .ref h_t), (1, .int a1), (2, .int a2), (3, .int a3)] (by decide) rfl (Nat.le_of_ble_eq_true rfl) rfl (fun X hX cx => ?_)
  unfold M_X3_faultOfCells at hm
  refine k_aload_n 0 cx dX3_faultOfCells_0 rfl 0 rfl ?_
  refine k_iload_n 1 cx dX3_faultOfCells_1 rfl 1 rfl ?_
  obtain ⟨u1, hu1, hm⟩ := bnd hm
  refine k_callV 2 cx cwX3_32 (c_X3_faultOfLane X.2.1 G h_t h_t_cells t_lane t_size a1 hu1) dX3_faultOfCells_2 ⟨by decide, by decide⟩ rfl rfl (rest := []) rfl (Nat.le_of_ble_eq_true rfl) [0] (by decide) rfl rfl (w2 := (w_X3_faultOfCells G h_t h_t_cells t_lane t_size)) [] 1 rfl [] rfl rfl rfl (by decide) (st2 := [.int u1]) rfl ?_
  refine k_istore 5 cx dX3_faultOfCells_5 (by decide) (lv' := [(4, .int u1), (0, .ref h_t), (1, .int a1), (2, .int a2), (3, .int a3)]) rfl ?_
  refine k_iload 7 cx dX3_faultOfCells_7 0 rfl ?_
  refine k_if_eq 9 cx (tgt := 15) dX3_faultOfCells_9 (by decide) hm (fun hc hm => ?_) (fun hc hm => ?_)
  · refine k_iload_n 15 cx dX3_faultOfCells_15 rfl 4 rfl ?_
    refine k_if_ge 16 cx (tgt := 21) dX3_faultOfCells_16 (by decide) hm (fun hc hm => ?_) (fun hc hm => ?_)
    · refine k_aload_n 21 cx dX3_faultOfCells_21 rfl 1 rfl ?_
      refine k_iload_n 22 cx dX3_faultOfCells_22 rfl 3 rfl ?_
      refine k_iload_n 23 cx dX3_faultOfCells_23 rfl 4 rfl ?_
      obtain ⟨u2, hu2, hm⟩ := bnd hm
      refine k_callV 24 cx cwX3_36 (c_X3_hasCells X.2.1 G h_t h_t_cells t_lane t_size a2 a3 hu2) dX3_faultOfCells_24 ⟨by decide, by decide⟩ rfl rfl (rest := []) rfl (Nat.le_of_ble_eq_true rfl) [0] (by decide) rfl rfl (w2 := (w_X3_faultOfCells G h_t h_t_cells t_lane t_size)) [] 1 rfl [] rfl rfl rfl (by decide) (st2 := [.int u2]) rfl ?_
      refine k_if_eq 27 cx (tgt := 34) dX3_faultOfCells_27 (by decide) hm (fun hc hm => ?_) (fun hc hm => ?_)
      · refine k_iconst 34 cx (v := (3 : Int32)) dX3_faultOfCells_34 (by decide) ?_
        obtain rfl := Option.some.inj hm
        exact k_iret 35 cx dX3_faultOfCells_35 rfl rfl
      · refine k_iconst 30 cx (v := (0 : Int32)) dX3_faultOfCells_30 (by decide) ?_
        refine k_goto 31 cx (tgt := 35) dX3_faultOfCells_31 (by decide) ?_
        obtain rfl := Option.some.inj hm
        exact k_iret 35 cx dX3_faultOfCells_35 rfl rfl
    · refine k_iconst 19 cx (v := (4 : Int32)) dX3_faultOfCells_19 (by decide) ?_
      obtain rfl := Option.some.inj hm
      exact k_iret 20 cx dX3_faultOfCells_20 rfl rfl
  · refine k_iload 12 cx dX3_faultOfCells_12 0 rfl ?_
    obtain rfl := Option.some.inj hm
    exact k_iret 14 cx dX3_faultOfCells_14 rfl rfl
def w_X3_cutToLane (G : GT) (h_t : Nat) (h_t_cells : Nat) (t_lane : Int32) (t_size : Int32) : va_W := [(h_t, .inr (3, [.ref h_t_cells, .int t_lane, .int t_size]))]
def M_X3_cutToLane (t_lane : Int32) (a1 : Int32) : Option (Int32) := (if t_lane = (0 : Int32) then (some (Int8.toInt32 (Int32.toInt8 a1))) else (if t_lane = (1 : Int32) then (some (Int16.toInt32 (Int32.toInt16 a1))) else (some a1)))
set_option maxHeartbeats 4000000 in
set_option maxRecDepth 100000 in
theorem c_X3_cutToLane (l : Launch) (G : GT) (h_t : Nat) (h_t_cells : Nat) (t_lane : Int32) (t_size : Int32) (a1 : Int32) {u : Int32} (hm : M_X3_cutToLane t_lane a1 = some u) : CT l yX3_cutToLane cX3_cutToLane 2 (some .int) 0 0 [.ref h_t, .int a1] G (w_X3_cutToLane G h_t h_t_cells t_lane t_size) (some (.int u)) (w_X3_cutToLane G h_t h_t_cells t_lane t_size) := by
  refine ct_intro RX3 [(0, .ref h_t), (1, .int a1)] (by decide) rfl (Nat.le_of_ble_eq_true rfl) rfl (fun X hX cx => ?_)
  unfold M_X3_cutToLane at hm
  refine k_aload_n 0 cx dX3_cutToLane_0 rfl 0 rfl ?_
  refine fgX3_25 1 cx dX3_cutToLane_1 0 rfl rfl ?_
  rcases m_if hm with ⟨hc0, hm⟩ | ⟨hc0, hm⟩
  · refine k_lookup 4 cx (off := 28) (tgt := 32) dX3_cutToLane_4 (by decide) (by rw [hc0]; rfl) (by decide) ?_
    refine k_iload_n 32 cx dX3_cutToLane_32 rfl 1 rfl ?_
    refine k_i2b 33 cx dX3_cutToLane_33 ?_
    obtain rfl := Option.some.inj hm
    exact k_iret 34 cx dX3_cutToLane_34 rfl rfl
  · rcases m_if hm with ⟨hc1, hm⟩ | ⟨hc1, hm⟩
    · refine k_lookup 4 cx (off := 31) (tgt := 35) dX3_cutToLane_4 (by decide) (by rw [hc1]; rfl) (by decide) ?_
      refine k_iload_n 35 cx dX3_cutToLane_35 rfl 1 rfl ?_
      refine k_i2s 36 cx dX3_cutToLane_36 ?_
      obtain rfl := Option.some.inj hm
      exact k_iret 37 cx dX3_cutToLane_37 rfl rfl
    · have n0 : t_lane.toInt ≠ 0 := fun h => hc0 (Int32.toInt_inj.mp (h.trans rfl))
      have n1 : t_lane.toInt ≠ 1 := fun h => hc1 (Int32.toInt_inj.mp (h.trans rfl))
      refine k_lookup 4 cx (off := 34) (tgt := 38) dX3_cutToLane_4 (by decide) (by simp [Op.lookupswitch.offset, n0, Ne.symm n0, n1, Ne.symm n1]) (by decide) ?_
      refine k_iload_n 38 cx dX3_cutToLane_38 rfl 1 rfl ?_
      obtain rfl := Option.some.inj hm
      exact k_iret 39 cx dX3_cutToLane_39 rfl rfl
set_option maxRecDepth 100000 in
theorem fpX5_27 {X : XT} {Q : State → Prop} {G : GT} {A : Nat → Prop} {nL : Nat} {lv : List (Nat × Value)} {st : List Value} {ws : va_W} {cc : ByteArray} {fr lo : Nat} {ret : Option FieldType} (pc : Nat) (cx : Cx X cc nL RX5 G fr lo ret) {a : Nat} {fs : List Value} {v : Value} (hd : decode cc pc = .ok (.putfield 27, 3)) (q0 : Nat) (he : ws[q0]? = some (a, .inr (5, fs))) (hn : narrow .int v = v) (hfit : fits .int v = true) (hlen : 5 < fs.length) (w1 : va_W) (hw : ws.set q0 (a, .inr (5, fs.set 5 v)) = w1) (k : KJ X Q G A nL (pc + 3) lv st w1) : KJ X Q G A nL pc lv (v :: .ref a :: st) ws :=
  k_put (ref := RX5) (T := TX5) (N := 9) (ci := 5) (ty := .int) pc cx inX5 rfl tyX5 tyX5_ok nmX5 5 (by decide) (tb_m (i := 96) rfl rfl) rfl rfl (by decide +kernel) hd q0 he hn hfit hlen w1 hw k
set_option maxRecDepth 100000 in
theorem fpX5_31 {X : XT} {Q : State → Prop} {G : GT} {A : Nat → Prop} {nL : Nat} {lv : List (Nat × Value)} {st : List Value} {ws : va_W} {cc : ByteArray} {fr lo : Nat} {ret : Option FieldType} (pc : Nat) (cx : Cx X cc nL RX5 G fr lo ret) {a : Nat} {fs : List Value} {v : Value} (hd : decode cc pc = .ok (.putfield 31, 3)) (q0 : Nat) (he : ws[q0]? = some (a, .inr (5, fs))) (hn : narrow .int v = v) (hfit : fits .int v = true) (hlen : 6 < fs.length) (w1 : va_W) (hw : ws.set q0 (a, .inr (5, fs.set 6 v)) = w1) (k : KJ X Q G A nL (pc + 3) lv st w1) : KJ X Q G A nL pc lv (v :: .ref a :: st) ws :=
  k_put (ref := RX5) (T := TX5) (N := 9) (ci := 5) (ty := .int) pc cx inX5 rfl tyX5 tyX5_ok nmX5 6 (by decide) (tb_m (i := 100) rfl rfl) rfl rfl (by decide +kernel) hd q0 he hn hfit hlen w1 hw k
set_option maxRecDepth 100000 in
theorem fpX5_34 {X : XT} {Q : State → Prop} {G : GT} {A : Nat → Prop} {nL : Nat} {lv : List (Nat × Value)} {st : List Value} {ws : va_W} {cc : ByteArray} {fr lo : Nat} {ret : Option FieldType} (pc : Nat) (cx : Cx X cc nL RX5 G fr lo ret) {a : Nat} {fs : List Value} {v : Value} (hd : decode cc pc = .ok (.putfield 34, 3)) (q0 : Nat) (he : ws[q0]? = some (a, .inr (5, fs))) (hn : narrow .int v = v) (hfit : fits .int v = true) (hlen : 7 < fs.length) (w1 : va_W) (hw : ws.set q0 (a, .inr (5, fs.set 7 v)) = w1) (k : KJ X Q G A nL (pc + 3) lv st w1) : KJ X Q G A nL pc lv (v :: .ref a :: st) ws :=
  k_put (ref := RX5) (T := TX5) (N := 9) (ci := 5) (ty := .int) pc cx inX5 rfl tyX5 tyX5_ok nmX5 7 (by decide) (tb_m (i := 103) rfl rfl) rfl rfl (by decide +kernel) hd q0 he hn hfit hlen w1 hw k
set_option maxRecDepth 100000 in
theorem fpX5_37 {X : XT} {Q : State → Prop} {G : GT} {A : Nat → Prop} {nL : Nat} {lv : List (Nat × Value)} {st : List Value} {ws : va_W} {cc : ByteArray} {fr lo : Nat} {ret : Option FieldType} (pc : Nat) (cx : Cx X cc nL RX5 G fr lo ret) {a : Nat} {fs : List Value} {v : Value} (hd : decode cc pc = .ok (.putfield 37, 3)) (q0 : Nat) (he : ws[q0]? = some (a, .inr (5, fs))) (hn : narrow .int v = v) (hfit : fits .int v = true) (hlen : 8 < fs.length) (w1 : va_W) (hw : ws.set q0 (a, .inr (5, fs.set 8 v)) = w1) (k : KJ X Q G A nL (pc + 3) lv st w1) : KJ X Q G A nL pc lv (v :: .ref a :: st) ws :=
  k_put (ref := RX5) (T := TX5) (N := 9) (ci := 5) (ty := .int) pc cx inX5 rfl tyX5 tyX5_ok nmX5 8 (by decide) (tb_m (i := 106) rfl rfl) rfl rfl (by decide +kernel) hd q0 he hn hfit hlen w1 hw k
def w_X5_begin (G : GT) (h_t : Nat) (h_t_kinds : Nat) (h_t_needs : Nat) (h_t_from : Nat) (h_t_to : Nat) (h_t_lasts : Nat) (t_bells : Int32) (t_ropes : Int32) (t_span : Int32) (t_tied : Int32) : va_W := [(h_t, .inr (5, [.ref h_t_kinds, .ref h_t_needs, .ref h_t_from, .ref h_t_to, .ref h_t_lasts, .int t_bells, .int t_ropes, .int t_span, .int t_tied]))]
def M_X5_begin : Option (Int32 × Int32 × Int32 × Int32) := (some ((0 : Int32), (0 : Int32), (2 : Int32), (0 : Int32)))
set_option maxHeartbeats 4000000 in
set_option maxRecDepth 100000 in
theorem c_X5_begin (l : Launch) (G : GT) (h_t : Nat) (h_t_kinds : Nat) (h_t_needs : Nat) (h_t_from : Nat) (h_t_to : Nat) (h_t_lasts : Nat) (t_bells : Int32) (t_ropes : Int32) (t_span : Int32) (t_tied : Int32) {u : Int32 × Int32 × Int32 × Int32} (hm : M_X5_begin = some u) : CT l yX5_begin cX5_begin 1 none 0 0 [.ref h_t] G (w_X5_begin G h_t h_t_kinds h_t_needs h_t_from h_t_to h_t_lasts t_bells t_ropes t_span t_tied) none (w_X5_begin G h_t h_t_kinds h_t_needs h_t_from h_t_to h_t_lasts u.1 u.2.1 u.2.2.1 u.2.2.2) := by
  refine ct_intro RX5 [(0, .ref h_t)] (by decide) rfl (Nat.le_of_ble_eq_true rfl) rfl (fun X hX cx => ?_)
  unfold M_X5_begin at hm
  refine k_aload_n 0 cx dX5_begin_0 rfl 0 rfl ?_
  refine k_iconst 1 cx (v := (0 : Int32)) dX5_begin_1 (by decide) ?_
  refine fpX5_27 2 cx dX5_begin_2 0 rfl rfl rfl (by simp) (w1 := (w_X5_begin G h_t h_t_kinds h_t_needs h_t_from h_t_to h_t_lasts (0 : Int32) t_ropes t_span t_tied)) rfl ?_
  refine k_aload_n 5 cx dX5_begin_5 rfl 0 rfl ?_
  refine k_iconst 6 cx (v := (0 : Int32)) dX5_begin_6 (by decide) ?_
  refine fpX5_31 7 cx dX5_begin_7 0 rfl rfl rfl (by simp) (w1 := (w_X5_begin G h_t h_t_kinds h_t_needs h_t_from h_t_to h_t_lasts (0 : Int32) (0 : Int32) t_span t_tied)) rfl ?_
  refine k_aload_n 10 cx dX5_begin_10 rfl 0 rfl ?_
  refine k_iconst 11 cx (v := (2 : Int32)) dX5_begin_11 (by decide) ?_
  refine fpX5_34 12 cx dX5_begin_12 0 rfl rfl rfl (by simp) (w1 := (w_X5_begin G h_t h_t_kinds h_t_needs h_t_from h_t_to h_t_lasts (0 : Int32) (0 : Int32) (2 : Int32) t_tied)) rfl ?_
  refine k_aload_n 15 cx dX5_begin_15 rfl 0 rfl ?_
  refine k_iconst 16 cx (v := (0 : Int32)) dX5_begin_16 (by decide) ?_
  refine fpX5_37 17 cx dX5_begin_17 0 rfl rfl rfl (by simp) (w1 := (w_X5_begin G h_t h_t_kinds h_t_needs h_t_from h_t_to h_t_lasts (0 : Int32) (0 : Int32) (2 : Int32) (0 : Int32))) rfl ?_
  obtain rfl := Option.some.inj hm
  exact k_vret 20 cx dX5_begin_20 rfl rfl
def w_X4_kindOf (G : GT) : va_W := []
def M_X4_kindOf (a1 : Int32) : Option (Int32) := (if a1 = (98 : Int32) then (some (0 : Int32)) else (if a1 = (100 : Int32) then (some (2 : Int32)) else (if a1 = (103 : Int32) then (some (1 : Int32)) else (some (-9 : Int32)))))
set_option maxHeartbeats 4000000 in
set_option maxRecDepth 100000 in
theorem c_X4_kindOf (l : Launch) (G : GT) (a1 : Int32) {u : Int32} (hm : M_X4_kindOf a1 = some u) : CT l yX4_kindOf cX4_kindOf 1 (some .int) 0 0 [.int a1] G (w_X4_kindOf G) (some (.int u)) (w_X4_kindOf G) := by
  refine ct_intro RX4 [(0, .int a1)] (by decide) rfl (Nat.le_of_ble_eq_true rfl) rfl (fun X hX cx => ?_)
  unfold M_X4_kindOf at hm
  refine k_iload_n 0 cx dX4_kindOf_0 rfl 0 rfl ?_
  rcases m_if hm with ⟨hc0, hm⟩ | ⟨hc0, hm⟩
  · refine k_lookup 1 cx (off := 35) (tgt := 36) dX4_kindOf_1 (by decide) (by rw [hc0]; rfl) (by decide) ?_
    refine k_iconst 36 cx (v := (0 : Int32)) dX4_kindOf_36 (by decide) ?_
    obtain rfl := Option.some.inj hm
    exact k_iret 37 cx dX4_kindOf_37 rfl rfl
  · rcases m_if hm with ⟨hc1, hm⟩ | ⟨hc1, hm⟩
    · refine k_lookup 1 cx (off := 39) (tgt := 40) dX4_kindOf_1 (by decide) (by rw [hc1]; rfl) (by decide) ?_
      refine k_iconst 40 cx (v := (2 : Int32)) dX4_kindOf_40 (by decide) ?_
      obtain rfl := Option.some.inj hm
      exact k_iret 41 cx dX4_kindOf_41 rfl rfl
    · rcases m_if hm with ⟨hc2, hm⟩ | ⟨hc2, hm⟩
      · refine k_lookup 1 cx (off := 37) (tgt := 38) dX4_kindOf_1 (by decide) (by rw [hc2]; rfl) (by decide) ?_
        refine k_iconst 38 cx (v := (1 : Int32)) dX4_kindOf_38 (by decide) ?_
        obtain rfl := Option.some.inj hm
        exact k_iret 39 cx dX4_kindOf_39 rfl rfl
      · have n0 : a1.toInt ≠ 98 := fun h => hc0 (Int32.toInt_inj.mp (h.trans rfl))
        have n1 : a1.toInt ≠ 100 := fun h => hc1 (Int32.toInt_inj.mp (h.trans rfl))
        have n2 : a1.toInt ≠ 103 := fun h => hc2 (Int32.toInt_inj.mp (h.trans rfl))
        refine k_lookup 1 cx (off := 41) (tgt := 42) dX4_kindOf_1 (by decide) (by simp [Op.lookupswitch.offset, n0, Ne.symm n0, n1, Ne.symm n1, n2, Ne.symm n2]) (by decide) ?_
        refine k_bipush 42 cx (v := (-9 : Int32)) dX4_kindOf_42 (by decide) ?_
        obtain rfl := Option.some.inj hm
        exact k_iret 44 cx dX4_kindOf_44 rfl rfl
set_option maxRecDepth 100000 in
theorem fgX4_12 {X : XT} {Q : State → Prop} {G : GT} {A : Nat → Prop} {nL : Nat} {lv : List (Nat × Value)} {st : List Value} {ws : va_W} {cc : ByteArray} {fr lo : Nat} {ret : Option FieldType} (pc : Nat) (cx : Cx X cc nL RX4 G fr lo ret) {a : Nat} {fs : List Value} {v : Value} (hd : decode cc pc = .ok (.getfield 12, 3)) (q0 : Nat) (he : ws[q0]? = some (a, .inr (4, fs))) (hv : fs[0]? = some v) (k : KJ X Q G A nL (pc + 3) lv (v :: st) ws) : KJ X Q G A nL pc lv (.ref a :: st) ws :=
  k_get (ref := RX4) (T := TX4) (N := 2) (ci := 4) pc cx inX4 rfl 0 (by decide) (tb_m (i := 136) rfl rfl) rfl hd q0 he hv k
set_option maxRecDepth 100000 in
theorem fgX4_29 {X : XT} {Q : State → Prop} {G : GT} {A : Nat → Prop} {nL : Nat} {lv : List (Nat × Value)} {st : List Value} {ws : va_W} {cc : ByteArray} {fr lo : Nat} {ret : Option FieldType} (pc : Nat) (cx : Cx X cc nL RX4 G fr lo ret) {a : Nat} {fs : List Value} {v : Value} (hd : decode cc pc = .ok (.getfield 29, 3)) (q0 : Nat) (he : ws[q0]? = some (a, .inr (5, fs))) (hv : fs[5]? = some v) (k : KJ X Q G A nL (pc + 3) lv (v :: st) ws) : KJ X Q G A nL pc lv (.ref a :: st) ws :=
  k_get (ref := RX5) (T := TX5) (N := 9) (ci := 5) pc cx inX5 rfl 5 (by decide) (tb_m (i := 97) rfl rfl) rfl hd q0 he hv k
set_option maxRecDepth 100000 in
theorem fgX4_49 {X : XT} {Q : State → Prop} {G : GT} {A : Nat → Prop} {nL : Nat} {lv : List (Nat × Value)} {st : List Value} {ws : va_W} {cc : ByteArray} {fr lo : Nat} {ret : Option FieldType} (pc : Nat) (cx : Cx X cc nL RX4 G fr lo ret) {a : Nat} {fs : List Value} {v : Value} (hd : decode cc pc = .ok (.getfield 49, 3)) (q0 : Nat) (he : ws[q0]? = some (a, .inr (5, fs))) (hv : fs[6]? = some v) (k : KJ X Q G A nL (pc + 3) lv (v :: st) ws) : KJ X Q G A nL pc lv (.ref a :: st) ws :=
  k_get (ref := RX5) (T := TX5) (N := 9) (ci := 5) pc cx inX5 rfl 6 (by decide) (tb_m (i := 102) rfl rfl) rfl hd q0 he hv k
set_option maxRecDepth 100000 in
theorem fgX4_52 {X : XT} {Q : State → Prop} {G : GT} {A : Nat → Prop} {nL : Nat} {lv : List (Nat × Value)} {st : List Value} {ws : va_W} {cc : ByteArray} {fr lo : Nat} {ret : Option FieldType} (pc : Nat) (cx : Cx X cc nL RX4 G fr lo ret) {a : Nat} {fs : List Value} {v : Value} (hd : decode cc pc = .ok (.getfield 52, 3)) (q0 : Nat) (he : ws[q0]? = some (a, .inr (5, fs))) (hv : fs[0]? = some v) (k : KJ X Q G A nL (pc + 3) lv (v :: st) ws) : KJ X Q G A nL pc lv (.ref a :: st) ws :=
  k_get (ref := RX5) (T := TX5) (N := 9) (ci := 5) pc cx inX5 rfl 0 (by decide) (tb_m (i := 79) rfl rfl) rfl hd q0 he hv k
set_option maxRecDepth 100000 in
theorem fpX4_21 {X : XT} {Q : State → Prop} {G : GT} {A : Nat → Prop} {nL : Nat} {lv : List (Nat × Value)} {st : List Value} {ws : va_W} {cc : ByteArray} {fr lo : Nat} {ret : Option FieldType} (pc : Nat) (cx : Cx X cc nL RX4 G fr lo ret) {a : Nat} {fs : List Value} {v : Value} (hd : decode cc pc = .ok (.putfield 21, 3)) (q0 : Nat) (he : ws[q0]? = some (a, .inr (4, fs))) (hn : narrow .int v = v) (hfit : fits .int v = true) (hlen : 1 < fs.length) (w1 : va_W) (hw : ws.set q0 (a, .inr (4, fs.set 1 v)) = w1) (k : KJ X Q G A nL (pc + 3) lv st w1) : KJ X Q G A nL pc lv (v :: .ref a :: st) ws :=
  k_put (ref := RX4) (T := TX4) (N := 2) (ci := 4) (ty := .int) pc cx inX4 rfl tyX4 tyX4_ok nmX4 1 (by decide) (tb_m (i := 138) rfl rfl) rfl rfl (by decide +kernel) hd q0 he hn hfit hlen w1 hw k
set_option maxRecDepth 100000 in
theorem cwX4_45 : CWS RX4 45 yX4_kindOf cX4_kindOf 1 (some .int) 1 := ⟨tb_m (i := 319) rfl rfl, tb_m (i := 320) rfl rfl, tb_m (i := 53) rfl rfl, tb_m (i := 321) rfl rfl, ⟨by decide +kernel, by decide +kernel, by decide +kernel⟩⟩
def w_X4_beginsBell (G : GT) (h_t : Nat) (h_t_told : Nat) (h_t_told_kinds : Nat) (h_t_told_needs : Nat) (h_t_told_from : Nat) (h_t_told_to : Nat) (h_t_told_lasts : Nat) (t_state : Int32) (t_told_bells : Int32) (t_told_ropes : Int32) (t_told_span : Int32) (t_told_tied : Int32) (t_told_kinds : (Nat → Int32)) : va_W := [(h_t, .inr (4, [.ref h_t_told, .int t_state])), (h_t_told, .inr (5, [.ref h_t_told_kinds, .ref h_t_told_needs, .ref h_t_told_from, .ref h_t_told_to, .ref h_t_told_lasts, .int t_told_bells, .int t_told_ropes, .int t_told_span, .int t_told_tied])), (h_t_told_kinds, .inl (G.2.1, 6, .inl t_told_kinds))]
def M_X4_beginsBell (t_state : Int32) (t_told_bells : Int32) (t_told_ropes : Int32) (t_told_kinds : (Nat → Int32)) (a1 : Int32) : Option (Int32 × Int32 × (Nat → Int32)) := ((M_X4_kindOf a1).bind (fun u1 => (if u1 = (-9 : Int32) then (some ((0 : Int32), t_state, t_told_kinds)) else (if (6 : Int32) ≤ t_told_bells then (some ((0 : Int32), t_state, t_told_kinds)) else (if t_told_ropes ≤ 0 then (gB (inb t_told_bells 6) (nme (upd t_told_kinds (Int32.toNatClampNeg t_told_bells) u1) (fun f2 => (some ((1 : Int32), (2 : Int32), f2))))) else (some ((0 : Int32), t_state, t_told_kinds)))))))
set_option maxHeartbeats 4000000 in
set_option maxRecDepth 100000 in
theorem c_X4_beginsBell (l : Launch) (G : GT) (h_t : Nat) (h_t_told : Nat) (h_t_told_kinds : Nat) (h_t_told_needs : Nat) (h_t_told_from : Nat) (h_t_told_to : Nat) (h_t_told_lasts : Nat) (t_state : Int32) (t_told_bells : Int32) (t_told_ropes : Int32) (t_told_span : Int32) (t_told_tied : Int32) (t_told_kinds : (Nat → Int32)) (a1 : Int32) {u : Int32 × Int32 × (Nat → Int32)} (hm : M_X4_beginsBell t_state t_told_bells t_told_ropes t_told_kinds a1 = some u) : CT l yX4_beginsBell cX4_beginsBell 3 (some .boolean) 1 20 [.ref h_t, .int a1] G (w_X4_beginsBell G h_t h_t_told h_t_told_kinds h_t_told_needs h_t_told_from h_t_told_to h_t_told_lasts t_state t_told_bells t_told_ropes t_told_span t_told_tied t_told_kinds) (some (.int u.1)) (w_X4_beginsBell G h_t h_t_told h_t_told_kinds h_t_told_needs h_t_told_from h_t_told_to h_t_told_lasts u.2.1 t_told_bells t_told_ropes t_told_span t_told_tied u.2.2) := by
  refine ct_intro RX4 [(0, .ref h_t), (1, .int a1)] (by decide) rfl (Nat.le_of_ble_eq_true rfl) rfl (fun X hX cx => ?_)
  unfold M_X4_beginsBell at hm
  refine k_iload_n 0 cx dX4_beginsBell_0 rfl 1 rfl ?_
  obtain ⟨u1, hu1, hm⟩ := bnd hm
  refine k_callS 1 cx cwX4_45 (c_X4_kindOf X.2.1 G a1 hu1) dX4_beginsBell_1 ⟨by decide, by decide⟩ rfl (rest := []) rfl (Nat.le_of_ble_eq_true rfl) [] (by decide) rfl rfl (w2 := (w_X4_beginsBell G h_t h_t_told h_t_told_kinds h_t_told_needs h_t_told_from h_t_told_to h_t_told_lasts t_state t_told_bells t_told_ropes t_told_span t_told_tied t_told_kinds)) [0, 1, 2] 3 rfl [(h_t, .inr (4, [.ref h_t_told, .int t_state])), (h_t_told, .inr (5, [.ref h_t_told_kinds, .ref h_t_told_needs, .ref h_t_told_from, .ref h_t_told_to, .ref h_t_told_lasts, .int t_told_bells, .int t_told_ropes, .int t_told_span, .int t_told_tied])), (h_t_told_kinds, .inl (G.2.1, 6, .inl t_told_kinds))] rfl rfl rfl (by decide) (st2 := [.int u1]) rfl ?_
  refine k_istore_n 4 cx dX4_beginsBell_4 rfl (by decide) (lv' := [(2, .int u1), (0, .ref h_t), (1, .int a1)]) rfl ?_
  refine k_iload_n 5 cx dX4_beginsBell_5 rfl 0 rfl ?_
  refine k_bipush 6 cx (v := (-9 : Int32)) dX4_beginsBell_6 (by decide) ?_
  refine k_icmp_eq 8 cx (tgt := 33) dX4_beginsBell_8 (by decide) hm (fun hc hm => ?_) (fun hc hm => ?_)
  · refine k_iconst 33 cx (v := (0 : Int32)) dX4_beginsBell_33 (by decide) ?_
    obtain rfl := Option.some.inj hm
    exact k_zret 34 cx dX4_beginsBell_34 (by decide) rfl rfl
  · refine k_aload_n 11 cx dX4_beginsBell_11 rfl 1 rfl ?_
    refine fgX4_12 12 cx dX4_beginsBell_12 0 rfl rfl ?_
    refine fgX4_29 15 cx dX4_beginsBell_15 1 rfl rfl ?_
    refine k_bipush 18 cx (v := (6 : Int32)) dX4_beginsBell_18 (by decide) ?_
    refine k_icmp_ge 20 cx (tgt := 33) dX4_beginsBell_20 (by decide) hm (fun hc hm => ?_) (fun hc hm => ?_)
    · refine k_iconst 33 cx (v := (0 : Int32)) dX4_beginsBell_33 (by decide) ?_
      obtain rfl := Option.some.inj hm
      exact k_zret 34 cx dX4_beginsBell_34 (by decide) rfl rfl
    · refine k_aload_n 23 cx dX4_beginsBell_23 rfl 1 rfl ?_
      refine fgX4_12 24 cx dX4_beginsBell_24 0 rfl rfl ?_
      refine fgX4_49 27 cx dX4_beginsBell_27 1 rfl rfl ?_
      refine k_if_le 30 cx (tgt := 35) dX4_beginsBell_30 (by decide) hm (fun hc hm => ?_) (fun hc hm => ?_)
      · refine k_aload_n 35 cx dX4_beginsBell_35 rfl 1 rfl ?_
        refine fgX4_12 36 cx dX4_beginsBell_36 0 rfl rfl ?_
        refine fgX4_52 39 cx dX4_beginsBell_39 1 rfl rfl ?_
        refine k_aload_n 42 cx dX4_beginsBell_42 rfl 1 rfl ?_
        refine fgX4_12 43 cx dX4_beginsBell_43 0 rfl rfl ?_
        refine fgX4_29 46 cx dX4_beginsBell_46 1 rfl rfl ?_
        refine k_iload_n 49 cx dX4_beginsBell_49 rfl 0 rfl ?_
        refine k_iast 50 cx dX4_beginsBell_50 2 rfl (fun f2 => (w_X4_beginsBell G h_t h_t_told h_t_told_kinds h_t_told_needs h_t_told_from h_t_told_to h_t_told_lasts t_state t_told_bells t_told_ropes t_told_span t_told_tied f2)) (fun _ => rfl) hm (fun f2 hm => ?_)
        refine k_aload_n 51 cx dX4_beginsBell_51 rfl 1 rfl ?_
        refine k_iconst 52 cx (v := (2 : Int32)) dX4_beginsBell_52 (by decide) ?_
        refine fpX4_21 53 cx dX4_beginsBell_53 0 rfl rfl rfl (by simp) (w1 := (w_X4_beginsBell G h_t h_t_told h_t_told_kinds h_t_told_needs h_t_told_from h_t_told_to h_t_told_lasts (2 : Int32) t_told_bells t_told_ropes t_told_span t_told_tied f2)) rfl ?_
        refine k_iconst 56 cx (v := (1 : Int32)) dX4_beginsBell_56 (by decide) ?_
        obtain rfl := Option.some.inj hm
        exact k_zret 57 cx dX4_beginsBell_57 (by decide) rfl rfl
      · refine k_iconst 33 cx (v := (0 : Int32)) dX4_beginsBell_33 (by decide) ?_
        obtain rfl := Option.some.inj hm
        exact k_zret 34 cx dX4_beginsBell_34 (by decide) rfl rfl
def w_X4_beginsRope (G : GT) (h_t : Nat) (h_t_told : Nat) (h_t_told_kinds : Nat) (h_t_told_needs : Nat) (h_t_told_from : Nat) (h_t_told_to : Nat) (h_t_told_lasts : Nat) (t_state : Int32) (t_told_bells : Int32) (t_told_ropes : Int32) (t_told_span : Int32) (t_told_tied : Int32) : va_W := [(h_t, .inr (4, [.ref h_t_told, .int t_state])), (h_t_told, .inr (5, [.ref h_t_told_kinds, .ref h_t_told_needs, .ref h_t_told_from, .ref h_t_told_to, .ref h_t_told_lasts, .int t_told_bells, .int t_told_ropes, .int t_told_span, .int t_told_tied]))]
def M_X4_beginsRope (t_state : Int32) (t_told_bells : Int32) (t_told_ropes : Int32) : Option (Int32 × Int32) := (if t_told_bells < (2 : Int32) then (some ((0 : Int32), t_state)) else (if t_told_ropes < (8 : Int32) then (some ((1 : Int32), (3 : Int32))) else (some ((0 : Int32), t_state))))
set_option maxHeartbeats 4000000 in
set_option maxRecDepth 100000 in
theorem c_X4_beginsRope (l : Launch) (G : GT) (h_t : Nat) (h_t_told : Nat) (h_t_told_kinds : Nat) (h_t_told_needs : Nat) (h_t_told_from : Nat) (h_t_told_to : Nat) (h_t_told_lasts : Nat) (t_state : Int32) (t_told_bells : Int32) (t_told_ropes : Int32) (t_told_span : Int32) (t_told_tied : Int32) {u : Int32 × Int32} (hm : M_X4_beginsRope t_state t_told_bells t_told_ropes = some u) : CT l yX4_beginsRope cX4_beginsRope 1 (some .boolean) 0 0 [.ref h_t] G (w_X4_beginsRope G h_t h_t_told h_t_told_kinds h_t_told_needs h_t_told_from h_t_told_to h_t_told_lasts t_state t_told_bells t_told_ropes t_told_span t_told_tied) (some (.int u.1)) (w_X4_beginsRope G h_t h_t_told h_t_told_kinds h_t_told_needs h_t_told_from h_t_told_to h_t_told_lasts u.2 t_told_bells t_told_ropes t_told_span t_told_tied) := by
  refine ct_intro RX4 [(0, .ref h_t)] (by decide) rfl (Nat.le_of_ble_eq_true rfl) rfl (fun X hX cx => ?_)
  unfold M_X4_beginsRope at hm
  refine k_aload_n 0 cx dX4_beginsRope_0 rfl 0 rfl ?_
  refine fgX4_12 1 cx dX4_beginsRope_1 0 rfl rfl ?_
  refine fgX4_29 4 cx dX4_beginsRope_4 1 rfl rfl ?_
  refine k_iconst 7 cx (v := (2 : Int32)) dX4_beginsRope_7 (by decide) ?_
  refine k_icmp_lt 8 cx (tgt := 23) dX4_beginsRope_8 (by decide) hm (fun hc hm => ?_) (fun hc hm => ?_)
  · refine k_iconst 23 cx (v := (0 : Int32)) dX4_beginsRope_23 (by decide) ?_
    obtain rfl := Option.some.inj hm
    exact k_zret 24 cx dX4_beginsRope_24 (by decide) rfl rfl
  · refine k_aload_n 11 cx dX4_beginsRope_11 rfl 0 rfl ?_
    refine fgX4_12 12 cx dX4_beginsRope_12 0 rfl rfl ?_
    refine fgX4_49 15 cx dX4_beginsRope_15 1 rfl rfl ?_
    refine k_bipush 18 cx (v := (8 : Int32)) dX4_beginsRope_18 (by decide) ?_
    refine k_icmp_lt 20 cx (tgt := 25) dX4_beginsRope_20 (by decide) hm (fun hc hm => ?_) (fun hc hm => ?_)
    · refine k_aload_n 25 cx dX4_beginsRope_25 rfl 0 rfl ?_
      refine k_iconst 26 cx (v := (3 : Int32)) dX4_beginsRope_26 (by decide) ?_
      refine fpX4_21 27 cx dX4_beginsRope_27 0 rfl rfl rfl (by simp) (w1 := (w_X4_beginsRope G h_t h_t_told h_t_told_kinds h_t_told_needs h_t_told_from h_t_told_to h_t_told_lasts (3 : Int32) t_told_bells t_told_ropes t_told_span t_told_tied)) rfl ?_
      refine k_iconst 30 cx (v := (1 : Int32)) dX4_beginsRope_30 (by decide) ?_
      obtain rfl := Option.some.inj hm
      exact k_zret 31 cx dX4_beginsRope_31 (by decide) rfl rfl
    · refine k_iconst 23 cx (v := (0 : Int32)) dX4_beginsRope_23 (by decide) ?_
      obtain rfl := Option.some.inj hm
      exact k_zret 24 cx dX4_beginsRope_24 (by decide) rfl rfl
set_option maxRecDepth 100000 in
theorem fgX4_56 {X : XT} {Q : State → Prop} {G : GT} {A : Nat → Prop} {nL : Nat} {lv : List (Nat × Value)} {st : List Value} {ws : va_W} {cc : ByteArray} {fr lo : Nat} {ret : Option FieldType} (pc : Nat) (cx : Cx X cc nL RX4 G fr lo ret) {a : Nat} {fs : List Value} {v : Value} (hd : decode cc pc = .ok (.getfield 56, 3)) (q0 : Nat) (he : ws[q0]? = some (a, .inr (5, fs))) (hv : fs[1]? = some v) (k : KJ X Q G A nL (pc + 3) lv (v :: st) ws) : KJ X Q G A nL pc lv (.ref a :: st) ws :=
  k_get (ref := RX5) (T := TX5) (N := 9) (ci := 5) pc cx inX5 rfl 1 (by decide) (tb_m (i := 83) rfl rfl) rfl hd q0 he hv k
set_option maxRecDepth 100000 in
theorem fpX4_29 {X : XT} {Q : State → Prop} {G : GT} {A : Nat → Prop} {nL : Nat} {lv : List (Nat × Value)} {st : List Value} {ws : va_W} {cc : ByteArray} {fr lo : Nat} {ret : Option FieldType} (pc : Nat) (cx : Cx X cc nL RX4 G fr lo ret) {a : Nat} {fs : List Value} {v : Value} (hd : decode cc pc = .ok (.putfield 29, 3)) (q0 : Nat) (he : ws[q0]? = some (a, .inr (5, fs))) (hn : narrow .int v = v) (hfit : fits .int v = true) (hlen : 5 < fs.length) (w1 : va_W) (hw : ws.set q0 (a, .inr (5, fs.set 5 v)) = w1) (k : KJ X Q G A nL (pc + 3) lv st w1) : KJ X Q G A nL pc lv (v :: .ref a :: st) ws :=
  k_put (ref := RX5) (T := TX5) (N := 9) (ci := 5) (ty := .int) pc cx inX5 rfl tyX5 tyX5_ok nmX5 5 (by decide) (tb_m (i := 97) rfl rfl) rfl rfl (by decide +kernel) hd q0 he hn hfit hlen w1 hw k
def w_X4_takesNeeds (G : GT) (h_t : Nat) (h_t_told : Nat) (h_t_told_needs : Nat) (h_t_told_kinds : Nat) (h_t_told_from : Nat) (h_t_told_to : Nat) (h_t_told_lasts : Nat) (t_state : Int32) (t_told_bells : Int32) (t_told_ropes : Int32) (t_told_span : Int32) (t_told_tied : Int32) (t_told_needs : (Nat → Int32)) : va_W := [(h_t, .inr (4, [.ref h_t_told, .int t_state])), (h_t_told, .inr (5, [.ref h_t_told_kinds, .ref h_t_told_needs, .ref h_t_told_from, .ref h_t_told_to, .ref h_t_told_lasts, .int t_told_bells, .int t_told_ropes, .int t_told_span, .int t_told_tied])), (h_t_told_needs, .inl (G.2.1, 6, .inl t_told_needs))]
def M_X4_takesNeeds (t_state : Int32) (t_told_bells : Int32) (t_told_needs : (Nat → Int32)) (a1 : Int32) : Option (Int32 × Int32 × Int32 × (Nat → Int32)) := (if a1 < (1 : Int32) then (some ((0 : Int32), t_state, t_told_bells, t_told_needs)) else (if a1 ≤ (3 : Int32) then (gB (inb t_told_bells 6) (nme (upd t_told_needs (Int32.toNatClampNeg t_told_bells) a1) (fun f1 => (nme (t_told_bells + (1 : Int32)) (fun v2 => (some ((1 : Int32), (1 : Int32), v2, f1))))))) else (some ((0 : Int32), t_state, t_told_bells, t_told_needs))))
set_option maxHeartbeats 4000000 in
set_option maxRecDepth 100000 in
theorem c_X4_takesNeeds (l : Launch) (G : GT) (h_t : Nat) (h_t_told : Nat) (h_t_told_needs : Nat) (h_t_told_kinds : Nat) (h_t_told_from : Nat) (h_t_told_to : Nat) (h_t_told_lasts : Nat) (t_state : Int32) (t_told_bells : Int32) (t_told_ropes : Int32) (t_told_span : Int32) (t_told_tied : Int32) (t_told_needs : (Nat → Int32)) (a1 : Int32) {u : Int32 × Int32 × Int32 × (Nat → Int32)} (hm : M_X4_takesNeeds t_state t_told_bells t_told_needs a1 = some u) : CT l yX4_takesNeeds cX4_takesNeeds 2 (some .boolean) 0 0 [.ref h_t, .int a1] G (w_X4_takesNeeds G h_t h_t_told h_t_told_needs h_t_told_kinds h_t_told_from h_t_told_to h_t_told_lasts t_state t_told_bells t_told_ropes t_told_span t_told_tied t_told_needs) (some (.int u.1)) (w_X4_takesNeeds G h_t h_t_told h_t_told_needs h_t_told_kinds h_t_told_from h_t_told_to h_t_told_lasts u.2.1 u.2.2.1 t_told_ropes t_told_span t_told_tied u.2.2.2) := by
  refine ct_intro RX4 [(0, .ref h_t), (1, .int a1)] (by decide) rfl (Nat.le_of_ble_eq_true rfl) rfl (fun X hX cx => ?_)
  unfold M_X4_takesNeeds at hm
  refine k_iload_n 0 cx dX4_takesNeeds_0 rfl 1 rfl ?_
  refine k_iconst 1 cx (v := (1 : Int32)) dX4_takesNeeds_1 (by decide) ?_
  refine k_icmp_lt 2 cx (tgt := 10) dX4_takesNeeds_2 (by decide) hm (fun hc hm => ?_) (fun hc hm => ?_)
  · refine k_iconst 10 cx (v := (0 : Int32)) dX4_takesNeeds_10 (by decide) ?_
    obtain rfl := Option.some.inj hm
    exact k_zret 11 cx dX4_takesNeeds_11 (by decide) rfl rfl
  · refine k_iload_n 5 cx dX4_takesNeeds_5 rfl 1 rfl ?_
    refine k_iconst 6 cx (v := (3 : Int32)) dX4_takesNeeds_6 (by decide) ?_
    refine k_icmp_le 7 cx (tgt := 12) dX4_takesNeeds_7 (by decide) hm (fun hc hm => ?_) (fun hc hm => ?_)
    · refine k_aload_n 12 cx dX4_takesNeeds_12 rfl 0 rfl ?_
      refine fgX4_12 13 cx dX4_takesNeeds_13 0 rfl rfl ?_
      refine fgX4_56 16 cx dX4_takesNeeds_16 1 rfl rfl ?_
      refine k_aload_n 19 cx dX4_takesNeeds_19 rfl 0 rfl ?_
      refine fgX4_12 20 cx dX4_takesNeeds_20 0 rfl rfl ?_
      refine fgX4_29 23 cx dX4_takesNeeds_23 1 rfl rfl ?_
      refine k_iload_n 26 cx dX4_takesNeeds_26 rfl 1 rfl ?_
      refine k_iast 27 cx dX4_takesNeeds_27 2 rfl (fun f1 => (w_X4_takesNeeds G h_t h_t_told h_t_told_needs h_t_told_kinds h_t_told_from h_t_told_to h_t_told_lasts t_state t_told_bells t_told_ropes t_told_span t_told_tied f1)) (fun _ => rfl) hm (fun f1 hm => ?_)
      refine k_aload_n 28 cx dX4_takesNeeds_28 rfl 0 rfl ?_
      refine fgX4_12 29 cx dX4_takesNeeds_29 0 rfl rfl ?_
      refine k_dup 32 cx dX4_takesNeeds_32 rfl ?_
      refine fgX4_29 33 cx dX4_takesNeeds_33 1 rfl rfl ?_
      refine k_iconst 36 cx (v := (1 : Int32)) dX4_takesNeeds_36 (by decide) ?_
      refine k_iadd 37 cx dX4_takesNeeds_37 ?_
      refine k_nm hm (fun v2 hm => ?_)
      refine fpX4_29 38 cx dX4_takesNeeds_38 1 rfl rfl rfl (by simp) (w1 := (w_X4_takesNeeds G h_t h_t_told h_t_told_needs h_t_told_kinds h_t_told_from h_t_told_to h_t_told_lasts t_state v2 t_told_ropes t_told_span t_told_tied f1)) rfl ?_
      refine k_aload_n 41 cx dX4_takesNeeds_41 rfl 0 rfl ?_
      refine k_iconst 42 cx (v := (1 : Int32)) dX4_takesNeeds_42 (by decide) ?_
      refine fpX4_21 43 cx dX4_takesNeeds_43 0 rfl rfl rfl (by simp) (w1 := (w_X4_takesNeeds G h_t h_t_told h_t_told_needs h_t_told_kinds h_t_told_from h_t_told_to h_t_told_lasts (1 : Int32) v2 t_told_ropes t_told_span t_told_tied f1)) rfl ?_
      refine k_iconst 46 cx (v := (1 : Int32)) dX4_takesNeeds_46 (by decide) ?_
      obtain rfl := Option.some.inj hm
      exact k_zret 47 cx dX4_takesNeeds_47 (by decide) rfl rfl
    · refine k_iconst 10 cx (v := (0 : Int32)) dX4_takesNeeds_10 (by decide) ?_
      obtain rfl := Option.some.inj hm
      exact k_zret 11 cx dX4_takesNeeds_11 (by decide) rfl rfl
