set_option maxRecDepth 100000 in
theorem fgX7_225 {X : XT} {Q : State → Prop} {G : GT} {A : Nat → Prop} {nL : Nat} {lv : List (Nat × Value)} {st : List Value} {ws : va_W} {cc : ByteArray} {fr lo : Nat} {ret : Option FieldType} (pc : Nat) (cx : Cx X cc nL RX7 G fr lo ret) {a : Nat} {fs : List Value} {v : Value} (hd : decode cc pc = .ok (.getfield 225, 3)) (q0 : Nat) (he : ws[q0]? = some (a, .inr (7, fs))) (hv : fs[33]? = some v) (k : KJ X Q G A nL (pc + 3) lv (v :: st) ws) : KJ X Q G A nL pc lv (.ref a :: st) ws :=
  k_get (ref := RX7) (T := TX7) (N := 34) (ci := 7) pc cx inX7 rfl 33 (by decide) (tb_m (i := 682) rfl rfl) rfl hd q0 he hv k
set_option maxRecDepth 100000 in
theorem fpX7_225 {X : XT} {Q : State → Prop} {G : GT} {A : Nat → Prop} {nL : Nat} {lv : List (Nat × Value)} {st : List Value} {ws : va_W} {cc : ByteArray} {fr lo : Nat} {ret : Option FieldType} (pc : Nat) (cx : Cx X cc nL RX7 G fr lo ret) {a : Nat} {fs : List Value} {v : Value} (hd : decode cc pc = .ok (.putfield 225, 3)) (q0 : Nat) (he : ws[q0]? = some (a, .inr (7, fs))) (hn : narrow .int v = v) (hfit : fits .int v = true) (hlen : 33 < fs.length) (w1 : va_W) (hw : ws.set q0 (a, .inr (7, fs.set 33 v)) = w1) (k : KJ X Q G A nL (pc + 3) lv st w1) : KJ X Q G A nL pc lv (v :: .ref a :: st) ws :=
  k_put (ref := RX7) (T := TX7) (N := 34) (ci := 7) (ty := .int) pc cx inX7 rfl tyX7 tyX7_ok nmX7 33 (by decide) (tb_m (i := 682) rfl rfl) rfl rfl (by decide +kernel) hd q0 he hn hfit hlen w1 hw k
def w_X7_traced (G : GT) (h_t : Nat) (h_t_kindOf : Nat) (h_t_needsOf : Nat) (h_t_fromOf : Nat) (h_t_toOf : Nat) (h_t_longOf : Nat) (h_t_readKind : Nat) (h_t_readNeeds : Nat) (h_t_readFrom : Nat) (h_t_readTo : Nat) (h_t_readLong : Nat) (h_t_pullOf : Nat) (h_t_pullAt : Nat) (h_t_peals : Nat) (h_t_swings : Nat) (h_t_lastRang : Nat) (h_t_heardSince : Nat) (h_t_readingOf : Nat) (h_t_readingAt : Nat) (h_t_readingIs : Nat) (h_t_sheetSize : Nat) (h_t_sheetLane : Nat) (h_t_sheet : Nat) (h_t_hands : Nat) (t_fault : Int32) (t_bells : Int32) (t_tied : Int32) (t_ropes : Int32) (t_spanNow : Int32) (t_readAt : Int32) (t_readBells : Int32) (t_readRopes : Int32) (t_pulls : Int32) (t_readings : Int32) (t_traceNow : Int32) : va_W := [(h_t, .inr (7, [.int t_fault, .int t_bells, .ref h_t_kindOf, .ref h_t_needsOf, .int t_tied, .int t_ropes, .ref h_t_fromOf, .ref h_t_toOf, .ref h_t_longOf, .int t_spanNow, .int t_readAt, .int t_readBells, .int t_readRopes, .ref h_t_readKind, .ref h_t_readNeeds, .ref h_t_readFrom, .ref h_t_readTo, .ref h_t_readLong, .int t_pulls, .ref h_t_pullOf, .ref h_t_pullAt, .ref h_t_peals, .ref h_t_swings, .ref h_t_lastRang, .ref h_t_heardSince, .int t_readings, .ref h_t_readingOf, .ref h_t_readingAt, .ref h_t_readingIs, .ref h_t_sheetSize, .ref h_t_sheetLane, .ref h_t_sheet, .ref h_t_hands, .int t_traceNow]))]
def M_X7_traced (t_traceNow : Int32) (a1 : Int32) : Option (Int32) := (nme (((31 : Int32) * t_traceNow) + a1) (fun v1 => (some v1)))
set_option maxHeartbeats 4000000 in
set_option maxRecDepth 100000 in
theorem c_X7_traced (l : Launch) (G : GT) (h_t : Nat) (h_t_kindOf : Nat) (h_t_needsOf : Nat) (h_t_fromOf : Nat) (h_t_toOf : Nat) (h_t_longOf : Nat) (h_t_readKind : Nat) (h_t_readNeeds : Nat) (h_t_readFrom : Nat) (h_t_readTo : Nat) (h_t_readLong : Nat) (h_t_pullOf : Nat) (h_t_pullAt : Nat) (h_t_peals : Nat) (h_t_swings : Nat) (h_t_lastRang : Nat) (h_t_heardSince : Nat) (h_t_readingOf : Nat) (h_t_readingAt : Nat) (h_t_readingIs : Nat) (h_t_sheetSize : Nat) (h_t_sheetLane : Nat) (h_t_sheet : Nat) (h_t_hands : Nat) (t_fault : Int32) (t_bells : Int32) (t_tied : Int32) (t_ropes : Int32) (t_spanNow : Int32) (t_readAt : Int32) (t_readBells : Int32) (t_readRopes : Int32) (t_pulls : Int32) (t_readings : Int32) (t_traceNow : Int32) (a1 : Int32) {u : Int32} (hm : M_X7_traced t_traceNow a1 = some u) : CT l yX7_traced cX7_traced 2 none 0 0 [.ref h_t, .int a1] G (w_X7_traced G h_t h_t_kindOf h_t_needsOf h_t_fromOf h_t_toOf h_t_longOf h_t_readKind h_t_readNeeds h_t_readFrom h_t_readTo h_t_readLong h_t_pullOf h_t_pullAt h_t_peals h_t_swings h_t_lastRang h_t_heardSince h_t_readingOf h_t_readingAt h_t_readingIs h_t_sheetSize h_t_sheetLane h_t_sheet h_t_hands t_fault t_bells t_tied t_ropes t_spanNow t_readAt t_readBells t_readRopes t_pulls t_readings t_traceNow) none (w_X7_traced G h_t h_t_kindOf h_t_needsOf h_t_fromOf h_t_toOf h_t_longOf h_t_readKind h_t_readNeeds h_t_readFrom h_t_readTo h_t_readLong h_t_pullOf h_t_pullAt h_t_peals h_t_swings h_t_lastRang h_t_heardSince h_t_readingOf h_t_readingAt h_t_readingIs h_t_sheetSize h_t_sheetLane h_t_sheet h_t_hands t_fault t_bells t_tied t_ropes t_spanNow t_readAt t_readBells t_readRopes t_pulls t_readings u) := by
  refine ct_intro RX7 [(0, .ref h_t), (1, .int a1)] (by decide) rfl (Nat.le_of_ble_eq_true rfl) rfl (fun X hX cx => ?_)
  unfold M_X7_traced at hm
  refine k_aload_n 0 cx dX7_traced_0 rfl 0 rfl ?_
  refine k_bipush 1 cx (v := (31 : Int32)) dX7_traced_1 (by decide) ?_
  refine k_aload_n 3 cx dX7_traced_3 rfl 0 rfl ?_
  refine fgX7_225 4 cx dX7_traced_4 0 rfl rfl ?_
  refine k_imul 7 cx dX7_traced_7 ?_
  refine k_iload_n 8 cx dX7_traced_8 rfl 1 rfl ?_
  refine k_iadd 9 cx dX7_traced_9 ?_
  refine k_nm hm (fun v1 hm => ?_)
  refine fpX7_225 10 cx dX7_traced_10 0 rfl rfl rfl (by simp) (w1 := (w_X7_traced G h_t h_t_kindOf h_t_needsOf h_t_fromOf h_t_toOf h_t_longOf h_t_readKind h_t_readNeeds h_t_readFrom h_t_readTo h_t_readLong h_t_pullOf h_t_pullAt h_t_peals h_t_swings h_t_lastRang h_t_heardSince h_t_readingOf h_t_readingAt h_t_readingIs h_t_sheetSize h_t_sheetLane h_t_sheet h_t_hands t_fault t_bells t_tied t_ropes t_spanNow t_readAt t_readBells t_readRopes t_pulls t_readings v1)) rfl ?_
  obtain rfl := Option.some.inj hm
  exact k_vret 13 cx dX7_traced_13 rfl rfl
set_option maxRecDepth 100000 in
theorem cwX7_228 : CWV RX7 228 RX7 yX7_traced cX7_traced 2 none 1 7 TX7 34 := ⟨tb_m (i := 973) rfl rfl, tb_m (i := 975) rfl rfl, tb_m (i := 49) rfl rfl, tb_m (i := 58) rfl rfl, tb_m (i := 976) rfl rfl, ⟨by decide +kernel, by decide +kernel, by decide +kernel⟩, rfl⟩
def w_X7_tell (G : GT) (h_t : Nat) (h_t_kindOf : Nat) (h_t_needsOf : Nat) (h_t_fromOf : Nat) (h_t_toOf : Nat) (h_t_longOf : Nat) (h_t_readKind : Nat) (h_t_readNeeds : Nat) (h_t_readFrom : Nat) (h_t_readTo : Nat) (h_t_readLong : Nat) (h_t_pullOf : Nat) (h_t_pullAt : Nat) (h_t_peals : Nat) (h_t_swings : Nat) (h_t_lastRang : Nat) (h_t_heardSince : Nat) (h_t_readingOf : Nat) (h_t_readingAt : Nat) (h_t_readingIs : Nat) (h_t_sheetSize : Nat) (h_t_sheetLane : Nat) (h_t_sheet : Nat) (h_t_hands : Nat) (t_fault : Int32) (t_bells : Int32) (t_tied : Int32) (t_ropes : Int32) (t_spanNow : Int32) (t_readAt : Int32) (t_readBells : Int32) (t_readRopes : Int32) (t_pulls : Int32) (t_readings : Int32) (t_traceNow : Int32) (t_kindOf : (Nat → Int32)) (t_needsOf : (Nat → Int32)) : va_W := [(h_t, .inr (7, [.int t_fault, .int t_bells, .ref h_t_kindOf, .ref h_t_needsOf, .int t_tied, .int t_ropes, .ref h_t_fromOf, .ref h_t_toOf, .ref h_t_longOf, .int t_spanNow, .int t_readAt, .int t_readBells, .int t_readRopes, .ref h_t_readKind, .ref h_t_readNeeds, .ref h_t_readFrom, .ref h_t_readTo, .ref h_t_readLong, .int t_pulls, .ref h_t_pullOf, .ref h_t_pullAt, .ref h_t_peals, .ref h_t_swings, .ref h_t_lastRang, .ref h_t_heardSince, .int t_readings, .ref h_t_readingOf, .ref h_t_readingAt, .ref h_t_readingIs, .ref h_t_sheetSize, .ref h_t_sheetLane, .ref h_t_sheet, .ref h_t_hands, .int t_traceNow])), (h_t_kindOf, .inl (G.2.1, 6, .inl t_kindOf)), (h_t_needsOf, .inl (G.2.1, 6, .inl t_needsOf))]
def M_X7_tell (t_bells : Int32) (t_traceNow : Int32) (t_kindOf : (Nat → Int32)) (t_needsOf : (Nat → Int32)) (a1 : Int32) : Option (Int32 × Int32) := ((M_X7_noBell t_bells a1).bind (fun u1 => (if u1 = 0 then (gB (inb a1 6) (nme (t_kindOf (Int32.toNatClampNeg a1)) (fun v2 => (if v2 = (2 : Int32) then ((M_X7_traced t_traceNow (3 : Int32)).bind (fun u12 => (if v2 ≤ 0 then ((M_X7_traced u12 (1 : Int32)).bind (fun u13 => (if v2 = (2 : Int32) then ((M_X7_traced u13 (1 : Int32)).bind (fun u15 => (gB (inb a1 6) (nme (t_needsOf (Int32.toNatClampNeg a1)) (fun v16 => (if v2 = 0 then (some (v16, u15)) else (if v2 = (1 : Int32) then (some ((v16 + (100 : Int32)), u15)) else (some ((((2 : Int32) * v16) + (100 : Int32)), u15))))))))) else (gB (inb a1 6) (nme (t_needsOf (Int32.toNatClampNeg a1)) (fun v14 => (if v2 = 0 then (some (v14, u13)) else (if v2 = (1 : Int32) then (some ((v14 + (100 : Int32)), u13)) else (some ((((2 : Int32) * v14) + (100 : Int32)), u13)))))))))) else ((M_X7_traced u12 (2 : Int32)).bind (fun u17 => ((M_X7_traced u17 (1 : Int32)).bind (fun u18 => (if v2 = (2 : Int32) then ((M_X7_traced u18 (1 : Int32)).bind (fun u20 => (gB (inb a1 6) (nme (t_needsOf (Int32.toNatClampNeg a1)) (fun v21 => (if v2 = 0 then (some (v21, u20)) else (if v2 = (1 : Int32) then (some ((v21 + (100 : Int32)), u20)) else (some ((((2 : Int32) * v21) + (100 : Int32)), u20))))))))) else (gB (inb a1 6) (nme (t_needsOf (Int32.toNatClampNeg a1)) (fun v19 => (if v2 = 0 then (some (v19, u18)) else (if v2 = (1 : Int32) then (some ((v19 + (100 : Int32)), u18)) else (some ((((2 : Int32) * v19) + (100 : Int32)), u18))))))))))))))) else (if v2 ≤ 0 then ((M_X7_traced t_traceNow (1 : Int32)).bind (fun u3 => (if v2 = (2 : Int32) then ((M_X7_traced u3 (1 : Int32)).bind (fun u5 => (gB (inb a1 6) (nme (t_needsOf (Int32.toNatClampNeg a1)) (fun v6 => (if v2 = 0 then (some (v6, u5)) else (if v2 = (1 : Int32) then (some ((v6 + (100 : Int32)), u5)) else (some ((((2 : Int32) * v6) + (100 : Int32)), u5))))))))) else (gB (inb a1 6) (nme (t_needsOf (Int32.toNatClampNeg a1)) (fun v4 => (if v2 = 0 then (some (v4, u3)) else (if v2 = (1 : Int32) then (some ((v4 + (100 : Int32)), u3)) else (some ((((2 : Int32) * v4) + (100 : Int32)), u3)))))))))) else ((M_X7_traced t_traceNow (2 : Int32)).bind (fun u7 => ((M_X7_traced u7 (1 : Int32)).bind (fun u8 => (if v2 = (2 : Int32) then ((M_X7_traced u8 (1 : Int32)).bind (fun u10 => (gB (inb a1 6) (nme (t_needsOf (Int32.toNatClampNeg a1)) (fun v11 => (if v2 = 0 then (some (v11, u10)) else (if v2 = (1 : Int32) then (some ((v11 + (100 : Int32)), u10)) else (some ((((2 : Int32) * v11) + (100 : Int32)), u10))))))))) else (gB (inb a1 6) (nme (t_needsOf (Int32.toNatClampNeg a1)) (fun v9 => (if v2 = 0 then (some (v9, u8)) else (if v2 = (1 : Int32) then (some ((v9 + (100 : Int32)), u8)) else (some ((((2 : Int32) * v9) + (100 : Int32)), u8))))))))))))))))) else (some ((-1 : Int32), t_traceNow)))))
set_option maxHeartbeats 4000000 in
set_option maxRecDepth 100000 in
theorem c_X7_tell (l : Launch) (G : GT) (h_t : Nat) (h_t_kindOf : Nat) (h_t_needsOf : Nat) (h_t_fromOf : Nat) (h_t_toOf : Nat) (h_t_longOf : Nat) (h_t_readKind : Nat) (h_t_readNeeds : Nat) (h_t_readFrom : Nat) (h_t_readTo : Nat) (h_t_readLong : Nat) (h_t_pullOf : Nat) (h_t_pullAt : Nat) (h_t_peals : Nat) (h_t_swings : Nat) (h_t_lastRang : Nat) (h_t_heardSince : Nat) (h_t_readingOf : Nat) (h_t_readingAt : Nat) (h_t_readingIs : Nat) (h_t_sheetSize : Nat) (h_t_sheetLane : Nat) (h_t_sheet : Nat) (h_t_hands : Nat) (t_fault : Int32) (t_bells : Int32) (t_tied : Int32) (t_ropes : Int32) (t_spanNow : Int32) (t_readAt : Int32) (t_readBells : Int32) (t_readRopes : Int32) (t_pulls : Int32) (t_readings : Int32) (t_traceNow : Int32) (t_kindOf : (Nat → Int32)) (t_needsOf : (Nat → Int32)) (a1 : Int32) {u : Int32 × Int32} (hm : M_X7_tell t_bells t_traceNow t_kindOf t_needsOf a1 = some u) : CT l yX7_tell cX7_tell 4 (some .int) 2 46 [.ref h_t, .int a1] G (w_X7_tell G h_t h_t_kindOf h_t_needsOf h_t_fromOf h_t_toOf h_t_longOf h_t_readKind h_t_readNeeds h_t_readFrom h_t_readTo h_t_readLong h_t_pullOf h_t_pullAt h_t_peals h_t_swings h_t_lastRang h_t_heardSince h_t_readingOf h_t_readingAt h_t_readingIs h_t_sheetSize h_t_sheetLane h_t_sheet h_t_hands t_fault t_bells t_tied t_ropes t_spanNow t_readAt t_readBells t_readRopes t_pulls t_readings t_traceNow t_kindOf t_needsOf) (some (.int u.1)) (w_X7_tell G h_t h_t_kindOf h_t_needsOf h_t_fromOf h_t_toOf h_t_longOf h_t_readKind h_t_readNeeds h_t_readFrom h_t_readTo h_t_readLong h_t_pullOf h_t_pullAt h_t_peals h_t_swings h_t_lastRang h_t_heardSince h_t_readingOf h_t_readingAt h_t_readingIs h_t_sheetSize h_t_sheetLane h_t_sheet h_t_hands t_fault t_bells t_tied t_ropes t_spanNow t_readAt t_readBells t_readRopes t_pulls t_readings u.2 t_kindOf t_needsOf) := by
  refine ct_intro RX7 [(0, .ref h_t), (1, .int a1)] (by decide) rfl (Nat.le_of_ble_eq_true rfl) rfl (fun X hX cx => ?_)
  unfold M_X7_tell at hm
  refine k_aload_n 0 cx dX7_tell_0 rfl 0 rfl ?_
  refine k_iload_n 1 cx dX7_tell_1 rfl 1 rfl ?_
  obtain ⟨u1, hu1, hm⟩ := bnd hm
  refine k_callV 2 cx cwX7_160 (c_X7_noBell X.2.1 G h_t h_t_kindOf h_t_needsOf h_t_fromOf h_t_toOf h_t_longOf h_t_readKind h_t_readNeeds h_t_readFrom h_t_readTo h_t_readLong h_t_pullOf h_t_pullAt h_t_peals h_t_swings h_t_lastRang h_t_heardSince h_t_readingOf h_t_readingAt h_t_readingIs h_t_sheetSize h_t_sheetLane h_t_sheet h_t_hands t_fault t_bells t_tied t_ropes t_spanNow t_readAt t_readBells t_readRopes t_pulls t_readings t_traceNow a1 hu1) dX7_tell_2 ⟨by decide, by decide⟩ rfl rfl (rest := []) rfl (Nat.le_of_ble_eq_true rfl) [0] (by decide) rfl rfl (w2 := (w_X7_tell G h_t h_t_kindOf h_t_needsOf h_t_fromOf h_t_toOf h_t_longOf h_t_readKind h_t_readNeeds h_t_readFrom h_t_readTo h_t_readLong h_t_pullOf h_t_pullAt h_t_peals h_t_swings h_t_lastRang h_t_heardSince h_t_readingOf h_t_readingAt h_t_readingIs h_t_sheetSize h_t_sheetLane h_t_sheet h_t_hands t_fault t_bells t_tied t_ropes t_spanNow t_readAt t_readBells t_readRopes t_pulls t_readings t_traceNow t_kindOf t_needsOf)) [1, 2] 3 rfl [(h_t_kindOf, .inl (G.2.1, 6, .inl t_kindOf)), (h_t_needsOf, .inl (G.2.1, 6, .inl t_needsOf))] rfl rfl rfl (by decide) (st2 := [.int u1]) rfl ?_
  refine k_if_eq 5 cx (tgt := 10) dX7_tell_5 (by decide) hm (fun hc hm => ?_) (fun hc hm => ?_)
  · refine k_aload_n 10 cx dX7_tell_10 rfl 0 rfl ?_
    refine fgX7_7 11 cx dX7_tell_11 0 rfl rfl ?_
    refine k_iload_n 14 cx dX7_tell_14 rfl 1 rfl ?_
    refine k_iald 15 cx dX7_tell_15 1 rfl hm (fun hm => ?_)
    refine k_nm hm (fun v2 hm => ?_)
    refine k_istore_n 16 cx dX7_tell_16 rfl (by decide) (lv' := [(2, .int v2), (0, .ref h_t), (1, .int a1)]) rfl ?_
    refine k_iload_n 17 cx dX7_tell_17 rfl 0 rfl ?_
    refine k_iconst 18 cx (v := (2 : Int32)) dX7_tell_18 (by decide) ?_
    refine k_icmp_ne 19 cx (tgt := 27) dX7_tell_19 (by decide) hm (fun hc hm => ?_) (fun hc hm => ?_)
    · refine k_aload_n 22 cx dX7_tell_22 rfl 1 rfl ?_
      refine k_iconst 23 cx (v := (3 : Int32)) dX7_tell_23 (by decide) ?_
      obtain ⟨u12, hu12, hm⟩ := bnd hm
      refine k_callV 24 cx cwX7_228 (c_X7_traced X.2.1 G h_t h_t_kindOf h_t_needsOf h_t_fromOf h_t_toOf h_t_longOf h_t_readKind h_t_readNeeds h_t_readFrom h_t_readTo h_t_readLong h_t_pullOf h_t_pullAt h_t_peals h_t_swings h_t_lastRang h_t_heardSince h_t_readingOf h_t_readingAt h_t_readingIs h_t_sheetSize h_t_sheetLane h_t_sheet h_t_hands t_fault t_bells t_tied t_ropes t_spanNow t_readAt t_readBells t_readRopes t_pulls t_readings t_traceNow (3 : Int32) hu12) dX7_tell_24 ⟨by decide, by decide⟩ rfl rfl (rest := []) rfl (Nat.le_of_ble_eq_true rfl) [0] (by decide) rfl rfl (w2 := (w_X7_tell G h_t h_t_kindOf h_t_needsOf h_t_fromOf h_t_toOf h_t_longOf h_t_readKind h_t_readNeeds h_t_readFrom h_t_readTo h_t_readLong h_t_pullOf h_t_pullAt h_t_peals h_t_swings h_t_lastRang h_t_heardSince h_t_readingOf h_t_readingAt h_t_readingIs h_t_sheetSize h_t_sheetLane h_t_sheet h_t_hands t_fault t_bells t_tied t_ropes t_spanNow t_readAt t_readBells t_readRopes t_pulls t_readings u12 t_kindOf t_needsOf)) [1, 2] 3 rfl [(h_t_kindOf, .inl (G.2.1, 6, .inl t_kindOf)), (h_t_needsOf, .inl (G.2.1, 6, .inl t_needsOf))] rfl rfl rfl (by decide) (st2 := []) rfl ?_
      refine k_iload_n 27 cx dX7_tell_27 rfl 0 rfl ?_
      refine k_if_le 28 cx (tgt := 36) dX7_tell_28 (by decide) hm (fun hc hm => ?_) (fun hc hm => ?_)
      · refine k_aload_n 36 cx dX7_tell_36 rfl 1 rfl ?_
        refine k_iconst 37 cx (v := (1 : Int32)) dX7_tell_37 (by decide) ?_
        obtain ⟨u13, hu13, hm⟩ := bnd hm
        refine k_callV 38 cx cwX7_228 (c_X7_traced X.2.1 G h_t h_t_kindOf h_t_needsOf h_t_fromOf h_t_toOf h_t_longOf h_t_readKind h_t_readNeeds h_t_readFrom h_t_readTo h_t_readLong h_t_pullOf h_t_pullAt h_t_peals h_t_swings h_t_lastRang h_t_heardSince h_t_readingOf h_t_readingAt h_t_readingIs h_t_sheetSize h_t_sheetLane h_t_sheet h_t_hands t_fault t_bells t_tied t_ropes t_spanNow t_readAt t_readBells t_readRopes t_pulls t_readings u12 (1 : Int32) hu13) dX7_tell_38 ⟨by decide, by decide⟩ rfl rfl (rest := []) rfl (Nat.le_of_ble_eq_true rfl) [0] (by decide) rfl rfl (w2 := (w_X7_tell G h_t h_t_kindOf h_t_needsOf h_t_fromOf h_t_toOf h_t_longOf h_t_readKind h_t_readNeeds h_t_readFrom h_t_readTo h_t_readLong h_t_pullOf h_t_pullAt h_t_peals h_t_swings h_t_lastRang h_t_heardSince h_t_readingOf h_t_readingAt h_t_readingIs h_t_sheetSize h_t_sheetLane h_t_sheet h_t_hands t_fault t_bells t_tied t_ropes t_spanNow t_readAt t_readBells t_readRopes t_pulls t_readings u13 t_kindOf t_needsOf)) [1, 2] 3 rfl [(h_t_kindOf, .inl (G.2.1, 6, .inl t_kindOf)), (h_t_needsOf, .inl (G.2.1, 6, .inl t_needsOf))] rfl rfl rfl (by decide) (st2 := []) rfl ?_
        refine k_iload_n 41 cx dX7_tell_41 rfl 0 rfl ?_
        refine k_iconst 42 cx (v := (2 : Int32)) dX7_tell_42 (by decide) ?_
        refine k_icmp_ne 43 cx (tgt := 51) dX7_tell_43 (by decide) hm (fun hc hm => ?_) (fun hc hm => ?_)
        · refine k_aload_n 46 cx dX7_tell_46 rfl 1 rfl ?_
          refine k_iconst 47 cx (v := (1 : Int32)) dX7_tell_47 (by decide) ?_
          obtain ⟨u15, hu15, hm⟩ := bnd hm
          refine k_callV 48 cx cwX7_228 (c_X7_traced X.2.1 G h_t h_t_kindOf h_t_needsOf h_t_fromOf h_t_toOf h_t_longOf h_t_readKind h_t_readNeeds h_t_readFrom h_t_readTo h_t_readLong h_t_pullOf h_t_pullAt h_t_peals h_t_swings h_t_lastRang h_t_heardSince h_t_readingOf h_t_readingAt h_t_readingIs h_t_sheetSize h_t_sheetLane h_t_sheet h_t_hands t_fault t_bells t_tied t_ropes t_spanNow t_readAt t_readBells t_readRopes t_pulls t_readings u13 (1 : Int32) hu15) dX7_tell_48 ⟨by decide, by decide⟩ rfl rfl (rest := []) rfl (Nat.le_of_ble_eq_true rfl) [0] (by decide) rfl rfl (w2 := (w_X7_tell G h_t h_t_kindOf h_t_needsOf h_t_fromOf h_t_toOf h_t_longOf h_t_readKind h_t_readNeeds h_t_readFrom h_t_readTo h_t_readLong h_t_pullOf h_t_pullAt h_t_peals h_t_swings h_t_lastRang h_t_heardSince h_t_readingOf h_t_readingAt h_t_readingIs h_t_sheetSize h_t_sheetLane h_t_sheet h_t_hands t_fault t_bells t_tied t_ropes t_spanNow t_readAt t_readBells t_readRopes t_pulls t_readings u15 t_kindOf t_needsOf)) [1, 2] 3 rfl [(h_t_kindOf, .inl (G.2.1, 6, .inl t_kindOf)), (h_t_needsOf, .inl (G.2.1, 6, .inl t_needsOf))] rfl rfl rfl (by decide) (st2 := []) rfl ?_
          refine k_aload_n 51 cx dX7_tell_51 rfl 1 rfl ?_
          refine fgX7_13 52 cx dX7_tell_52 0 rfl rfl ?_
          refine k_iload_n 55 cx dX7_tell_55 rfl 2 rfl ?_
          refine k_iald 56 cx dX7_tell_56 2 rfl hm (fun hm => ?_)
          refine k_nm hm (fun v16 hm => ?_)
          refine k_istore_n 57 cx dX7_tell_57 rfl (by decide) (lv' := [(3, .int v16), (2, .int v2), (0, .ref h_t), (1, .int a1)]) rfl ?_
          refine k_iload_n 58 cx dX7_tell_58 rfl 1 rfl ?_
          refine k_if_ne 59 cx (tgt := 66) dX7_tell_59 (by decide) hm (fun hc hm => ?_) (fun hc hm => ?_)
          · refine k_iload_n 62 cx dX7_tell_62 rfl 0 rfl ?_
            refine k_goto 63 cx (tgt := 84) dX7_tell_63 (by decide) ?_
            obtain rfl := Option.some.inj hm
            exact k_iret 84 cx dX7_tell_84 rfl rfl
          · refine k_iload_n 66 cx dX7_tell_66 rfl 1 rfl ?_
            refine k_iconst 67 cx (v := (1 : Int32)) dX7_tell_67 (by decide) ?_
            refine k_icmp_ne 68 cx (tgt := 78) dX7_tell_68 (by decide) hm (fun hc hm => ?_) (fun hc hm => ?_)
            · refine k_iload_n 71 cx dX7_tell_71 rfl 0 rfl ?_
              refine k_bipush 72 cx (v := (100 : Int32)) dX7_tell_72 (by decide) ?_
              refine k_iadd 74 cx dX7_tell_74 ?_
              refine k_goto 75 cx (tgt := 84) dX7_tell_75 (by decide) ?_
              obtain rfl := Option.some.inj hm
              exact k_iret 84 cx dX7_tell_84 rfl rfl
            · refine k_iconst 78 cx (v := (2 : Int32)) dX7_tell_78 (by decide) ?_
              refine k_iload_n 79 cx dX7_tell_79 rfl 0 rfl ?_
              refine k_imul 80 cx dX7_tell_80 ?_
              refine k_bipush 81 cx (v := (100 : Int32)) dX7_tell_81 (by decide) ?_
              refine k_iadd 83 cx dX7_tell_83 ?_
              obtain rfl := Option.some.inj hm
              exact k_iret 84 cx dX7_tell_84 rfl rfl
        · refine k_aload_n 51 cx dX7_tell_51 rfl 1 rfl ?_
          refine fgX7_13 52 cx dX7_tell_52 0 rfl rfl ?_
          refine k_iload_n 55 cx dX7_tell_55 rfl 2 rfl ?_
          refine k_iald 56 cx dX7_tell_56 2 rfl hm (fun hm => ?_)
          refine k_nm hm (fun v14 hm => ?_)
          refine k_istore_n 57 cx dX7_tell_57 rfl (by decide) (lv' := [(3, .int v14), (2, .int v2), (0, .ref h_t), (1, .int a1)]) rfl ?_
          refine k_iload_n 58 cx dX7_tell_58 rfl 1 rfl ?_
          refine k_if_ne 59 cx (tgt := 66) dX7_tell_59 (by decide) hm (fun hc hm => ?_) (fun hc hm => ?_)
          · refine k_iload_n 62 cx dX7_tell_62 rfl 0 rfl ?_
            refine k_goto 63 cx (tgt := 84) dX7_tell_63 (by decide) ?_
            obtain rfl := Option.some.inj hm
            exact k_iret 84 cx dX7_tell_84 rfl rfl
          · refine k_iload_n 66 cx dX7_tell_66 rfl 1 rfl ?_
            refine k_iconst 67 cx (v := (1 : Int32)) dX7_tell_67 (by decide) ?_
            refine k_icmp_ne 68 cx (tgt := 78) dX7_tell_68 (by decide) hm (fun hc hm => ?_) (fun hc hm => ?_)
            · refine k_iload_n 71 cx dX7_tell_71 rfl 0 rfl ?_
              refine k_bipush 72 cx (v := (100 : Int32)) dX7_tell_72 (by decide) ?_
              refine k_iadd 74 cx dX7_tell_74 ?_
              refine k_goto 75 cx (tgt := 84) dX7_tell_75 (by decide) ?_
              obtain rfl := Option.some.inj hm
              exact k_iret 84 cx dX7_tell_84 rfl rfl
            · refine k_iconst 78 cx (v := (2 : Int32)) dX7_tell_78 (by decide) ?_
              refine k_iload_n 79 cx dX7_tell_79 rfl 0 rfl ?_
              refine k_imul 80 cx dX7_tell_80 ?_
              refine k_bipush 81 cx (v := (100 : Int32)) dX7_tell_81 (by decide) ?_
              refine k_iadd 83 cx dX7_tell_83 ?_
              obtain rfl := Option.some.inj hm
              exact k_iret 84 cx dX7_tell_84 rfl rfl
      · refine k_aload_n 31 cx dX7_tell_31 rfl 1 rfl ?_
        refine k_iconst 32 cx (v := (2 : Int32)) dX7_tell_32 (by decide) ?_
        obtain ⟨u17, hu17, hm⟩ := bnd hm
        refine k_callV 33 cx cwX7_228 (c_X7_traced X.2.1 G h_t h_t_kindOf h_t_needsOf h_t_fromOf h_t_toOf h_t_longOf h_t_readKind h_t_readNeeds h_t_readFrom h_t_readTo h_t_readLong h_t_pullOf h_t_pullAt h_t_peals h_t_swings h_t_lastRang h_t_heardSince h_t_readingOf h_t_readingAt h_t_readingIs h_t_sheetSize h_t_sheetLane h_t_sheet h_t_hands t_fault t_bells t_tied t_ropes t_spanNow t_readAt t_readBells t_readRopes t_pulls t_readings u12 (2 : Int32) hu17) dX7_tell_33 ⟨by decide, by decide⟩ rfl rfl (rest := []) rfl (Nat.le_of_ble_eq_true rfl) [0] (by decide) rfl rfl (w2 := (w_X7_tell G h_t h_t_kindOf h_t_needsOf h_t_fromOf h_t_toOf h_t_longOf h_t_readKind h_t_readNeeds h_t_readFrom h_t_readTo h_t_readLong h_t_pullOf h_t_pullAt h_t_peals h_t_swings h_t_lastRang h_t_heardSince h_t_readingOf h_t_readingAt h_t_readingIs h_t_sheetSize h_t_sheetLane h_t_sheet h_t_hands t_fault t_bells t_tied t_ropes t_spanNow t_readAt t_readBells t_readRopes t_pulls t_readings u17 t_kindOf t_needsOf)) [1, 2] 3 rfl [(h_t_kindOf, .inl (G.2.1, 6, .inl t_kindOf)), (h_t_needsOf, .inl (G.2.1, 6, .inl t_needsOf))] rfl rfl rfl (by decide) (st2 := []) rfl ?_
        refine k_aload_n 36 cx dX7_tell_36 rfl 1 rfl ?_
        refine k_iconst 37 cx (v := (1 : Int32)) dX7_tell_37 (by decide) ?_
        obtain ⟨u18, hu18, hm⟩ := bnd hm
        refine k_callV 38 cx cwX7_228 (c_X7_traced X.2.1 G h_t h_t_kindOf h_t_needsOf h_t_fromOf h_t_toOf h_t_longOf h_t_readKind h_t_readNeeds h_t_readFrom h_t_readTo h_t_readLong h_t_pullOf h_t_pullAt h_t_peals h_t_swings h_t_lastRang h_t_heardSince h_t_readingOf h_t_readingAt h_t_readingIs h_t_sheetSize h_t_sheetLane h_t_sheet h_t_hands t_fault t_bells t_tied t_ropes t_spanNow t_readAt t_readBells t_readRopes t_pulls t_readings u17 (1 : Int32) hu18) dX7_tell_38 ⟨by decide, by decide⟩ rfl rfl (rest := []) rfl (Nat.le_of_ble_eq_true rfl) [0] (by decide) rfl rfl (w2 := (w_X7_tell G h_t h_t_kindOf h_t_needsOf h_t_fromOf h_t_toOf h_t_longOf h_t_readKind h_t_readNeeds h_t_readFrom h_t_readTo h_t_readLong h_t_pullOf h_t_pullAt h_t_peals h_t_swings h_t_lastRang h_t_heardSince h_t_readingOf h_t_readingAt h_t_readingIs h_t_sheetSize h_t_sheetLane h_t_sheet h_t_hands t_fault t_bells t_tied t_ropes t_spanNow t_readAt t_readBells t_readRopes t_pulls t_readings u18 t_kindOf t_needsOf)) [1, 2] 3 rfl [(h_t_kindOf, .inl (G.2.1, 6, .inl t_kindOf)), (h_t_needsOf, .inl (G.2.1, 6, .inl t_needsOf))] rfl rfl rfl (by decide) (st2 := []) rfl ?_
        refine k_iload_n 41 cx dX7_tell_41 rfl 0 rfl ?_
        refine k_iconst 42 cx (v := (2 : Int32)) dX7_tell_42 (by decide) ?_
        refine k_icmp_ne 43 cx (tgt := 51) dX7_tell_43 (by decide) hm (fun hc hm => ?_) (fun hc hm => ?_)
        · refine k_aload_n 46 cx dX7_tell_46 rfl 1 rfl ?_
          refine k_iconst 47 cx (v := (1 : Int32)) dX7_tell_47 (by decide) ?_
          obtain ⟨u20, hu20, hm⟩ := bnd hm
          refine k_callV 48 cx cwX7_228 (c_X7_traced X.2.1 G h_t h_t_kindOf h_t_needsOf h_t_fromOf h_t_toOf h_t_longOf h_t_readKind h_t_readNeeds h_t_readFrom h_t_readTo h_t_readLong h_t_pullOf h_t_pullAt h_t_peals h_t_swings h_t_lastRang h_t_heardSince h_t_readingOf h_t_readingAt h_t_readingIs h_t_sheetSize h_t_sheetLane h_t_sheet h_t_hands t_fault t_bells t_tied t_ropes t_spanNow t_readAt t_readBells t_readRopes t_pulls t_readings u18 (1 : Int32) hu20) dX7_tell_48 ⟨by decide, by decide⟩ rfl rfl (rest := []) rfl (Nat.le_of_ble_eq_true rfl) [0] (by decide) rfl rfl (w2 := (w_X7_tell G h_t h_t_kindOf h_t_needsOf h_t_fromOf h_t_toOf h_t_longOf h_t_readKind h_t_readNeeds h_t_readFrom h_t_readTo h_t_readLong h_t_pullOf h_t_pullAt h_t_peals h_t_swings h_t_lastRang h_t_heardSince h_t_readingOf h_t_readingAt h_t_readingIs h_t_sheetSize h_t_sheetLane h_t_sheet h_t_hands t_fault t_bells t_tied t_ropes t_spanNow t_readAt t_readBells t_readRopes t_pulls t_readings u20 t_kindOf t_needsOf)) [1, 2] 3 rfl [(h_t_kindOf, .inl (G.2.1, 6, .inl t_kindOf)), (h_t_needsOf, .inl (G.2.1, 6, .inl t_needsOf))] rfl rfl rfl (by decide) (st2 := []) rfl ?_
          refine k_aload_n 51 cx dX7_tell_51 rfl 1 rfl ?_
          refine fgX7_13 52 cx dX7_tell_52 0 rfl rfl ?_
          refine k_iload_n 55 cx dX7_tell_55 rfl 2 rfl ?_
          refine k_iald 56 cx dX7_tell_56 2 rfl hm (fun hm => ?_)
          refine k_nm hm (fun v21 hm => ?_)
          refine k_istore_n 57 cx dX7_tell_57 rfl (by decide) (lv' := [(3, .int v21), (2, .int v2), (0, .ref h_t), (1, .int a1)]) rfl ?_
          refine k_iload_n 58 cx dX7_tell_58 rfl 1 rfl ?_
          refine k_if_ne 59 cx (tgt := 66) dX7_tell_59 (by decide) hm (fun hc hm => ?_) (fun hc hm => ?_)
          · refine k_iload_n 62 cx dX7_tell_62 rfl 0 rfl ?_
            refine k_goto 63 cx (tgt := 84) dX7_tell_63 (by decide) ?_
            obtain rfl := Option.some.inj hm
            exact k_iret 84 cx dX7_tell_84 rfl rfl
          · refine k_iload_n 66 cx dX7_tell_66 rfl 1 rfl ?_
            refine k_iconst 67 cx (v := (1 : Int32)) dX7_tell_67 (by decide) ?_
            refine k_icmp_ne 68 cx (tgt := 78) dX7_tell_68 (by decide) hm (fun hc hm => ?_) (fun hc hm => ?_)
            · refine k_iload_n 71 cx dX7_tell_71 rfl 0 rfl ?_
              refine k_bipush 72 cx (v := (100 : Int32)) dX7_tell_72 (by decide) ?_
              refine k_iadd 74 cx dX7_tell_74 ?_
              refine k_goto 75 cx (tgt := 84) dX7_tell_75 (by decide) ?_
              obtain rfl := Option.some.inj hm
              exact k_iret 84 cx dX7_tell_84 rfl rfl
            · refine k_iconst 78 cx (v := (2 : Int32)) dX7_tell_78 (by decide) ?_
              refine k_iload_n 79 cx dX7_tell_79 rfl 0 rfl ?_
              refine k_imul 80 cx dX7_tell_80 ?_
              refine k_bipush 81 cx (v := (100 : Int32)) dX7_tell_81 (by decide) ?_
              refine k_iadd 83 cx dX7_tell_83 ?_
              obtain rfl := Option.some.inj hm
              exact k_iret 84 cx dX7_tell_84 rfl rfl
        · refine k_aload_n 51 cx dX7_tell_51 rfl 1 rfl ?_
          refine fgX7_13 52 cx dX7_tell_52 0 rfl rfl ?_
          refine k_iload_n 55 cx dX7_tell_55 rfl 2 rfl ?_
          refine k_iald 56 cx dX7_tell_56 2 rfl hm (fun hm => ?_)
          refine k_nm hm (fun v19 hm => ?_)
          refine k_istore_n 57 cx dX7_tell_57 rfl (by decide) (lv' := [(3, .int v19), (2, .int v2), (0, .ref h_t), (1, .int a1)]) rfl ?_
          refine k_iload_n 58 cx dX7_tell_58 rfl 1 rfl ?_
          refine k_if_ne 59 cx (tgt := 66) dX7_tell_59 (by decide) hm (fun hc hm => ?_) (fun hc hm => ?_)
          · refine k_iload_n 62 cx dX7_tell_62 rfl 0 rfl ?_
            refine k_goto 63 cx (tgt := 84) dX7_tell_63 (by decide) ?_
            obtain rfl := Option.some.inj hm
            exact k_iret 84 cx dX7_tell_84 rfl rfl
          · refine k_iload_n 66 cx dX7_tell_66 rfl 1 rfl ?_
            refine k_iconst 67 cx (v := (1 : Int32)) dX7_tell_67 (by decide) ?_
            refine k_icmp_ne 68 cx (tgt := 78) dX7_tell_68 (by decide) hm (fun hc hm => ?_) (fun hc hm => ?_)
            · refine k_iload_n 71 cx dX7_tell_71 rfl 0 rfl ?_
              refine k_bipush 72 cx (v := (100 : Int32)) dX7_tell_72 (by decide) ?_
              refine k_iadd 74 cx dX7_tell_74 ?_
              refine k_goto 75 cx (tgt := 84) dX7_tell_75 (by decide) ?_
              obtain rfl := Option.some.inj hm
              exact k_iret 84 cx dX7_tell_84 rfl rfl
            · refine k_iconst 78 cx (v := (2 : Int32)) dX7_tell_78 (by decide) ?_
              refine k_iload_n 79 cx dX7_tell_79 rfl 0 rfl ?_
              refine k_imul 80 cx dX7_tell_80 ?_
              refine k_bipush 81 cx (v := (100 : Int32)) dX7_tell_81 (by decide) ?_
              refine k_iadd 83 cx dX7_tell_83 ?_
              obtain rfl := Option.some.inj hm
              exact k_iret 84 cx dX7_tell_84 rfl rfl
    · refine k_iload_n 27 cx dX7_tell_27 rfl 0 rfl ?_
      refine k_if_le 28 cx (tgt := 36) dX7_tell_28 (by decide) hm (fun hc hm => ?_) (fun hc hm => ?_)
      · refine k_aload_n 36 cx dX7_tell_36 rfl 1 rfl ?_
        refine k_iconst 37 cx (v := (1 : Int32)) dX7_tell_37 (by decide) ?_
        obtain ⟨u3, hu3, hm⟩ := bnd hm
        refine k_callV 38 cx cwX7_228 (c_X7_traced X.2.1 G h_t h_t_kindOf h_t_needsOf h_t_fromOf h_t_toOf h_t_longOf h_t_readKind h_t_readNeeds h_t_readFrom h_t_readTo h_t_readLong h_t_pullOf h_t_pullAt h_t_peals h_t_swings h_t_lastRang h_t_heardSince h_t_readingOf h_t_readingAt h_t_readingIs h_t_sheetSize h_t_sheetLane h_t_sheet h_t_hands t_fault t_bells t_tied t_ropes t_spanNow t_readAt t_readBells t_readRopes t_pulls t_readings t_traceNow (1 : Int32) hu3) dX7_tell_38 ⟨by decide, by decide⟩ rfl rfl (rest := []) rfl (Nat.le_of_ble_eq_true rfl) [0] (by decide) rfl rfl (w2 := (w_X7_tell G h_t h_t_kindOf h_t_needsOf h_t_fromOf h_t_toOf h_t_longOf h_t_readKind h_t_readNeeds h_t_readFrom h_t_readTo h_t_readLong h_t_pullOf h_t_pullAt h_t_peals h_t_swings h_t_lastRang h_t_heardSince h_t_readingOf h_t_readingAt h_t_readingIs h_t_sheetSize h_t_sheetLane h_t_sheet h_t_hands t_fault t_bells t_tied t_ropes t_spanNow t_readAt t_readBells t_readRopes t_pulls t_readings u3 t_kindOf t_needsOf)) [1, 2] 3 rfl [(h_t_kindOf, .inl (G.2.1, 6, .inl t_kindOf)), (h_t_needsOf, .inl (G.2.1, 6, .inl t_needsOf))] rfl rfl rfl (by decide) (st2 := []) rfl ?_
        refine k_iload_n 41 cx dX7_tell_41 rfl 0 rfl ?_
        refine k_iconst 42 cx (v := (2 : Int32)) dX7_tell_42 (by decide) ?_
        refine k_icmp_ne 43 cx (tgt := 51) dX7_tell_43 (by decide) hm (fun hc hm => ?_) (fun hc hm => ?_)
        · refine k_aload_n 46 cx dX7_tell_46 rfl 1 rfl ?_
          refine k_iconst 47 cx (v := (1 : Int32)) dX7_tell_47 (by decide) ?_
          obtain ⟨u5, hu5, hm⟩ := bnd hm
          refine k_callV 48 cx cwX7_228 (c_X7_traced X.2.1 G h_t h_t_kindOf h_t_needsOf h_t_fromOf h_t_toOf h_t_longOf h_t_readKind h_t_readNeeds h_t_readFrom h_t_readTo h_t_readLong h_t_pullOf h_t_pullAt h_t_peals h_t_swings h_t_lastRang h_t_heardSince h_t_readingOf h_t_readingAt h_t_readingIs h_t_sheetSize h_t_sheetLane h_t_sheet h_t_hands t_fault t_bells t_tied t_ropes t_spanNow t_readAt t_readBells t_readRopes t_pulls t_readings u3 (1 : Int32) hu5) dX7_tell_48 ⟨by decide, by decide⟩ rfl rfl (rest := []) rfl (Nat.le_of_ble_eq_true rfl) [0] (by decide) rfl rfl (w2 := (w_X7_tell G h_t h_t_kindOf h_t_needsOf h_t_fromOf h_t_toOf h_t_longOf h_t_readKind h_t_readNeeds h_t_readFrom h_t_readTo h_t_readLong h_t_pullOf h_t_pullAt h_t_peals h_t_swings h_t_lastRang h_t_heardSince h_t_readingOf h_t_readingAt h_t_readingIs h_t_sheetSize h_t_sheetLane h_t_sheet h_t_hands t_fault t_bells t_tied t_ropes t_spanNow t_readAt t_readBells t_readRopes t_pulls t_readings u5 t_kindOf t_needsOf)) [1, 2] 3 rfl [(h_t_kindOf, .inl (G.2.1, 6, .inl t_kindOf)), (h_t_needsOf, .inl (G.2.1, 6, .inl t_needsOf))] rfl rfl rfl (by decide) (st2 := []) rfl ?_
          refine k_aload_n 51 cx dX7_tell_51 rfl 1 rfl ?_
          refine fgX7_13 52 cx dX7_tell_52 0 rfl rfl ?_
          refine k_iload_n 55 cx dX7_tell_55 rfl 2 rfl ?_
          refine k_iald 56 cx dX7_tell_56 2 rfl hm (fun hm => ?_)
          refine k_nm hm (fun v6 hm => ?_)
          refine k_istore_n 57 cx dX7_tell_57 rfl (by decide) (lv' := [(3, .int v6), (2, .int v2), (0, .ref h_t), (1, .int a1)]) rfl ?_
          refine k_iload_n 58 cx dX7_tell_58 rfl 1 rfl ?_
          refine k_if_ne 59 cx (tgt := 66) dX7_tell_59 (by decide) hm (fun hc hm => ?_) (fun hc hm => ?_)
          · refine k_iload_n 62 cx dX7_tell_62 rfl 0 rfl ?_
            refine k_goto 63 cx (tgt := 84) dX7_tell_63 (by decide) ?_
            obtain rfl := Option.some.inj hm
            exact k_iret 84 cx dX7_tell_84 rfl rfl
          · refine k_iload_n 66 cx dX7_tell_66 rfl 1 rfl ?_
            refine k_iconst 67 cx (v := (1 : Int32)) dX7_tell_67 (by decide) ?_
            refine k_icmp_ne 68 cx (tgt := 78) dX7_tell_68 (by decide) hm (fun hc hm => ?_) (fun hc hm => ?_)
            · refine k_iload_n 71 cx dX7_tell_71 rfl 0 rfl ?_
              refine k_bipush 72 cx (v := (100 : Int32)) dX7_tell_72 (by decide) ?_
              refine k_iadd 74 cx dX7_tell_74 ?_
              refine k_goto 75 cx (tgt := 84) dX7_tell_75 (by decide) ?_
              obtain rfl := Option.some.inj hm
              exact k_iret 84 cx dX7_tell_84 rfl rfl
            · refine k_iconst 78 cx (v := (2 : Int32)) dX7_tell_78 (by decide) ?_
              refine k_iload_n 79 cx dX7_tell_79 rfl 0 rfl ?_
              refine k_imul 80 cx dX7_tell_80 ?_
              refine k_bipush 81 cx (v := (100 : Int32)) dX7_tell_81 (by decide) ?_
              refine k_iadd 83 cx dX7_tell_83 ?_
              obtain rfl := Option.some.inj hm
              exact k_iret 84 cx dX7_tell_84 rfl rfl
        · refine k_aload_n 51 cx dX7_tell_51 rfl 1 rfl ?_
          refine fgX7_13 52 cx dX7_tell_52 0 rfl rfl ?_
          refine k_iload_n 55 cx dX7_tell_55 rfl 2 rfl ?_
          refine k_iald 56 cx dX7_tell_56 2 rfl hm (fun hm => ?_)
          refine k_nm hm (fun v4 hm => ?_)
          refine k_istore_n 57 cx dX7_tell_57 rfl (by decide) (lv' := [(3, .int v4), (2, .int v2), (0, .ref h_t), (1, .int a1)]) rfl ?_
          refine k_iload_n 58 cx dX7_tell_58 rfl 1 rfl ?_
          refine k_if_ne 59 cx (tgt := 66) dX7_tell_59 (by decide) hm (fun hc hm => ?_) (fun hc hm => ?_)
          · refine k_iload_n 62 cx dX7_tell_62 rfl 0 rfl ?_
            refine k_goto 63 cx (tgt := 84) dX7_tell_63 (by decide) ?_
            obtain rfl := Option.some.inj hm
            exact k_iret 84 cx dX7_tell_84 rfl rfl
          · refine k_iload_n 66 cx dX7_tell_66 rfl 1 rfl ?_
            refine k_iconst 67 cx (v := (1 : Int32)) dX7_tell_67 (by decide) ?_
            refine k_icmp_ne 68 cx (tgt := 78) dX7_tell_68 (by decide) hm (fun hc hm => ?_) (fun hc hm => ?_)
            · refine k_iload_n 71 cx dX7_tell_71 rfl 0 rfl ?_
              refine k_bipush 72 cx (v := (100 : Int32)) dX7_tell_72 (by decide) ?_
              refine k_iadd 74 cx dX7_tell_74 ?_
              refine k_goto 75 cx (tgt := 84) dX7_tell_75 (by decide) ?_
              obtain rfl := Option.some.inj hm
              exact k_iret 84 cx dX7_tell_84 rfl rfl
            · refine k_iconst 78 cx (v := (2 : Int32)) dX7_tell_78 (by decide) ?_
              refine k_iload_n 79 cx dX7_tell_79 rfl 0 rfl ?_
              refine k_imul 80 cx dX7_tell_80 ?_
              refine k_bipush 81 cx (v := (100 : Int32)) dX7_tell_81 (by decide) ?_
              refine k_iadd 83 cx dX7_tell_83 ?_
              obtain rfl := Option.some.inj hm
              exact k_iret 84 cx dX7_tell_84 rfl rfl
      · refine k_aload_n 31 cx dX7_tell_31 rfl 1 rfl ?_
        refine k_iconst 32 cx (v := (2 : Int32)) dX7_tell_32 (by decide) ?_
        obtain ⟨u7, hu7, hm⟩ := bnd hm
        refine k_callV 33 cx cwX7_228 (c_X7_traced X.2.1 G h_t h_t_kindOf h_t_needsOf h_t_fromOf h_t_toOf h_t_longOf h_t_readKind h_t_readNeeds h_t_readFrom h_t_readTo h_t_readLong h_t_pullOf h_t_pullAt h_t_peals h_t_swings h_t_lastRang h_t_heardSince h_t_readingOf h_t_readingAt h_t_readingIs h_t_sheetSize h_t_sheetLane h_t_sheet h_t_hands t_fault t_bells t_tied t_ropes t_spanNow t_readAt t_readBells t_readRopes t_pulls t_readings t_traceNow (2 : Int32) hu7) dX7_tell_33 ⟨by decide, by decide⟩ rfl rfl (rest := []) rfl (Nat.le_of_ble_eq_true rfl) [0] (by decide) rfl rfl (w2 := (w_X7_tell G h_t h_t_kindOf h_t_needsOf h_t_fromOf h_t_toOf h_t_longOf h_t_readKind h_t_readNeeds h_t_readFrom h_t_readTo h_t_readLong h_t_pullOf h_t_pullAt h_t_peals h_t_swings h_t_lastRang h_t_heardSince h_t_readingOf h_t_readingAt h_t_readingIs h_t_sheetSize h_t_sheetLane h_t_sheet h_t_hands t_fault t_bells t_tied t_ropes t_spanNow t_readAt t_readBells t_readRopes t_pulls t_readings u7 t_kindOf t_needsOf)) [1, 2] 3 rfl [(h_t_kindOf, .inl (G.2.1, 6, .inl t_kindOf)), (h_t_needsOf, .inl (G.2.1, 6, .inl t_needsOf))] rfl rfl rfl (by decide) (st2 := []) rfl ?_
        refine k_aload_n 36 cx dX7_tell_36 rfl 1 rfl ?_
        refine k_iconst 37 cx (v := (1 : Int32)) dX7_tell_37 (by decide) ?_
        obtain ⟨u8, hu8, hm⟩ := bnd hm
        refine k_callV 38 cx cwX7_228 (c_X7_traced X.2.1 G h_t h_t_kindOf h_t_needsOf h_t_fromOf h_t_toOf h_t_longOf h_t_readKind h_t_readNeeds h_t_readFrom h_t_readTo h_t_readLong h_t_pullOf h_t_pullAt h_t_peals h_t_swings h_t_lastRang h_t_heardSince h_t_readingOf h_t_readingAt h_t_readingIs h_t_sheetSize h_t_sheetLane h_t_sheet h_t_hands t_fault t_bells t_tied t_ropes t_spanNow t_readAt t_readBells t_readRopes t_pulls t_readings u7 (1 : Int32) hu8) dX7_tell_38 ⟨by decide, by decide⟩ rfl rfl (rest := []) rfl (Nat.le_of_ble_eq_true rfl) [0] (by decide) rfl rfl (w2 := (w_X7_tell G h_t h_t_kindOf h_t_needsOf h_t_fromOf h_t_toOf h_t_longOf h_t_readKind h_t_readNeeds h_t_readFrom h_t_readTo h_t_readLong h_t_pullOf h_t_pullAt h_t_peals h_t_swings h_t_lastRang h_t_heardSince h_t_readingOf h_t_readingAt h_t_readingIs h_t_sheetSize h_t_sheetLane h_t_sheet h_t_hands t_fault t_bells t_tied t_ropes t_spanNow t_readAt t_readBells t_readRopes t_pulls t_readings u8 t_kindOf t_needsOf)) [1, 2] 3 rfl [(h_t_kindOf, .inl (G.2.1, 6, .inl t_kindOf)), (h_t_needsOf, .inl (G.2.1, 6, .inl t_needsOf))] rfl rfl rfl (by decide) (st2 := []) rfl ?_
        refine k_iload_n 41 cx dX7_tell_41 rfl 0 rfl ?_
        refine k_iconst 42 cx (v := (2 : Int32)) dX7_tell_42 (by decide) ?_
        refine k_icmp_ne 43 cx (tgt := 51) dX7_tell_43 (by decide) hm (fun hc hm => ?_) (fun hc hm => ?_)
        · refine k_aload_n 46 cx dX7_tell_46 rfl 1 rfl ?_
          refine k_iconst 47 cx (v := (1 : Int32)) dX7_tell_47 (by decide) ?_
          obtain ⟨u10, hu10, hm⟩ := bnd hm
          refine k_callV 48 cx cwX7_228 (c_X7_traced X.2.1 G h_t h_t_kindOf h_t_needsOf h_t_fromOf h_t_toOf h_t_longOf h_t_readKind h_t_readNeeds h_t_readFrom h_t_readTo h_t_readLong h_t_pullOf h_t_pullAt h_t_peals h_t_swings h_t_lastRang h_t_heardSince h_t_readingOf h_t_readingAt h_t_readingIs h_t_sheetSize h_t_sheetLane h_t_sheet h_t_hands t_fault t_bells t_tied t_ropes t_spanNow t_readAt t_readBells t_readRopes t_pulls t_readings u8 (1 : Int32) hu10) dX7_tell_48 ⟨by decide, by decide⟩ rfl rfl (rest := []) rfl (Nat.le_of_ble_eq_true rfl) [0] (by decide) rfl rfl (w2 := (w_X7_tell G h_t h_t_kindOf h_t_needsOf h_t_fromOf h_t_toOf h_t_longOf h_t_readKind h_t_readNeeds h_t_readFrom h_t_readTo h_t_readLong h_t_pullOf h_t_pullAt h_t_peals h_t_swings h_t_lastRang h_t_heardSince h_t_readingOf h_t_readingAt h_t_readingIs h_t_sheetSize h_t_sheetLane h_t_sheet h_t_hands t_fault t_bells t_tied t_ropes t_spanNow t_readAt t_readBells t_readRopes t_pulls t_readings u10 t_kindOf t_needsOf)) [1, 2] 3 rfl [(h_t_kindOf, .inl (G.2.1, 6, .inl t_kindOf)), (h_t_needsOf, .inl (G.2.1, 6, .inl t_needsOf))] rfl rfl rfl (by decide) (st2 := []) rfl ?_
          refine k_aload_n 51 cx dX7_tell_51 rfl 1 rfl ?_
          refine fgX7_13 52 cx dX7_tell_52 0 rfl rfl ?_
          refine k_iload_n 55 cx dX7_tell_55 rfl 2 rfl ?_
          refine k_iald 56 cx dX7_tell_56 2 rfl hm (fun hm => ?_)
          refine k_nm hm (fun v11 hm => ?_)
          refine k_istore_n 57 cx dX7_tell_57 rfl (by decide) (lv' := [(3, .int v11), (2, .int v2), (0, .ref h_t), (1, .int a1)]) rfl ?_
          refine k_iload_n 58 cx dX7_tell_58 rfl 1 rfl ?_
          refine k_if_ne 59 cx (tgt := 66) dX7_tell_59 (by decide) hm (fun hc hm => ?_) (fun hc hm => ?_)
          · refine k_iload_n 62 cx dX7_tell_62 rfl 0 rfl ?_
            refine k_goto 63 cx (tgt := 84) dX7_tell_63 (by decide) ?_
            obtain rfl := Option.some.inj hm
            exact k_iret 84 cx dX7_tell_84 rfl rfl
          · refine k_iload_n 66 cx dX7_tell_66 rfl 1 rfl ?_
            refine k_iconst 67 cx (v := (1 : Int32)) dX7_tell_67 (by decide) ?_
            refine k_icmp_ne 68 cx (tgt := 78) dX7_tell_68 (by decide) hm (fun hc hm => ?_) (fun hc hm => ?_)
            · refine k_iload_n 71 cx dX7_tell_71 rfl 0 rfl ?_
              refine k_bipush 72 cx (v := (100 : Int32)) dX7_tell_72 (by decide) ?_
              refine k_iadd 74 cx dX7_tell_74 ?_
              refine k_goto 75 cx (tgt := 84) dX7_tell_75 (by decide) ?_
              obtain rfl := Option.some.inj hm
              exact k_iret 84 cx dX7_tell_84 rfl rfl
            · refine k_iconst 78 cx (v := (2 : Int32)) dX7_tell_78 (by decide) ?_
              refine k_iload_n 79 cx dX7_tell_79 rfl 0 rfl ?_
              refine k_imul 80 cx dX7_tell_80 ?_
              refine k_bipush 81 cx (v := (100 : Int32)) dX7_tell_81 (by decide) ?_
              refine k_iadd 83 cx dX7_tell_83 ?_
              obtain rfl := Option.some.inj hm
              exact k_iret 84 cx dX7_tell_84 rfl rfl
        · refine k_aload_n 51 cx dX7_tell_51 rfl 1 rfl ?_
          refine fgX7_13 52 cx dX7_tell_52 0 rfl rfl ?_
          refine k_iload_n 55 cx dX7_tell_55 rfl 2 rfl ?_
          refine k_iald 56 cx dX7_tell_56 2 rfl hm (fun hm => ?_)
          refine k_nm hm (fun v9 hm => ?_)
          refine k_istore_n 57 cx dX7_tell_57 rfl (by decide) (lv' := [(3, .int v9), (2, .int v2), (0, .ref h_t), (1, .int a1)]) rfl ?_
          refine k_iload_n 58 cx dX7_tell_58 rfl 1 rfl ?_
          refine k_if_ne 59 cx (tgt := 66) dX7_tell_59 (by decide) hm (fun hc hm => ?_) (fun hc hm => ?_)
          · refine k_iload_n 62 cx dX7_tell_62 rfl 0 rfl ?_
            refine k_goto 63 cx (tgt := 84) dX7_tell_63 (by decide) ?_
            obtain rfl := Option.some.inj hm
            exact k_iret 84 cx dX7_tell_84 rfl rfl
          · refine k_iload_n 66 cx dX7_tell_66 rfl 1 rfl ?_
            refine k_iconst 67 cx (v := (1 : Int32)) dX7_tell_67 (by decide) ?_
            refine k_icmp_ne 68 cx (tgt := 78) dX7_tell_68 (by decide) hm (fun hc hm => ?_) (fun hc hm => ?_)
            · refine k_iload_n 71 cx dX7_tell_71 rfl 0 rfl ?_
              refine k_bipush 72 cx (v := (100 : Int32)) dX7_tell_72 (by decide) ?_
              refine k_iadd 74 cx dX7_tell_74 ?_
              refine k_goto 75 cx (tgt := 84) dX7_tell_75 (by decide) ?_
              obtain rfl := Option.some.inj hm
              exact k_iret 84 cx dX7_tell_84 rfl rfl
            · refine k_iconst 78 cx (v := (2 : Int32)) dX7_tell_78 (by decide) ?_
              refine k_iload_n 79 cx dX7_tell_79 rfl 0 rfl ?_
              refine k_imul 80 cx dX7_tell_80 ?_
              refine k_bipush 81 cx (v := (100 : Int32)) dX7_tell_81 (by decide) ?_
              refine k_iadd 83 cx dX7_tell_83 ?_
              obtain rfl := Option.some.inj hm
              exact k_iret 84 cx dX7_tell_84 rfl rfl
  · refine k_iconst 8 cx (v := (-1 : Int32)) dX7_tell_8 (by decide) ?_
    obtain rfl := Option.some.inj hm
    exact k_iret 9 cx dX7_tell_9 rfl rfl
def w_X7_hail (G : GT) (h_t : Nat) (h_t_kindOf : Nat) (h_t_needsOf : Nat) (h_t_fromOf : Nat) (h_t_toOf : Nat) (h_t_longOf : Nat) (h_t_readKind : Nat) (h_t_readNeeds : Nat) (h_t_readFrom : Nat) (h_t_readTo : Nat) (h_t_readLong : Nat) (h_t_pullOf : Nat) (h_t_pullAt : Nat) (h_t_peals : Nat) (h_t_swings : Nat) (h_t_lastRang : Nat) (h_t_heardSince : Nat) (h_t_readingOf : Nat) (h_t_readingAt : Nat) (h_t_readingIs : Nat) (h_t_sheetSize : Nat) (h_t_sheetLane : Nat) (h_t_sheet : Nat) (h_t_hands : Nat) (t_fault : Int32) (t_bells : Int32) (t_tied : Int32) (t_ropes : Int32) (t_spanNow : Int32) (t_readAt : Int32) (t_readBells : Int32) (t_readRopes : Int32) (t_pulls : Int32) (t_readings : Int32) (t_traceNow : Int32) (t_kindOf : (Nat → Int32)) : va_W := [(h_t, .inr (7, [.int t_fault, .int t_bells, .ref h_t_kindOf, .ref h_t_needsOf, .int t_tied, .int t_ropes, .ref h_t_fromOf, .ref h_t_toOf, .ref h_t_longOf, .int t_spanNow, .int t_readAt, .int t_readBells, .int t_readRopes, .ref h_t_readKind, .ref h_t_readNeeds, .ref h_t_readFrom, .ref h_t_readTo, .ref h_t_readLong, .int t_pulls, .ref h_t_pullOf, .ref h_t_pullAt, .ref h_t_peals, .ref h_t_swings, .ref h_t_lastRang, .ref h_t_heardSince, .int t_readings, .ref h_t_readingOf, .ref h_t_readingAt, .ref h_t_readingIs, .ref h_t_sheetSize, .ref h_t_sheetLane, .ref h_t_sheet, .ref h_t_hands, .int t_traceNow])), (h_t_kindOf, .inl (G.2.1, 6, .inl t_kindOf))]
def M_X7_hail (t_bells : Int32) (t_traceNow : Int32) (t_kindOf : (Nat → Int32)) (a1 : Int32) : Option (Int32 × Int32) := ((M_X7_noBell t_bells a1).bind (fun u1 => (if u1 = 0 then (gB (inb a1 6) (if (t_kindOf (Int32.toNatClampNeg a1)) = (2 : Int32) then ((M_X7_traced t_traceNow (5 : Int32)).bind (fun u3 => (gB (inb a1 6) (if (t_kindOf (Int32.toNatClampNeg a1)) = (2 : Int32) then (some ((90 : Int32), u3)) else (some (a1, u3)))))) else ((M_X7_traced t_traceNow (4 : Int32)).bind (fun u2 => (gB (inb a1 6) (if (t_kindOf (Int32.toNatClampNeg a1)) = (2 : Int32) then (some ((90 : Int32), u2)) else (some (a1, u2)))))))) else (some ((-1 : Int32), t_traceNow)))))
set_option maxHeartbeats 4000000 in
set_option maxRecDepth 100000 in
theorem c_X7_hail (l : Launch) (G : GT) (h_t : Nat) (h_t_kindOf : Nat) (h_t_needsOf : Nat) (h_t_fromOf : Nat) (h_t_toOf : Nat) (h_t_longOf : Nat) (h_t_readKind : Nat) (h_t_readNeeds : Nat) (h_t_readFrom : Nat) (h_t_readTo : Nat) (h_t_readLong : Nat) (h_t_pullOf : Nat) (h_t_pullAt : Nat) (h_t_peals : Nat) (h_t_swings : Nat) (h_t_lastRang : Nat) (h_t_heardSince : Nat) (h_t_readingOf : Nat) (h_t_readingAt : Nat) (h_t_readingIs : Nat) (h_t_sheetSize : Nat) (h_t_sheetLane : Nat) (h_t_sheet : Nat) (h_t_hands : Nat) (t_fault : Int32) (t_bells : Int32) (t_tied : Int32) (t_ropes : Int32) (t_spanNow : Int32) (t_readAt : Int32) (t_readBells : Int32) (t_readRopes : Int32) (t_pulls : Int32) (t_readings : Int32) (t_traceNow : Int32) (t_kindOf : (Nat → Int32)) (a1 : Int32) {u : Int32 × Int32} (hm : M_X7_hail t_bells t_traceNow t_kindOf a1 = some u) : CT l yX7_hail cX7_hail 2 (some .int) 2 46 [.ref h_t, .int a1] G (w_X7_hail G h_t h_t_kindOf h_t_needsOf h_t_fromOf h_t_toOf h_t_longOf h_t_readKind h_t_readNeeds h_t_readFrom h_t_readTo h_t_readLong h_t_pullOf h_t_pullAt h_t_peals h_t_swings h_t_lastRang h_t_heardSince h_t_readingOf h_t_readingAt h_t_readingIs h_t_sheetSize h_t_sheetLane h_t_sheet h_t_hands t_fault t_bells t_tied t_ropes t_spanNow t_readAt t_readBells t_readRopes t_pulls t_readings t_traceNow t_kindOf) (some (.int u.1)) (w_X7_hail G h_t h_t_kindOf h_t_needsOf h_t_fromOf h_t_toOf h_t_longOf h_t_readKind h_t_readNeeds h_t_readFrom h_t_readTo h_t_readLong h_t_pullOf h_t_pullAt h_t_peals h_t_swings h_t_lastRang h_t_heardSince h_t_readingOf h_t_readingAt h_t_readingIs h_t_sheetSize h_t_sheetLane h_t_sheet h_t_hands t_fault t_bells t_tied t_ropes t_spanNow t_readAt t_readBells t_readRopes t_pulls t_readings u.2 t_kindOf) := by
  refine ct_intro RX7 [(0, .ref h_t), (1, .int a1)] (by decide) rfl (Nat.le_of_ble_eq_true rfl) rfl (fun X hX cx => ?_)
  unfold M_X7_hail at hm
  refine k_aload_n 0 cx dX7_hail_0 rfl 0 rfl ?_
  refine k_iload_n 1 cx dX7_hail_1 rfl 1 rfl ?_
  obtain ⟨u1, hu1, hm⟩ := bnd hm
  refine k_callV 2 cx cwX7_160 (c_X7_noBell X.2.1 G h_t h_t_kindOf h_t_needsOf h_t_fromOf h_t_toOf h_t_longOf h_t_readKind h_t_readNeeds h_t_readFrom h_t_readTo h_t_readLong h_t_pullOf h_t_pullAt h_t_peals h_t_swings h_t_lastRang h_t_heardSince h_t_readingOf h_t_readingAt h_t_readingIs h_t_sheetSize h_t_sheetLane h_t_sheet h_t_hands t_fault t_bells t_tied t_ropes t_spanNow t_readAt t_readBells t_readRopes t_pulls t_readings t_traceNow a1 hu1) dX7_hail_2 ⟨by decide, by decide⟩ rfl rfl (rest := []) rfl (Nat.le_of_ble_eq_true rfl) [0] (by decide) rfl rfl (w2 := (w_X7_hail G h_t h_t_kindOf h_t_needsOf h_t_fromOf h_t_toOf h_t_longOf h_t_readKind h_t_readNeeds h_t_readFrom h_t_readTo h_t_readLong h_t_pullOf h_t_pullAt h_t_peals h_t_swings h_t_lastRang h_t_heardSince h_t_readingOf h_t_readingAt h_t_readingIs h_t_sheetSize h_t_sheetLane h_t_sheet h_t_hands t_fault t_bells t_tied t_ropes t_spanNow t_readAt t_readBells t_readRopes t_pulls t_readings t_traceNow t_kindOf)) [1] 2 rfl [(h_t_kindOf, .inl (G.2.1, 6, .inl t_kindOf))] rfl rfl rfl (by decide) (st2 := [.int u1]) rfl ?_
  refine k_if_eq 5 cx (tgt := 10) dX7_hail_5 (by decide) hm (fun hc hm => ?_) (fun hc hm => ?_)
  · refine k_aload_n 10 cx dX7_hail_10 rfl 0 rfl ?_
    refine k_aload_n 11 cx dX7_hail_11 rfl 0 rfl ?_
    refine fgX7_7 12 cx dX7_hail_12 0 rfl rfl ?_
    refine k_iload_n 15 cx dX7_hail_15 rfl 1 rfl ?_
    refine k_iald 16 cx dX7_hail_16 1 rfl hm (fun hm => ?_)
    refine k_iconst 17 cx (v := (2 : Int32)) dX7_hail_17 (by decide) ?_
    refine k_icmp_ne 18 cx (tgt := 25) dX7_hail_18 (by decide) hm (fun hc hm => ?_) (fun hc hm => ?_)
    · refine k_iconst 21 cx (v := (5 : Int32)) dX7_hail_21 (by decide) ?_
      refine k_goto 22 cx (tgt := 26) dX7_hail_22 (by decide) ?_
      obtain ⟨u3, hu3, hm⟩ := bnd hm
      refine k_callV 26 cx cwX7_228 (c_X7_traced X.2.1 G h_t h_t_kindOf h_t_needsOf h_t_fromOf h_t_toOf h_t_longOf h_t_readKind h_t_readNeeds h_t_readFrom h_t_readTo h_t_readLong h_t_pullOf h_t_pullAt h_t_peals h_t_swings h_t_lastRang h_t_heardSince h_t_readingOf h_t_readingAt h_t_readingIs h_t_sheetSize h_t_sheetLane h_t_sheet h_t_hands t_fault t_bells t_tied t_ropes t_spanNow t_readAt t_readBells t_readRopes t_pulls t_readings t_traceNow (5 : Int32) hu3) dX7_hail_26 ⟨by decide, by decide⟩ rfl rfl (rest := []) rfl (Nat.le_of_ble_eq_true rfl) [0] (by decide) rfl rfl (w2 := (w_X7_hail G h_t h_t_kindOf h_t_needsOf h_t_fromOf h_t_toOf h_t_longOf h_t_readKind h_t_readNeeds h_t_readFrom h_t_readTo h_t_readLong h_t_pullOf h_t_pullAt h_t_peals h_t_swings h_t_lastRang h_t_heardSince h_t_readingOf h_t_readingAt h_t_readingIs h_t_sheetSize h_t_sheetLane h_t_sheet h_t_hands t_fault t_bells t_tied t_ropes t_spanNow t_readAt t_readBells t_readRopes t_pulls t_readings u3 t_kindOf)) [1] 2 rfl [(h_t_kindOf, .inl (G.2.1, 6, .inl t_kindOf))] rfl rfl rfl (by decide) (st2 := []) rfl ?_
      refine k_aload_n 29 cx dX7_hail_29 rfl 0 rfl ?_
      refine fgX7_7 30 cx dX7_hail_30 0 rfl rfl ?_
      refine k_iload_n 33 cx dX7_hail_33 rfl 1 rfl ?_
      refine k_iald 34 cx dX7_hail_34 1 rfl hm (fun hm => ?_)
      refine k_iconst 35 cx (v := (2 : Int32)) dX7_hail_35 (by decide) ?_
      refine k_icmp_ne 36 cx (tgt := 44) dX7_hail_36 (by decide) hm (fun hc hm => ?_) (fun hc hm => ?_)
      · refine k_bipush 39 cx (v := (90 : Int32)) dX7_hail_39 (by decide) ?_
        refine k_goto 41 cx (tgt := 45) dX7_hail_41 (by decide) ?_
        obtain rfl := Option.some.inj hm
        exact k_iret 45 cx dX7_hail_45 rfl rfl
      · refine k_iload_n 44 cx dX7_hail_44 rfl 1 rfl ?_
        obtain rfl := Option.some.inj hm
        exact k_iret 45 cx dX7_hail_45 rfl rfl
    · refine k_iconst 25 cx (v := (4 : Int32)) dX7_hail_25 (by decide) ?_
      obtain ⟨u2, hu2, hm⟩ := bnd hm
      refine k_callV 26 cx cwX7_228 (c_X7_traced X.2.1 G h_t h_t_kindOf h_t_needsOf h_t_fromOf h_t_toOf h_t_longOf h_t_readKind h_t_readNeeds h_t_readFrom h_t_readTo h_t_readLong h_t_pullOf h_t_pullAt h_t_peals h_t_swings h_t_lastRang h_t_heardSince h_t_readingOf h_t_readingAt h_t_readingIs h_t_sheetSize h_t_sheetLane h_t_sheet h_t_hands t_fault t_bells t_tied t_ropes t_spanNow t_readAt t_readBells t_readRopes t_pulls t_readings t_traceNow (4 : Int32) hu2) dX7_hail_26 ⟨by decide, by decide⟩ rfl rfl (rest := []) rfl (Nat.le_of_ble_eq_true rfl) [0] (by decide) rfl rfl (w2 := (w_X7_hail G h_t h_t_kindOf h_t_needsOf h_t_fromOf h_t_toOf h_t_longOf h_t_readKind h_t_readNeeds h_t_readFrom h_t_readTo h_t_readLong h_t_pullOf h_t_pullAt h_t_peals h_t_swings h_t_lastRang h_t_heardSince h_t_readingOf h_t_readingAt h_t_readingIs h_t_sheetSize h_t_sheetLane h_t_sheet h_t_hands t_fault t_bells t_tied t_ropes t_spanNow t_readAt t_readBells t_readRopes t_pulls t_readings u2 t_kindOf)) [1] 2 rfl [(h_t_kindOf, .inl (G.2.1, 6, .inl t_kindOf))] rfl rfl rfl (by decide) (st2 := []) rfl ?_
      refine k_aload_n 29 cx dX7_hail_29 rfl 0 rfl ?_
      refine fgX7_7 30 cx dX7_hail_30 0 rfl rfl ?_
      refine k_iload_n 33 cx dX7_hail_33 rfl 1 rfl ?_
      refine k_iald 34 cx dX7_hail_34 1 rfl hm (fun hm => ?_)
      refine k_iconst 35 cx (v := (2 : Int32)) dX7_hail_35 (by decide) ?_
      refine k_icmp_ne 36 cx (tgt := 44) dX7_hail_36 (by decide) hm (fun hc hm => ?_) (fun hc hm => ?_)
      · refine k_bipush 39 cx (v := (90 : Int32)) dX7_hail_39 (by decide) ?_
        refine k_goto 41 cx (tgt := 45) dX7_hail_41 (by decide) ?_
        obtain rfl := Option.some.inj hm
        exact k_iret 45 cx dX7_hail_45 rfl rfl
      · refine k_iload_n 44 cx dX7_hail_44 rfl 1 rfl ?_
        obtain rfl := Option.some.inj hm
        exact k_iret 45 cx dX7_hail_45 rfl rfl
  · refine k_iconst 8 cx (v := (-1 : Int32)) dX7_hail_8 (by decide) ?_
    obtain rfl := Option.some.inj hm
    exact k_iret 9 cx dX7_hail_9 rfl rfl
def w_X7_as (G : GT) (h_t : Nat) (h_t_kindOf : Nat) (h_t_needsOf : Nat) (h_t_fromOf : Nat) (h_t_toOf : Nat) (h_t_longOf : Nat) (h_t_readKind : Nat) (h_t_readNeeds : Nat) (h_t_readFrom : Nat) (h_t_readTo : Nat) (h_t_readLong : Nat) (h_t_pullOf : Nat) (h_t_pullAt : Nat) (h_t_peals : Nat) (h_t_swings : Nat) (h_t_lastRang : Nat) (h_t_heardSince : Nat) (h_t_readingOf : Nat) (h_t_readingAt : Nat) (h_t_readingIs : Nat) (h_t_sheetSize : Nat) (h_t_sheetLane : Nat) (h_t_sheet : Nat) (h_t_hands : Nat) (t_fault : Int32) (t_bells : Int32) (t_tied : Int32) (t_ropes : Int32) (t_spanNow : Int32) (t_readAt : Int32) (t_readBells : Int32) (t_readRopes : Int32) (t_pulls : Int32) (t_readings : Int32) (t_traceNow : Int32) (t_kindOf : (Nat → Int32)) : va_W := [(h_t, .inr (7, [.int t_fault, .int t_bells, .ref h_t_kindOf, .ref h_t_needsOf, .int t_tied, .int t_ropes, .ref h_t_fromOf, .ref h_t_toOf, .ref h_t_longOf, .int t_spanNow, .int t_readAt, .int t_readBells, .int t_readRopes, .ref h_t_readKind, .ref h_t_readNeeds, .ref h_t_readFrom, .ref h_t_readTo, .ref h_t_readLong, .int t_pulls, .ref h_t_pullOf, .ref h_t_pullAt, .ref h_t_peals, .ref h_t_swings, .ref h_t_lastRang, .ref h_t_heardSince, .int t_readings, .ref h_t_readingOf, .ref h_t_readingAt, .ref h_t_readingIs, .ref h_t_sheetSize, .ref h_t_sheetLane, .ref h_t_sheet, .ref h_t_hands, .int t_traceNow])), (h_t_kindOf, .inl (G.2.1, 6, .inl t_kindOf))]
def M_X7_as (t_bells : Int32) (t_kindOf : (Nat → Int32)) (a1 : Int32) (a2 : Int32) : Option (Int32 × Int32) := ((M_X7_noBell t_bells a1).bind (fun u1 => (if u1 = 0 then ((M_X7_in (Int32.toInt64 a2) (0 : Int64) (2 : Int64)).bind (fun u2 => (if u2 = 0 then ((M_X7_refused (-2 : Int32)).bind (fun u5 => (some (u5.1, u5.2)))) else (gB (inb a1 6) (if (t_kindOf (Int32.toNatClampNeg a1)) < a2 then ((M_X7_failed (2 : Int32)).bind (fun u3 => (some (u3.1, u3.2)))) else ((M_X7_refused (1 : Int32)).bind (fun u4 => (some (u4.1, u4.2))))))))) else ((M_X7_refused (-1 : Int32)).bind (fun u6 => (some (u6.1, u6.2)))))))
set_option maxHeartbeats 4000000 in
set_option maxRecDepth 100000 in
theorem c_X7_as (l : Launch) (G : GT) (h_t : Nat) (h_t_kindOf : Nat) (h_t_needsOf : Nat) (h_t_fromOf : Nat) (h_t_toOf : Nat) (h_t_longOf : Nat) (h_t_readKind : Nat) (h_t_readNeeds : Nat) (h_t_readFrom : Nat) (h_t_readTo : Nat) (h_t_readLong : Nat) (h_t_pullOf : Nat) (h_t_pullAt : Nat) (h_t_peals : Nat) (h_t_swings : Nat) (h_t_lastRang : Nat) (h_t_heardSince : Nat) (h_t_readingOf : Nat) (h_t_readingAt : Nat) (h_t_readingIs : Nat) (h_t_sheetSize : Nat) (h_t_sheetLane : Nat) (h_t_sheet : Nat) (h_t_hands : Nat) (t_fault : Int32) (t_bells : Int32) (t_tied : Int32) (t_ropes : Int32) (t_spanNow : Int32) (t_readAt : Int32) (t_readBells : Int32) (t_readRopes : Int32) (t_pulls : Int32) (t_readings : Int32) (t_traceNow : Int32) (t_kindOf : (Nat → Int32)) (a1 : Int32) (a2 : Int32) {u : Int32 × Int32} (hm : M_X7_as t_bells t_kindOf a1 a2 = some u) : CT l yX7_as cX7_as 3 (some .int) 2 46 [.ref h_t, .int a1, .int a2] G (w_X7_as G h_t h_t_kindOf h_t_needsOf h_t_fromOf h_t_toOf h_t_longOf h_t_readKind h_t_readNeeds h_t_readFrom h_t_readTo h_t_readLong h_t_pullOf h_t_pullAt h_t_peals h_t_swings h_t_lastRang h_t_heardSince h_t_readingOf h_t_readingAt h_t_readingIs h_t_sheetSize h_t_sheetLane h_t_sheet h_t_hands t_fault t_bells t_tied t_ropes t_spanNow t_readAt t_readBells t_readRopes t_pulls t_readings t_traceNow t_kindOf) (some (.int u.1)) (w_X7_as G h_t h_t_kindOf h_t_needsOf h_t_fromOf h_t_toOf h_t_longOf h_t_readKind h_t_readNeeds h_t_readFrom h_t_readTo h_t_readLong h_t_pullOf h_t_pullAt h_t_peals h_t_swings h_t_lastRang h_t_heardSince h_t_readingOf h_t_readingAt h_t_readingIs h_t_sheetSize h_t_sheetLane h_t_sheet h_t_hands u.2 t_bells t_tied t_ropes t_spanNow t_readAt t_readBells t_readRopes t_pulls t_readings t_traceNow t_kindOf) := by
  refine ct_intro RX7 [(0, .ref h_t), (1, .int a1), (2, .int a2)] (by decide) rfl (Nat.le_of_ble_eq_true rfl) rfl (fun X hX cx => ?_)
  unfold M_X7_as at hm
  refine k_aload_n 0 cx dX7_as_0 rfl 0 rfl ?_
  refine k_iload_n 1 cx dX7_as_1 rfl 1 rfl ?_
  obtain ⟨u1, hu1, hm⟩ := bnd hm
  refine k_callV 2 cx cwX7_160 (c_X7_noBell X.2.1 G h_t h_t_kindOf h_t_needsOf h_t_fromOf h_t_toOf h_t_longOf h_t_readKind h_t_readNeeds h_t_readFrom h_t_readTo h_t_readLong h_t_pullOf h_t_pullAt h_t_peals h_t_swings h_t_lastRang h_t_heardSince h_t_readingOf h_t_readingAt h_t_readingIs h_t_sheetSize h_t_sheetLane h_t_sheet h_t_hands t_fault t_bells t_tied t_ropes t_spanNow t_readAt t_readBells t_readRopes t_pulls t_readings t_traceNow a1 hu1) dX7_as_2 ⟨by decide, by decide⟩ rfl rfl (rest := []) rfl (Nat.le_of_ble_eq_true rfl) [0] (by decide) rfl rfl (w2 := (w_X7_as G h_t h_t_kindOf h_t_needsOf h_t_fromOf h_t_toOf h_t_longOf h_t_readKind h_t_readNeeds h_t_readFrom h_t_readTo h_t_readLong h_t_pullOf h_t_pullAt h_t_peals h_t_swings h_t_lastRang h_t_heardSince h_t_readingOf h_t_readingAt h_t_readingIs h_t_sheetSize h_t_sheetLane h_t_sheet h_t_hands t_fault t_bells t_tied t_ropes t_spanNow t_readAt t_readBells t_readRopes t_pulls t_readings t_traceNow t_kindOf)) [1] 2 rfl [(h_t_kindOf, .inl (G.2.1, 6, .inl t_kindOf))] rfl rfl rfl (by decide) (st2 := [.int u1]) rfl ?_
  refine k_if_eq 5 cx (tgt := 14) dX7_as_5 (by decide) hm (fun hc hm => ?_) (fun hc hm => ?_)
  · refine k_iload_n 14 cx dX7_as_14 rfl 2 rfl ?_
    refine k_i2l 15 cx dX7_as_15 ?_
    refine k_lconst 16 cx (v := (0 : Int64)) dX7_as_16 (by decide) ?_
    refine k_ldc2_w 17 cx (v := (2 : Int64)) dX7_as_17 (tb_m (i := 767) rfl rfl) ?_
    obtain ⟨u2, hu2, hm⟩ := bnd hm
    refine k_callS 20 cx cwX7_93 (c_X7_in X.2.1 G (Int32.toInt64 a2) (0 : Int64) (2 : Int64) hu2) dX7_as_20 ⟨by decide, by decide⟩ rfl (rest := []) rfl (Nat.le_of_ble_eq_true rfl) [] (by decide) rfl rfl (w2 := (w_X7_as G h_t h_t_kindOf h_t_needsOf h_t_fromOf h_t_toOf h_t_longOf h_t_readKind h_t_readNeeds h_t_readFrom h_t_readTo h_t_readLong h_t_pullOf h_t_pullAt h_t_peals h_t_swings h_t_lastRang h_t_heardSince h_t_readingOf h_t_readingAt h_t_readingIs h_t_sheetSize h_t_sheetLane h_t_sheet h_t_hands t_fault t_bells t_tied t_ropes t_spanNow t_readAt t_readBells t_readRopes t_pulls t_readings t_traceNow t_kindOf)) [0, 1] 2 rfl [(h_t, .inr (7, [.int t_fault, .int t_bells, .ref h_t_kindOf, .ref h_t_needsOf, .int t_tied, .int t_ropes, .ref h_t_fromOf, .ref h_t_toOf, .ref h_t_longOf, .int t_spanNow, .int t_readAt, .int t_readBells, .int t_readRopes, .ref h_t_readKind, .ref h_t_readNeeds, .ref h_t_readFrom, .ref h_t_readTo, .ref h_t_readLong, .int t_pulls, .ref h_t_pullOf, .ref h_t_pullAt, .ref h_t_peals, .ref h_t_swings, .ref h_t_lastRang, .ref h_t_heardSince, .int t_readings, .ref h_t_readingOf, .ref h_t_readingAt, .ref h_t_readingIs, .ref h_t_sheetSize, .ref h_t_sheetLane, .ref h_t_sheet, .ref h_t_hands, .int t_traceNow])), (h_t_kindOf, .inl (G.2.1, 6, .inl t_kindOf))] rfl rfl rfl (by decide) (st2 := [.int u2]) rfl ?_
    refine k_if_ne 23 cx (tgt := 33) dX7_as_23 (by decide) hm (fun hc hm => ?_) (fun hc hm => ?_)
    · refine k_aload_n 26 cx dX7_as_26 rfl 0 rfl ?_
      refine k_bipush 27 cx (v := (-2 : Int32)) dX7_as_27 (by decide) ?_
      obtain ⟨u5, hu5, hm⟩ := bnd hm
      refine k_callV 29 cx cwX7_133 (c_X7_refused X.2.1 G h_t h_t_kindOf h_t_needsOf h_t_fromOf h_t_toOf h_t_longOf h_t_readKind h_t_readNeeds h_t_readFrom h_t_readTo h_t_readLong h_t_pullOf h_t_pullAt h_t_peals h_t_swings h_t_lastRang h_t_heardSince h_t_readingOf h_t_readingAt h_t_readingIs h_t_sheetSize h_t_sheetLane h_t_sheet h_t_hands t_fault t_bells t_tied t_ropes t_spanNow t_readAt t_readBells t_readRopes t_pulls t_readings t_traceNow (-2 : Int32) hu5) dX7_as_29 ⟨by decide, by decide⟩ rfl rfl (rest := []) rfl (Nat.le_of_ble_eq_true rfl) [0] (by decide) rfl rfl (w2 := (w_X7_as G h_t h_t_kindOf h_t_needsOf h_t_fromOf h_t_toOf h_t_longOf h_t_readKind h_t_readNeeds h_t_readFrom h_t_readTo h_t_readLong h_t_pullOf h_t_pullAt h_t_peals h_t_swings h_t_lastRang h_t_heardSince h_t_readingOf h_t_readingAt h_t_readingIs h_t_sheetSize h_t_sheetLane h_t_sheet h_t_hands u5.2 t_bells t_tied t_ropes t_spanNow t_readAt t_readBells t_readRopes t_pulls t_readings t_traceNow t_kindOf)) [1] 2 rfl [(h_t_kindOf, .inl (G.2.1, 6, .inl t_kindOf))] rfl rfl rfl (by decide) (st2 := [.int u5.1]) rfl ?_
      obtain rfl := Option.some.inj hm
      exact k_iret 32 cx dX7_as_32 rfl rfl
    · refine k_aload_n 33 cx dX7_as_33 rfl 0 rfl ?_
      refine fgX7_7 34 cx dX7_as_34 0 rfl rfl ?_
      refine k_iload_n 37 cx dX7_as_37 rfl 1 rfl ?_
      refine k_iald 38 cx dX7_as_38 1 rfl hm (fun hm => ?_)
      refine k_iload_n 39 cx dX7_as_39 rfl 2 rfl ?_
      refine k_icmp_lt 40 cx (tgt := 51) dX7_as_40 (by decide) hm (fun hc hm => ?_) (fun hc hm => ?_)
      · refine k_aload_n 51 cx dX7_as_51 rfl 0 rfl ?_
        refine k_iconst 52 cx (v := (2 : Int32)) dX7_as_52 (by decide) ?_
        obtain ⟨u3, hu3, hm⟩ := bnd hm
        refine k_callV 53 cx cwX7_121 (c_X7_failed X.2.1 G h_t h_t_kindOf h_t_needsOf h_t_fromOf h_t_toOf h_t_longOf h_t_readKind h_t_readNeeds h_t_readFrom h_t_readTo h_t_readLong h_t_pullOf h_t_pullAt h_t_peals h_t_swings h_t_lastRang h_t_heardSince h_t_readingOf h_t_readingAt h_t_readingIs h_t_sheetSize h_t_sheetLane h_t_sheet h_t_hands t_fault t_bells t_tied t_ropes t_spanNow t_readAt t_readBells t_readRopes t_pulls t_readings t_traceNow (2 : Int32) hu3) dX7_as_53 ⟨by decide, by decide⟩ rfl rfl (rest := []) rfl (Nat.le_of_ble_eq_true rfl) [0] (by decide) rfl rfl (w2 := (w_X7_as G h_t h_t_kindOf h_t_needsOf h_t_fromOf h_t_toOf h_t_longOf h_t_readKind h_t_readNeeds h_t_readFrom h_t_readTo h_t_readLong h_t_pullOf h_t_pullAt h_t_peals h_t_swings h_t_lastRang h_t_heardSince h_t_readingOf h_t_readingAt h_t_readingIs h_t_sheetSize h_t_sheetLane h_t_sheet h_t_hands u3.2 t_bells t_tied t_ropes t_spanNow t_readAt t_readBells t_readRopes t_pulls t_readings t_traceNow t_kindOf)) [1] 2 rfl [(h_t_kindOf, .inl (G.2.1, 6, .inl t_kindOf))] rfl rfl rfl (by decide) (st2 := [.int u3.1]) rfl ?_
        obtain rfl := Option.some.inj hm
        exact k_iret 56 cx dX7_as_56 rfl rfl
      · refine k_aload_n 43 cx dX7_as_43 rfl 0 rfl ?_
        refine k_iconst 44 cx (v := (1 : Int32)) dX7_as_44 (by decide) ?_
        obtain ⟨u4, hu4, hm⟩ := bnd hm
        refine k_callV 45 cx cwX7_133 (c_X7_refused X.2.1 G h_t h_t_kindOf h_t_needsOf h_t_fromOf h_t_toOf h_t_longOf h_t_readKind h_t_readNeeds h_t_readFrom h_t_readTo h_t_readLong h_t_pullOf h_t_pullAt h_t_peals h_t_swings h_t_lastRang h_t_heardSince h_t_readingOf h_t_readingAt h_t_readingIs h_t_sheetSize h_t_sheetLane h_t_sheet h_t_hands t_fault t_bells t_tied t_ropes t_spanNow t_readAt t_readBells t_readRopes t_pulls t_readings t_traceNow (1 : Int32) hu4) dX7_as_45 ⟨by decide, by decide⟩ rfl rfl (rest := []) rfl (Nat.le_of_ble_eq_true rfl) [0] (by decide) rfl rfl (w2 := (w_X7_as G h_t h_t_kindOf h_t_needsOf h_t_fromOf h_t_toOf h_t_longOf h_t_readKind h_t_readNeeds h_t_readFrom h_t_readTo h_t_readLong h_t_pullOf h_t_pullAt h_t_peals h_t_swings h_t_lastRang h_t_heardSince h_t_readingOf h_t_readingAt h_t_readingIs h_t_sheetSize h_t_sheetLane h_t_sheet h_t_hands u4.2 t_bells t_tied t_ropes t_spanNow t_readAt t_readBells t_readRopes t_pulls t_readings t_traceNow t_kindOf)) [1] 2 rfl [(h_t_kindOf, .inl (G.2.1, 6, .inl t_kindOf))] rfl rfl rfl (by decide) (st2 := [.int u4.1]) rfl ?_
        refine k_goto 48 cx (tgt := 56) dX7_as_48 (by decide) ?_
        obtain rfl := Option.some.inj hm
        exact k_iret 56 cx dX7_as_56 rfl rfl
  · refine k_aload_n 8 cx dX7_as_8 rfl 0 rfl ?_
    refine k_iconst 9 cx (v := (-1 : Int32)) dX7_as_9 (by decide) ?_
    obtain ⟨u6, hu6, hm⟩ := bnd hm
    refine k_callV 10 cx cwX7_133 (c_X7_refused X.2.1 G h_t h_t_kindOf h_t_needsOf h_t_fromOf h_t_toOf h_t_longOf h_t_readKind h_t_readNeeds h_t_readFrom h_t_readTo h_t_readLong h_t_pullOf h_t_pullAt h_t_peals h_t_swings h_t_lastRang h_t_heardSince h_t_readingOf h_t_readingAt h_t_readingIs h_t_sheetSize h_t_sheetLane h_t_sheet h_t_hands t_fault t_bells t_tied t_ropes t_spanNow t_readAt t_readBells t_readRopes t_pulls t_readings t_traceNow (-1 : Int32) hu6) dX7_as_10 ⟨by decide, by decide⟩ rfl rfl (rest := []) rfl (Nat.le_of_ble_eq_true rfl) [0] (by decide) rfl rfl (w2 := (w_X7_as G h_t h_t_kindOf h_t_needsOf h_t_fromOf h_t_toOf h_t_longOf h_t_readKind h_t_readNeeds h_t_readFrom h_t_readTo h_t_readLong h_t_pullOf h_t_pullAt h_t_peals h_t_swings h_t_lastRang h_t_heardSince h_t_readingOf h_t_readingAt h_t_readingIs h_t_sheetSize h_t_sheetLane h_t_sheet h_t_hands u6.2 t_bells t_tied t_ropes t_spanNow t_readAt t_readBells t_readRopes t_pulls t_readings t_traceNow t_kindOf)) [1] 2 rfl [(h_t_kindOf, .inl (G.2.1, 6, .inl t_kindOf))] rfl rfl rfl (by decide) (st2 := [.int u6.1]) rfl ?_
    obtain rfl := Option.some.inj hm
    exact k_iret 13 cx dX7_as_13 rfl rfl
def w_X7_trace (G : GT) (h_t : Nat) (h_t_kindOf : Nat) (h_t_needsOf : Nat) (h_t_fromOf : Nat) (h_t_toOf : Nat) (h_t_longOf : Nat) (h_t_readKind : Nat) (h_t_readNeeds : Nat) (h_t_readFrom : Nat) (h_t_readTo : Nat) (h_t_readLong : Nat) (h_t_pullOf : Nat) (h_t_pullAt : Nat) (h_t_peals : Nat) (h_t_swings : Nat) (h_t_lastRang : Nat) (h_t_heardSince : Nat) (h_t_readingOf : Nat) (h_t_readingAt : Nat) (h_t_readingIs : Nat) (h_t_sheetSize : Nat) (h_t_sheetLane : Nat) (h_t_sheet : Nat) (h_t_hands : Nat) (t_fault : Int32) (t_bells : Int32) (t_tied : Int32) (t_ropes : Int32) (t_spanNow : Int32) (t_readAt : Int32) (t_readBells : Int32) (t_readRopes : Int32) (t_pulls : Int32) (t_readings : Int32) (t_traceNow : Int32) : va_W := [(h_t, .inr (7, [.int t_fault, .int t_bells, .ref h_t_kindOf, .ref h_t_needsOf, .int t_tied, .int t_ropes, .ref h_t_fromOf, .ref h_t_toOf, .ref h_t_longOf, .int t_spanNow, .int t_readAt, .int t_readBells, .int t_readRopes, .ref h_t_readKind, .ref h_t_readNeeds, .ref h_t_readFrom, .ref h_t_readTo, .ref h_t_readLong, .int t_pulls, .ref h_t_pullOf, .ref h_t_pullAt, .ref h_t_peals, .ref h_t_swings, .ref h_t_lastRang, .ref h_t_heardSince, .int t_readings, .ref h_t_readingOf, .ref h_t_readingAt, .ref h_t_readingIs, .ref h_t_sheetSize, .ref h_t_sheetLane, .ref h_t_sheet, .ref h_t_hands, .int t_traceNow]))]
def M_X7_trace (t_traceNow : Int32) : Option (Int32) := (some t_traceNow)
set_option maxHeartbeats 4000000 in
set_option maxRecDepth 100000 in
theorem c_X7_trace (l : Launch) (G : GT) (h_t : Nat) (h_t_kindOf : Nat) (h_t_needsOf : Nat) (h_t_fromOf : Nat) (h_t_toOf : Nat) (h_t_longOf : Nat) (h_t_readKind : Nat) (h_t_readNeeds : Nat) (h_t_readFrom : Nat) (h_t_readTo : Nat) (h_t_readLong : Nat) (h_t_pullOf : Nat) (h_t_pullAt : Nat) (h_t_peals : Nat) (h_t_swings : Nat) (h_t_lastRang : Nat) (h_t_heardSince : Nat) (h_t_readingOf : Nat) (h_t_readingAt : Nat) (h_t_readingIs : Nat) (h_t_sheetSize : Nat) (h_t_sheetLane : Nat) (h_t_sheet : Nat) (h_t_hands : Nat) (t_fault : Int32) (t_bells : Int32) (t_tied : Int32) (t_ropes : Int32) (t_spanNow : Int32) (t_readAt : Int32) (t_readBells : Int32) (t_readRopes : Int32) (t_pulls : Int32) (t_readings : Int32) (t_traceNow : Int32) {u : Int32} (hm : M_X7_trace t_traceNow = some u) : CT l yX7_trace cX7_trace 1 (some .int) 0 0 [.ref h_t] G (w_X7_trace G h_t h_t_kindOf h_t_needsOf h_t_fromOf h_t_toOf h_t_longOf h_t_readKind h_t_readNeeds h_t_readFrom h_t_readTo h_t_readLong h_t_pullOf h_t_pullAt h_t_peals h_t_swings h_t_lastRang h_t_heardSince h_t_readingOf h_t_readingAt h_t_readingIs h_t_sheetSize h_t_sheetLane h_t_sheet h_t_hands t_fault t_bells t_tied t_ropes t_spanNow t_readAt t_readBells t_readRopes t_pulls t_readings t_traceNow) (some (.int u)) (w_X7_trace G h_t h_t_kindOf h_t_needsOf h_t_fromOf h_t_toOf h_t_longOf h_t_readKind h_t_readNeeds h_t_readFrom h_t_readTo h_t_readLong h_t_pullOf h_t_pullAt h_t_peals h_t_swings h_t_lastRang h_t_heardSince h_t_readingOf h_t_readingAt h_t_readingIs h_t_sheetSize h_t_sheetLane h_t_sheet h_t_hands t_fault t_bells t_tied t_ropes t_spanNow t_readAt t_readBells t_readRopes t_pulls t_readings t_traceNow) := by
  refine ct_intro RX7 [(0, .ref h_t)] (by decide) rfl (Nat.le_of_ble_eq_true rfl) rfl (fun X hX cx => ?_)
  unfold M_X7_trace at hm
  refine k_aload_n 0 cx dX7_trace_0 rfl 0 rfl ?_
  refine fgX7_225 1 cx dX7_trace_1 0 rfl rfl ?_
  obtain rfl := Option.some.inj hm
  exact k_iret 4 cx dX7_trace_4 rfl rfl
set_option maxRecDepth 100000 in
theorem fgX7_82 {X : XT} {Q : State → Prop} {G : GT} {A : Nat → Prop} {nL : Nat} {lv : List (Nat × Value)} {st : List Value} {ws : va_W} {cc : ByteArray} {fr lo : Nat} {ret : Option FieldType} (pc : Nat) (cx : Cx X cc nL RX7 G fr lo ret) {a : Nat} {fs : List Value} {v : Value} (hd : decode cc pc = .ok (.getfield 82, 3)) (q0 : Nat) (he : ws[q0]? = some (a, .inr (7, fs))) (hv : fs[0]? = some v) (k : KJ X Q G A nL (pc + 3) lv (v :: st) ws) : KJ X Q G A nL pc lv (.ref a :: st) ws :=
  k_get (ref := RX7) (T := TX7) (N := 34) (ci := 7) pc cx inX7 rfl 0 (by decide) (tb_m (i := 649) rfl rfl) rfl hd q0 he hv k
def w_X7_fault (G : GT) (h_t : Nat) (h_t_kindOf : Nat) (h_t_needsOf : Nat) (h_t_fromOf : Nat) (h_t_toOf : Nat) (h_t_longOf : Nat) (h_t_readKind : Nat) (h_t_readNeeds : Nat) (h_t_readFrom : Nat) (h_t_readTo : Nat) (h_t_readLong : Nat) (h_t_pullOf : Nat) (h_t_pullAt : Nat) (h_t_peals : Nat) (h_t_swings : Nat) (h_t_lastRang : Nat) (h_t_heardSince : Nat) (h_t_readingOf : Nat) (h_t_readingAt : Nat) (h_t_readingIs : Nat) (h_t_sheetSize : Nat) (h_t_sheetLane : Nat) (h_t_sheet : Nat) (h_t_hands : Nat) (t_fault : Int32) (t_bells : Int32) (t_tied : Int32) (t_ropes : Int32) (t_spanNow : Int32) (t_readAt : Int32) (t_readBells : Int32) (t_readRopes : Int32) (t_pulls : Int32) (t_readings : Int32) (t_traceNow : Int32) : va_W := [(h_t, .inr (7, [.int t_fault, .int t_bells, .ref h_t_kindOf, .ref h_t_needsOf, .int t_tied, .int t_ropes, .ref h_t_fromOf, .ref h_t_toOf, .ref h_t_longOf, .int t_spanNow, .int t_readAt, .int t_readBells, .int t_readRopes, .ref h_t_readKind, .ref h_t_readNeeds, .ref h_t_readFrom, .ref h_t_readTo, .ref h_t_readLong, .int t_pulls, .ref h_t_pullOf, .ref h_t_pullAt, .ref h_t_peals, .ref h_t_swings, .ref h_t_lastRang, .ref h_t_heardSince, .int t_readings, .ref h_t_readingOf, .ref h_t_readingAt, .ref h_t_readingIs, .ref h_t_sheetSize, .ref h_t_sheetLane, .ref h_t_sheet, .ref h_t_hands, .int t_traceNow]))]
def M_X7_fault (t_fault : Int32) : Option (Int32) := (some t_fault)
set_option maxHeartbeats 4000000 in
set_option maxRecDepth 100000 in
theorem c_X7_fault (l : Launch) (G : GT) (h_t : Nat) (h_t_kindOf : Nat) (h_t_needsOf : Nat) (h_t_fromOf : Nat) (h_t_toOf : Nat) (h_t_longOf : Nat) (h_t_readKind : Nat) (h_t_readNeeds : Nat) (h_t_readFrom : Nat) (h_t_readTo : Nat) (h_t_readLong : Nat) (h_t_pullOf : Nat) (h_t_pullAt : Nat) (h_t_peals : Nat) (h_t_swings : Nat) (h_t_lastRang : Nat) (h_t_heardSince : Nat) (h_t_readingOf : Nat) (h_t_readingAt : Nat) (h_t_readingIs : Nat) (h_t_sheetSize : Nat) (h_t_sheetLane : Nat) (h_t_sheet : Nat) (h_t_hands : Nat) (t_fault : Int32) (t_bells : Int32) (t_tied : Int32) (t_ropes : Int32) (t_spanNow : Int32) (t_readAt : Int32) (t_readBells : Int32) (t_readRopes : Int32) (t_pulls : Int32) (t_readings : Int32) (t_traceNow : Int32) {u : Int32} (hm : M_X7_fault t_fault = some u) : CT l yX7_fault cX7_fault 1 (some .int) 0 0 [.ref h_t] G (w_X7_fault G h_t h_t_kindOf h_t_needsOf h_t_fromOf h_t_toOf h_t_longOf h_t_readKind h_t_readNeeds h_t_readFrom h_t_readTo h_t_readLong h_t_pullOf h_t_pullAt h_t_peals h_t_swings h_t_lastRang h_t_heardSince h_t_readingOf h_t_readingAt h_t_readingIs h_t_sheetSize h_t_sheetLane h_t_sheet h_t_hands t_fault t_bells t_tied t_ropes t_spanNow t_readAt t_readBells t_readRopes t_pulls t_readings t_traceNow) (some (.int u)) (w_X7_fault G h_t h_t_kindOf h_t_needsOf h_t_fromOf h_t_toOf h_t_longOf h_t_readKind h_t_readNeeds h_t_readFrom h_t_readTo h_t_readLong h_t_pullOf h_t_pullAt h_t_peals h_t_swings h_t_lastRang h_t_heardSince h_t_readingOf h_t_readingAt h_t_readingIs h_t_sheetSize h_t_sheetLane h_t_sheet h_t_hands t_fault t_bells t_tied t_ropes t_spanNow t_readAt t_readBells t_readRopes t_pulls t_readings t_traceNow) := by
  refine ct_intro RX7 [(0, .ref h_t)] (by decide) rfl (Nat.le_of_ble_eq_true rfl) rfl (fun X hX cx => ?_)
  unfold M_X7_fault at hm
  refine k_aload_n 0 cx dX7_fault_0 rfl 0 rfl ?_
  refine fgX7_82 1 cx dX7_fault_1 0 rfl rfl ?_
  obtain rfl := Option.some.inj hm
  exact k_iret 4 cx dX7_fault_4 rfl rfl
def w_X7_many (G : GT) (h_t : Nat) (h_t_kindOf : Nat) (h_t_needsOf : Nat) (h_t_fromOf : Nat) (h_t_toOf : Nat) (h_t_longOf : Nat) (h_t_readKind : Nat) (h_t_readNeeds : Nat) (h_t_readFrom : Nat) (h_t_readTo : Nat) (h_t_readLong : Nat) (h_t_pullOf : Nat) (h_t_pullAt : Nat) (h_t_peals : Nat) (h_t_swings : Nat) (h_t_lastRang : Nat) (h_t_heardSince : Nat) (h_t_readingOf : Nat) (h_t_readingAt : Nat) (h_t_readingIs : Nat) (h_t_sheetSize : Nat) (h_t_sheetLane : Nat) (h_t_sheet : Nat) (h_t_hands : Nat) (t_fault : Int32) (t_bells : Int32) (t_tied : Int32) (t_ropes : Int32) (t_spanNow : Int32) (t_readAt : Int32) (t_readBells : Int32) (t_readRopes : Int32) (t_pulls : Int32) (t_readings : Int32) (t_traceNow : Int32) : va_W := [(h_t, .inr (7, [.int t_fault, .int t_bells, .ref h_t_kindOf, .ref h_t_needsOf, .int t_tied, .int t_ropes, .ref h_t_fromOf, .ref h_t_toOf, .ref h_t_longOf, .int t_spanNow, .int t_readAt, .int t_readBells, .int t_readRopes, .ref h_t_readKind, .ref h_t_readNeeds, .ref h_t_readFrom, .ref h_t_readTo, .ref h_t_readLong, .int t_pulls, .ref h_t_pullOf, .ref h_t_pullAt, .ref h_t_peals, .ref h_t_swings, .ref h_t_lastRang, .ref h_t_heardSince, .int t_readings, .ref h_t_readingOf, .ref h_t_readingAt, .ref h_t_readingIs, .ref h_t_sheetSize, .ref h_t_sheetLane, .ref h_t_sheet, .ref h_t_hands, .int t_traceNow]))]
def M_X7_many (t_bells : Int32) (t_ropes : Int32) (t_spanNow : Int32) (t_pulls : Int32) (t_readings : Int32) (a1 : Int32) : Option (Int32) := (if a1 = (0 : Int32) then (some t_bells) else (if a1 = (1 : Int32) then (some t_ropes) else (if a1 = (2 : Int32) then (some t_pulls) else (if a1 = (3 : Int32) then (some t_readings) else (if a1 = (4 : Int32) then (some t_spanNow) else (some (-2 : Int32)))))))
set_option maxHeartbeats 4000000 in
set_option maxRecDepth 100000 in
theorem c_X7_many (l : Launch) (G : GT) (h_t : Nat) (h_t_kindOf : Nat) (h_t_needsOf : Nat) (h_t_fromOf : Nat) (h_t_toOf : Nat) (h_t_longOf : Nat) (h_t_readKind : Nat) (h_t_readNeeds : Nat) (h_t_readFrom : Nat) (h_t_readTo : Nat) (h_t_readLong : Nat) (h_t_pullOf : Nat) (h_t_pullAt : Nat) (h_t_peals : Nat) (h_t_swings : Nat) (h_t_lastRang : Nat) (h_t_heardSince : Nat) (h_t_readingOf : Nat) (h_t_readingAt : Nat) (h_t_readingIs : Nat) (h_t_sheetSize : Nat) (h_t_sheetLane : Nat) (h_t_sheet : Nat) (h_t_hands : Nat) (t_fault : Int32) (t_bells : Int32) (t_tied : Int32) (t_ropes : Int32) (t_spanNow : Int32) (t_readAt : Int32) (t_readBells : Int32) (t_readRopes : Int32) (t_pulls : Int32) (t_readings : Int32) (t_traceNow : Int32) (a1 : Int32) {u : Int32} (hm : M_X7_many t_bells t_ropes t_spanNow t_pulls t_readings a1 = some u) : CT l yX7_many cX7_many 2 (some .int) 0 0 [.ref h_t, .int a1] G (w_X7_many G h_t h_t_kindOf h_t_needsOf h_t_fromOf h_t_toOf h_t_longOf h_t_readKind h_t_readNeeds h_t_readFrom h_t_readTo h_t_readLong h_t_pullOf h_t_pullAt h_t_peals h_t_swings h_t_lastRang h_t_heardSince h_t_readingOf h_t_readingAt h_t_readingIs h_t_sheetSize h_t_sheetLane h_t_sheet h_t_hands t_fault t_bells t_tied t_ropes t_spanNow t_readAt t_readBells t_readRopes t_pulls t_readings t_traceNow) (some (.int u)) (w_X7_many G h_t h_t_kindOf h_t_needsOf h_t_fromOf h_t_toOf h_t_longOf h_t_readKind h_t_readNeeds h_t_readFrom h_t_readTo h_t_readLong h_t_pullOf h_t_pullAt h_t_peals h_t_swings h_t_lastRang h_t_heardSince h_t_readingOf h_t_readingAt h_t_readingIs h_t_sheetSize h_t_sheetLane h_t_sheet h_t_hands t_fault t_bells t_tied t_ropes t_spanNow t_readAt t_readBells t_readRopes t_pulls t_readings t_traceNow) := by
  refine ct_intro RX7 [(0, .ref h_t), (1, .int a1)] (by decide) rfl (Nat.le_of_ble_eq_true rfl) rfl (fun X hX cx => ?_)
  unfold M_X7_many at hm
  refine k_iload_n 0 cx dX7_many_0 rfl 1 rfl ?_
  rcases m_if hm with ⟨hc0, hm⟩ | ⟨hc0, hm⟩
  · refine k_tabIn 1 cx (off := 35) (tgt := 36) (0 : Int32) hc0 dX7_many_1 ⟨by decide, by decide, rfl, by decide⟩ ?_
    refine k_aload_n 36 cx dX7_many_36 rfl 0 rfl ?_
    refine fgX7_90 37 cx dX7_many_37 0 rfl rfl ?_
    obtain rfl := Option.some.inj hm
    exact k_iret 40 cx dX7_many_40 rfl rfl
  · rcases m_if hm with ⟨hc1, hm⟩ | ⟨hc1, hm⟩
    · refine k_tabIn 1 cx (off := 40) (tgt := 41) (1 : Int32) hc1 dX7_many_1 ⟨by decide, by decide, rfl, by decide⟩ ?_
      refine k_aload_n 41 cx dX7_many_41 rfl 0 rfl ?_
      refine fgX7_145 42 cx dX7_many_42 0 rfl rfl ?_
      obtain rfl := Option.some.inj hm
      exact k_iret 45 cx dX7_many_45 rfl rfl
    · rcases m_if hm with ⟨hc2, hm⟩ | ⟨hc2, hm⟩
      · refine k_tabIn 1 cx (off := 45) (tgt := 46) (2 : Int32) hc2 dX7_many_1 ⟨by decide, by decide, rfl, by decide⟩ ?_
        refine k_aload_n 46 cx dX7_many_46 rfl 0 rfl ?_
        refine fgX7_154 47 cx dX7_many_47 0 rfl rfl ?_
        obtain rfl := Option.some.inj hm
        exact k_iret 50 cx dX7_many_50 rfl rfl
      · rcases m_if hm with ⟨hc3, hm⟩ | ⟨hc3, hm⟩
        · refine k_tabIn 1 cx (off := 50) (tgt := 51) (3 : Int32) hc3 dX7_many_1 ⟨by decide, by decide, rfl, by decide⟩ ?_
          refine k_aload_n 51 cx dX7_many_51 rfl 0 rfl ?_
          refine fgX7_157 52 cx dX7_many_52 0 rfl rfl ?_
          obtain rfl := Option.some.inj hm
          exact k_iret 55 cx dX7_many_55 rfl rfl
        · rcases m_if hm with ⟨hc4, hm⟩ | ⟨hc4, hm⟩
          · refine k_tabIn 1 cx (off := 55) (tgt := 56) (4 : Int32) hc4 dX7_many_1 ⟨by decide, by decide, rfl, by decide⟩ ?_
            refine k_aload_n 56 cx dX7_many_56 rfl 0 rfl ?_
            refine fgX7_151 57 cx dX7_many_57 0 rfl rfl ?_
            obtain rfl := Option.some.inj hm
            exact k_iret 60 cx dX7_many_60 rfl rfl
          · have n0 : a1.toInt ≠ 0 := fun h => hc0 (Int32.toInt_inj.mp (h.trans rfl))
            have n1 : a1.toInt ≠ 1 := fun h => hc1 (Int32.toInt_inj.mp (h.trans rfl))
            have n2 : a1.toInt ≠ 2 := fun h => hc2 (Int32.toInt_inj.mp (h.trans rfl))
            have n3 : a1.toInt ≠ 3 := fun h => hc3 (Int32.toInt_inj.mp (h.trans rfl))
            have n4 : a1.toInt ≠ 4 := fun h => hc4 (Int32.toInt_inj.mp (h.trans rfl))
            refine k_tabOut 1 cx (tgt := 61) dX7_many_1 (by omega) (by decide) ?_
            refine k_bipush 61 cx (v := (-2 : Int32)) dX7_many_61 (by decide) ?_
            obtain rfl := Option.some.inj hm
            exact k_iret 63 cx dX7_many_63 rfl rfl
