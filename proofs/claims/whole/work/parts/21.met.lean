def w_X7_needs (G : GT) (h_t : Nat) (h_t_kindOf : Nat) (h_t_needsOf : Nat) (h_t_fromOf : Nat) (h_t_toOf : Nat) (h_t_longOf : Nat) (h_t_readKind : Nat) (h_t_readNeeds : Nat) (h_t_readFrom : Nat) (h_t_readTo : Nat) (h_t_readLong : Nat) (h_t_pullOf : Nat) (h_t_pullAt : Nat) (h_t_peals : Nat) (h_t_swings : Nat) (h_t_lastRang : Nat) (h_t_heardSince : Nat) (h_t_readingOf : Nat) (h_t_readingAt : Nat) (h_t_readingIs : Nat) (h_t_sheetSize : Nat) (h_t_sheetLane : Nat) (h_t_sheet : Nat) (h_t_hands : Nat) (t_fault : Int32) (t_bells : Int32) (t_tied : Int32) (t_ropes : Int32) (t_spanNow : Int32) (t_readAt : Int32) (t_readBells : Int32) (t_readRopes : Int32) (t_pulls : Int32) (t_readings : Int32) (t_traceNow : Int32) (t_kindOf : (Nat → Int32)) (t_needsOf : (Nat → Int32)) : va_W := [(h_t, .inr (7, [.int t_fault, .int t_bells, .ref h_t_kindOf, .ref h_t_needsOf, .int t_tied, .int t_ropes, .ref h_t_fromOf, .ref h_t_toOf, .ref h_t_longOf, .int t_spanNow, .int t_readAt, .int t_readBells, .int t_readRopes, .ref h_t_readKind, .ref h_t_readNeeds, .ref h_t_readFrom, .ref h_t_readTo, .ref h_t_readLong, .int t_pulls, .ref h_t_pullOf, .ref h_t_pullAt, .ref h_t_peals, .ref h_t_swings, .ref h_t_lastRang, .ref h_t_heardSince, .int t_readings, .ref h_t_readingOf, .ref h_t_readingAt, .ref h_t_readingIs, .ref h_t_sheetSize, .ref h_t_sheetLane, .ref h_t_sheet, .ref h_t_hands, .int t_traceNow])), (h_t_kindOf, .inl (G.2.1, 6, .inl t_kindOf)), (h_t_needsOf, .inl (G.2.1, 6, .inl t_needsOf))]
def M_X7_needs (t_kindOf : (Nat → Int32)) (t_needsOf : (Nat → Int32)) (a1 : Int32) : Option (Int32) := (gB (inb a1 6) (if (t_kindOf (Int32.toNatClampNeg a1)) ≤ 0 then (gB (inb a1 6) (some (t_needsOf (Int32.toNatClampNeg a1)))) else (gB (inb a1 6) (some ((t_needsOf (Int32.toNatClampNeg a1)) + (1 : Int32))))))
set_option maxHeartbeats 4000000 in
set_option maxRecDepth 100000 in
theorem c_X7_needs (l : Launch) (G : GT) (h_t : Nat) (h_t_kindOf : Nat) (h_t_needsOf : Nat) (h_t_fromOf : Nat) (h_t_toOf : Nat) (h_t_longOf : Nat) (h_t_readKind : Nat) (h_t_readNeeds : Nat) (h_t_readFrom : Nat) (h_t_readTo : Nat) (h_t_readLong : Nat) (h_t_pullOf : Nat) (h_t_pullAt : Nat) (h_t_peals : Nat) (h_t_swings : Nat) (h_t_lastRang : Nat) (h_t_heardSince : Nat) (h_t_readingOf : Nat) (h_t_readingAt : Nat) (h_t_readingIs : Nat) (h_t_sheetSize : Nat) (h_t_sheetLane : Nat) (h_t_sheet : Nat) (h_t_hands : Nat) (t_fault : Int32) (t_bells : Int32) (t_tied : Int32) (t_ropes : Int32) (t_spanNow : Int32) (t_readAt : Int32) (t_readBells : Int32) (t_readRopes : Int32) (t_pulls : Int32) (t_readings : Int32) (t_traceNow : Int32) (t_kindOf : (Nat → Int32)) (t_needsOf : (Nat → Int32)) (a1 : Int32) {u : Int32} (hm : M_X7_needs t_kindOf t_needsOf a1 = some u) : CT l yX7_needs cX7_needs 2 (some .int) 0 0 [.ref h_t, .int a1] G (w_X7_needs G h_t h_t_kindOf h_t_needsOf h_t_fromOf h_t_toOf h_t_longOf h_t_readKind h_t_readNeeds h_t_readFrom h_t_readTo h_t_readLong h_t_pullOf h_t_pullAt h_t_peals h_t_swings h_t_lastRang h_t_heardSince h_t_readingOf h_t_readingAt h_t_readingIs h_t_sheetSize h_t_sheetLane h_t_sheet h_t_hands t_fault t_bells t_tied t_ropes t_spanNow t_readAt t_readBells t_readRopes t_pulls t_readings t_traceNow t_kindOf t_needsOf) (some (.int u)) (w_X7_needs G h_t h_t_kindOf h_t_needsOf h_t_fromOf h_t_toOf h_t_longOf h_t_readKind h_t_readNeeds h_t_readFrom h_t_readTo h_t_readLong h_t_pullOf h_t_pullAt h_t_peals h_t_swings h_t_lastRang h_t_heardSince h_t_readingOf h_t_readingAt h_t_readingIs h_t_sheetSize h_t_sheetLane h_t_sheet h_t_hands t_fault t_bells t_tied t_ropes t_spanNow t_readAt t_readBells t_readRopes t_pulls t_readings t_traceNow t_kindOf t_needsOf) := by
  refine ct_intro RX7 [(0, .ref h_t), (1, .int a1)] (by decide) rfl (Nat.le_of_ble_eq_true rfl) rfl (fun X hX cx => ?_)
  unfold M_X7_needs at hm
  refine k_aload_n 0 cx dX7_needs_0 rfl 0 rfl ?_
  refine fgX7_7 1 cx dX7_needs_1 0 rfl rfl ?_
  refine k_iload_n 4 cx dX7_needs_4 rfl 1 rfl ?_
  refine k_iald 5 cx dX7_needs_5 1 rfl hm (fun hm => ?_)
  refine k_if_le 6 cx (tgt := 20) dX7_needs_6 (by decide) hm (fun hc hm => ?_) (fun hc hm => ?_)
  · refine k_aload_n 20 cx dX7_needs_20 rfl 0 rfl ?_
    refine fgX7_13 21 cx dX7_needs_21 0 rfl rfl ?_
    refine k_iload_n 24 cx dX7_needs_24 rfl 1 rfl ?_
    refine k_iald 25 cx dX7_needs_25 2 rfl hm (fun hm => ?_)
    obtain rfl := Option.some.inj hm
    exact k_iret 26 cx dX7_needs_26 rfl rfl
  · refine k_aload_n 9 cx dX7_needs_9 rfl 0 rfl ?_
    refine fgX7_13 10 cx dX7_needs_10 0 rfl rfl ?_
    refine k_iload_n 13 cx dX7_needs_13 rfl 1 rfl ?_
    refine k_iald 14 cx dX7_needs_14 2 rfl hm (fun hm => ?_)
    refine k_iconst 15 cx (v := (1 : Int32)) dX7_needs_15 (by decide) ?_
    refine k_iadd 16 cx dX7_needs_16 ?_
    refine k_goto 17 cx (tgt := 26) dX7_needs_17 (by decide) ?_
    obtain rfl := Option.some.inj hm
    exact k_iret 26 cx dX7_needs_26 rfl rfl
set_option maxRecDepth 100000 in
theorem fgX7_148 {X : XT} {Q : State → Prop} {G : GT} {A : Nat → Prop} {nL : Nat} {lv : List (Nat × Value)} {st : List Value} {ws : va_W} {cc : ByteArray} {fr lo : Nat} {ret : Option FieldType} (pc : Nat) (cx : Cx X cc nL RX7 G fr lo ret) {a : Nat} {fs : List Value} {v : Value} (hd : decode cc pc = .ok (.getfield 148, 3)) (q0 : Nat) (he : ws[q0]? = some (a, .inr (7, fs))) (hv : fs[4]? = some v) (k : KJ X Q G A nL (pc + 3) lv (v :: st) ws) : KJ X Q G A nL pc lv (.ref a :: st) ws :=
  k_get (ref := RX7) (T := TX7) (N := 34) (ci := 7) pc cx inX7 rfl 4 (by decide) (tb_m (i := 653) rfl rfl) rfl hd q0 he hv k
set_option maxRecDepth 100000 in
theorem cwX7_166 : CWS RX7 166 yX7_isIn cX7_isIn 2 (some .boolean) 2 := ⟨tb_m (i := 811) rfl rfl, tb_m (i := 812) rfl rfl, tb_m (i := 58) rfl rfl, tb_m (i := 813) rfl rfl, ⟨by decide +kernel, by decide +kernel, by decide +kernel⟩⟩
set_option maxRecDepth 100000 in
theorem cwX7_160 : CWV RX7 160 RX7 yX7_noBell cX7_noBell 2 (some .boolean) 1 7 TX7 34 := ⟨tb_m (i := 803) rfl rfl, tb_m (i := 805) rfl rfl, tb_m (i := 36) rfl rfl, tb_m (i := 58) rfl rfl, tb_m (i := 806) rfl rfl, ⟨by decide +kernel, by decide +kernel, by decide +kernel⟩, rfl⟩
set_option maxRecDepth 100000 in
theorem cwX7_163 : CWV RX7 163 RX7 yX7_needs cX7_needs 2 (some .int) 1 7 TX7 34 := ⟨tb_m (i := 807) rfl rfl, tb_m (i := 809) rfl rfl, tb_m (i := 37) rfl rfl, tb_m (i := 58) rfl rfl, tb_m (i := 810) rfl rfl, ⟨by decide +kernel, by decide +kernel, by decide +kernel⟩, rfl⟩
def w_X7_ofBell (G : GT) (h_t : Nat) (h_t_kindOf : Nat) (h_t_needsOf : Nat) (h_t_fromOf : Nat) (h_t_toOf : Nat) (h_t_longOf : Nat) (h_t_readKind : Nat) (h_t_readNeeds : Nat) (h_t_readFrom : Nat) (h_t_readTo : Nat) (h_t_readLong : Nat) (h_t_pullOf : Nat) (h_t_pullAt : Nat) (h_t_peals : Nat) (h_t_swings : Nat) (h_t_lastRang : Nat) (h_t_heardSince : Nat) (h_t_readingOf : Nat) (h_t_readingAt : Nat) (h_t_readingIs : Nat) (h_t_sheetSize : Nat) (h_t_sheetLane : Nat) (h_t_sheet : Nat) (h_t_hands : Nat) (t_fault : Int32) (t_bells : Int32) (t_tied : Int32) (t_ropes : Int32) (t_spanNow : Int32) (t_readAt : Int32) (t_readBells : Int32) (t_readRopes : Int32) (t_pulls : Int32) (t_readings : Int32) (t_traceNow : Int32) (t_kindOf : (Nat → Int32)) (t_needsOf : (Nat → Int32)) : va_W := [(h_t, .inr (7, [.int t_fault, .int t_bells, .ref h_t_kindOf, .ref h_t_needsOf, .int t_tied, .int t_ropes, .ref h_t_fromOf, .ref h_t_toOf, .ref h_t_longOf, .int t_spanNow, .int t_readAt, .int t_readBells, .int t_readRopes, .ref h_t_readKind, .ref h_t_readNeeds, .ref h_t_readFrom, .ref h_t_readTo, .ref h_t_readLong, .int t_pulls, .ref h_t_pullOf, .ref h_t_pullAt, .ref h_t_peals, .ref h_t_swings, .ref h_t_lastRang, .ref h_t_heardSince, .int t_readings, .ref h_t_readingOf, .ref h_t_readingAt, .ref h_t_readingIs, .ref h_t_sheetSize, .ref h_t_sheetLane, .ref h_t_sheet, .ref h_t_hands, .int t_traceNow])), (h_t_kindOf, .inl (G.2.1, 6, .inl t_kindOf)), (h_t_needsOf, .inl (G.2.1, 6, .inl t_needsOf))]
def M_X7_ofBell (t_bells : Int32) (t_tied : Int32) (t_kindOf : (Nat → Int32)) (t_needsOf : (Nat → Int32)) (a1 : Int32) (a2 : Int32) : Option (Int32) := ((M_X7_noBell t_bells a1).bind (fun u1 => (if u1 = 0 then (if a2 = (0 : Int32) then (gB (inb a1 6) (some (t_kindOf (Int32.toNatClampNeg a1)))) else (if a2 = (1 : Int32) then (gB (inb a1 6) (some (t_needsOf (Int32.toNatClampNeg a1)))) else (if a2 = (2 : Int32) then ((M_X7_needs t_kindOf t_needsOf a1).bind (fun u2 => (some u2))) else (if a2 = (3 : Int32) then ((M_X7_isIn t_tied a1).bind (fun u3 => (if u3 = 0 then (some (0 : Int32)) else (some (1 : Int32))))) else (some (-2 : Int32)))))) else (some (-1 : Int32)))))
set_option maxHeartbeats 4000000 in
set_option maxRecDepth 100000 in
theorem c_X7_ofBell (l : Launch) (G : GT) (h_t : Nat) (h_t_kindOf : Nat) (h_t_needsOf : Nat) (h_t_fromOf : Nat) (h_t_toOf : Nat) (h_t_longOf : Nat) (h_t_readKind : Nat) (h_t_readNeeds : Nat) (h_t_readFrom : Nat) (h_t_readTo : Nat) (h_t_readLong : Nat) (h_t_pullOf : Nat) (h_t_pullAt : Nat) (h_t_peals : Nat) (h_t_swings : Nat) (h_t_lastRang : Nat) (h_t_heardSince : Nat) (h_t_readingOf : Nat) (h_t_readingAt : Nat) (h_t_readingIs : Nat) (h_t_sheetSize : Nat) (h_t_sheetLane : Nat) (h_t_sheet : Nat) (h_t_hands : Nat) (t_fault : Int32) (t_bells : Int32) (t_tied : Int32) (t_ropes : Int32) (t_spanNow : Int32) (t_readAt : Int32) (t_readBells : Int32) (t_readRopes : Int32) (t_pulls : Int32) (t_readings : Int32) (t_traceNow : Int32) (t_kindOf : (Nat → Int32)) (t_needsOf : (Nat → Int32)) (a1 : Int32) (a2 : Int32) {u : Int32} (hm : M_X7_ofBell t_bells t_tied t_kindOf t_needsOf a1 a2 = some u) : CT l yX7_ofBell cX7_ofBell 3 (some .int) 2 46 [.ref h_t, .int a1, .int a2] G (w_X7_ofBell G h_t h_t_kindOf h_t_needsOf h_t_fromOf h_t_toOf h_t_longOf h_t_readKind h_t_readNeeds h_t_readFrom h_t_readTo h_t_readLong h_t_pullOf h_t_pullAt h_t_peals h_t_swings h_t_lastRang h_t_heardSince h_t_readingOf h_t_readingAt h_t_readingIs h_t_sheetSize h_t_sheetLane h_t_sheet h_t_hands t_fault t_bells t_tied t_ropes t_spanNow t_readAt t_readBells t_readRopes t_pulls t_readings t_traceNow t_kindOf t_needsOf) (some (.int u)) (w_X7_ofBell G h_t h_t_kindOf h_t_needsOf h_t_fromOf h_t_toOf h_t_longOf h_t_readKind h_t_readNeeds h_t_readFrom h_t_readTo h_t_readLong h_t_pullOf h_t_pullAt h_t_peals h_t_swings h_t_lastRang h_t_heardSince h_t_readingOf h_t_readingAt h_t_readingIs h_t_sheetSize h_t_sheetLane h_t_sheet h_t_hands t_fault t_bells t_tied t_ropes t_spanNow t_readAt t_readBells t_readRopes t_pulls t_readings t_traceNow t_kindOf t_needsOf) := by
  refine ct_intro RX7 [(0, .ref h_t), (1, .int a1), (2, .int a2)] (by decide) rfl (Nat.le_of_ble_eq_true rfl) rfl (fun X hX cx => ?_)
  unfold M_X7_ofBell at hm
  refine k_aload_n 0 cx dX7_ofBell_0 rfl 0 rfl ?_
  refine k_iload_n 1 cx dX7_ofBell_1 rfl 1 rfl ?_
  obtain ⟨u1, hu1, hm⟩ := bnd hm
  refine k_callV 2 cx cwX7_160 (c_X7_noBell X.2.1 G h_t h_t_kindOf h_t_needsOf h_t_fromOf h_t_toOf h_t_longOf h_t_readKind h_t_readNeeds h_t_readFrom h_t_readTo h_t_readLong h_t_pullOf h_t_pullAt h_t_peals h_t_swings h_t_lastRang h_t_heardSince h_t_readingOf h_t_readingAt h_t_readingIs h_t_sheetSize h_t_sheetLane h_t_sheet h_t_hands t_fault t_bells t_tied t_ropes t_spanNow t_readAt t_readBells t_readRopes t_pulls t_readings t_traceNow a1 hu1) dX7_ofBell_2 ⟨by decide, by decide⟩ rfl rfl (rest := []) rfl (Nat.le_of_ble_eq_true rfl) [0] (by decide) rfl rfl (w2 := (w_X7_ofBell G h_t h_t_kindOf h_t_needsOf h_t_fromOf h_t_toOf h_t_longOf h_t_readKind h_t_readNeeds h_t_readFrom h_t_readTo h_t_readLong h_t_pullOf h_t_pullAt h_t_peals h_t_swings h_t_lastRang h_t_heardSince h_t_readingOf h_t_readingAt h_t_readingIs h_t_sheetSize h_t_sheetLane h_t_sheet h_t_hands t_fault t_bells t_tied t_ropes t_spanNow t_readAt t_readBells t_readRopes t_pulls t_readings t_traceNow t_kindOf t_needsOf)) [1, 2] 3 rfl [(h_t_kindOf, .inl (G.2.1, 6, .inl t_kindOf)), (h_t_needsOf, .inl (G.2.1, 6, .inl t_needsOf))] rfl rfl rfl (by decide) (st2 := [.int u1]) rfl ?_
  refine k_if_eq 5 cx (tgt := 10) dX7_ofBell_5 (by decide) hm (fun hc hm => ?_) (fun hc hm => ?_)
  · refine k_iload_n 10 cx dX7_ofBell_10 rfl 2 rfl ?_
    rcases m_if hm with ⟨hc0, hm⟩ | ⟨hc0, hm⟩
    · refine k_tabIn 11 cx (off := 29) (tgt := 40) (0 : Int32) hc0 dX7_ofBell_11 ⟨by decide, by decide, rfl, by decide⟩ ?_
      refine k_aload_n 40 cx dX7_ofBell_40 rfl 0 rfl ?_
      refine fgX7_7 41 cx dX7_ofBell_41 0 rfl rfl ?_
      refine k_iload_n 44 cx dX7_ofBell_44 rfl 1 rfl ?_
      refine k_iald 45 cx dX7_ofBell_45 1 rfl hm (fun hm => ?_)
      obtain rfl := Option.some.inj hm
      exact k_iret 46 cx dX7_ofBell_46 rfl rfl
    · rcases m_if hm with ⟨hc1, hm⟩ | ⟨hc1, hm⟩
      · refine k_tabIn 11 cx (off := 36) (tgt := 47) (1 : Int32) hc1 dX7_ofBell_11 ⟨by decide, by decide, rfl, by decide⟩ ?_
        refine k_aload_n 47 cx dX7_ofBell_47 rfl 0 rfl ?_
        refine fgX7_13 48 cx dX7_ofBell_48 0 rfl rfl ?_
        refine k_iload_n 51 cx dX7_ofBell_51 rfl 1 rfl ?_
        refine k_iald 52 cx dX7_ofBell_52 2 rfl hm (fun hm => ?_)
        obtain rfl := Option.some.inj hm
        exact k_iret 53 cx dX7_ofBell_53 rfl rfl
      · rcases m_if hm with ⟨hc2, hm⟩ | ⟨hc2, hm⟩
        · refine k_tabIn 11 cx (off := 43) (tgt := 54) (2 : Int32) hc2 dX7_ofBell_11 ⟨by decide, by decide, rfl, by decide⟩ ?_
          refine k_aload_n 54 cx dX7_ofBell_54 rfl 0 rfl ?_
          refine k_iload_n 55 cx dX7_ofBell_55 rfl 1 rfl ?_
          obtain ⟨u2, hu2, hm⟩ := bnd hm
          refine k_callV 56 cx cwX7_163 (c_X7_needs X.2.1 G h_t h_t_kindOf h_t_needsOf h_t_fromOf h_t_toOf h_t_longOf h_t_readKind h_t_readNeeds h_t_readFrom h_t_readTo h_t_readLong h_t_pullOf h_t_pullAt h_t_peals h_t_swings h_t_lastRang h_t_heardSince h_t_readingOf h_t_readingAt h_t_readingIs h_t_sheetSize h_t_sheetLane h_t_sheet h_t_hands t_fault t_bells t_tied t_ropes t_spanNow t_readAt t_readBells t_readRopes t_pulls t_readings t_traceNow t_kindOf t_needsOf a1 hu2) dX7_ofBell_56 ⟨by decide, by decide⟩ rfl rfl (rest := []) rfl (Nat.le_of_ble_eq_true rfl) [0, 1, 2] (by decide) rfl rfl (w2 := (w_X7_ofBell G h_t h_t_kindOf h_t_needsOf h_t_fromOf h_t_toOf h_t_longOf h_t_readKind h_t_readNeeds h_t_readFrom h_t_readTo h_t_readLong h_t_pullOf h_t_pullAt h_t_peals h_t_swings h_t_lastRang h_t_heardSince h_t_readingOf h_t_readingAt h_t_readingIs h_t_sheetSize h_t_sheetLane h_t_sheet h_t_hands t_fault t_bells t_tied t_ropes t_spanNow t_readAt t_readBells t_readRopes t_pulls t_readings t_traceNow t_kindOf t_needsOf)) [] 3 rfl [] rfl rfl rfl (by decide) (st2 := [.int u2]) rfl ?_
          obtain rfl := Option.some.inj hm
          exact k_iret 59 cx dX7_ofBell_59 rfl rfl
        · rcases m_if hm with ⟨hc3, hm⟩ | ⟨hc3, hm⟩
          · refine k_tabIn 11 cx (off := 49) (tgt := 60) (3 : Int32) hc3 dX7_ofBell_11 ⟨by decide, by decide, rfl, by decide⟩ ?_
            refine k_aload_n 60 cx dX7_ofBell_60 rfl 0 rfl ?_
            refine fgX7_148 61 cx dX7_ofBell_61 0 rfl rfl ?_
            refine k_iload_n 64 cx dX7_ofBell_64 rfl 1 rfl ?_
            obtain ⟨u3, hu3, hm⟩ := bnd hm
            refine k_callS 65 cx cwX7_166 (c_X7_isIn X.2.1 G t_tied a1 hu3) dX7_ofBell_65 ⟨by decide, by decide⟩ rfl (rest := []) rfl (Nat.le_of_ble_eq_true rfl) [] (by decide) rfl rfl (w2 := (w_X7_ofBell G h_t h_t_kindOf h_t_needsOf h_t_fromOf h_t_toOf h_t_longOf h_t_readKind h_t_readNeeds h_t_readFrom h_t_readTo h_t_readLong h_t_pullOf h_t_pullAt h_t_peals h_t_swings h_t_lastRang h_t_heardSince h_t_readingOf h_t_readingAt h_t_readingIs h_t_sheetSize h_t_sheetLane h_t_sheet h_t_hands t_fault t_bells t_tied t_ropes t_spanNow t_readAt t_readBells t_readRopes t_pulls t_readings t_traceNow t_kindOf t_needsOf)) [0, 1, 2] 3 rfl [(h_t, .inr (7, [.int t_fault, .int t_bells, .ref h_t_kindOf, .ref h_t_needsOf, .int t_tied, .int t_ropes, .ref h_t_fromOf, .ref h_t_toOf, .ref h_t_longOf, .int t_spanNow, .int t_readAt, .int t_readBells, .int t_readRopes, .ref h_t_readKind, .ref h_t_readNeeds, .ref h_t_readFrom, .ref h_t_readTo, .ref h_t_readLong, .int t_pulls, .ref h_t_pullOf, .ref h_t_pullAt, .ref h_t_peals, .ref h_t_swings, .ref h_t_lastRang, .ref h_t_heardSince, .int t_readings, .ref h_t_readingOf, .ref h_t_readingAt, .ref h_t_readingIs, .ref h_t_sheetSize, .ref h_t_sheetLane, .ref h_t_sheet, .ref h_t_hands, .int t_traceNow])), (h_t_kindOf, .inl (G.2.1, 6, .inl t_kindOf)), (h_t_needsOf, .inl (G.2.1, 6, .inl t_needsOf))] rfl rfl rfl (by decide) (st2 := [.int u3]) rfl ?_
            refine k_if_eq 68 cx (tgt := 75) dX7_ofBell_68 (by decide) hm (fun hc hm => ?_) (fun hc hm => ?_)
            · refine k_iconst 75 cx (v := (0 : Int32)) dX7_ofBell_75 (by decide) ?_
              obtain rfl := Option.some.inj hm
              exact k_iret 76 cx dX7_ofBell_76 rfl rfl
            · refine k_iconst 71 cx (v := (1 : Int32)) dX7_ofBell_71 (by decide) ?_
              refine k_goto 72 cx (tgt := 76) dX7_ofBell_72 (by decide) ?_
              obtain rfl := Option.some.inj hm
              exact k_iret 76 cx dX7_ofBell_76 rfl rfl
          · have n0 : a2.toInt ≠ 0 := fun h => hc0 (Int32.toInt_inj.mp (h.trans rfl))
            have n1 : a2.toInt ≠ 1 := fun h => hc1 (Int32.toInt_inj.mp (h.trans rfl))
            have n2 : a2.toInt ≠ 2 := fun h => hc2 (Int32.toInt_inj.mp (h.trans rfl))
            have n3 : a2.toInt ≠ 3 := fun h => hc3 (Int32.toInt_inj.mp (h.trans rfl))
            refine k_tabOut 11 cx (tgt := 77) dX7_ofBell_11 (by omega) (by decide) ?_
            refine k_bipush 77 cx (v := (-2 : Int32)) dX7_ofBell_77 (by decide) ?_
            obtain rfl := Option.some.inj hm
            exact k_iret 79 cx dX7_ofBell_79 rfl rfl
  · refine k_iconst 8 cx (v := (-1 : Int32)) dX7_ofBell_8 (by decide) ?_
    obtain rfl := Option.some.inj hm
    exact k_iret 9 cx dX7_ofBell_9 rfl rfl
def w_X7_ofRope (G : GT) (h_t : Nat) (h_t_longOf : Nat) (h_t_toOf : Nat) (h_t_fromOf : Nat) (h_t_kindOf : Nat) (h_t_needsOf : Nat) (h_t_readKind : Nat) (h_t_readNeeds : Nat) (h_t_readFrom : Nat) (h_t_readTo : Nat) (h_t_readLong : Nat) (h_t_pullOf : Nat) (h_t_pullAt : Nat) (h_t_peals : Nat) (h_t_swings : Nat) (h_t_lastRang : Nat) (h_t_heardSince : Nat) (h_t_readingOf : Nat) (h_t_readingAt : Nat) (h_t_readingIs : Nat) (h_t_sheetSize : Nat) (h_t_sheetLane : Nat) (h_t_sheet : Nat) (h_t_hands : Nat) (t_fault : Int32) (t_bells : Int32) (t_tied : Int32) (t_ropes : Int32) (t_spanNow : Int32) (t_readAt : Int32) (t_readBells : Int32) (t_readRopes : Int32) (t_pulls : Int32) (t_readings : Int32) (t_traceNow : Int32) (t_longOf : (Nat → Int32)) (t_toOf : (Nat → Int32)) (t_fromOf : (Nat → Int32)) : va_W := [(h_t, .inr (7, [.int t_fault, .int t_bells, .ref h_t_kindOf, .ref h_t_needsOf, .int t_tied, .int t_ropes, .ref h_t_fromOf, .ref h_t_toOf, .ref h_t_longOf, .int t_spanNow, .int t_readAt, .int t_readBells, .int t_readRopes, .ref h_t_readKind, .ref h_t_readNeeds, .ref h_t_readFrom, .ref h_t_readTo, .ref h_t_readLong, .int t_pulls, .ref h_t_pullOf, .ref h_t_pullAt, .ref h_t_peals, .ref h_t_swings, .ref h_t_lastRang, .ref h_t_heardSince, .int t_readings, .ref h_t_readingOf, .ref h_t_readingAt, .ref h_t_readingIs, .ref h_t_sheetSize, .ref h_t_sheetLane, .ref h_t_sheet, .ref h_t_hands, .int t_traceNow])), (h_t_longOf, .inl (G.2.1, 9, .inl t_longOf)), (h_t_toOf, .inl (G.2.1, 9, .inl t_toOf)), (h_t_fromOf, .inl (G.2.1, 9, .inl t_fromOf))]
def M_X7_ofRope (t_ropes : Int32) (t_longOf : (Nat → Int32)) (t_toOf : (Nat → Int32)) (t_fromOf : (Nat → Int32)) (a1 : Int32) (a2 : Int32) : Option (Int32) := ((M_X7_in (Int32.toInt64 a1) (0 : Int64) ((Int32.toInt64 t_ropes) - (1 : Int64))).bind (fun u1 => (if u1 = 0 then (some (-1 : Int32)) else (if a2 = 0 then (gB (inb a1 9) (some (t_fromOf (Int32.toNatClampNeg a1)))) else (if a2 = (1 : Int32) then (gB (inb a1 9) (some (t_toOf (Int32.toNatClampNeg a1)))) else (if a2 = (2 : Int32) then (gB (inb a1 9) (some (t_longOf (Int32.toNatClampNeg a1)))) else (some (-2 : Int32))))))))
set_option maxHeartbeats 4000000 in
set_option maxRecDepth 100000 in
theorem c_X7_ofRope (l : Launch) (G : GT) (h_t : Nat) (h_t_longOf : Nat) (h_t_toOf : Nat) (h_t_fromOf : Nat) (h_t_kindOf : Nat) (h_t_needsOf : Nat) (h_t_readKind : Nat) (h_t_readNeeds : Nat) (h_t_readFrom : Nat) (h_t_readTo : Nat) (h_t_readLong : Nat) (h_t_pullOf : Nat) (h_t_pullAt : Nat) (h_t_peals : Nat) (h_t_swings : Nat) (h_t_lastRang : Nat) (h_t_heardSince : Nat) (h_t_readingOf : Nat) (h_t_readingAt : Nat) (h_t_readingIs : Nat) (h_t_sheetSize : Nat) (h_t_sheetLane : Nat) (h_t_sheet : Nat) (h_t_hands : Nat) (t_fault : Int32) (t_bells : Int32) (t_tied : Int32) (t_ropes : Int32) (t_spanNow : Int32) (t_readAt : Int32) (t_readBells : Int32) (t_readRopes : Int32) (t_pulls : Int32) (t_readings : Int32) (t_traceNow : Int32) (t_longOf : (Nat → Int32)) (t_toOf : (Nat → Int32)) (t_fromOf : (Nat → Int32)) (a1 : Int32) (a2 : Int32) {u : Int32} (hm : M_X7_ofRope t_ropes t_longOf t_toOf t_fromOf a1 a2 = some u) : CT l yX7_ofRope cX7_ofRope 3 (some .int) 1 25 [.ref h_t, .int a1, .int a2] G (w_X7_ofRope G h_t h_t_longOf h_t_toOf h_t_fromOf h_t_kindOf h_t_needsOf h_t_readKind h_t_readNeeds h_t_readFrom h_t_readTo h_t_readLong h_t_pullOf h_t_pullAt h_t_peals h_t_swings h_t_lastRang h_t_heardSince h_t_readingOf h_t_readingAt h_t_readingIs h_t_sheetSize h_t_sheetLane h_t_sheet h_t_hands t_fault t_bells t_tied t_ropes t_spanNow t_readAt t_readBells t_readRopes t_pulls t_readings t_traceNow t_longOf t_toOf t_fromOf) (some (.int u)) (w_X7_ofRope G h_t h_t_longOf h_t_toOf h_t_fromOf h_t_kindOf h_t_needsOf h_t_readKind h_t_readNeeds h_t_readFrom h_t_readTo h_t_readLong h_t_pullOf h_t_pullAt h_t_peals h_t_swings h_t_lastRang h_t_heardSince h_t_readingOf h_t_readingAt h_t_readingIs h_t_sheetSize h_t_sheetLane h_t_sheet h_t_hands t_fault t_bells t_tied t_ropes t_spanNow t_readAt t_readBells t_readRopes t_pulls t_readings t_traceNow t_longOf t_toOf t_fromOf) := by
  refine ct_intro RX7 [(0, .ref h_t), (1, .int a1), (2, .int a2)] (by decide) rfl (Nat.le_of_ble_eq_true rfl) rfl (fun X hX cx => ?_)
  unfold M_X7_ofRope at hm
  refine k_iload_n 0 cx dX7_ofRope_0 rfl 1 rfl ?_
  refine k_i2l 1 cx dX7_ofRope_1 ?_
  refine k_lconst 2 cx (v := (0 : Int64)) dX7_ofRope_2 (by decide) ?_
  refine k_aload_n 3 cx dX7_ofRope_3 rfl 0 rfl ?_
  refine fgX7_145 4 cx dX7_ofRope_4 0 rfl rfl ?_
  refine k_i2l 7 cx dX7_ofRope_7 ?_
  refine k_lconst 8 cx (v := (1 : Int64)) dX7_ofRope_8 (by decide) ?_
  refine k_lsub 9 cx dX7_ofRope_9 ?_
  obtain ⟨u1, hu1, hm⟩ := bnd hm
  refine k_callS 10 cx cwX7_93 (c_X7_in X.2.1 G (Int32.toInt64 a1) (0 : Int64) ((Int32.toInt64 t_ropes) - (1 : Int64)) hu1) dX7_ofRope_10 ⟨by decide, by decide⟩ rfl (rest := []) rfl (Nat.le_of_ble_eq_true rfl) [] (by decide) rfl rfl (w2 := (w_X7_ofRope G h_t h_t_longOf h_t_toOf h_t_fromOf h_t_kindOf h_t_needsOf h_t_readKind h_t_readNeeds h_t_readFrom h_t_readTo h_t_readLong h_t_pullOf h_t_pullAt h_t_peals h_t_swings h_t_lastRang h_t_heardSince h_t_readingOf h_t_readingAt h_t_readingIs h_t_sheetSize h_t_sheetLane h_t_sheet h_t_hands t_fault t_bells t_tied t_ropes t_spanNow t_readAt t_readBells t_readRopes t_pulls t_readings t_traceNow t_longOf t_toOf t_fromOf)) [0, 1, 2, 3] 4 rfl [(h_t, .inr (7, [.int t_fault, .int t_bells, .ref h_t_kindOf, .ref h_t_needsOf, .int t_tied, .int t_ropes, .ref h_t_fromOf, .ref h_t_toOf, .ref h_t_longOf, .int t_spanNow, .int t_readAt, .int t_readBells, .int t_readRopes, .ref h_t_readKind, .ref h_t_readNeeds, .ref h_t_readFrom, .ref h_t_readTo, .ref h_t_readLong, .int t_pulls, .ref h_t_pullOf, .ref h_t_pullAt, .ref h_t_peals, .ref h_t_swings, .ref h_t_lastRang, .ref h_t_heardSince, .int t_readings, .ref h_t_readingOf, .ref h_t_readingAt, .ref h_t_readingIs, .ref h_t_sheetSize, .ref h_t_sheetLane, .ref h_t_sheet, .ref h_t_hands, .int t_traceNow])), (h_t_longOf, .inl (G.2.1, 9, .inl t_longOf)), (h_t_toOf, .inl (G.2.1, 9, .inl t_toOf)), (h_t_fromOf, .inl (G.2.1, 9, .inl t_fromOf))] rfl rfl rfl (by decide) (st2 := [.int u1]) rfl ?_
  refine k_if_ne 13 cx (tgt := 18) dX7_ofRope_13 (by decide) hm (fun hc hm => ?_) (fun hc hm => ?_)
  · refine k_iconst 16 cx (v := (-1 : Int32)) dX7_ofRope_16 (by decide) ?_
    obtain rfl := Option.some.inj hm
    exact k_iret 17 cx dX7_ofRope_17 rfl rfl
  · refine k_iload_n 18 cx dX7_ofRope_18 rfl 2 rfl ?_
    refine k_if_ne 19 cx (tgt := 31) dX7_ofRope_19 (by decide) hm (fun hc hm => ?_) (fun hc hm => ?_)
    · refine k_aload_n 22 cx dX7_ofRope_22 rfl 0 rfl ?_
      refine fgX7_16 23 cx dX7_ofRope_23 0 rfl rfl ?_
      refine k_iload_n 26 cx dX7_ofRope_26 rfl 1 rfl ?_
      refine k_iald 27 cx dX7_ofRope_27 3 rfl hm (fun hm => ?_)
      refine k_goto 28 cx (tgt := 61) dX7_ofRope_28 (by decide) ?_
      obtain rfl := Option.some.inj hm
      exact k_iret 61 cx dX7_ofRope_61 rfl rfl
    · refine k_iload_n 31 cx dX7_ofRope_31 rfl 2 rfl ?_
      refine k_iconst 32 cx (v := (1 : Int32)) dX7_ofRope_32 (by decide) ?_
      refine k_icmp_ne 33 cx (tgt := 45) dX7_ofRope_33 (by decide) hm (fun hc hm => ?_) (fun hc hm => ?_)
      · refine k_aload_n 36 cx dX7_ofRope_36 rfl 0 rfl ?_
        refine fgX7_19 37 cx dX7_ofRope_37 0 rfl rfl ?_
        refine k_iload_n 40 cx dX7_ofRope_40 rfl 1 rfl ?_
        refine k_iald 41 cx dX7_ofRope_41 2 rfl hm (fun hm => ?_)
        refine k_goto 42 cx (tgt := 61) dX7_ofRope_42 (by decide) ?_
        obtain rfl := Option.some.inj hm
        exact k_iret 61 cx dX7_ofRope_61 rfl rfl
      · refine k_iload_n 45 cx dX7_ofRope_45 rfl 2 rfl ?_
        refine k_iconst 46 cx (v := (2 : Int32)) dX7_ofRope_46 (by decide) ?_
        refine k_icmp_ne 47 cx (tgt := 59) dX7_ofRope_47 (by decide) hm (fun hc hm => ?_) (fun hc hm => ?_)
        · refine k_aload_n 50 cx dX7_ofRope_50 rfl 0 rfl ?_
          refine fgX7_22 51 cx dX7_ofRope_51 0 rfl rfl ?_
          refine k_iload_n 54 cx dX7_ofRope_54 rfl 1 rfl ?_
          refine k_iald 55 cx dX7_ofRope_55 1 rfl hm (fun hm => ?_)
          refine k_goto 56 cx (tgt := 61) dX7_ofRope_56 (by decide) ?_
          obtain rfl := Option.some.inj hm
          exact k_iret 61 cx dX7_ofRope_61 rfl rfl
        · refine k_bipush 59 cx (v := (-2 : Int32)) dX7_ofRope_59 (by decide) ?_
          obtain rfl := Option.some.inj hm
          exact k_iret 61 cx dX7_ofRope_61 rfl rfl
def w_X7_tie (G : GT) (h_t : Nat) (h_t_kindOf : Nat) (h_t_needsOf : Nat) (h_t_fromOf : Nat) (h_t_toOf : Nat) (h_t_longOf : Nat) (h_t_readKind : Nat) (h_t_readNeeds : Nat) (h_t_readFrom : Nat) (h_t_readTo : Nat) (h_t_readLong : Nat) (h_t_pullOf : Nat) (h_t_pullAt : Nat) (h_t_peals : Nat) (h_t_swings : Nat) (h_t_lastRang : Nat) (h_t_heardSince : Nat) (h_t_readingOf : Nat) (h_t_readingAt : Nat) (h_t_readingIs : Nat) (h_t_sheetSize : Nat) (h_t_sheetLane : Nat) (h_t_sheet : Nat) (h_t_hands : Nat) (t_fault : Int32) (t_bells : Int32) (t_tied : Int32) (t_ropes : Int32) (t_spanNow : Int32) (t_readAt : Int32) (t_readBells : Int32) (t_readRopes : Int32) (t_pulls : Int32) (t_readings : Int32) (t_traceNow : Int32) : va_W := [(h_t, .inr (7, [.int t_fault, .int t_bells, .ref h_t_kindOf, .ref h_t_needsOf, .int t_tied, .int t_ropes, .ref h_t_fromOf, .ref h_t_toOf, .ref h_t_longOf, .int t_spanNow, .int t_readAt, .int t_readBells, .int t_readRopes, .ref h_t_readKind, .ref h_t_readNeeds, .ref h_t_readFrom, .ref h_t_readTo, .ref h_t_readLong, .int t_pulls, .ref h_t_pullOf, .ref h_t_pullAt, .ref h_t_peals, .ref h_t_swings, .ref h_t_lastRang, .ref h_t_heardSince, .int t_readings, .ref h_t_readingOf, .ref h_t_readingAt, .ref h_t_readingIs, .ref h_t_sheetSize, .ref h_t_sheetLane, .ref h_t_sheet, .ref h_t_hands, .int t_traceNow]))]
def M_X7_tie (t_bells : Int32) (t_tied : Int32) (a1 : Int32) (a2 : Int32) : Option (Int32 × Int32) := ((M_X7_noBell t_bells a1).bind (fun u1 => (if u1 = 0 then ((M_X7_isIn t_tied a1).bind (fun u2 => (if a2 = 0 then (nme (t_tied &&& (((1 : Int32) <<< (a1 &&& 31)) ^^^ (-1 : Int32))) (fun v3 => (if u2 = a2 then (some ((0 : Int32), v3)) else (some ((1 : Int32), v3))))) else (nme (t_tied ||| ((1 : Int32) <<< (a1 &&& 31))) (fun v4 => (if u2 = a2 then (some ((0 : Int32), v4)) else (some ((1 : Int32), v4)))))))) else (some ((-1 : Int32), t_tied)))))
set_option maxHeartbeats 4000000 in
set_option maxRecDepth 100000 in
theorem c_X7_tie (l : Launch) (G : GT) (h_t : Nat) (h_t_kindOf : Nat) (h_t_needsOf : Nat) (h_t_fromOf : Nat) (h_t_toOf : Nat) (h_t_longOf : Nat) (h_t_readKind : Nat) (h_t_readNeeds : Nat) (h_t_readFrom : Nat) (h_t_readTo : Nat) (h_t_readLong : Nat) (h_t_pullOf : Nat) (h_t_pullAt : Nat) (h_t_peals : Nat) (h_t_swings : Nat) (h_t_lastRang : Nat) (h_t_heardSince : Nat) (h_t_readingOf : Nat) (h_t_readingAt : Nat) (h_t_readingIs : Nat) (h_t_sheetSize : Nat) (h_t_sheetLane : Nat) (h_t_sheet : Nat) (h_t_hands : Nat) (t_fault : Int32) (t_bells : Int32) (t_tied : Int32) (t_ropes : Int32) (t_spanNow : Int32) (t_readAt : Int32) (t_readBells : Int32) (t_readRopes : Int32) (t_pulls : Int32) (t_readings : Int32) (t_traceNow : Int32) (a1 : Int32) (a2 : Int32) {u : Int32 × Int32} (hm : M_X7_tie t_bells t_tied a1 a2 = some u) : CT l yX7_tie cX7_tie 4 (some .int) 2 46 [.ref h_t, .int a1, .int a2] G (w_X7_tie G h_t h_t_kindOf h_t_needsOf h_t_fromOf h_t_toOf h_t_longOf h_t_readKind h_t_readNeeds h_t_readFrom h_t_readTo h_t_readLong h_t_pullOf h_t_pullAt h_t_peals h_t_swings h_t_lastRang h_t_heardSince h_t_readingOf h_t_readingAt h_t_readingIs h_t_sheetSize h_t_sheetLane h_t_sheet h_t_hands t_fault t_bells t_tied t_ropes t_spanNow t_readAt t_readBells t_readRopes t_pulls t_readings t_traceNow) (some (.int u.1)) (w_X7_tie G h_t h_t_kindOf h_t_needsOf h_t_fromOf h_t_toOf h_t_longOf h_t_readKind h_t_readNeeds h_t_readFrom h_t_readTo h_t_readLong h_t_pullOf h_t_pullAt h_t_peals h_t_swings h_t_lastRang h_t_heardSince h_t_readingOf h_t_readingAt h_t_readingIs h_t_sheetSize h_t_sheetLane h_t_sheet h_t_hands t_fault t_bells u.2 t_ropes t_spanNow t_readAt t_readBells t_readRopes t_pulls t_readings t_traceNow) := by
  refine ct_intro RX7 [(0, .ref h_t), (1, .int a1), (2, .int a2)] (by decide) rfl (Nat.le_of_ble_eq_true rfl) rfl (fun X hX cx => ?_)
  unfold M_X7_tie at hm
  refine k_aload_n 0 cx dX7_tie_0 rfl 0 rfl ?_
  refine k_iload_n 1 cx dX7_tie_1 rfl 1 rfl ?_
  obtain ⟨u1, hu1, hm⟩ := bnd hm
  refine k_callV 2 cx cwX7_160 (c_X7_noBell X.2.1 G h_t h_t_kindOf h_t_needsOf h_t_fromOf h_t_toOf h_t_longOf h_t_readKind h_t_readNeeds h_t_readFrom h_t_readTo h_t_readLong h_t_pullOf h_t_pullAt h_t_peals h_t_swings h_t_lastRang h_t_heardSince h_t_readingOf h_t_readingAt h_t_readingIs h_t_sheetSize h_t_sheetLane h_t_sheet h_t_hands t_fault t_bells t_tied t_ropes t_spanNow t_readAt t_readBells t_readRopes t_pulls t_readings t_traceNow a1 hu1) dX7_tie_2 ⟨by decide, by decide⟩ rfl rfl (rest := []) rfl (Nat.le_of_ble_eq_true rfl) [0] (by decide) rfl rfl (w2 := (w_X7_tie G h_t h_t_kindOf h_t_needsOf h_t_fromOf h_t_toOf h_t_longOf h_t_readKind h_t_readNeeds h_t_readFrom h_t_readTo h_t_readLong h_t_pullOf h_t_pullAt h_t_peals h_t_swings h_t_lastRang h_t_heardSince h_t_readingOf h_t_readingAt h_t_readingIs h_t_sheetSize h_t_sheetLane h_t_sheet h_t_hands t_fault t_bells t_tied t_ropes t_spanNow t_readAt t_readBells t_readRopes t_pulls t_readings t_traceNow)) [] 1 rfl [] rfl rfl rfl (by decide) (st2 := [.int u1]) rfl ?_
  refine k_if_eq 5 cx (tgt := 10) dX7_tie_5 (by decide) hm (fun hc hm => ?_) (fun hc hm => ?_)
  · refine k_aload_n 10 cx dX7_tie_10 rfl 0 rfl ?_
    refine fgX7_148 11 cx dX7_tie_11 0 rfl rfl ?_
    refine k_iload_n 14 cx dX7_tie_14 rfl 1 rfl ?_
    obtain ⟨u2, hu2, hm⟩ := bnd hm
    refine k_callS 15 cx cwX7_166 (c_X7_isIn X.2.1 G t_tied a1 hu2) dX7_tie_15 ⟨by decide, by decide⟩ rfl (rest := []) rfl (Nat.le_of_ble_eq_true rfl) [] (by decide) rfl rfl (w2 := (w_X7_tie G h_t h_t_kindOf h_t_needsOf h_t_fromOf h_t_toOf h_t_longOf h_t_readKind h_t_readNeeds h_t_readFrom h_t_readTo h_t_readLong h_t_pullOf h_t_pullAt h_t_peals h_t_swings h_t_lastRang h_t_heardSince h_t_readingOf h_t_readingAt h_t_readingIs h_t_sheetSize h_t_sheetLane h_t_sheet h_t_hands t_fault t_bells t_tied t_ropes t_spanNow t_readAt t_readBells t_readRopes t_pulls t_readings t_traceNow)) [0] 1 rfl [(h_t, .inr (7, [.int t_fault, .int t_bells, .ref h_t_kindOf, .ref h_t_needsOf, .int t_tied, .int t_ropes, .ref h_t_fromOf, .ref h_t_toOf, .ref h_t_longOf, .int t_spanNow, .int t_readAt, .int t_readBells, .int t_readRopes, .ref h_t_readKind, .ref h_t_readNeeds, .ref h_t_readFrom, .ref h_t_readTo, .ref h_t_readLong, .int t_pulls, .ref h_t_pullOf, .ref h_t_pullAt, .ref h_t_peals, .ref h_t_swings, .ref h_t_lastRang, .ref h_t_heardSince, .int t_readings, .ref h_t_readingOf, .ref h_t_readingAt, .ref h_t_readingIs, .ref h_t_sheetSize, .ref h_t_sheetLane, .ref h_t_sheet, .ref h_t_hands, .int t_traceNow]))] rfl rfl rfl (by decide) (st2 := [.int u2]) rfl ?_
    refine k_istore_n 18 cx dX7_tie_18 rfl (by decide) (lv' := [(3, .int u2), (0, .ref h_t), (1, .int a1), (2, .int a2)]) rfl ?_
    refine k_aload_n 19 cx dX7_tie_19 rfl 1 rfl ?_
    refine k_iload_n 20 cx dX7_tie_20 rfl 3 rfl ?_
    refine k_if_eq 21 cx (tgt := 35) dX7_tie_21 (by decide) hm (fun hc hm => ?_) (fun hc hm => ?_)
    · refine k_aload_n 35 cx dX7_tie_35 rfl 1 rfl ?_
      refine fgX7_148 36 cx dX7_tie_36 0 rfl rfl ?_
      refine k_iconst 39 cx (v := (1 : Int32)) dX7_tie_39 (by decide) ?_
      refine k_iload_n 40 cx dX7_tie_40 rfl 2 rfl ?_
      refine k_ishl 41 cx dX7_tie_41 ?_
      refine k_iconst 42 cx (v := (-1 : Int32)) dX7_tie_42 (by decide) ?_
      refine k_ixor 43 cx dX7_tie_43 ?_
      refine k_iand 44 cx dX7_tie_44 ?_
      refine k_nm hm (fun v3 hm => ?_)
      refine fpX7_148 45 cx dX7_tie_45 0 rfl rfl rfl (by simp) (w1 := (w_X7_tie G h_t h_t_kindOf h_t_needsOf h_t_fromOf h_t_toOf h_t_longOf h_t_readKind h_t_readNeeds h_t_readFrom h_t_readTo h_t_readLong h_t_pullOf h_t_pullAt h_t_peals h_t_swings h_t_lastRang h_t_heardSince h_t_readingOf h_t_readingAt h_t_readingIs h_t_sheetSize h_t_sheetLane h_t_sheet h_t_hands t_fault t_bells v3 t_ropes t_spanNow t_readAt t_readBells t_readRopes t_pulls t_readings t_traceNow)) rfl ?_
      refine k_iload_n 48 cx dX7_tie_48 rfl 0 rfl ?_
      refine k_iload_n 49 cx dX7_tie_49 rfl 3 rfl ?_
      refine k_icmp_ne 50 cx (tgt := 57) dX7_tie_50 (by decide) hm (fun hc hm => ?_) (fun hc hm => ?_)
      · refine k_iconst 53 cx (v := (0 : Int32)) dX7_tie_53 (by decide) ?_
        refine k_goto 54 cx (tgt := 58) dX7_tie_54 (by decide) ?_
        obtain rfl := Option.some.inj hm
        exact k_iret 58 cx dX7_tie_58 rfl rfl
      · refine k_iconst 57 cx (v := (1 : Int32)) dX7_tie_57 (by decide) ?_
        obtain rfl := Option.some.inj hm
        exact k_iret 58 cx dX7_tie_58 rfl rfl
    · refine k_aload_n 24 cx dX7_tie_24 rfl 1 rfl ?_
      refine fgX7_148 25 cx dX7_tie_25 0 rfl rfl ?_
      refine k_iconst 28 cx (v := (1 : Int32)) dX7_tie_28 (by decide) ?_
      refine k_iload_n 29 cx dX7_tie_29 rfl 2 rfl ?_
      refine k_ishl 30 cx dX7_tie_30 ?_
      refine k_ior 31 cx dX7_tie_31 ?_
      refine k_goto 32 cx (tgt := 45) dX7_tie_32 (by decide) ?_
      refine k_nm hm (fun v4 hm => ?_)
      refine fpX7_148 45 cx dX7_tie_45 0 rfl rfl rfl (by simp) (w1 := (w_X7_tie G h_t h_t_kindOf h_t_needsOf h_t_fromOf h_t_toOf h_t_longOf h_t_readKind h_t_readNeeds h_t_readFrom h_t_readTo h_t_readLong h_t_pullOf h_t_pullAt h_t_peals h_t_swings h_t_lastRang h_t_heardSince h_t_readingOf h_t_readingAt h_t_readingIs h_t_sheetSize h_t_sheetLane h_t_sheet h_t_hands t_fault t_bells v4 t_ropes t_spanNow t_readAt t_readBells t_readRopes t_pulls t_readings t_traceNow)) rfl ?_
      refine k_iload_n 48 cx dX7_tie_48 rfl 0 rfl ?_
      refine k_iload_n 49 cx dX7_tie_49 rfl 3 rfl ?_
      refine k_icmp_ne 50 cx (tgt := 57) dX7_tie_50 (by decide) hm (fun hc hm => ?_) (fun hc hm => ?_)
      · refine k_iconst 53 cx (v := (0 : Int32)) dX7_tie_53 (by decide) ?_
        refine k_goto 54 cx (tgt := 58) dX7_tie_54 (by decide) ?_
        obtain rfl := Option.some.inj hm
        exact k_iret 58 cx dX7_tie_58 rfl rfl
      · refine k_iconst 57 cx (v := (1 : Int32)) dX7_tie_57 (by decide) ?_
        obtain rfl := Option.some.inj hm
        exact k_iret 58 cx dX7_tie_58 rfl rfl
  · refine k_iconst 8 cx (v := (-1 : Int32)) dX7_tie_8 (by decide) ?_
    obtain rfl := Option.some.inj hm
    exact k_iret 9 cx dX7_tie_9 rfl rfl
set_option maxRecDepth 100000 in
theorem fgX7_151 {X : XT} {Q : State → Prop} {G : GT} {A : Nat → Prop} {nL : Nat} {lv : List (Nat × Value)} {st : List Value} {ws : va_W} {cc : ByteArray} {fr lo : Nat} {ret : Option FieldType} (pc : Nat) (cx : Cx X cc nL RX7 G fr lo ret) {a : Nat} {fs : List Value} {v : Value} (hd : decode cc pc = .ok (.getfield 151, 3)) (q0 : Nat) (he : ws[q0]? = some (a, .inr (7, fs))) (hv : fs[9]? = some v) (k : KJ X Q G A nL (pc + 3) lv (v :: st) ws) : KJ X Q G A nL pc lv (.ref a :: st) ws :=
  k_get (ref := RX7) (T := TX7) (N := 34) (ci := 7) pc cx inX7 rfl 9 (by decide) (tb_m (i := 658) rfl rfl) rfl hd q0 he hv k
def w_X7_span (G : GT) (h_t : Nat) (h_t_kindOf : Nat) (h_t_needsOf : Nat) (h_t_fromOf : Nat) (h_t_toOf : Nat) (h_t_longOf : Nat) (h_t_readKind : Nat) (h_t_readNeeds : Nat) (h_t_readFrom : Nat) (h_t_readTo : Nat) (h_t_readLong : Nat) (h_t_pullOf : Nat) (h_t_pullAt : Nat) (h_t_peals : Nat) (h_t_swings : Nat) (h_t_lastRang : Nat) (h_t_heardSince : Nat) (h_t_readingOf : Nat) (h_t_readingAt : Nat) (h_t_readingIs : Nat) (h_t_sheetSize : Nat) (h_t_sheetLane : Nat) (h_t_sheet : Nat) (h_t_hands : Nat) (t_fault : Int32) (t_bells : Int32) (t_tied : Int32) (t_ropes : Int32) (t_spanNow : Int32) (t_readAt : Int32) (t_readBells : Int32) (t_readRopes : Int32) (t_pulls : Int32) (t_readings : Int32) (t_traceNow : Int32) : va_W := [(h_t, .inr (7, [.int t_fault, .int t_bells, .ref h_t_kindOf, .ref h_t_needsOf, .int t_tied, .int t_ropes, .ref h_t_fromOf, .ref h_t_toOf, .ref h_t_longOf, .int t_spanNow, .int t_readAt, .int t_readBells, .int t_readRopes, .ref h_t_readKind, .ref h_t_readNeeds, .ref h_t_readFrom, .ref h_t_readTo, .ref h_t_readLong, .int t_pulls, .ref h_t_pullOf, .ref h_t_pullAt, .ref h_t_peals, .ref h_t_swings, .ref h_t_lastRang, .ref h_t_heardSince, .int t_readings, .ref h_t_readingOf, .ref h_t_readingAt, .ref h_t_readingIs, .ref h_t_sheetSize, .ref h_t_sheetLane, .ref h_t_sheet, .ref h_t_hands, .int t_traceNow]))]
def M_X7_span (t_bells : Int32) (t_spanNow : Int32) (a1 : Int32) : Option (Int32 × Int32) := ((M_X7_in (Int32.toInt64 a1) (0 : Int64) (5 : Int64)).bind (fun u1 => (if u1 = 0 then (some ((-2 : Int32), t_spanNow)) else (if t_bells = 0 then (some ((-3 : Int32), t_spanNow)) else (some (t_spanNow, a1))))))
set_option maxHeartbeats 4000000 in
set_option maxRecDepth 100000 in
theorem c_X7_span (l : Launch) (G : GT) (h_t : Nat) (h_t_kindOf : Nat) (h_t_needsOf : Nat) (h_t_fromOf : Nat) (h_t_toOf : Nat) (h_t_longOf : Nat) (h_t_readKind : Nat) (h_t_readNeeds : Nat) (h_t_readFrom : Nat) (h_t_readTo : Nat) (h_t_readLong : Nat) (h_t_pullOf : Nat) (h_t_pullAt : Nat) (h_t_peals : Nat) (h_t_swings : Nat) (h_t_lastRang : Nat) (h_t_heardSince : Nat) (h_t_readingOf : Nat) (h_t_readingAt : Nat) (h_t_readingIs : Nat) (h_t_sheetSize : Nat) (h_t_sheetLane : Nat) (h_t_sheet : Nat) (h_t_hands : Nat) (t_fault : Int32) (t_bells : Int32) (t_tied : Int32) (t_ropes : Int32) (t_spanNow : Int32) (t_readAt : Int32) (t_readBells : Int32) (t_readRopes : Int32) (t_pulls : Int32) (t_readings : Int32) (t_traceNow : Int32) (a1 : Int32) {u : Int32 × Int32} (hm : M_X7_span t_bells t_spanNow a1 = some u) : CT l yX7_span cX7_span 3 (some .int) 1 25 [.ref h_t, .int a1] G (w_X7_span G h_t h_t_kindOf h_t_needsOf h_t_fromOf h_t_toOf h_t_longOf h_t_readKind h_t_readNeeds h_t_readFrom h_t_readTo h_t_readLong h_t_pullOf h_t_pullAt h_t_peals h_t_swings h_t_lastRang h_t_heardSince h_t_readingOf h_t_readingAt h_t_readingIs h_t_sheetSize h_t_sheetLane h_t_sheet h_t_hands t_fault t_bells t_tied t_ropes t_spanNow t_readAt t_readBells t_readRopes t_pulls t_readings t_traceNow) (some (.int u.1)) (w_X7_span G h_t h_t_kindOf h_t_needsOf h_t_fromOf h_t_toOf h_t_longOf h_t_readKind h_t_readNeeds h_t_readFrom h_t_readTo h_t_readLong h_t_pullOf h_t_pullAt h_t_peals h_t_swings h_t_lastRang h_t_heardSince h_t_readingOf h_t_readingAt h_t_readingIs h_t_sheetSize h_t_sheetLane h_t_sheet h_t_hands t_fault t_bells t_tied t_ropes u.2 t_readAt t_readBells t_readRopes t_pulls t_readings t_traceNow) := by
  refine ct_intro RX7 [(0, .ref h_t), (1, .int a1)] (by decide) rfl (Nat.le_of_ble_eq_true rfl) rfl (fun X hX cx => ?_)
  unfold M_X7_span at hm
  refine k_iload_n 0 cx dX7_span_0 rfl 1 rfl ?_
  refine k_i2l 1 cx dX7_span_1 ?_
  refine k_lconst 2 cx (v := (0 : Int64)) dX7_span_2 (by decide) ?_
  refine k_ldc2_w 3 cx (v := (5 : Int64)) dX7_span_3 (tb_m (i := 826) rfl rfl) ?_
  obtain ⟨u1, hu1, hm⟩ := bnd hm
  refine k_callS 6 cx cwX7_93 (c_X7_in X.2.1 G (Int32.toInt64 a1) (0 : Int64) (5 : Int64) hu1) dX7_span_6 ⟨by decide, by decide⟩ rfl (rest := []) rfl (Nat.le_of_ble_eq_true rfl) [] (by decide) rfl rfl (w2 := (w_X7_span G h_t h_t_kindOf h_t_needsOf h_t_fromOf h_t_toOf h_t_longOf h_t_readKind h_t_readNeeds h_t_readFrom h_t_readTo h_t_readLong h_t_pullOf h_t_pullAt h_t_peals h_t_swings h_t_lastRang h_t_heardSince h_t_readingOf h_t_readingAt h_t_readingIs h_t_sheetSize h_t_sheetLane h_t_sheet h_t_hands t_fault t_bells t_tied t_ropes t_spanNow t_readAt t_readBells t_readRopes t_pulls t_readings t_traceNow)) [0] 1 rfl [(h_t, .inr (7, [.int t_fault, .int t_bells, .ref h_t_kindOf, .ref h_t_needsOf, .int t_tied, .int t_ropes, .ref h_t_fromOf, .ref h_t_toOf, .ref h_t_longOf, .int t_spanNow, .int t_readAt, .int t_readBells, .int t_readRopes, .ref h_t_readKind, .ref h_t_readNeeds, .ref h_t_readFrom, .ref h_t_readTo, .ref h_t_readLong, .int t_pulls, .ref h_t_pullOf, .ref h_t_pullAt, .ref h_t_peals, .ref h_t_swings, .ref h_t_lastRang, .ref h_t_heardSince, .int t_readings, .ref h_t_readingOf, .ref h_t_readingAt, .ref h_t_readingIs, .ref h_t_sheetSize, .ref h_t_sheetLane, .ref h_t_sheet, .ref h_t_hands, .int t_traceNow]))] rfl rfl rfl (by decide) (st2 := [.int u1]) rfl ?_
  refine k_if_ne 9 cx (tgt := 15) dX7_span_9 (by decide) hm (fun hc hm => ?_) (fun hc hm => ?_)
  · refine k_bipush 12 cx (v := (-2 : Int32)) dX7_span_12 (by decide) ?_
    obtain rfl := Option.some.inj hm
    exact k_iret 14 cx dX7_span_14 rfl rfl
  · refine k_aload_n 15 cx dX7_span_15 rfl 0 rfl ?_
    refine fgX7_90 16 cx dX7_span_16 0 rfl rfl ?_
    refine k_if_ne 19 cx (tgt := 25) dX7_span_19 (by decide) hm (fun hc hm => ?_) (fun hc hm => ?_)
    · refine k_bipush 22 cx (v := (-3 : Int32)) dX7_span_22 (by decide) ?_
      obtain rfl := Option.some.inj hm
      exact k_iret 24 cx dX7_span_24 rfl rfl
    · refine k_aload_n 25 cx dX7_span_25 rfl 0 rfl ?_
      refine fgX7_151 26 cx dX7_span_26 0 rfl rfl ?_
      refine k_istore_n 29 cx dX7_span_29 rfl (by decide) (lv' := [(2, .int t_spanNow), (0, .ref h_t), (1, .int a1)]) rfl ?_
      refine k_aload_n 30 cx dX7_span_30 rfl 1 rfl ?_
      refine k_iload_n 31 cx dX7_span_31 rfl 2 rfl ?_
      refine fpX7_151 32 cx dX7_span_32 0 rfl rfl rfl (by simp) (w1 := (w_X7_span G h_t h_t_kindOf h_t_needsOf h_t_fromOf h_t_toOf h_t_longOf h_t_readKind h_t_readNeeds h_t_readFrom h_t_readTo h_t_readLong h_t_pullOf h_t_pullAt h_t_peals h_t_swings h_t_lastRang h_t_heardSince h_t_readingOf h_t_readingAt h_t_readingIs h_t_sheetSize h_t_sheetLane h_t_sheet h_t_hands t_fault t_bells t_tied t_ropes a1 t_readAt t_readBells t_readRopes t_pulls t_readings t_traceNow)) rfl ?_
      refine k_iload_n 35 cx dX7_span_35 rfl 0 rfl ?_
      obtain rfl := Option.some.inj hm
      exact k_iret 36 cx dX7_span_36 rfl rfl
set_option maxRecDepth 100000 in
theorem fgX7_40 {X : XT} {Q : State → Prop} {G : GT} {A : Nat → Prop} {nL : Nat} {lv : List (Nat × Value)} {st : List Value} {ws : va_W} {cc : ByteArray} {fr lo : Nat} {ret : Option FieldType} (pc : Nat) (cx : Cx X cc nL RX7 G fr lo ret) {a : Nat} {fs : List Value} {v : Value} (hd : decode cc pc = .ok (.getfield 40, 3)) (q0 : Nat) (he : ws[q0]? = some (a, .inr (7, fs))) (hv : fs[19]? = some v) (k : KJ X Q G A nL (pc + 3) lv (v :: st) ws) : KJ X Q G A nL pc lv (.ref a :: st) ws :=
  k_get (ref := RX7) (T := TX7) (N := 34) (ci := 7) pc cx inX7 rfl 19 (by decide) (tb_m (i := 668) rfl rfl) rfl hd q0 he hv k
set_option maxRecDepth 100000 in
theorem fgX7_43 {X : XT} {Q : State → Prop} {G : GT} {A : Nat → Prop} {nL : Nat} {lv : List (Nat × Value)} {st : List Value} {ws : va_W} {cc : ByteArray} {fr lo : Nat} {ret : Option FieldType} (pc : Nat) (cx : Cx X cc nL RX7 G fr lo ret) {a : Nat} {fs : List Value} {v : Value} (hd : decode cc pc = .ok (.getfield 43, 3)) (q0 : Nat) (he : ws[q0]? = some (a, .inr (7, fs))) (hv : fs[20]? = some v) (k : KJ X Q G A nL (pc + 3) lv (v :: st) ws) : KJ X Q G A nL pc lv (.ref a :: st) ws :=
  k_get (ref := RX7) (T := TX7) (N := 34) (ci := 7) pc cx inX7 rfl 20 (by decide) (tb_m (i := 669) rfl rfl) rfl hd q0 he hv k
set_option maxRecDepth 100000 in
theorem fgX7_154 {X : XT} {Q : State → Prop} {G : GT} {A : Nat → Prop} {nL : Nat} {lv : List (Nat × Value)} {st : List Value} {ws : va_W} {cc : ByteArray} {fr lo : Nat} {ret : Option FieldType} (pc : Nat) (cx : Cx X cc nL RX7 G fr lo ret) {a : Nat} {fs : List Value} {v : Value} (hd : decode cc pc = .ok (.getfield 154, 3)) (q0 : Nat) (he : ws[q0]? = some (a, .inr (7, fs))) (hv : fs[18]? = some v) (k : KJ X Q G A nL (pc + 3) lv (v :: st) ws) : KJ X Q G A nL pc lv (.ref a :: st) ws :=
  k_get (ref := RX7) (T := TX7) (N := 34) (ci := 7) pc cx inX7 rfl 18 (by decide) (tb_m (i := 667) rfl rfl) rfl hd q0 he hv k
def w_X7_pull (G : GT) (h_t : Nat) (h_t_pullOf : Nat) (h_t_pullAt : Nat) (h_t_kindOf : Nat) (h_t_needsOf : Nat) (h_t_fromOf : Nat) (h_t_toOf : Nat) (h_t_longOf : Nat) (h_t_readKind : Nat) (h_t_readNeeds : Nat) (h_t_readFrom : Nat) (h_t_readTo : Nat) (h_t_readLong : Nat) (h_t_peals : Nat) (h_t_swings : Nat) (h_t_lastRang : Nat) (h_t_heardSince : Nat) (h_t_readingOf : Nat) (h_t_readingAt : Nat) (h_t_readingIs : Nat) (h_t_sheetSize : Nat) (h_t_sheetLane : Nat) (h_t_sheet : Nat) (h_t_hands : Nat) (t_fault : Int32) (t_bells : Int32) (t_tied : Int32) (t_ropes : Int32) (t_spanNow : Int32) (t_readAt : Int32) (t_readBells : Int32) (t_readRopes : Int32) (t_pulls : Int32) (t_readings : Int32) (t_traceNow : Int32) (t_pullOf : (Nat → Int32)) (t_pullAt : (Nat → Int32)) : va_W := [(h_t, .inr (7, [.int t_fault, .int t_bells, .ref h_t_kindOf, .ref h_t_needsOf, .int t_tied, .int t_ropes, .ref h_t_fromOf, .ref h_t_toOf, .ref h_t_longOf, .int t_spanNow, .int t_readAt, .int t_readBells, .int t_readRopes, .ref h_t_readKind, .ref h_t_readNeeds, .ref h_t_readFrom, .ref h_t_readTo, .ref h_t_readLong, .int t_pulls, .ref h_t_pullOf, .ref h_t_pullAt, .ref h_t_peals, .ref h_t_swings, .ref h_t_lastRang, .ref h_t_heardSince, .int t_readings, .ref h_t_readingOf, .ref h_t_readingAt, .ref h_t_readingIs, .ref h_t_sheetSize, .ref h_t_sheetLane, .ref h_t_sheet, .ref h_t_hands, .int t_traceNow])), (h_t_pullOf, .inl (G.2.1, 6, .inl t_pullOf)), (h_t_pullAt, .inl (G.2.1, 6, .inl t_pullAt))]
def M_X7_pull (t_bells : Int32) (t_pulls : Int32) (t_pullOf : (Nat → Int32)) (t_pullAt : (Nat → Int32)) (a1 : Int32) (a2 : Int32) : Option (Int32 × Int32 × (Nat → Int32) × (Nat → Int32)) := ((M_X7_noBell t_bells a1).bind (fun u1 => (if u1 = 0 then ((M_X7_in (Int32.toInt64 a2) (0 : Int64) (99 : Int64)).bind (fun u2 => (if u2 = 0 then (some ((-2 : Int32), t_pulls, t_pullOf, t_pullAt)) else (if t_pulls = (6 : Int32) then (some ((-4 : Int32), t_pulls, t_pullOf, t_pullAt)) else (gB (inb t_pulls 6) (nme (upd t_pullOf (Int32.toNatClampNeg t_pulls) a1) (fun f3 => (gB (inb t_pulls 6) (nme (upd t_pullAt (Int32.toNatClampNeg t_pulls) a2) (fun f4 => (nme (t_pulls + (1 : Int32)) (fun v5 => (some ((v5 - (1 : Int32)), v5, f3, f4)))))))))))))) else (some ((-1 : Int32), t_pulls, t_pullOf, t_pullAt)))))
set_option maxHeartbeats 4000000 in
set_option maxRecDepth 100000 in
theorem c_X7_pull (l : Launch) (G : GT) (h_t : Nat) (h_t_pullOf : Nat) (h_t_pullAt : Nat) (h_t_kindOf : Nat) (h_t_needsOf : Nat) (h_t_fromOf : Nat) (h_t_toOf : Nat) (h_t_longOf : Nat) (h_t_readKind : Nat) (h_t_readNeeds : Nat) (h_t_readFrom : Nat) (h_t_readTo : Nat) (h_t_readLong : Nat) (h_t_peals : Nat) (h_t_swings : Nat) (h_t_lastRang : Nat) (h_t_heardSince : Nat) (h_t_readingOf : Nat) (h_t_readingAt : Nat) (h_t_readingIs : Nat) (h_t_sheetSize : Nat) (h_t_sheetLane : Nat) (h_t_sheet : Nat) (h_t_hands : Nat) (t_fault : Int32) (t_bells : Int32) (t_tied : Int32) (t_ropes : Int32) (t_spanNow : Int32) (t_readAt : Int32) (t_readBells : Int32) (t_readRopes : Int32) (t_pulls : Int32) (t_readings : Int32) (t_traceNow : Int32) (t_pullOf : (Nat → Int32)) (t_pullAt : (Nat → Int32)) (a1 : Int32) (a2 : Int32) {u : Int32 × Int32 × (Nat → Int32) × (Nat → Int32)} (hm : M_X7_pull t_bells t_pulls t_pullOf t_pullAt a1 a2 = some u) : CT l yX7_pull cX7_pull 3 (some .int) 2 46 [.ref h_t, .int a1, .int a2] G (w_X7_pull G h_t h_t_pullOf h_t_pullAt h_t_kindOf h_t_needsOf h_t_fromOf h_t_toOf h_t_longOf h_t_readKind h_t_readNeeds h_t_readFrom h_t_readTo h_t_readLong h_t_peals h_t_swings h_t_lastRang h_t_heardSince h_t_readingOf h_t_readingAt h_t_readingIs h_t_sheetSize h_t_sheetLane h_t_sheet h_t_hands t_fault t_bells t_tied t_ropes t_spanNow t_readAt t_readBells t_readRopes t_pulls t_readings t_traceNow t_pullOf t_pullAt) (some (.int u.1)) (w_X7_pull G h_t h_t_pullOf h_t_pullAt h_t_kindOf h_t_needsOf h_t_fromOf h_t_toOf h_t_longOf h_t_readKind h_t_readNeeds h_t_readFrom h_t_readTo h_t_readLong h_t_peals h_t_swings h_t_lastRang h_t_heardSince h_t_readingOf h_t_readingAt h_t_readingIs h_t_sheetSize h_t_sheetLane h_t_sheet h_t_hands t_fault t_bells t_tied t_ropes t_spanNow t_readAt t_readBells t_readRopes u.2.1 t_readings t_traceNow u.2.2.1 u.2.2.2) := by
  refine ct_intro RX7 [(0, .ref h_t), (1, .int a1), (2, .int a2)] (by decide) rfl (Nat.le_of_ble_eq_true rfl) rfl (fun X hX cx => ?_)
  unfold M_X7_pull at hm
  refine k_aload_n 0 cx dX7_pull_0 rfl 0 rfl ?_
  refine k_iload_n 1 cx dX7_pull_1 rfl 1 rfl ?_
  obtain ⟨u1, hu1, hm⟩ := bnd hm
  refine k_callV 2 cx cwX7_160 (c_X7_noBell X.2.1 G h_t h_t_kindOf h_t_needsOf h_t_fromOf h_t_toOf h_t_longOf h_t_readKind h_t_readNeeds h_t_readFrom h_t_readTo h_t_readLong h_t_pullOf h_t_pullAt h_t_peals h_t_swings h_t_lastRang h_t_heardSince h_t_readingOf h_t_readingAt h_t_readingIs h_t_sheetSize h_t_sheetLane h_t_sheet h_t_hands t_fault t_bells t_tied t_ropes t_spanNow t_readAt t_readBells t_readRopes t_pulls t_readings t_traceNow a1 hu1) dX7_pull_2 ⟨by decide, by decide⟩ rfl rfl (rest := []) rfl (Nat.le_of_ble_eq_true rfl) [0] (by decide) rfl rfl (w2 := (w_X7_pull G h_t h_t_pullOf h_t_pullAt h_t_kindOf h_t_needsOf h_t_fromOf h_t_toOf h_t_longOf h_t_readKind h_t_readNeeds h_t_readFrom h_t_readTo h_t_readLong h_t_peals h_t_swings h_t_lastRang h_t_heardSince h_t_readingOf h_t_readingAt h_t_readingIs h_t_sheetSize h_t_sheetLane h_t_sheet h_t_hands t_fault t_bells t_tied t_ropes t_spanNow t_readAt t_readBells t_readRopes t_pulls t_readings t_traceNow t_pullOf t_pullAt)) [1, 2] 3 rfl [(h_t_pullOf, .inl (G.2.1, 6, .inl t_pullOf)), (h_t_pullAt, .inl (G.2.1, 6, .inl t_pullAt))] rfl rfl rfl (by decide) (st2 := [.int u1]) rfl ?_
  refine k_if_eq 5 cx (tgt := 10) dX7_pull_5 (by decide) hm (fun hc hm => ?_) (fun hc hm => ?_)
  · refine k_iload_n 10 cx dX7_pull_10 rfl 2 rfl ?_
    refine k_i2l 11 cx dX7_pull_11 ?_
    refine k_lconst 12 cx (v := (0 : Int64)) dX7_pull_12 (by decide) ?_
    refine k_ldc2_w 13 cx (v := (99 : Int64)) dX7_pull_13 (tb_m (i := 831) rfl rfl) ?_
    obtain ⟨u2, hu2, hm⟩ := bnd hm
    refine k_callS 16 cx cwX7_93 (c_X7_in X.2.1 G (Int32.toInt64 a2) (0 : Int64) (99 : Int64) hu2) dX7_pull_16 ⟨by decide, by decide⟩ rfl (rest := []) rfl (Nat.le_of_ble_eq_true rfl) [] (by decide) rfl rfl (w2 := (w_X7_pull G h_t h_t_pullOf h_t_pullAt h_t_kindOf h_t_needsOf h_t_fromOf h_t_toOf h_t_longOf h_t_readKind h_t_readNeeds h_t_readFrom h_t_readTo h_t_readLong h_t_peals h_t_swings h_t_lastRang h_t_heardSince h_t_readingOf h_t_readingAt h_t_readingIs h_t_sheetSize h_t_sheetLane h_t_sheet h_t_hands t_fault t_bells t_tied t_ropes t_spanNow t_readAt t_readBells t_readRopes t_pulls t_readings t_traceNow t_pullOf t_pullAt)) [0, 1, 2] 3 rfl [(h_t, .inr (7, [.int t_fault, .int t_bells, .ref h_t_kindOf, .ref h_t_needsOf, .int t_tied, .int t_ropes, .ref h_t_fromOf, .ref h_t_toOf, .ref h_t_longOf, .int t_spanNow, .int t_readAt, .int t_readBells, .int t_readRopes, .ref h_t_readKind, .ref h_t_readNeeds, .ref h_t_readFrom, .ref h_t_readTo, .ref h_t_readLong, .int t_pulls, .ref h_t_pullOf, .ref h_t_pullAt, .ref h_t_peals, .ref h_t_swings, .ref h_t_lastRang, .ref h_t_heardSince, .int t_readings, .ref h_t_readingOf, .ref h_t_readingAt, .ref h_t_readingIs, .ref h_t_sheetSize, .ref h_t_sheetLane, .ref h_t_sheet, .ref h_t_hands, .int t_traceNow])), (h_t_pullOf, .inl (G.2.1, 6, .inl t_pullOf)), (h_t_pullAt, .inl (G.2.1, 6, .inl t_pullAt))] rfl rfl rfl (by decide) (st2 := [.int u2]) rfl ?_
    refine k_if_ne 19 cx (tgt := 25) dX7_pull_19 (by decide) hm (fun hc hm => ?_) (fun hc hm => ?_)
    · refine k_bipush 22 cx (v := (-2 : Int32)) dX7_pull_22 (by decide) ?_
      obtain rfl := Option.some.inj hm
      exact k_iret 24 cx dX7_pull_24 rfl rfl
    · refine k_aload_n 25 cx dX7_pull_25 rfl 0 rfl ?_
      refine fgX7_154 26 cx dX7_pull_26 0 rfl rfl ?_
      refine k_bipush 29 cx (v := (6 : Int32)) dX7_pull_29 (by decide) ?_
      refine k_icmp_ne 31 cx (tgt := 37) dX7_pull_31 (by decide) hm (fun hc hm => ?_) (fun hc hm => ?_)
      · refine k_bipush 34 cx (v := (-4 : Int32)) dX7_pull_34 (by decide) ?_
        obtain rfl := Option.some.inj hm
        exact k_iret 36 cx dX7_pull_36 rfl rfl
      · refine k_aload_n 37 cx dX7_pull_37 rfl 0 rfl ?_
        refine fgX7_40 38 cx dX7_pull_38 0 rfl rfl ?_
        refine k_aload_n 41 cx dX7_pull_41 rfl 0 rfl ?_
        refine fgX7_154 42 cx dX7_pull_42 0 rfl rfl ?_
        refine k_iload_n 45 cx dX7_pull_45 rfl 1 rfl ?_
        refine k_iast 46 cx dX7_pull_46 1 rfl (fun f3 => (w_X7_pull G h_t h_t_pullOf h_t_pullAt h_t_kindOf h_t_needsOf h_t_fromOf h_t_toOf h_t_longOf h_t_readKind h_t_readNeeds h_t_readFrom h_t_readTo h_t_readLong h_t_peals h_t_swings h_t_lastRang h_t_heardSince h_t_readingOf h_t_readingAt h_t_readingIs h_t_sheetSize h_t_sheetLane h_t_sheet h_t_hands t_fault t_bells t_tied t_ropes t_spanNow t_readAt t_readBells t_readRopes t_pulls t_readings t_traceNow f3 t_pullAt)) (fun _ => rfl) hm (fun f3 hm => ?_)
        refine k_aload_n 47 cx dX7_pull_47 rfl 0 rfl ?_
        refine fgX7_43 48 cx dX7_pull_48 0 rfl rfl ?_
        refine k_aload_n 51 cx dX7_pull_51 rfl 0 rfl ?_
        refine fgX7_154 52 cx dX7_pull_52 0 rfl rfl ?_
        refine k_iload_n 55 cx dX7_pull_55 rfl 2 rfl ?_
        refine k_iast 56 cx dX7_pull_56 2 rfl (fun f4 => (w_X7_pull G h_t h_t_pullOf h_t_pullAt h_t_kindOf h_t_needsOf h_t_fromOf h_t_toOf h_t_longOf h_t_readKind h_t_readNeeds h_t_readFrom h_t_readTo h_t_readLong h_t_peals h_t_swings h_t_lastRang h_t_heardSince h_t_readingOf h_t_readingAt h_t_readingIs h_t_sheetSize h_t_sheetLane h_t_sheet h_t_hands t_fault t_bells t_tied t_ropes t_spanNow t_readAt t_readBells t_readRopes t_pulls t_readings t_traceNow f3 f4)) (fun _ => rfl) hm (fun f4 hm => ?_)
        refine k_aload_n 57 cx dX7_pull_57 rfl 0 rfl ?_
        refine k_dup 58 cx dX7_pull_58 rfl ?_
        refine fgX7_154 59 cx dX7_pull_59 0 rfl rfl ?_
        refine k_iconst 62 cx (v := (1 : Int32)) dX7_pull_62 (by decide) ?_
        refine k_iadd 63 cx dX7_pull_63 ?_
        refine k_nm hm (fun v5 hm => ?_)
        refine fpX7_154 64 cx dX7_pull_64 0 rfl rfl rfl (by simp) (w1 := (w_X7_pull G h_t h_t_pullOf h_t_pullAt h_t_kindOf h_t_needsOf h_t_fromOf h_t_toOf h_t_longOf h_t_readKind h_t_readNeeds h_t_readFrom h_t_readTo h_t_readLong h_t_peals h_t_swings h_t_lastRang h_t_heardSince h_t_readingOf h_t_readingAt h_t_readingIs h_t_sheetSize h_t_sheetLane h_t_sheet h_t_hands t_fault t_bells t_tied t_ropes t_spanNow t_readAt t_readBells t_readRopes v5 t_readings t_traceNow f3 f4)) rfl ?_
        refine k_aload_n 67 cx dX7_pull_67 rfl 0 rfl ?_
        refine fgX7_154 68 cx dX7_pull_68 0 rfl rfl ?_
        refine k_iconst 71 cx (v := (1 : Int32)) dX7_pull_71 (by decide) ?_
        refine k_isub 72 cx dX7_pull_72 ?_
        obtain rfl := Option.some.inj hm
        exact k_iret 73 cx dX7_pull_73 rfl rfl
  · refine k_iconst 8 cx (v := (-1 : Int32)) dX7_pull_8 (by decide) ?_
    obtain rfl := Option.some.inj hm
    exact k_iret 9 cx dX7_pull_9 rfl rfl
def w_X7_undo (G : GT) (h_t : Nat) (h_t_kindOf : Nat) (h_t_needsOf : Nat) (h_t_fromOf : Nat) (h_t_toOf : Nat) (h_t_longOf : Nat) (h_t_readKind : Nat) (h_t_readNeeds : Nat) (h_t_readFrom : Nat) (h_t_readTo : Nat) (h_t_readLong : Nat) (h_t_pullOf : Nat) (h_t_pullAt : Nat) (h_t_peals : Nat) (h_t_swings : Nat) (h_t_lastRang : Nat) (h_t_heardSince : Nat) (h_t_readingOf : Nat) (h_t_readingAt : Nat) (h_t_readingIs : Nat) (h_t_sheetSize : Nat) (h_t_sheetLane : Nat) (h_t_sheet : Nat) (h_t_hands : Nat) (t_fault : Int32) (t_bells : Int32) (t_tied : Int32) (t_ropes : Int32) (t_spanNow : Int32) (t_readAt : Int32) (t_readBells : Int32) (t_readRopes : Int32) (t_pulls : Int32) (t_readings : Int32) (t_traceNow : Int32) : va_W := [(h_t, .inr (7, [.int t_fault, .int t_bells, .ref h_t_kindOf, .ref h_t_needsOf, .int t_tied, .int t_ropes, .ref h_t_fromOf, .ref h_t_toOf, .ref h_t_longOf, .int t_spanNow, .int t_readAt, .int t_readBells, .int t_readRopes, .ref h_t_readKind, .ref h_t_readNeeds, .ref h_t_readFrom, .ref h_t_readTo, .ref h_t_readLong, .int t_pulls, .ref h_t_pullOf, .ref h_t_pullAt, .ref h_t_peals, .ref h_t_swings, .ref h_t_lastRang, .ref h_t_heardSince, .int t_readings, .ref h_t_readingOf, .ref h_t_readingAt, .ref h_t_readingIs, .ref h_t_sheetSize, .ref h_t_sheetLane, .ref h_t_sheet, .ref h_t_hands, .int t_traceNow]))]
def M_X7_undo (t_pulls : Int32) (a1 : Int32) : Option (Int32 × Int32) := ((M_X7_in (Int32.toInt64 a1) (0 : Int64) (Int32.toInt64 t_pulls)).bind (fun u1 => (if u1 = 0 then (some ((-2 : Int32), t_pulls)) else (nme (t_pulls - a1) (fun v2 => (some (v2, v2)))))))
set_option maxHeartbeats 4000000 in
set_option maxRecDepth 100000 in
theorem c_X7_undo (l : Launch) (G : GT) (h_t : Nat) (h_t_kindOf : Nat) (h_t_needsOf : Nat) (h_t_fromOf : Nat) (h_t_toOf : Nat) (h_t_longOf : Nat) (h_t_readKind : Nat) (h_t_readNeeds : Nat) (h_t_readFrom : Nat) (h_t_readTo : Nat) (h_t_readLong : Nat) (h_t_pullOf : Nat) (h_t_pullAt : Nat) (h_t_peals : Nat) (h_t_swings : Nat) (h_t_lastRang : Nat) (h_t_heardSince : Nat) (h_t_readingOf : Nat) (h_t_readingAt : Nat) (h_t_readingIs : Nat) (h_t_sheetSize : Nat) (h_t_sheetLane : Nat) (h_t_sheet : Nat) (h_t_hands : Nat) (t_fault : Int32) (t_bells : Int32) (t_tied : Int32) (t_ropes : Int32) (t_spanNow : Int32) (t_readAt : Int32) (t_readBells : Int32) (t_readRopes : Int32) (t_pulls : Int32) (t_readings : Int32) (t_traceNow : Int32) (a1 : Int32) {u : Int32 × Int32} (hm : M_X7_undo t_pulls a1 = some u) : CT l yX7_undo cX7_undo 2 (some .int) 1 25 [.ref h_t, .int a1] G (w_X7_undo G h_t h_t_kindOf h_t_needsOf h_t_fromOf h_t_toOf h_t_longOf h_t_readKind h_t_readNeeds h_t_readFrom h_t_readTo h_t_readLong h_t_pullOf h_t_pullAt h_t_peals h_t_swings h_t_lastRang h_t_heardSince h_t_readingOf h_t_readingAt h_t_readingIs h_t_sheetSize h_t_sheetLane h_t_sheet h_t_hands t_fault t_bells t_tied t_ropes t_spanNow t_readAt t_readBells t_readRopes t_pulls t_readings t_traceNow) (some (.int u.1)) (w_X7_undo G h_t h_t_kindOf h_t_needsOf h_t_fromOf h_t_toOf h_t_longOf h_t_readKind h_t_readNeeds h_t_readFrom h_t_readTo h_t_readLong h_t_pullOf h_t_pullAt h_t_peals h_t_swings h_t_lastRang h_t_heardSince h_t_readingOf h_t_readingAt h_t_readingIs h_t_sheetSize h_t_sheetLane h_t_sheet h_t_hands t_fault t_bells t_tied t_ropes t_spanNow t_readAt t_readBells t_readRopes u.2 t_readings t_traceNow) := by
  refine ct_intro RX7 [(0, .ref h_t), (1, .int a1)] (by decide) rfl (Nat.le_of_ble_eq_true rfl) rfl (fun X hX cx => ?_)
  unfold M_X7_undo at hm
  refine k_iload_n 0 cx dX7_undo_0 rfl 1 rfl ?_
  refine k_i2l 1 cx dX7_undo_1 ?_
  refine k_lconst 2 cx (v := (0 : Int64)) dX7_undo_2 (by decide) ?_
  refine k_aload_n 3 cx dX7_undo_3 rfl 0 rfl ?_
  refine fgX7_154 4 cx dX7_undo_4 0 rfl rfl ?_
  refine k_i2l 7 cx dX7_undo_7 ?_
  obtain ⟨u1, hu1, hm⟩ := bnd hm
  refine k_callS 8 cx cwX7_93 (c_X7_in X.2.1 G (Int32.toInt64 a1) (0 : Int64) (Int32.toInt64 t_pulls) hu1) dX7_undo_8 ⟨by decide, by decide⟩ rfl (rest := []) rfl (Nat.le_of_ble_eq_true rfl) [] (by decide) rfl rfl (w2 := (w_X7_undo G h_t h_t_kindOf h_t_needsOf h_t_fromOf h_t_toOf h_t_longOf h_t_readKind h_t_readNeeds h_t_readFrom h_t_readTo h_t_readLong h_t_pullOf h_t_pullAt h_t_peals h_t_swings h_t_lastRang h_t_heardSince h_t_readingOf h_t_readingAt h_t_readingIs h_t_sheetSize h_t_sheetLane h_t_sheet h_t_hands t_fault t_bells t_tied t_ropes t_spanNow t_readAt t_readBells t_readRopes t_pulls t_readings t_traceNow)) [0] 1 rfl [(h_t, .inr (7, [.int t_fault, .int t_bells, .ref h_t_kindOf, .ref h_t_needsOf, .int t_tied, .int t_ropes, .ref h_t_fromOf, .ref h_t_toOf, .ref h_t_longOf, .int t_spanNow, .int t_readAt, .int t_readBells, .int t_readRopes, .ref h_t_readKind, .ref h_t_readNeeds, .ref h_t_readFrom, .ref h_t_readTo, .ref h_t_readLong, .int t_pulls, .ref h_t_pullOf, .ref h_t_pullAt, .ref h_t_peals, .ref h_t_swings, .ref h_t_lastRang, .ref h_t_heardSince, .int t_readings, .ref h_t_readingOf, .ref h_t_readingAt, .ref h_t_readingIs, .ref h_t_sheetSize, .ref h_t_sheetLane, .ref h_t_sheet, .ref h_t_hands, .int t_traceNow]))] rfl rfl rfl (by decide) (st2 := [.int u1]) rfl ?_
  refine k_if_ne 11 cx (tgt := 17) dX7_undo_11 (by decide) hm (fun hc hm => ?_) (fun hc hm => ?_)
  · refine k_bipush 14 cx (v := (-2 : Int32)) dX7_undo_14 (by decide) ?_
    obtain rfl := Option.some.inj hm
    exact k_iret 16 cx dX7_undo_16 rfl rfl
  · refine k_aload_n 17 cx dX7_undo_17 rfl 0 rfl ?_
    refine k_dup 18 cx dX7_undo_18 rfl ?_
    refine fgX7_154 19 cx dX7_undo_19 0 rfl rfl ?_
    refine k_iload_n 22 cx dX7_undo_22 rfl 1 rfl ?_
    refine k_isub 23 cx dX7_undo_23 ?_
    refine k_nm hm (fun v2 hm => ?_)
    refine fpX7_154 24 cx dX7_undo_24 0 rfl rfl rfl (by simp) (w1 := (w_X7_undo G h_t h_t_kindOf h_t_needsOf h_t_fromOf h_t_toOf h_t_longOf h_t_readKind h_t_readNeeds h_t_readFrom h_t_readTo h_t_readLong h_t_pullOf h_t_pullAt h_t_peals h_t_swings h_t_lastRang h_t_heardSince h_t_readingOf h_t_readingAt h_t_readingIs h_t_sheetSize h_t_sheetLane h_t_sheet h_t_hands t_fault t_bells t_tied t_ropes t_spanNow t_readAt t_readBells t_readRopes v2 t_readings t_traceNow)) rfl ?_
    refine k_aload_n 27 cx dX7_undo_27 rfl 0 rfl ?_
    refine fgX7_154 28 cx dX7_undo_28 0 rfl rfl ?_
    obtain rfl := Option.some.inj hm
    exact k_iret 31 cx dX7_undo_31 rfl rfl
set_option maxRecDepth 100000 in
theorem fgX7_49 {X : XT} {Q : State → Prop} {G : GT} {A : Nat → Prop} {nL : Nat} {lv : List (Nat × Value)} {st : List Value} {ws : va_W} {cc : ByteArray} {fr lo : Nat} {ret : Option FieldType} (pc : Nat) (cx : Cx X cc nL RX7 G fr lo ret) {a : Nat} {fs : List Value} {v : Value} (hd : decode cc pc = .ok (.getfield 49, 3)) (q0 : Nat) (he : ws[q0]? = some (a, .inr (7, fs))) (hv : fs[22]? = some v) (k : KJ X Q G A nL (pc + 3) lv (v :: st) ws) : KJ X Q G A nL pc lv (.ref a :: st) ws :=
  k_get (ref := RX7) (T := TX7) (N := 34) (ci := 7) pc cx inX7 rfl 22 (by decide) (tb_m (i := 671) rfl rfl) rfl hd q0 he hv k
set_option maxRecDepth 100000 in
theorem fgX7_55 {X : XT} {Q : State → Prop} {G : GT} {A : Nat → Prop} {nL : Nat} {lv : List (Nat × Value)} {st : List Value} {ws : va_W} {cc : ByteArray} {fr lo : Nat} {ret : Option FieldType} (pc : Nat) (cx : Cx X cc nL RX7 G fr lo ret) {a : Nat} {fs : List Value} {v : Value} (hd : decode cc pc = .ok (.getfield 55, 3)) (q0 : Nat) (he : ws[q0]? = some (a, .inr (7, fs))) (hv : fs[24]? = some v) (k : KJ X Q G A nL (pc + 3) lv (v :: st) ws) : KJ X Q G A nL pc lv (.ref a :: st) ws :=
  k_get (ref := RX7) (T := TX7) (N := 34) (ci := 7) pc cx inX7 rfl 24 (by decide) (tb_m (i := 673) rfl rfl) rfl hd q0 he hv k
def w_X7_swingByRope (G : GT) (h_t : Nat) (h_t_heardSince : Nat) (h_t_kindOf : Nat) (h_t_swings : Nat) (h_t_needsOf : Nat) (h_t_fromOf : Nat) (h_t_toOf : Nat) (h_t_longOf : Nat) (h_t_readKind : Nat) (h_t_readNeeds : Nat) (h_t_readFrom : Nat) (h_t_readTo : Nat) (h_t_readLong : Nat) (h_t_pullOf : Nat) (h_t_pullAt : Nat) (h_t_peals : Nat) (h_t_lastRang : Nat) (h_t_readingOf : Nat) (h_t_readingAt : Nat) (h_t_readingIs : Nat) (h_t_sheetSize : Nat) (h_t_sheetLane : Nat) (h_t_sheet : Nat) (h_t_hands : Nat) (t_fault : Int32) (t_bells : Int32) (t_tied : Int32) (t_ropes : Int32) (t_spanNow : Int32) (t_readAt : Int32) (t_readBells : Int32) (t_readRopes : Int32) (t_pulls : Int32) (t_readings : Int32) (t_traceNow : Int32) (t_heardSince : (Nat → Int32)) (t_kindOf : (Nat → Int32)) (t_swings : (Nat → Int32)) : va_W := [(h_t, .inr (7, [.int t_fault, .int t_bells, .ref h_t_kindOf, .ref h_t_needsOf, .int t_tied, .int t_ropes, .ref h_t_fromOf, .ref h_t_toOf, .ref h_t_longOf, .int t_spanNow, .int t_readAt, .int t_readBells, .int t_readRopes, .ref h_t_readKind, .ref h_t_readNeeds, .ref h_t_readFrom, .ref h_t_readTo, .ref h_t_readLong, .int t_pulls, .ref h_t_pullOf, .ref h_t_pullAt, .ref h_t_peals, .ref h_t_swings, .ref h_t_lastRang, .ref h_t_heardSince, .int t_readings, .ref h_t_readingOf, .ref h_t_readingAt, .ref h_t_readingIs, .ref h_t_sheetSize, .ref h_t_sheetLane, .ref h_t_sheet, .ref h_t_hands, .int t_traceNow])), (h_t_heardSince, .inl (G.2.1, 6, .inl t_heardSince)), (h_t_kindOf, .inl (G.2.1, 6, .inl t_kindOf)), (h_t_swings, .inl (G.2.1, 36, .inl t_swings))]
def M_X7_swingByRope (t_heardSince : (Nat → Int32)) (t_kindOf : (Nat → Int32)) (t_swings : (Nat → Int32)) (a1 : Int32) (a2 : Int32) : Option ((Nat → Int32) × (Nat → Int32)) := (gB (inb a1 6) (gB (inb a1 6) (nme (upd t_heardSince (Int32.toNatClampNeg a1) ((t_heardSince (Int32.toNatClampNeg a1)) + (1 : Int32))) (fun f1 => (gB (inb a1 6) (if (t_kindOf (Int32.toNatClampNeg a1)) < (2 : Int32) then (gB (inb (((6 : Int32) * a1) + (a2 - a2 / (6 : Int32) * (6 : Int32))) 36) (gB (inb (((6 : Int32) * a1) + (a2 - a2 / (6 : Int32) * (6 : Int32))) 36) (nme (upd t_swings (Int32.toNatClampNeg (((6 : Int32) * a1) + (a2 - a2 / (6 : Int32) * (6 : Int32)))) ((t_swings (Int32.toNatClampNeg (((6 : Int32) * a1) + (a2 - a2 / (6 : Int32) * (6 : Int32))))) + (1 : Int32))) (fun f2 => (some (f1, f2)))))) else (gB (inb a1 6) (nme (f1 (Int32.toNatClampNeg a1)) (fun v3 => (if (v3 - v3 / (2 : Int32) * (2 : Int32)) = 0 then (gB (inb (((6 : Int32) * a1) + (a2 - a2 / (6 : Int32) * (6 : Int32))) 36) (gB (inb (((6 : Int32) * a1) + (a2 - a2 / (6 : Int32) * (6 : Int32))) 36) (nme (upd t_swings (Int32.toNatClampNeg (((6 : Int32) * a1) + (a2 - a2 / (6 : Int32) * (6 : Int32)))) ((t_swings (Int32.toNatClampNeg (((6 : Int32) * a1) + (a2 - a2 / (6 : Int32) * (6 : Int32))))) + (1 : Int32))) (fun f4 => (some (f1, f4)))))) else (some (f1, t_swings))))))))))))
set_option maxHeartbeats 4000000 in
set_option maxRecDepth 100000 in
theorem c_X7_swingByRope (l : Launch) (G : GT) (h_t : Nat) (h_t_heardSince : Nat) (h_t_kindOf : Nat) (h_t_swings : Nat) (h_t_needsOf : Nat) (h_t_fromOf : Nat) (h_t_toOf : Nat) (h_t_longOf : Nat) (h_t_readKind : Nat) (h_t_readNeeds : Nat) (h_t_readFrom : Nat) (h_t_readTo : Nat) (h_t_readLong : Nat) (h_t_pullOf : Nat) (h_t_pullAt : Nat) (h_t_peals : Nat) (h_t_lastRang : Nat) (h_t_readingOf : Nat) (h_t_readingAt : Nat) (h_t_readingIs : Nat) (h_t_sheetSize : Nat) (h_t_sheetLane : Nat) (h_t_sheet : Nat) (h_t_hands : Nat) (t_fault : Int32) (t_bells : Int32) (t_tied : Int32) (t_ropes : Int32) (t_spanNow : Int32) (t_readAt : Int32) (t_readBells : Int32) (t_readRopes : Int32) (t_pulls : Int32) (t_readings : Int32) (t_traceNow : Int32) (t_heardSince : (Nat → Int32)) (t_kindOf : (Nat → Int32)) (t_swings : (Nat → Int32)) (a1 : Int32) (a2 : Int32) {u : (Nat → Int32) × (Nat → Int32)} (hm : M_X7_swingByRope t_heardSince t_kindOf t_swings a1 a2 = some u) : CT l yX7_swingByRope cX7_swingByRope 3 none 0 0 [.ref h_t, .int a1, .int a2] G (w_X7_swingByRope G h_t h_t_heardSince h_t_kindOf h_t_swings h_t_needsOf h_t_fromOf h_t_toOf h_t_longOf h_t_readKind h_t_readNeeds h_t_readFrom h_t_readTo h_t_readLong h_t_pullOf h_t_pullAt h_t_peals h_t_lastRang h_t_readingOf h_t_readingAt h_t_readingIs h_t_sheetSize h_t_sheetLane h_t_sheet h_t_hands t_fault t_bells t_tied t_ropes t_spanNow t_readAt t_readBells t_readRopes t_pulls t_readings t_traceNow t_heardSince t_kindOf t_swings) none (w_X7_swingByRope G h_t h_t_heardSince h_t_kindOf h_t_swings h_t_needsOf h_t_fromOf h_t_toOf h_t_longOf h_t_readKind h_t_readNeeds h_t_readFrom h_t_readTo h_t_readLong h_t_pullOf h_t_pullAt h_t_peals h_t_lastRang h_t_readingOf h_t_readingAt h_t_readingIs h_t_sheetSize h_t_sheetLane h_t_sheet h_t_hands t_fault t_bells t_tied t_ropes t_spanNow t_readAt t_readBells t_readRopes t_pulls t_readings t_traceNow u.1 t_kindOf u.2) := by
  refine ct_intro RX7 [(0, .ref h_t), (1, .int a1), (2, .int a2)] (by decide) rfl (Nat.le_of_ble_eq_true rfl) rfl (fun X hX cx => ?_)
  unfold M_X7_swingByRope at hm
  refine k_aload_n 0 cx dX7_swingByRope_0 rfl 0 rfl ?_
  refine fgX7_55 1 cx dX7_swingByRope_1 0 rfl rfl ?_
  refine k_iload_n 4 cx dX7_swingByRope_4 rfl 1 rfl ?_
  refine k_dup2 5 cx dX7_swingByRope_5 rfl rfl ?_
  refine k_iald 6 cx dX7_swingByRope_6 1 rfl hm (fun hm => ?_)
  refine k_iconst 7 cx (v := (1 : Int32)) dX7_swingByRope_7 (by decide) ?_
  refine k_iadd 8 cx dX7_swingByRope_8 ?_
  refine k_iast 9 cx dX7_swingByRope_9 1 rfl (fun f1 => (w_X7_swingByRope G h_t h_t_heardSince h_t_kindOf h_t_swings h_t_needsOf h_t_fromOf h_t_toOf h_t_longOf h_t_readKind h_t_readNeeds h_t_readFrom h_t_readTo h_t_readLong h_t_pullOf h_t_pullAt h_t_peals h_t_lastRang h_t_readingOf h_t_readingAt h_t_readingIs h_t_sheetSize h_t_sheetLane h_t_sheet h_t_hands t_fault t_bells t_tied t_ropes t_spanNow t_readAt t_readBells t_readRopes t_pulls t_readings t_traceNow f1 t_kindOf t_swings)) (fun _ => rfl) hm (fun f1 hm => ?_)
  refine k_aload_n 10 cx dX7_swingByRope_10 rfl 0 rfl ?_
  refine fgX7_7 11 cx dX7_swingByRope_11 0 rfl rfl ?_
  refine k_iload_n 14 cx dX7_swingByRope_14 rfl 1 rfl ?_
  refine k_iald 15 cx dX7_swingByRope_15 2 rfl hm (fun hm => ?_)
  refine k_iconst 16 cx (v := (2 : Int32)) dX7_swingByRope_16 (by decide) ?_
  refine k_icmp_lt 17 cx (tgt := 31) dX7_swingByRope_17 (by decide) hm (fun hc hm => ?_) (fun hc hm => ?_)
  · refine k_aload_n 31 cx dX7_swingByRope_31 rfl 0 rfl ?_
    refine fgX7_49 32 cx dX7_swingByRope_32 0 rfl rfl ?_
    refine k_bipush 35 cx (v := (6 : Int32)) dX7_swingByRope_35 (by decide) ?_
    refine k_iload_n 37 cx dX7_swingByRope_37 rfl 1 rfl ?_
    refine k_imul 38 cx dX7_swingByRope_38 ?_
    refine k_iload_n 39 cx dX7_swingByRope_39 rfl 2 rfl ?_
    refine k_bipush 40 cx (v := (6 : Int32)) dX7_swingByRope_40 (by decide) ?_
    refine k_irem_c 42 cx dX7_swingByRope_42 (by decide) ?_
    refine k_iadd 43 cx dX7_swingByRope_43 ?_
    refine k_dup2 44 cx dX7_swingByRope_44 rfl rfl ?_
    refine k_iald 45 cx dX7_swingByRope_45 3 rfl hm (fun hm => ?_)
    refine k_iconst 46 cx (v := (1 : Int32)) dX7_swingByRope_46 (by decide) ?_
    refine k_iadd 47 cx dX7_swingByRope_47 ?_
    refine k_iast 48 cx dX7_swingByRope_48 3 rfl (fun f2 => (w_X7_swingByRope G h_t h_t_heardSince h_t_kindOf h_t_swings h_t_needsOf h_t_fromOf h_t_toOf h_t_longOf h_t_readKind h_t_readNeeds h_t_readFrom h_t_readTo h_t_readLong h_t_pullOf h_t_pullAt h_t_peals h_t_lastRang h_t_readingOf h_t_readingAt h_t_readingIs h_t_sheetSize h_t_sheetLane h_t_sheet h_t_hands t_fault t_bells t_tied t_ropes t_spanNow t_readAt t_readBells t_readRopes t_pulls t_readings t_traceNow f1 t_kindOf f2)) (fun _ => rfl) hm (fun f2 hm => ?_)
    obtain rfl := Option.some.inj hm
    exact k_vret 49 cx dX7_swingByRope_49 rfl rfl
  · refine k_aload_n 20 cx dX7_swingByRope_20 rfl 0 rfl ?_
    refine fgX7_55 21 cx dX7_swingByRope_21 0 rfl rfl ?_
    refine k_iload_n 24 cx dX7_swingByRope_24 rfl 1 rfl ?_
    refine k_iald 25 cx dX7_swingByRope_25 1 rfl hm (fun hm => ?_)
    refine k_iconst 26 cx (v := (2 : Int32)) dX7_swingByRope_26 (by decide) ?_
    refine k_nm1 hm (fun v3 hm => ?_)
    refine k_irem_c 27 cx dX7_swingByRope_27 (by decide) ?_
    refine k_if_ne 28 cx (tgt := 49) dX7_swingByRope_28 (by decide) hm (fun hc hm => ?_) (fun hc hm => ?_)
    · refine k_aload_n 31 cx dX7_swingByRope_31 rfl 0 rfl ?_
      refine fgX7_49 32 cx dX7_swingByRope_32 0 rfl rfl ?_
      refine k_bipush 35 cx (v := (6 : Int32)) dX7_swingByRope_35 (by decide) ?_
      refine k_iload_n 37 cx dX7_swingByRope_37 rfl 1 rfl ?_
      refine k_imul 38 cx dX7_swingByRope_38 ?_
      refine k_iload_n 39 cx dX7_swingByRope_39 rfl 2 rfl ?_
      refine k_bipush 40 cx (v := (6 : Int32)) dX7_swingByRope_40 (by decide) ?_
      refine k_irem_c 42 cx dX7_swingByRope_42 (by decide) ?_
      refine k_iadd 43 cx dX7_swingByRope_43 ?_
      refine k_dup2 44 cx dX7_swingByRope_44 rfl rfl ?_
      refine k_iald 45 cx dX7_swingByRope_45 3 rfl hm (fun hm => ?_)
      refine k_iconst 46 cx (v := (1 : Int32)) dX7_swingByRope_46 (by decide) ?_
      refine k_iadd 47 cx dX7_swingByRope_47 ?_
      refine k_iast 48 cx dX7_swingByRope_48 3 rfl (fun f4 => (w_X7_swingByRope G h_t h_t_heardSince h_t_kindOf h_t_swings h_t_needsOf h_t_fromOf h_t_toOf h_t_longOf h_t_readKind h_t_readNeeds h_t_readFrom h_t_readTo h_t_readLong h_t_pullOf h_t_pullAt h_t_peals h_t_lastRang h_t_readingOf h_t_readingAt h_t_readingIs h_t_sheetSize h_t_sheetLane h_t_sheet h_t_hands t_fault t_bells t_tied t_ropes t_spanNow t_readAt t_readBells t_readRopes t_pulls t_readings t_traceNow f1 t_kindOf f4)) (fun _ => rfl) hm (fun f4 hm => ?_)
      obtain rfl := Option.some.inj hm
      exact k_vret 49 cx dX7_swingByRope_49 rfl rfl
    · obtain rfl := Option.some.inj hm
      exact k_vret 49 cx dX7_swingByRope_49 rfl rfl
set_option maxRecDepth 100000 in
theorem fgX7_46 {X : XT} {Q : State → Prop} {G : GT} {A : Nat → Prop} {nL : Nat} {lv : List (Nat × Value)} {st : List Value} {ws : va_W} {cc : ByteArray} {fr lo : Nat} {ret : Option FieldType} (pc : Nat) (cx : Cx X cc nL RX7 G fr lo ret) {a : Nat} {fs : List Value} {v : Value} (hd : decode cc pc = .ok (.getfield 46, 3)) (q0 : Nat) (he : ws[q0]? = some (a, .inr (7, fs))) (hv : fs[21]? = some v) (k : KJ X Q G A nL (pc + 3) lv (v :: st) ws) : KJ X Q G A nL pc lv (.ref a :: st) ws :=
  k_get (ref := RX7) (T := TX7) (N := 34) (ci := 7) pc cx inX7 rfl 21 (by decide) (tb_m (i := 670) rfl rfl) rfl hd q0 he hv k
set_option maxRecDepth 100000 in
theorem cwX7_173 : CWV RX7 173 RX7 yX7_swingByRope cX7_swingByRope 3 none 2 7 TX7 34 := ⟨tb_m (i := 852) rfl rfl, tb_m (i := 854) rfl rfl, tb_m (i := 41) rfl rfl, tb_m (i := 58) rfl rfl, tb_m (i := 855) rfl rfl, ⟨by decide +kernel, by decide +kernel, by decide +kernel⟩, rfl⟩
def w_X7_swingAll (G : GT) (h_t : Nat) (h_t_pullOf : Nat) (h_t_swings : Nat) (h_t_pullAt : Nat) (h_t_kindOf : Nat) (h_t_needsOf : Nat) (h_t_longOf : Nat) (h_t_peals : Nat) (h_t_fromOf : Nat) (h_t_toOf : Nat) (h_t_heardSince : Nat) (h_t_readKind : Nat) (h_t_readNeeds : Nat) (h_t_readFrom : Nat) (h_t_readTo : Nat) (h_t_readLong : Nat) (h_t_lastRang : Nat) (h_t_readingOf : Nat) (h_t_readingAt : Nat) (h_t_readingIs : Nat) (h_t_sheetSize : Nat) (h_t_sheetLane : Nat) (h_t_sheet : Nat) (h_t_hands : Nat) (t_fault : Int32) (t_bells : Int32) (t_tied : Int32) (t_ropes : Int32) (t_spanNow : Int32) (t_readAt : Int32) (t_readBells : Int32) (t_readRopes : Int32) (t_pulls : Int32) (t_readings : Int32) (t_traceNow : Int32) (t_pullOf : (Nat → Int32)) (t_swings : (Nat → Int32)) (t_pullAt : (Nat → Int32)) (t_kindOf : (Nat → Int32)) (t_needsOf : (Nat → Int32)) (t_longOf : (Nat → Int32)) (t_peals : (Nat → Int32)) (t_fromOf : (Nat → Int32)) (t_toOf : (Nat → Int32)) (t_heardSince : (Nat → Int32)) : va_W := [(h_t, .inr (7, [.int t_fault, .int t_bells, .ref h_t_kindOf, .ref h_t_needsOf, .int t_tied, .int t_ropes, .ref h_t_fromOf, .ref h_t_toOf, .ref h_t_longOf, .int t_spanNow, .int t_readAt, .int t_readBells, .int t_readRopes, .ref h_t_readKind, .ref h_t_readNeeds, .ref h_t_readFrom, .ref h_t_readTo, .ref h_t_readLong, .int t_pulls, .ref h_t_pullOf, .ref h_t_pullAt, .ref h_t_peals, .ref h_t_swings, .ref h_t_lastRang, .ref h_t_heardSince, .int t_readings, .ref h_t_readingOf, .ref h_t_readingAt, .ref h_t_readingIs, .ref h_t_sheetSize, .ref h_t_sheetLane, .ref h_t_sheet, .ref h_t_hands, .int t_traceNow])), (h_t_pullOf, .inl (G.2.1, 6, .inl t_pullOf)), (h_t_swings, .inl (G.2.1, 36, .inl t_swings)), (h_t_pullAt, .inl (G.2.1, 6, .inl t_pullAt)), (h_t_kindOf, .inl (G.2.1, 6, .inl t_kindOf)), (h_t_needsOf, .inl (G.2.1, 6, .inl t_needsOf)), (h_t_longOf, .inl (G.2.1, 9, .inl t_longOf)), (h_t_peals, .inl (G.2.1, 400, .inl t_peals)), (h_t_fromOf, .inl (G.2.1, 9, .inl t_fromOf)), (h_t_toOf, .inl (G.2.1, 9, .inl t_toOf)), (h_t_heardSince, .inl (G.2.1, 6, .inl t_heardSince))]
def L_X7_swingAll_3 (x1 : Int32) (x2 : Int32) (t_pulls : Int32) (t_pullOf : (Nat → Int32)) (t_pullAt : (Nat → Int32)) : Nat → Int32 → (Nat → Int32) → Option (Int32 × (Nat → Int32))
  | 0, _, _ => none
  | n + 1, x4, t_swings => (if t_pulls ≤ x4 then (some (x4, t_swings)) else (if 0 ≤ x2 then (some (x4, t_swings)) else (gB (inb x4 6) (gB (inb (((6 : Int32) * (t_pullOf (Int32.toNatClampNeg x4))) + (x1 - x1 / (6 : Int32) * (6 : Int32))) 36) (gB (inb x4 6) (if (t_pullAt (Int32.toNatClampNeg x4)) = x1 then (gB (inb (((6 : Int32) * (t_pullOf (Int32.toNatClampNeg x4))) + (x1 - x1 / (6 : Int32) * (6 : Int32))) 36) (nme (upd t_swings (Int32.toNatClampNeg (((6 : Int32) * (t_pullOf (Int32.toNatClampNeg x4))) + (x1 - x1 / (6 : Int32) * (6 : Int32)))) ((t_swings (Int32.toNatClampNeg (((6 : Int32) * (t_pullOf (Int32.toNatClampNeg x4))) + (x1 - x1 / (6 : Int32) * (6 : Int32))))) + (1 : Int32))) (fun f15 => (nme (x4 + (1 : Int32)) (fun v16 => (L_X7_swingAll_3 x1 x2 t_pulls t_pullOf t_pullAt n v16 f15)))))) else (gB (inb (((6 : Int32) * (t_pullOf (Int32.toNatClampNeg x4))) + (x1 - x1 / (6 : Int32) * (6 : Int32))) 36) (nme (upd t_swings (Int32.toNatClampNeg (((6 : Int32) * (t_pullOf (Int32.toNatClampNeg x4))) + (x1 - x1 / (6 : Int32) * (6 : Int32)))) ((t_swings (Int32.toNatClampNeg (((6 : Int32) * (t_pullOf (Int32.toNatClampNeg x4))) + (x1 - x1 / (6 : Int32) * (6 : Int32))))) + (0 : Int32))) (fun f13 => (nme (x4 + (1 : Int32)) (fun v14 => (L_X7_swingAll_3 x1 x2 t_pulls t_pullOf t_pullAt n v14 f13))))))))))))
def L_X7_swingAll_64 (x1 : Int32) (x2 : Int32) (t_bells : Int32) (t_kindOf : (Nat → Int32)) (t_needsOf : (Nat → Int32)) : Nat → Int32 → (Nat → Int32) → Option (Int32 × (Nat → Int32))
  | 0, _, _ => none
  | n + 1, x4, t_swings => (if t_bells ≤ x4 then (some (x4, t_swings)) else (if x2 < 0 then (some (x4, t_swings)) else (if x1 = 0 then (gB (inb ((6 : Int32) * x4) 36) ((M_X7_isIn x2 x4).bind (fun u36 => (if u36 = 0 then (gB (inb ((6 : Int32) * x4) 36) (nme (upd t_swings (Int32.toNatClampNeg ((6 : Int32) * x4)) ((t_swings (Int32.toNatClampNeg ((6 : Int32) * x4))) + (0 : Int32))) (fun f37 => (nme (x4 + (1 : Int32)) (fun v38 => (L_X7_swingAll_64 x1 x2 t_bells t_kindOf t_needsOf n v38 f37)))))) else ((M_X7_needs t_kindOf t_needsOf x4).bind (fun u39 => (gB (inb ((6 : Int32) * x4) 36) (nme (upd t_swings (Int32.toNatClampNeg ((6 : Int32) * x4)) ((t_swings (Int32.toNatClampNeg ((6 : Int32) * x4))) + u39)) (fun f40 => (nme (x4 + (1 : Int32)) (fun v41 => (L_X7_swingAll_64 x1 x2 t_bells t_kindOf t_needsOf n v41 f40)))))))))))) else (some (x4, t_swings)))))
def L_X7_swingAll_122 (x1 : Int32) (x3 : Int32) (t_ropes : Int32) (t_kindOf : (Nat → Int32)) (t_longOf : (Nat → Int32)) (t_peals : (Nat → Int32)) (t_fromOf : (Nat → Int32)) (t_toOf : (Nat → Int32)) : Nat → Int32 → (Nat → Int32) → (Nat → Int32) → Option (Int32 × (Nat → Int32) × (Nat → Int32))
  | 0, _, _, _ => none
  | n + 1, x4, t_swings, t_heardSince => (if t_ropes ≤ x4 then (some (x4, t_swings, t_heardSince)) else (gB (inb x4 9) (nme (x1 - (t_longOf (Int32.toNatClampNeg x4))) (fun v64 => (if x4 = x3 then (nme (x4 + (1 : Int32)) (fun v65 => (L_X7_swingAll_122 x1 x3 t_ropes t_kindOf t_longOf t_peals t_fromOf t_toOf n v65 t_swings t_heardSince))) else (if v64 < 0 then (nme (x4 + (1 : Int32)) (fun v66 => (L_X7_swingAll_122 x1 x3 t_ropes t_kindOf t_longOf t_peals t_fromOf t_toOf n v66 t_swings t_heardSince))) else (gB (inb v64 400) (gB (inb x4 9) ((M_X7_isIn (t_peals (Int32.toNatClampNeg v64)) (t_fromOf (Int32.toNatClampNeg x4))).bind (fun u67 => (if u67 = 0 then (nme (x4 + (1 : Int32)) (fun v68 => (L_X7_swingAll_122 x1 x3 t_ropes t_kindOf t_longOf t_peals t_fromOf t_toOf n v68 t_swings t_heardSince))) else (gB (inb x4 9) ((M_X7_swingByRope t_heardSince t_kindOf t_swings (t_toOf (Int32.toNatClampNeg x4)) x1).bind (fun u69 => (nme (x4 + (1 : Int32)) (fun v70 => (L_X7_swingAll_122 x1 x3 t_ropes t_kindOf t_longOf t_peals t_fromOf t_toOf n v70 u69.2 u69.1)))))))))))))))))
def M_X7_swingAll (t_bells : Int32) (t_ropes : Int32) (t_pulls : Int32) (t_pullOf : (Nat → Int32)) (t_swings : (Nat → Int32)) (t_pullAt : (Nat → Int32)) (t_kindOf : (Nat → Int32)) (t_needsOf : (Nat → Int32)) (t_longOf : (Nat → Int32)) (t_peals : (Nat → Int32)) (t_fromOf : (Nat → Int32)) (t_toOf : (Nat → Int32)) (t_heardSince : (Nat → Int32)) (a1 : Int32) (a2 : Int32) (a3 : Int32) : Option ((Nat → Int32) × (Nat → Int32)) := ((L_X7_swingAll_3 a1 a2 t_pulls t_pullOf t_pullAt 1000 (0 : Int32) t_swings).bind (fun u17 => ((L_X7_swingAll_64 a1 a2 t_bells t_kindOf t_needsOf 1000 (0 : Int32) u17.2).bind (fun u42 => ((L_X7_swingAll_122 a1 a3 t_ropes t_kindOf t_longOf t_peals t_fromOf t_toOf 1000 (0 : Int32) u42.2 t_heardSince).bind (fun u71 => (some (u71.2.1, u71.2.2))))))))
set_option maxHeartbeats 4000000 in
set_option maxRecDepth 100000 in
theorem c_X7_swingAll (l : Launch) (G : GT) (h_t : Nat) (h_t_pullOf : Nat) (h_t_swings : Nat) (h_t_pullAt : Nat) (h_t_kindOf : Nat) (h_t_needsOf : Nat) (h_t_longOf : Nat) (h_t_peals : Nat) (h_t_fromOf : Nat) (h_t_toOf : Nat) (h_t_heardSince : Nat) (h_t_readKind : Nat) (h_t_readNeeds : Nat) (h_t_readFrom : Nat) (h_t_readTo : Nat) (h_t_readLong : Nat) (h_t_lastRang : Nat) (h_t_readingOf : Nat) (h_t_readingAt : Nat) (h_t_readingIs : Nat) (h_t_sheetSize : Nat) (h_t_sheetLane : Nat) (h_t_sheet : Nat) (h_t_hands : Nat) (t_fault : Int32) (t_bells : Int32) (t_tied : Int32) (t_ropes : Int32) (t_spanNow : Int32) (t_readAt : Int32) (t_readBells : Int32) (t_readRopes : Int32) (t_pulls : Int32) (t_readings : Int32) (t_traceNow : Int32) (t_pullOf : (Nat → Int32)) (t_swings : (Nat → Int32)) (t_pullAt : (Nat → Int32)) (t_kindOf : (Nat → Int32)) (t_needsOf : (Nat → Int32)) (t_longOf : (Nat → Int32)) (t_peals : (Nat → Int32)) (t_fromOf : (Nat → Int32)) (t_toOf : (Nat → Int32)) (t_heardSince : (Nat → Int32)) (a1 : Int32) (a2 : Int32) (a3 : Int32) {u : (Nat → Int32) × (Nat → Int32)} (hm : M_X7_swingAll t_bells t_ropes t_pulls t_pullOf t_swings t_pullAt t_kindOf t_needsOf t_longOf t_peals t_fromOf t_toOf t_heardSince a1 a2 a3 = some u) : CT l yX7_swingAll cX7_swingAll 6 none 1 22 [.ref h_t, .int a1, .int a2, .int a3] G (w_X7_swingAll G h_t h_t_pullOf h_t_swings h_t_pullAt h_t_kindOf h_t_needsOf h_t_longOf h_t_peals h_t_fromOf h_t_toOf h_t_heardSince h_t_readKind h_t_readNeeds h_t_readFrom h_t_readTo h_t_readLong h_t_lastRang h_t_readingOf h_t_readingAt h_t_readingIs h_t_sheetSize h_t_sheetLane h_t_sheet h_t_hands t_fault t_bells t_tied t_ropes t_spanNow t_readAt t_readBells t_readRopes t_pulls t_readings t_traceNow t_pullOf t_swings t_pullAt t_kindOf t_needsOf t_longOf t_peals t_fromOf t_toOf t_heardSince) none (w_X7_swingAll G h_t h_t_pullOf h_t_swings h_t_pullAt h_t_kindOf h_t_needsOf h_t_longOf h_t_peals h_t_fromOf h_t_toOf h_t_heardSince h_t_readKind h_t_readNeeds h_t_readFrom h_t_readTo h_t_readLong h_t_lastRang h_t_readingOf h_t_readingAt h_t_readingIs h_t_sheetSize h_t_sheetLane h_t_sheet h_t_hands t_fault t_bells t_tied t_ropes t_spanNow t_readAt t_readBells t_readRopes t_pulls t_readings t_traceNow t_pullOf u.1 t_pullAt t_kindOf t_needsOf t_longOf t_peals t_fromOf t_toOf u.2) := by
  refine ct_intro RX7 [(0, .ref h_t), (1, .int a1), (2, .int a2), (3, .int a3)] (by decide) rfl (Nat.le_of_ble_eq_true rfl) rfl (fun X hX cx => ?_)
  have lp3 : ∀ (Q : State → Prop) (A : Nat → Prop) (x1 : Int32) (x2 : Int32) (x3 : Int32) (t_fault : Int32) (t_bells : Int32) (t_tied : Int32) (t_ropes : Int32) (t_spanNow : Int32) (t_readAt : Int32) (t_readBells : Int32) (t_readRopes : Int32) (t_pulls : Int32) (t_readings : Int32) (t_traceNow : Int32) (t_pullOf : (Nat → Int32)) (t_pullAt : (Nat → Int32)) (t_kindOf : (Nat → Int32)) (t_needsOf : (Nat → Int32)) (t_longOf : (Nat → Int32)) (t_peals : (Nat → Int32)) (t_fromOf : (Nat → Int32)) (t_toOf : (Nat → Int32)) (t_heardSince : (Nat → Int32)) (n : Nat) (x4 : Int32) (t_swings : (Nat → Int32)) (y : Int32 × (Nat → Int32)), L_X7_swingAll_3 x1 x2 t_pulls t_pullOf t_pullAt n x4 t_swings = some y → (KJ X Q G A 6 61 [(0, .ref h_t), (1, .int x1), (2, .int x2), (3, .int x3)] [] (w_X7_swingAll G h_t h_t_pullOf h_t_swings h_t_pullAt h_t_kindOf h_t_needsOf h_t_longOf h_t_peals h_t_fromOf h_t_toOf h_t_heardSince h_t_readKind h_t_readNeeds h_t_readFrom h_t_readTo h_t_readLong h_t_lastRang h_t_readingOf h_t_readingAt h_t_readingIs h_t_sheetSize h_t_sheetLane h_t_sheet h_t_hands t_fault t_bells t_tied t_ropes t_spanNow t_readAt t_readBells t_readRopes t_pulls t_readings t_traceNow t_pullOf y.2 t_pullAt t_kindOf t_needsOf t_longOf t_peals t_fromOf t_toOf t_heardSince)) → KJ X Q G A 6 3 [(0, .ref h_t), (1, .int x1), (2, .int x2), (3, .int x3), (4, .int x4)] [] (w_X7_swingAll G h_t h_t_pullOf h_t_swings h_t_pullAt h_t_kindOf h_t_needsOf h_t_longOf h_t_peals h_t_fromOf h_t_toOf h_t_heardSince h_t_readKind h_t_readNeeds h_t_readFrom h_t_readTo h_t_readLong h_t_lastRang h_t_readingOf h_t_readingAt h_t_readingIs h_t_sheetSize h_t_sheetLane h_t_sheet h_t_hands t_fault t_bells t_tied t_ropes t_spanNow t_readAt t_readBells t_readRopes t_pulls t_readings t_traceNow t_pullOf t_swings t_pullAt t_kindOf t_needsOf t_longOf t_peals t_fromOf t_toOf t_heardSince) := by
    intro Q A x1 x2 x3 t_fault t_bells t_tied t_ropes t_spanNow t_readAt t_readBells t_readRopes t_pulls t_readings t_traceNow t_pullOf t_pullAt t_kindOf t_needsOf t_longOf t_peals t_fromOf t_toOf t_heardSince n
    induction n with
    | zero => intro x4 t_swings y hm _; exact noS hm
    | succ n ih =>
      intro x4 t_swings y hm k0
      rw [L_X7_swingAll_3] at hm
      refine k_iload 3 cx dX7_swingAll_3 4 rfl ?_
      refine k_aload_n 5 cx dX7_swingAll_5 rfl 0 rfl ?_
      refine fgX7_154 6 cx dX7_swingAll_6 0 rfl rfl ?_
      refine k_icmp_ge 9 cx (tgt := 61) dX7_swingAll_9 (by decide) hm (fun hc hm => ?_) (fun hc hm => ?_)
      · obtain rfl := Option.some.inj hm
        refine k_lv [0, 1, 2, 3] rfl ?_
        exact k0
      · refine k_iload_n 12 cx dX7_swingAll_12 rfl 2 rfl ?_
        refine k_if_ge 13 cx (tgt := 61) dX7_swingAll_13 (by decide) hm (fun hc hm => ?_) (fun hc hm => ?_)
        · obtain rfl := Option.some.inj hm
          refine k_lv [0, 1, 2, 3] rfl ?_
          exact k0
        · refine k_aload_n 16 cx dX7_swingAll_16 rfl 0 rfl ?_
          refine fgX7_49 17 cx dX7_swingAll_17 0 rfl rfl ?_
          refine k_bipush 20 cx (v := (6 : Int32)) dX7_swingAll_20 (by decide) ?_
          refine k_aload_n 22 cx dX7_swingAll_22 rfl 0 rfl ?_
          refine fgX7_40 23 cx dX7_swingAll_23 0 rfl rfl ?_
          refine k_iload 26 cx dX7_swingAll_26 4 rfl ?_
          refine k_iald 28 cx dX7_swingAll_28 1 rfl hm (fun hm => ?_)
          refine k_imul 29 cx dX7_swingAll_29 ?_
          refine k_iload_n 30 cx dX7_swingAll_30 rfl 1 rfl ?_
          refine k_bipush 31 cx (v := (6 : Int32)) dX7_swingAll_31 (by decide) ?_
          refine k_irem_c 33 cx dX7_swingAll_33 (by decide) ?_
          refine k_iadd 34 cx dX7_swingAll_34 ?_
          refine k_dup2 35 cx dX7_swingAll_35 rfl rfl ?_
          refine k_iald 36 cx dX7_swingAll_36 2 rfl hm (fun hm => ?_)
          refine k_aload_n 37 cx dX7_swingAll_37 rfl 0 rfl ?_
          refine fgX7_43 38 cx dX7_swingAll_38 0 rfl rfl ?_
          refine k_iload 41 cx dX7_swingAll_41 4 rfl ?_
          refine k_iald 43 cx dX7_swingAll_43 3 rfl hm (fun hm => ?_)
          refine k_iload_n 44 cx dX7_swingAll_44 rfl 1 rfl ?_
          refine k_icmp_ne 45 cx (tgt := 52) dX7_swingAll_45 (by decide) hm (fun hc hm => ?_) (fun hc hm => ?_)
          · refine k_iconst 48 cx (v := (1 : Int32)) dX7_swingAll_48 (by decide) ?_
            refine k_goto 49 cx (tgt := 53) dX7_swingAll_49 (by decide) ?_
            refine k_iadd 53 cx dX7_swingAll_53 ?_
            refine k_iast 54 cx dX7_swingAll_54 2 rfl (fun f15 => (w_X7_swingAll G h_t h_t_pullOf h_t_swings h_t_pullAt h_t_kindOf h_t_needsOf h_t_longOf h_t_peals h_t_fromOf h_t_toOf h_t_heardSince h_t_readKind h_t_readNeeds h_t_readFrom h_t_readTo h_t_readLong h_t_lastRang h_t_readingOf h_t_readingAt h_t_readingIs h_t_sheetSize h_t_sheetLane h_t_sheet h_t_hands t_fault t_bells t_tied t_ropes t_spanNow t_readAt t_readBells t_readRopes t_pulls t_readings t_traceNow t_pullOf f15 t_pullAt t_kindOf t_needsOf t_longOf t_peals t_fromOf t_toOf t_heardSince)) (fun _ => rfl) hm (fun f15 hm => ?_)
            refine k_iinc 55 cx dX7_swingAll_55 4 rfl (by decide) (by decide) (fun v16 => [(4, .int v16), (0, .ref h_t), (1, .int x1), (2, .int x2), (3, .int x3)]) (fun _ => rfl) hm (fun v16 hm => ?_)
            refine k_goto 58 cx (tgt := 3) dX7_swingAll_58 (by decide) ?_
            refine k_lv [1, 2, 3, 4, 0] rfl ?_
            exact ih v16 f15 _ hm k0
          · refine k_iconst 52 cx (v := (0 : Int32)) dX7_swingAll_52 (by decide) ?_
            refine k_iadd 53 cx dX7_swingAll_53 ?_
            refine k_iast 54 cx dX7_swingAll_54 2 rfl (fun f13 => (w_X7_swingAll G h_t h_t_pullOf h_t_swings h_t_pullAt h_t_kindOf h_t_needsOf h_t_longOf h_t_peals h_t_fromOf h_t_toOf h_t_heardSince h_t_readKind h_t_readNeeds h_t_readFrom h_t_readTo h_t_readLong h_t_lastRang h_t_readingOf h_t_readingAt h_t_readingIs h_t_sheetSize h_t_sheetLane h_t_sheet h_t_hands t_fault t_bells t_tied t_ropes t_spanNow t_readAt t_readBells t_readRopes t_pulls t_readings t_traceNow t_pullOf f13 t_pullAt t_kindOf t_needsOf t_longOf t_peals t_fromOf t_toOf t_heardSince)) (fun _ => rfl) hm (fun f13 hm => ?_)
            refine k_iinc 55 cx dX7_swingAll_55 4 rfl (by decide) (by decide) (fun v14 => [(4, .int v14), (0, .ref h_t), (1, .int x1), (2, .int x2), (3, .int x3)]) (fun _ => rfl) hm (fun v14 hm => ?_)
            refine k_goto 58 cx (tgt := 3) dX7_swingAll_58 (by decide) ?_
            refine k_lv [1, 2, 3, 4, 0] rfl ?_
            exact ih v14 f13 _ hm k0
  have lp64 : ∀ (Q : State → Prop) (A : Nat → Prop) (x1 : Int32) (x2 : Int32) (x3 : Int32) (t_fault : Int32) (t_bells : Int32) (t_tied : Int32) (t_ropes : Int32) (t_spanNow : Int32) (t_readAt : Int32) (t_readBells : Int32) (t_readRopes : Int32) (t_pulls : Int32) (t_readings : Int32) (t_traceNow : Int32) (t_pullOf : (Nat → Int32)) (t_pullAt : (Nat → Int32)) (t_kindOf : (Nat → Int32)) (t_needsOf : (Nat → Int32)) (t_longOf : (Nat → Int32)) (t_peals : (Nat → Int32)) (t_fromOf : (Nat → Int32)) (t_toOf : (Nat → Int32)) (t_heardSince : (Nat → Int32)) (n : Nat) (x4 : Int32) (t_swings : (Nat → Int32)) (y : Int32 × (Nat → Int32)), L_X7_swingAll_64 x1 x2 t_bells t_kindOf t_needsOf n x4 t_swings = some y → (KJ X Q G A 6 119 [(0, .ref h_t), (1, .int x1), (3, .int x3)] [] (w_X7_swingAll G h_t h_t_pullOf h_t_swings h_t_pullAt h_t_kindOf h_t_needsOf h_t_longOf h_t_peals h_t_fromOf h_t_toOf h_t_heardSince h_t_readKind h_t_readNeeds h_t_readFrom h_t_readTo h_t_readLong h_t_lastRang h_t_readingOf h_t_readingAt h_t_readingIs h_t_sheetSize h_t_sheetLane h_t_sheet h_t_hands t_fault t_bells t_tied t_ropes t_spanNow t_readAt t_readBells t_readRopes t_pulls t_readings t_traceNow t_pullOf y.2 t_pullAt t_kindOf t_needsOf t_longOf t_peals t_fromOf t_toOf t_heardSince)) → KJ X Q G A 6 64 [(0, .ref h_t), (1, .int x1), (2, .int x2), (3, .int x3), (4, .int x4)] [] (w_X7_swingAll G h_t h_t_pullOf h_t_swings h_t_pullAt h_t_kindOf h_t_needsOf h_t_longOf h_t_peals h_t_fromOf h_t_toOf h_t_heardSince h_t_readKind h_t_readNeeds h_t_readFrom h_t_readTo h_t_readLong h_t_lastRang h_t_readingOf h_t_readingAt h_t_readingIs h_t_sheetSize h_t_sheetLane h_t_sheet h_t_hands t_fault t_bells t_tied t_ropes t_spanNow t_readAt t_readBells t_readRopes t_pulls t_readings t_traceNow t_pullOf t_swings t_pullAt t_kindOf t_needsOf t_longOf t_peals t_fromOf t_toOf t_heardSince) := by
    intro Q A x1 x2 x3 t_fault t_bells t_tied t_ropes t_spanNow t_readAt t_readBells t_readRopes t_pulls t_readings t_traceNow t_pullOf t_pullAt t_kindOf t_needsOf t_longOf t_peals t_fromOf t_toOf t_heardSince n
    induction n with
    | zero => intro x4 t_swings y hm _; exact noS hm
    | succ n ih =>
      intro x4 t_swings y hm k0
      rw [L_X7_swingAll_64] at hm
      refine k_iload 64 cx dX7_swingAll_64 4 rfl ?_
      refine k_aload_n 66 cx dX7_swingAll_66 rfl 0 rfl ?_
      refine fgX7_90 67 cx dX7_swingAll_67 0 rfl rfl ?_
      refine k_icmp_ge 70 cx (tgt := 119) dX7_swingAll_70 (by decide) hm (fun hc hm => ?_) (fun hc hm => ?_)
      · obtain rfl := Option.some.inj hm
        refine k_lv [0, 1, 3] rfl ?_
        exact k0
      · refine k_iload_n 73 cx dX7_swingAll_73 rfl 2 rfl ?_
        refine k_if_lt 74 cx (tgt := 119) dX7_swingAll_74 (by decide) hm (fun hc hm => ?_) (fun hc hm => ?_)
        · obtain rfl := Option.some.inj hm
          refine k_lv [0, 1, 3] rfl ?_
          exact k0
        · refine k_iload_n 77 cx dX7_swingAll_77 rfl 1 rfl ?_
          refine k_if_ne 78 cx (tgt := 119) dX7_swingAll_78 (by decide) hm (fun hc hm => ?_) (fun hc hm => ?_)
          · refine k_aload_n 81 cx dX7_swingAll_81 rfl 0 rfl ?_
            refine fgX7_49 82 cx dX7_swingAll_82 0 rfl rfl ?_
            refine k_bipush 85 cx (v := (6 : Int32)) dX7_swingAll_85 (by decide) ?_
            refine k_iload 87 cx dX7_swingAll_87 4 rfl ?_
            refine k_imul 89 cx dX7_swingAll_89 ?_
            refine k_dup2 90 cx dX7_swingAll_90 rfl rfl ?_
            refine k_iald 91 cx dX7_swingAll_91 2 rfl hm (fun hm => ?_)
            refine k_iload_n 92 cx dX7_swingAll_92 rfl 2 rfl ?_
            refine k_iload 93 cx dX7_swingAll_93 4 rfl ?_
            obtain ⟨u36, hu36, hm⟩ := bnd hm
            refine k_callS 95 cx cwX7_166 (c_X7_isIn X.2.1 G x2 x4 hu36) dX7_swingAll_95 ⟨by decide, by decide⟩ rfl (rest := [.int (t_swings (Int32.toNatClampNeg ((6 : Int32) * x4))), .int ((6 : Int32) * x4), .ref h_t_swings]) rfl (Nat.le_of_ble_eq_true rfl) [] (by decide) rfl rfl (w2 := (w_X7_swingAll G h_t h_t_pullOf h_t_swings h_t_pullAt h_t_kindOf h_t_needsOf h_t_longOf h_t_peals h_t_fromOf h_t_toOf h_t_heardSince h_t_readKind h_t_readNeeds h_t_readFrom h_t_readTo h_t_readLong h_t_lastRang h_t_readingOf h_t_readingAt h_t_readingIs h_t_sheetSize h_t_sheetLane h_t_sheet h_t_hands t_fault t_bells t_tied t_ropes t_spanNow t_readAt t_readBells t_readRopes t_pulls t_readings t_traceNow t_pullOf t_swings t_pullAt t_kindOf t_needsOf t_longOf t_peals t_fromOf t_toOf t_heardSince)) [0, 1, 2, 3, 4, 5, 6, 7, 8, 9, 10] 11 rfl [(h_t, .inr (7, [.int t_fault, .int t_bells, .ref h_t_kindOf, .ref h_t_needsOf, .int t_tied, .int t_ropes, .ref h_t_fromOf, .ref h_t_toOf, .ref h_t_longOf, .int t_spanNow, .int t_readAt, .int t_readBells, .int t_readRopes, .ref h_t_readKind, .ref h_t_readNeeds, .ref h_t_readFrom, .ref h_t_readTo, .ref h_t_readLong, .int t_pulls, .ref h_t_pullOf, .ref h_t_pullAt, .ref h_t_peals, .ref h_t_swings, .ref h_t_lastRang, .ref h_t_heardSince, .int t_readings, .ref h_t_readingOf, .ref h_t_readingAt, .ref h_t_readingIs, .ref h_t_sheetSize, .ref h_t_sheetLane, .ref h_t_sheet, .ref h_t_hands, .int t_traceNow])), (h_t_pullOf, .inl (G.2.1, 6, .inl t_pullOf)), (h_t_swings, .inl (G.2.1, 36, .inl t_swings)), (h_t_pullAt, .inl (G.2.1, 6, .inl t_pullAt)), (h_t_kindOf, .inl (G.2.1, 6, .inl t_kindOf)), (h_t_needsOf, .inl (G.2.1, 6, .inl t_needsOf)), (h_t_longOf, .inl (G.2.1, 9, .inl t_longOf)), (h_t_peals, .inl (G.2.1, 400, .inl t_peals)), (h_t_fromOf, .inl (G.2.1, 9, .inl t_fromOf)), (h_t_toOf, .inl (G.2.1, 9, .inl t_toOf)), (h_t_heardSince, .inl (G.2.1, 6, .inl t_heardSince))] rfl rfl rfl (by decide) (st2 := [.int u36, .int (t_swings (Int32.toNatClampNeg ((6 : Int32) * x4))), .int ((6 : Int32) * x4), .ref h_t_swings]) rfl ?_
            refine k_if_eq 98 cx (tgt := 110) dX7_swingAll_98 (by decide) hm (fun hc hm => ?_) (fun hc hm => ?_)
            · refine k_iconst 110 cx (v := (0 : Int32)) dX7_swingAll_110 (by decide) ?_
              refine k_iadd 111 cx dX7_swingAll_111 ?_
              refine k_iast 112 cx dX7_swingAll_112 2 rfl (fun f37 => (w_X7_swingAll G h_t h_t_pullOf h_t_swings h_t_pullAt h_t_kindOf h_t_needsOf h_t_longOf h_t_peals h_t_fromOf h_t_toOf h_t_heardSince h_t_readKind h_t_readNeeds h_t_readFrom h_t_readTo h_t_readLong h_t_lastRang h_t_readingOf h_t_readingAt h_t_readingIs h_t_sheetSize h_t_sheetLane h_t_sheet h_t_hands t_fault t_bells t_tied t_ropes t_spanNow t_readAt t_readBells t_readRopes t_pulls t_readings t_traceNow t_pullOf f37 t_pullAt t_kindOf t_needsOf t_longOf t_peals t_fromOf t_toOf t_heardSince)) (fun _ => rfl) hm (fun f37 hm => ?_)
              refine k_iinc 113 cx dX7_swingAll_113 4 rfl (by decide) (by decide) (fun v38 => [(4, .int v38), (0, .ref h_t), (1, .int x1), (2, .int x2), (3, .int x3)]) (fun _ => rfl) hm (fun v38 hm => ?_)
              refine k_goto 116 cx (tgt := 64) dX7_swingAll_116 (by decide) ?_
              refine k_lv [1, 2, 3, 4, 0] rfl ?_
              exact ih v38 f37 _ hm k0
            · refine k_aload_n 101 cx dX7_swingAll_101 rfl 0 rfl ?_
              refine k_iload 102 cx dX7_swingAll_102 4 rfl ?_
              obtain ⟨u39, hu39, hm⟩ := bnd hm
              refine k_callV 104 cx cwX7_163 (c_X7_needs X.2.1 G h_t h_t_kindOf h_t_needsOf h_t_fromOf h_t_toOf h_t_longOf h_t_readKind h_t_readNeeds h_t_readFrom h_t_readTo h_t_readLong h_t_pullOf h_t_pullAt h_t_peals h_t_swings h_t_lastRang h_t_heardSince h_t_readingOf h_t_readingAt h_t_readingIs h_t_sheetSize h_t_sheetLane h_t_sheet h_t_hands t_fault t_bells t_tied t_ropes t_spanNow t_readAt t_readBells t_readRopes t_pulls t_readings t_traceNow t_kindOf t_needsOf x4 hu39) dX7_swingAll_104 ⟨by decide, by decide⟩ rfl rfl (rest := [.int (t_swings (Int32.toNatClampNeg ((6 : Int32) * x4))), .int ((6 : Int32) * x4), .ref h_t_swings]) rfl (Nat.le_of_ble_eq_true rfl) [0, 4, 5] (by decide) rfl rfl (w2 := (w_X7_swingAll G h_t h_t_pullOf h_t_swings h_t_pullAt h_t_kindOf h_t_needsOf h_t_longOf h_t_peals h_t_fromOf h_t_toOf h_t_heardSince h_t_readKind h_t_readNeeds h_t_readFrom h_t_readTo h_t_readLong h_t_lastRang h_t_readingOf h_t_readingAt h_t_readingIs h_t_sheetSize h_t_sheetLane h_t_sheet h_t_hands t_fault t_bells t_tied t_ropes t_spanNow t_readAt t_readBells t_readRopes t_pulls t_readings t_traceNow t_pullOf t_swings t_pullAt t_kindOf t_needsOf t_longOf t_peals t_fromOf t_toOf t_heardSince)) [1, 2, 3, 6, 7, 8, 9, 10] 11 rfl [(h_t_pullOf, .inl (G.2.1, 6, .inl t_pullOf)), (h_t_swings, .inl (G.2.1, 36, .inl t_swings)), (h_t_pullAt, .inl (G.2.1, 6, .inl t_pullAt)), (h_t_longOf, .inl (G.2.1, 9, .inl t_longOf)), (h_t_peals, .inl (G.2.1, 400, .inl t_peals)), (h_t_fromOf, .inl (G.2.1, 9, .inl t_fromOf)), (h_t_toOf, .inl (G.2.1, 9, .inl t_toOf)), (h_t_heardSince, .inl (G.2.1, 6, .inl t_heardSince))] rfl rfl rfl (by decide) (st2 := [.int u39, .int (t_swings (Int32.toNatClampNeg ((6 : Int32) * x4))), .int ((6 : Int32) * x4), .ref h_t_swings]) rfl ?_
              refine k_goto 107 cx (tgt := 111) dX7_swingAll_107 (by decide) ?_
              refine k_iadd 111 cx dX7_swingAll_111 ?_
              refine k_iast 112 cx dX7_swingAll_112 2 rfl (fun f40 => (w_X7_swingAll G h_t h_t_pullOf h_t_swings h_t_pullAt h_t_kindOf h_t_needsOf h_t_longOf h_t_peals h_t_fromOf h_t_toOf h_t_heardSince h_t_readKind h_t_readNeeds h_t_readFrom h_t_readTo h_t_readLong h_t_lastRang h_t_readingOf h_t_readingAt h_t_readingIs h_t_sheetSize h_t_sheetLane h_t_sheet h_t_hands t_fault t_bells t_tied t_ropes t_spanNow t_readAt t_readBells t_readRopes t_pulls t_readings t_traceNow t_pullOf f40 t_pullAt t_kindOf t_needsOf t_longOf t_peals t_fromOf t_toOf t_heardSince)) (fun _ => rfl) hm (fun f40 hm => ?_)
              refine k_iinc 113 cx dX7_swingAll_113 4 rfl (by decide) (by decide) (fun v41 => [(4, .int v41), (0, .ref h_t), (1, .int x1), (2, .int x2), (3, .int x3)]) (fun _ => rfl) hm (fun v41 hm => ?_)
              refine k_goto 116 cx (tgt := 64) dX7_swingAll_116 (by decide) ?_
              refine k_lv [1, 2, 3, 4, 0] rfl ?_
              exact ih v41 f40 _ hm k0
          · obtain rfl := Option.some.inj hm
            refine k_lv [0, 1, 3] rfl ?_
            exact k0
  have lp122 : ∀ (Q : State → Prop) (A : Nat → Prop) (x1 : Int32) (x3 : Int32) (t_fault : Int32) (t_bells : Int32) (t_tied : Int32) (t_ropes : Int32) (t_spanNow : Int32) (t_readAt : Int32) (t_readBells : Int32) (t_readRopes : Int32) (t_pulls : Int32) (t_readings : Int32) (t_traceNow : Int32) (t_pullOf : (Nat → Int32)) (t_pullAt : (Nat → Int32)) (t_kindOf : (Nat → Int32)) (t_needsOf : (Nat → Int32)) (t_longOf : (Nat → Int32)) (t_peals : (Nat → Int32)) (t_fromOf : (Nat → Int32)) (t_toOf : (Nat → Int32)) (n : Nat) (x4 : Int32) (t_swings : (Nat → Int32)) (t_heardSince : (Nat → Int32)) (y : Int32 × (Nat → Int32) × (Nat → Int32)), L_X7_swingAll_122 x1 x3 t_ropes t_kindOf t_longOf t_peals t_fromOf t_toOf n x4 t_swings t_heardSince = some y → (KJ X Q G A 6 191 [] [] (w_X7_swingAll G h_t h_t_pullOf h_t_swings h_t_pullAt h_t_kindOf h_t_needsOf h_t_longOf h_t_peals h_t_fromOf h_t_toOf h_t_heardSince h_t_readKind h_t_readNeeds h_t_readFrom h_t_readTo h_t_readLong h_t_lastRang h_t_readingOf h_t_readingAt h_t_readingIs h_t_sheetSize h_t_sheetLane h_t_sheet h_t_hands t_fault t_bells t_tied t_ropes t_spanNow t_readAt t_readBells t_readRopes t_pulls t_readings t_traceNow t_pullOf y.2.1 t_pullAt t_kindOf t_needsOf t_longOf t_peals t_fromOf t_toOf y.2.2)) → KJ X Q G A 6 122 [(0, .ref h_t), (1, .int x1), (3, .int x3), (4, .int x4)] [] (w_X7_swingAll G h_t h_t_pullOf h_t_swings h_t_pullAt h_t_kindOf h_t_needsOf h_t_longOf h_t_peals h_t_fromOf h_t_toOf h_t_heardSince h_t_readKind h_t_readNeeds h_t_readFrom h_t_readTo h_t_readLong h_t_lastRang h_t_readingOf h_t_readingAt h_t_readingIs h_t_sheetSize h_t_sheetLane h_t_sheet h_t_hands t_fault t_bells t_tied t_ropes t_spanNow t_readAt t_readBells t_readRopes t_pulls t_readings t_traceNow t_pullOf t_swings t_pullAt t_kindOf t_needsOf t_longOf t_peals t_fromOf t_toOf t_heardSince) := by
    intro Q A x1 x3 t_fault t_bells t_tied t_ropes t_spanNow t_readAt t_readBells t_readRopes t_pulls t_readings t_traceNow t_pullOf t_pullAt t_kindOf t_needsOf t_longOf t_peals t_fromOf t_toOf n
    induction n with
    | zero => intro x4 t_swings t_heardSince y hm _; exact noS hm
    | succ n ih =>
      intro x4 t_swings t_heardSince y hm k0
      rw [L_X7_swingAll_122] at hm
      refine k_iload 122 cx dX7_swingAll_122 3 rfl ?_
      refine k_aload_n 124 cx dX7_swingAll_124 rfl 0 rfl ?_
      refine fgX7_145 125 cx dX7_swingAll_125 0 rfl rfl ?_
      refine k_icmp_ge 128 cx (tgt := 191) dX7_swingAll_128 (by decide) hm (fun hc hm => ?_) (fun hc hm => ?_)
      · obtain rfl := Option.some.inj hm
        refine k_lv [] rfl ?_
        exact k0
      · refine k_iload_n 131 cx dX7_swingAll_131 rfl 1 rfl ?_
        refine k_aload_n 132 cx dX7_swingAll_132 rfl 0 rfl ?_
        refine fgX7_22 133 cx dX7_swingAll_133 0 rfl rfl ?_
        refine k_iload 136 cx dX7_swingAll_136 3 rfl ?_
        refine k_iald 138 cx dX7_swingAll_138 6 rfl hm (fun hm => ?_)
        refine k_isub 139 cx dX7_swingAll_139 ?_
        refine k_nm hm (fun v64 hm => ?_)
        refine k_istore 140 cx dX7_swingAll_140 (by decide) (lv' := [(5, .int v64), (0, .ref h_t), (1, .int x1), (3, .int x3), (4, .int x4)]) rfl ?_
        refine k_iload 142 cx dX7_swingAll_142 4 rfl ?_
        refine k_iload_n 144 cx dX7_swingAll_144 rfl 3 rfl ?_
        refine k_icmp_eq 145 cx (tgt := 185) dX7_swingAll_145 (by decide) hm (fun hc hm => ?_) (fun hc hm => ?_)
        · refine k_iinc 185 cx dX7_swingAll_185 4 rfl (by decide) (by decide) (fun v65 => [(4, .int v65), (5, .int v64), (0, .ref h_t), (1, .int x1), (3, .int x3)]) (fun _ => rfl) hm (fun v65 hm => ?_)
          refine k_goto 188 cx (tgt := 122) dX7_swingAll_188 (by decide) ?_
          refine k_lv [2, 3, 4, 0] rfl ?_
          exact ih v65 t_swings t_heardSince _ hm k0
        · refine k_iload 148 cx dX7_swingAll_148 0 rfl ?_
          refine k_if_lt 150 cx (tgt := 185) dX7_swingAll_150 (by decide) hm (fun hc hm => ?_) (fun hc hm => ?_)
          · refine k_iinc 185 cx dX7_swingAll_185 4 rfl (by decide) (by decide) (fun v66 => [(4, .int v66), (5, .int v64), (0, .ref h_t), (1, .int x1), (3, .int x3)]) (fun _ => rfl) hm (fun v66 hm => ?_)
            refine k_goto 188 cx (tgt := 122) dX7_swingAll_188 (by decide) ?_
            refine k_lv [2, 3, 4, 0] rfl ?_
            exact ih v66 t_swings t_heardSince _ hm k0
          · refine k_aload_n 153 cx dX7_swingAll_153 rfl 1 rfl ?_
            refine fgX7_46 154 cx dX7_swingAll_154 0 rfl rfl ?_
            refine k_iload 157 cx dX7_swingAll_157 0 rfl ?_
            refine k_iald 159 cx dX7_swingAll_159 7 rfl hm (fun hm => ?_)
            refine k_aload_n 160 cx dX7_swingAll_160 rfl 1 rfl ?_
            refine fgX7_16 161 cx dX7_swingAll_161 0 rfl rfl ?_
            refine k_iload 164 cx dX7_swingAll_164 4 rfl ?_
            refine k_iald 166 cx dX7_swingAll_166 8 rfl hm (fun hm => ?_)
            obtain ⟨u67, hu67, hm⟩ := bnd hm
            refine k_callS 167 cx cwX7_166 (c_X7_isIn X.2.1 G (t_peals (Int32.toNatClampNeg v64)) (t_fromOf (Int32.toNatClampNeg x4)) hu67) dX7_swingAll_167 ⟨by decide, by decide⟩ rfl (rest := []) rfl (Nat.le_of_ble_eq_true rfl) [] (by decide) rfl rfl (w2 := (w_X7_swingAll G h_t h_t_pullOf h_t_swings h_t_pullAt h_t_kindOf h_t_needsOf h_t_longOf h_t_peals h_t_fromOf h_t_toOf h_t_heardSince h_t_readKind h_t_readNeeds h_t_readFrom h_t_readTo h_t_readLong h_t_lastRang h_t_readingOf h_t_readingAt h_t_readingIs h_t_sheetSize h_t_sheetLane h_t_sheet h_t_hands t_fault t_bells t_tied t_ropes t_spanNow t_readAt t_readBells t_readRopes t_pulls t_readings t_traceNow t_pullOf t_swings t_pullAt t_kindOf t_needsOf t_longOf t_peals t_fromOf t_toOf t_heardSince)) [0, 1, 2, 3, 4, 5, 6, 7, 8, 9, 10] 11 rfl [(h_t, .inr (7, [.int t_fault, .int t_bells, .ref h_t_kindOf, .ref h_t_needsOf, .int t_tied, .int t_ropes, .ref h_t_fromOf, .ref h_t_toOf, .ref h_t_longOf, .int t_spanNow, .int t_readAt, .int t_readBells, .int t_readRopes, .ref h_t_readKind, .ref h_t_readNeeds, .ref h_t_readFrom, .ref h_t_readTo, .ref h_t_readLong, .int t_pulls, .ref h_t_pullOf, .ref h_t_pullAt, .ref h_t_peals, .ref h_t_swings, .ref h_t_lastRang, .ref h_t_heardSince, .int t_readings, .ref h_t_readingOf, .ref h_t_readingAt, .ref h_t_readingIs, .ref h_t_sheetSize, .ref h_t_sheetLane, .ref h_t_sheet, .ref h_t_hands, .int t_traceNow])), (h_t_pullOf, .inl (G.2.1, 6, .inl t_pullOf)), (h_t_swings, .inl (G.2.1, 36, .inl t_swings)), (h_t_pullAt, .inl (G.2.1, 6, .inl t_pullAt)), (h_t_kindOf, .inl (G.2.1, 6, .inl t_kindOf)), (h_t_needsOf, .inl (G.2.1, 6, .inl t_needsOf)), (h_t_longOf, .inl (G.2.1, 9, .inl t_longOf)), (h_t_peals, .inl (G.2.1, 400, .inl t_peals)), (h_t_fromOf, .inl (G.2.1, 9, .inl t_fromOf)), (h_t_toOf, .inl (G.2.1, 9, .inl t_toOf)), (h_t_heardSince, .inl (G.2.1, 6, .inl t_heardSince))] rfl rfl rfl (by decide) (st2 := [.int u67]) rfl ?_
            refine k_if_eq 170 cx (tgt := 185) dX7_swingAll_170 (by decide) hm (fun hc hm => ?_) (fun hc hm => ?_)
            · refine k_iinc 185 cx dX7_swingAll_185 4 rfl (by decide) (by decide) (fun v68 => [(4, .int v68), (5, .int v64), (0, .ref h_t), (1, .int x1), (3, .int x3)]) (fun _ => rfl) hm (fun v68 hm => ?_)
              refine k_goto 188 cx (tgt := 122) dX7_swingAll_188 (by decide) ?_
              refine k_lv [2, 3, 4, 0] rfl ?_
              exact ih v68 t_swings t_heardSince _ hm k0
            · refine k_aload_n 173 cx dX7_swingAll_173 rfl 1 rfl ?_
              refine k_aload_n 174 cx dX7_swingAll_174 rfl 1 rfl ?_
              refine fgX7_19 175 cx dX7_swingAll_175 0 rfl rfl ?_
              refine k_iload 178 cx dX7_swingAll_178 4 rfl ?_
              refine k_iald 180 cx dX7_swingAll_180 9 rfl hm (fun hm => ?_)
              refine k_iload_n 181 cx dX7_swingAll_181 rfl 2 rfl ?_
              obtain ⟨u69, hu69, hm⟩ := bnd hm
              refine k_callV 182 cx cwX7_173 (c_X7_swingByRope X.2.1 G h_t h_t_heardSince h_t_kindOf h_t_swings h_t_needsOf h_t_fromOf h_t_toOf h_t_longOf h_t_readKind h_t_readNeeds h_t_readFrom h_t_readTo h_t_readLong h_t_pullOf h_t_pullAt h_t_peals h_t_lastRang h_t_readingOf h_t_readingAt h_t_readingIs h_t_sheetSize h_t_sheetLane h_t_sheet h_t_hands t_fault t_bells t_tied t_ropes t_spanNow t_readAt t_readBells t_readRopes t_pulls t_readings t_traceNow t_heardSince t_kindOf t_swings (t_toOf (Int32.toNatClampNeg x4)) x1 hu69) dX7_swingAll_182 ⟨by decide, by decide⟩ rfl rfl (rest := []) rfl (Nat.le_of_ble_eq_true rfl) [0, 10, 4, 2] (by decide) rfl rfl (w2 := (w_X7_swingAll G h_t h_t_pullOf h_t_swings h_t_pullAt h_t_kindOf h_t_needsOf h_t_longOf h_t_peals h_t_fromOf h_t_toOf h_t_heardSince h_t_readKind h_t_readNeeds h_t_readFrom h_t_readTo h_t_readLong h_t_lastRang h_t_readingOf h_t_readingAt h_t_readingIs h_t_sheetSize h_t_sheetLane h_t_sheet h_t_hands t_fault t_bells t_tied t_ropes t_spanNow t_readAt t_readBells t_readRopes t_pulls t_readings t_traceNow t_pullOf u69.2 t_pullAt t_kindOf t_needsOf t_longOf t_peals t_fromOf t_toOf u69.1)) [1, 3, 5, 6, 7, 8, 9] 11 rfl [(h_t_pullOf, .inl (G.2.1, 6, .inl t_pullOf)), (h_t_pullAt, .inl (G.2.1, 6, .inl t_pullAt)), (h_t_needsOf, .inl (G.2.1, 6, .inl t_needsOf)), (h_t_longOf, .inl (G.2.1, 9, .inl t_longOf)), (h_t_peals, .inl (G.2.1, 400, .inl t_peals)), (h_t_fromOf, .inl (G.2.1, 9, .inl t_fromOf)), (h_t_toOf, .inl (G.2.1, 9, .inl t_toOf))] rfl rfl rfl (by decide) (st2 := []) rfl ?_
              refine k_iinc 185 cx dX7_swingAll_185 4 rfl (by decide) (by decide) (fun v70 => [(4, .int v70), (5, .int v64), (0, .ref h_t), (1, .int x1), (3, .int x3)]) (fun _ => rfl) hm (fun v70 hm => ?_)
              refine k_goto 188 cx (tgt := 122) dX7_swingAll_188 (by decide) ?_
              refine k_lv [2, 3, 4, 0] rfl ?_
              exact ih v70 u69.2 u69.1 _ hm k0
  unfold M_X7_swingAll at hm
  refine k_iconst 0 cx (v := (0 : Int32)) dX7_swingAll_0 (by decide) ?_
  refine k_istore 1 cx dX7_swingAll_1 (by decide) (lv' := [(4, .int (0 : Int32)), (0, .ref h_t), (1, .int a1), (2, .int a2), (3, .int a3)]) rfl ?_
  refine k_lv [1, 2, 3, 4, 0] rfl ?_
  obtain ⟨u17, hu17, hm⟩ := bnd hm
  refine lp3 _ _ a1 a2 a3 t_fault t_bells t_tied t_ropes t_spanNow t_readAt t_readBells t_readRopes t_pulls t_readings t_traceNow t_pullOf t_pullAt t_kindOf t_needsOf t_longOf t_peals t_fromOf t_toOf t_heardSince 1000 (0 : Int32) t_swings u17 hu17 ?_
  refine k_iconst 61 cx (v := (0 : Int32)) dX7_swingAll_61 (by decide) ?_
  refine k_istore 62 cx dX7_swingAll_62 (by decide) (lv' := [(4, .int (0 : Int32)), (0, .ref h_t), (1, .int a1), (2, .int a2), (3, .int a3)]) rfl ?_
  refine k_lv [1, 2, 3, 4, 0] rfl ?_
  obtain ⟨u42, hu42, hm⟩ := bnd hm
  refine lp64 _ _ a1 a2 a3 t_fault t_bells t_tied t_ropes t_spanNow t_readAt t_readBells t_readRopes t_pulls t_readings t_traceNow t_pullOf t_pullAt t_kindOf t_needsOf t_longOf t_peals t_fromOf t_toOf t_heardSince 1000 (0 : Int32) u17.2 u42 hu42 ?_
  refine k_iconst 119 cx (v := (0 : Int32)) dX7_swingAll_119 (by decide) ?_
  refine k_istore 120 cx dX7_swingAll_120 (by decide) (lv' := [(4, .int (0 : Int32)), (0, .ref h_t), (1, .int a1), (3, .int a3)]) rfl ?_
  refine k_lv [1, 2, 3, 0] rfl ?_
  obtain ⟨u71, hu71, hm⟩ := bnd hm
  refine lp122 _ _ a1 a3 t_fault t_bells t_tied t_ropes t_spanNow t_readAt t_readBells t_readRopes t_pulls t_readings t_traceNow t_pullOf t_pullAt t_kindOf t_needsOf t_longOf t_peals t_fromOf t_toOf 1000 (0 : Int32) u42.2 t_heardSince u71 hu71 ?_
  obtain rfl := Option.some.inj hm
  exact k_vret 191 cx dX7_swingAll_191 rfl rfl
set_option maxRecDepth 100000 in
theorem fgX7_52 {X : XT} {Q : State → Prop} {G : GT} {A : Nat → Prop} {nL : Nat} {lv : List (Nat × Value)} {st : List Value} {ws : va_W} {cc : ByteArray} {fr lo : Nat} {ret : Option FieldType} (pc : Nat) (cx : Cx X cc nL RX7 G fr lo ret) {a : Nat} {fs : List Value} {v : Value} (hd : decode cc pc = .ok (.getfield 52, 3)) (q0 : Nat) (he : ws[q0]? = some (a, .inr (7, fs))) (hv : fs[23]? = some v) (k : KJ X Q G A nL (pc + 3) lv (v :: st) ws) : KJ X Q G A nL pc lv (.ref a :: st) ws :=
  k_get (ref := RX7) (T := TX7) (N := 34) (ci := 7) pc cx inX7 rfl 23 (by decide) (tb_m (i := 672) rfl rfl) rfl hd q0 he hv k
def w_X7_doesRing (G : GT) (h_t : Nat) (h_t_lastRang : Nat) (h_t_swings : Nat) (h_t_kindOf : Nat) (h_t_needsOf : Nat) (h_t_fromOf : Nat) (h_t_toOf : Nat) (h_t_longOf : Nat) (h_t_readKind : Nat) (h_t_readNeeds : Nat) (h_t_readFrom : Nat) (h_t_readTo : Nat) (h_t_readLong : Nat) (h_t_pullOf : Nat) (h_t_pullAt : Nat) (h_t_peals : Nat) (h_t_heardSince : Nat) (h_t_readingOf : Nat) (h_t_readingAt : Nat) (h_t_readingIs : Nat) (h_t_sheetSize : Nat) (h_t_sheetLane : Nat) (h_t_sheet : Nat) (h_t_hands : Nat) (t_fault : Int32) (t_bells : Int32) (t_tied : Int32) (t_ropes : Int32) (t_spanNow : Int32) (t_readAt : Int32) (t_readBells : Int32) (t_readRopes : Int32) (t_pulls : Int32) (t_readings : Int32) (t_traceNow : Int32) (t_lastRang : (Nat → Int32)) (t_swings : (Nat → Int32)) (t_kindOf : (Nat → Int32)) (t_needsOf : (Nat → Int32)) : va_W := [(h_t, .inr (7, [.int t_fault, .int t_bells, .ref h_t_kindOf, .ref h_t_needsOf, .int t_tied, .int t_ropes, .ref h_t_fromOf, .ref h_t_toOf, .ref h_t_longOf, .int t_spanNow, .int t_readAt, .int t_readBells, .int t_readRopes, .ref h_t_readKind, .ref h_t_readNeeds, .ref h_t_readFrom, .ref h_t_readTo, .ref h_t_readLong, .int t_pulls, .ref h_t_pullOf, .ref h_t_pullAt, .ref h_t_peals, .ref h_t_swings, .ref h_t_lastRang, .ref h_t_heardSince, .int t_readings, .ref h_t_readingOf, .ref h_t_readingAt, .ref h_t_readingIs, .ref h_t_sheetSize, .ref h_t_sheetLane, .ref h_t_sheet, .ref h_t_hands, .int t_traceNow])), (h_t_lastRang, .inl (G.2.1, 6, .inl t_lastRang)), (h_t_swings, .inl (G.2.1, 36, .inl t_swings)), (h_t_kindOf, .inl (G.2.1, 6, .inl t_kindOf)), (h_t_needsOf, .inl (G.2.1, 6, .inl t_needsOf))]
def L_X7_doesRing_5 (x1 : Int32) (x2 : Int32) (t_spanNow : Int32) (t_lastRang : (Nat → Int32)) (t_swings : (Nat → Int32)) : Nat → Int32 → Int32 → Option (Int32 × Int32)
  | 0, _, _ => none
  | n + 1, x3, x4 => (if x4 < 0 then (some (x3, x4)) else (if x4 < (x2 - t_spanNow) then (some (x3, x4)) else (gB (inb x1 6) (if x4 ≤ (t_lastRang (Int32.toNatClampNeg x1)) then (some (x3, x4)) else (gB (inb (((6 : Int32) * x1) + (x4 - x4 / (6 : Int32) * (6 : Int32))) 36) (nme (x3 + (t_swings (Int32.toNatClampNeg (((6 : Int32) * x1) + (x4 - x4 / (6 : Int32) * (6 : Int32)))))) (fun v7 => (nme (x4 + (-1 : Int32)) (fun v8 => (L_X7_doesRing_5 x1 x2 t_spanNow t_lastRang t_swings n v7 v8))))))))))
def M_X7_doesRing (t_tied : Int32) (t_spanNow : Int32) (t_lastRang : (Nat → Int32)) (t_swings : (Nat → Int32)) (t_kindOf : (Nat → Int32)) (t_needsOf : (Nat → Int32)) (a1 : Int32) (a2 : Int32) : Option (Int32) := ((L_X7_doesRing_5 a1 a2 t_spanNow t_lastRang t_swings 1000 (0 : Int32) a2).bind (fun u9 => ((M_X7_isIn t_tied a1).bind (fun u10 => (if u10 = 0 then ((M_X7_needs t_kindOf t_needsOf a1).bind (fun u11 => (if u9.1 < u11 then (some (0 : Int32)) else (some (1 : Int32))))) else (some (0 : Int32)))))))
set_option maxHeartbeats 4000000 in
set_option maxRecDepth 100000 in
theorem c_X7_doesRing (l : Launch) (G : GT) (h_t : Nat) (h_t_lastRang : Nat) (h_t_swings : Nat) (h_t_kindOf : Nat) (h_t_needsOf : Nat) (h_t_fromOf : Nat) (h_t_toOf : Nat) (h_t_longOf : Nat) (h_t_readKind : Nat) (h_t_readNeeds : Nat) (h_t_readFrom : Nat) (h_t_readTo : Nat) (h_t_readLong : Nat) (h_t_pullOf : Nat) (h_t_pullAt : Nat) (h_t_peals : Nat) (h_t_heardSince : Nat) (h_t_readingOf : Nat) (h_t_readingAt : Nat) (h_t_readingIs : Nat) (h_t_sheetSize : Nat) (h_t_sheetLane : Nat) (h_t_sheet : Nat) (h_t_hands : Nat) (t_fault : Int32) (t_bells : Int32) (t_tied : Int32) (t_ropes : Int32) (t_spanNow : Int32) (t_readAt : Int32) (t_readBells : Int32) (t_readRopes : Int32) (t_pulls : Int32) (t_readings : Int32) (t_traceNow : Int32) (t_lastRang : (Nat → Int32)) (t_swings : (Nat → Int32)) (t_kindOf : (Nat → Int32)) (t_needsOf : (Nat → Int32)) (a1 : Int32) (a2 : Int32) {u : Int32} (hm : M_X7_doesRing t_tied t_spanNow t_lastRang t_swings t_kindOf t_needsOf a1 a2 = some u) : CT l yX7_doesRing cX7_doesRing 5 (some .boolean) 1 21 [.ref h_t, .int a1, .int a2] G (w_X7_doesRing G h_t h_t_lastRang h_t_swings h_t_kindOf h_t_needsOf h_t_fromOf h_t_toOf h_t_longOf h_t_readKind h_t_readNeeds h_t_readFrom h_t_readTo h_t_readLong h_t_pullOf h_t_pullAt h_t_peals h_t_heardSince h_t_readingOf h_t_readingAt h_t_readingIs h_t_sheetSize h_t_sheetLane h_t_sheet h_t_hands t_fault t_bells t_tied t_ropes t_spanNow t_readAt t_readBells t_readRopes t_pulls t_readings t_traceNow t_lastRang t_swings t_kindOf t_needsOf) (some (.int u)) (w_X7_doesRing G h_t h_t_lastRang h_t_swings h_t_kindOf h_t_needsOf h_t_fromOf h_t_toOf h_t_longOf h_t_readKind h_t_readNeeds h_t_readFrom h_t_readTo h_t_readLong h_t_pullOf h_t_pullAt h_t_peals h_t_heardSince h_t_readingOf h_t_readingAt h_t_readingIs h_t_sheetSize h_t_sheetLane h_t_sheet h_t_hands t_fault t_bells t_tied t_ropes t_spanNow t_readAt t_readBells t_readRopes t_pulls t_readings t_traceNow t_lastRang t_swings t_kindOf t_needsOf) := by
  refine ct_intro RX7 [(0, .ref h_t), (1, .int a1), (2, .int a2)] (by decide) rfl (Nat.le_of_ble_eq_true rfl) rfl (fun X hX cx => ?_)
  have lp5 : ∀ (Q : State → Prop) (A : Nat → Prop) (x1 : Int32) (x2 : Int32) (t_fault : Int32) (t_bells : Int32) (t_tied : Int32) (t_ropes : Int32) (t_spanNow : Int32) (t_readAt : Int32) (t_readBells : Int32) (t_readRopes : Int32) (t_pulls : Int32) (t_readings : Int32) (t_traceNow : Int32) (t_lastRang : (Nat → Int32)) (t_swings : (Nat → Int32)) (t_kindOf : (Nat → Int32)) (t_needsOf : (Nat → Int32)) (n : Nat) (x3 : Int32) (x4 : Int32) (y : Int32 × Int32), L_X7_doesRing_5 x1 x2 t_spanNow t_lastRang t_swings n x3 x4 = some y → (KJ X Q G A 5 56 [(0, .ref h_t), (1, .int x1), (3, .int y.1)] [] (w_X7_doesRing G h_t h_t_lastRang h_t_swings h_t_kindOf h_t_needsOf h_t_fromOf h_t_toOf h_t_longOf h_t_readKind h_t_readNeeds h_t_readFrom h_t_readTo h_t_readLong h_t_pullOf h_t_pullAt h_t_peals h_t_heardSince h_t_readingOf h_t_readingAt h_t_readingIs h_t_sheetSize h_t_sheetLane h_t_sheet h_t_hands t_fault t_bells t_tied t_ropes t_spanNow t_readAt t_readBells t_readRopes t_pulls t_readings t_traceNow t_lastRang t_swings t_kindOf t_needsOf)) → KJ X Q G A 5 5 [(0, .ref h_t), (1, .int x1), (2, .int x2), (3, .int x3), (4, .int x4)] [] (w_X7_doesRing G h_t h_t_lastRang h_t_swings h_t_kindOf h_t_needsOf h_t_fromOf h_t_toOf h_t_longOf h_t_readKind h_t_readNeeds h_t_readFrom h_t_readTo h_t_readLong h_t_pullOf h_t_pullAt h_t_peals h_t_heardSince h_t_readingOf h_t_readingAt h_t_readingIs h_t_sheetSize h_t_sheetLane h_t_sheet h_t_hands t_fault t_bells t_tied t_ropes t_spanNow t_readAt t_readBells t_readRopes t_pulls t_readings t_traceNow t_lastRang t_swings t_kindOf t_needsOf) := by
    intro Q A x1 x2 t_fault t_bells t_tied t_ropes t_spanNow t_readAt t_readBells t_readRopes t_pulls t_readings t_traceNow t_lastRang t_swings t_kindOf t_needsOf n
    induction n with
    | zero => intro x3 x4 y hm _; exact noS hm
    | succ n ih =>
      intro x3 x4 y hm k0
      rw [L_X7_doesRing_5] at hm
      refine k_iload 5 cx dX7_doesRing_5 4 rfl ?_
      refine k_if_lt 7 cx (tgt := 56) dX7_doesRing_7 (by decide) hm (fun hc hm => ?_) (fun hc hm => ?_)
      · obtain rfl := Option.some.inj hm
        refine k_lv [0, 1, 3] rfl ?_
        exact k0
      · refine k_iload 10 cx dX7_doesRing_10 4 rfl ?_
        refine k_iload_n 12 cx dX7_doesRing_12 rfl 2 rfl ?_
        refine k_aload_n 13 cx dX7_doesRing_13 rfl 0 rfl ?_
        refine fgX7_151 14 cx dX7_doesRing_14 0 rfl rfl ?_
        refine k_isub 17 cx dX7_doesRing_17 ?_
        refine k_icmp_lt 18 cx (tgt := 56) dX7_doesRing_18 (by decide) hm (fun hc hm => ?_) (fun hc hm => ?_)
        · obtain rfl := Option.some.inj hm
          refine k_lv [0, 1, 3] rfl ?_
          exact k0
        · refine k_iload 21 cx dX7_doesRing_21 4 rfl ?_
          refine k_aload_n 23 cx dX7_doesRing_23 rfl 0 rfl ?_
          refine fgX7_52 24 cx dX7_doesRing_24 0 rfl rfl ?_
          refine k_iload_n 27 cx dX7_doesRing_27 rfl 1 rfl ?_
          refine k_iald 28 cx dX7_doesRing_28 1 rfl hm (fun hm => ?_)
          refine k_icmp_le 29 cx (tgt := 56) dX7_doesRing_29 (by decide) hm (fun hc hm => ?_) (fun hc hm => ?_)
          · obtain rfl := Option.some.inj hm
            refine k_lv [0, 1, 3] rfl ?_
            exact k0
          · refine k_iload_n 32 cx dX7_doesRing_32 rfl 3 rfl ?_
            refine k_aload_n 33 cx dX7_doesRing_33 rfl 0 rfl ?_
            refine fgX7_49 34 cx dX7_doesRing_34 0 rfl rfl ?_
            refine k_bipush 37 cx (v := (6 : Int32)) dX7_doesRing_37 (by decide) ?_
            refine k_iload_n 39 cx dX7_doesRing_39 rfl 1 rfl ?_
            refine k_imul 40 cx dX7_doesRing_40 ?_
            refine k_iload 41 cx dX7_doesRing_41 4 rfl ?_
            refine k_bipush 43 cx (v := (6 : Int32)) dX7_doesRing_43 (by decide) ?_
            refine k_irem_c 45 cx dX7_doesRing_45 (by decide) ?_
            refine k_iadd 46 cx dX7_doesRing_46 ?_
            refine k_iald 47 cx dX7_doesRing_47 2 rfl hm (fun hm => ?_)
            refine k_iadd 48 cx dX7_doesRing_48 ?_
            refine k_nm hm (fun v7 hm => ?_)
            refine k_istore_n 49 cx dX7_doesRing_49 rfl (by decide) (lv' := [(3, .int v7), (0, .ref h_t), (1, .int x1), (2, .int x2), (4, .int x4)]) rfl ?_
            refine k_iinc 50 cx dX7_doesRing_50 4 rfl (by decide) (by decide) (fun v8 => [(4, .int v8), (3, .int v7), (0, .ref h_t), (1, .int x1), (2, .int x2)]) (fun _ => rfl) hm (fun v8 hm => ?_)
            refine k_goto 53 cx (tgt := 5) dX7_doesRing_53 (by decide) ?_
            refine k_lv [2, 3, 4, 1, 0] rfl ?_
            exact ih v7 v8 _ hm k0
  unfold M_X7_doesRing at hm
  refine k_iconst 0 cx (v := (0 : Int32)) dX7_doesRing_0 (by decide) ?_
  refine k_istore_n 1 cx dX7_doesRing_1 rfl (by decide) (lv' := [(3, .int (0 : Int32)), (0, .ref h_t), (1, .int a1), (2, .int a2)]) rfl ?_
  refine k_iload_n 2 cx dX7_doesRing_2 rfl 3 rfl ?_
  refine k_istore 3 cx dX7_doesRing_3 (by decide) (lv' := [(4, .int a2), (3, .int (0 : Int32)), (0, .ref h_t), (1, .int a1), (2, .int a2)]) rfl ?_
  refine k_lv [2, 3, 4, 1, 0] rfl ?_
  obtain ⟨u9, hu9, hm⟩ := bnd hm
  refine lp5 _ _ a1 a2 t_fault t_bells t_tied t_ropes t_spanNow t_readAt t_readBells t_readRopes t_pulls t_readings t_traceNow t_lastRang t_swings t_kindOf t_needsOf 1000 (0 : Int32) a2 u9 hu9 ?_
  refine k_aload_n 56 cx dX7_doesRing_56 rfl 0 rfl ?_
  refine fgX7_148 57 cx dX7_doesRing_57 0 rfl rfl ?_
  refine k_iload_n 60 cx dX7_doesRing_60 rfl 1 rfl ?_
  obtain ⟨u10, hu10, hm⟩ := bnd hm
  refine k_callS 61 cx cwX7_166 (c_X7_isIn X.2.1 G t_tied a1 hu10) dX7_doesRing_61 ⟨by decide, by decide⟩ rfl (rest := []) rfl (Nat.le_of_ble_eq_true rfl) [] (by decide) rfl rfl (w2 := (w_X7_doesRing G h_t h_t_lastRang h_t_swings h_t_kindOf h_t_needsOf h_t_fromOf h_t_toOf h_t_longOf h_t_readKind h_t_readNeeds h_t_readFrom h_t_readTo h_t_readLong h_t_pullOf h_t_pullAt h_t_peals h_t_heardSince h_t_readingOf h_t_readingAt h_t_readingIs h_t_sheetSize h_t_sheetLane h_t_sheet h_t_hands t_fault t_bells t_tied t_ropes t_spanNow t_readAt t_readBells t_readRopes t_pulls t_readings t_traceNow t_lastRang t_swings t_kindOf t_needsOf)) [0, 1, 2, 3, 4] 5 rfl [(h_t, .inr (7, [.int t_fault, .int t_bells, .ref h_t_kindOf, .ref h_t_needsOf, .int t_tied, .int t_ropes, .ref h_t_fromOf, .ref h_t_toOf, .ref h_t_longOf, .int t_spanNow, .int t_readAt, .int t_readBells, .int t_readRopes, .ref h_t_readKind, .ref h_t_readNeeds, .ref h_t_readFrom, .ref h_t_readTo, .ref h_t_readLong, .int t_pulls, .ref h_t_pullOf, .ref h_t_pullAt, .ref h_t_peals, .ref h_t_swings, .ref h_t_lastRang, .ref h_t_heardSince, .int t_readings, .ref h_t_readingOf, .ref h_t_readingAt, .ref h_t_readingIs, .ref h_t_sheetSize, .ref h_t_sheetLane, .ref h_t_sheet, .ref h_t_hands, .int t_traceNow])), (h_t_lastRang, .inl (G.2.1, 6, .inl t_lastRang)), (h_t_swings, .inl (G.2.1, 36, .inl t_swings)), (h_t_kindOf, .inl (G.2.1, 6, .inl t_kindOf)), (h_t_needsOf, .inl (G.2.1, 6, .inl t_needsOf))] rfl rfl rfl (by decide) (st2 := [.int u10]) rfl ?_
  refine k_if_ne 64 cx (tgt := 80) dX7_doesRing_64 (by decide) hm (fun hc hm => ?_) (fun hc hm => ?_)
  · refine k_iload_n 67 cx dX7_doesRing_67 rfl 2 rfl ?_
    refine k_aload_n 68 cx dX7_doesRing_68 rfl 0 rfl ?_
    refine k_iload_n 69 cx dX7_doesRing_69 rfl 1 rfl ?_
    obtain ⟨u11, hu11, hm⟩ := bnd hm
    refine k_callV 70 cx cwX7_163 (c_X7_needs X.2.1 G h_t h_t_kindOf h_t_needsOf h_t_fromOf h_t_toOf h_t_longOf h_t_readKind h_t_readNeeds h_t_readFrom h_t_readTo h_t_readLong h_t_pullOf h_t_pullAt h_t_peals h_t_swings h_t_lastRang h_t_heardSince h_t_readingOf h_t_readingAt h_t_readingIs h_t_sheetSize h_t_sheetLane h_t_sheet h_t_hands t_fault t_bells t_tied t_ropes t_spanNow t_readAt t_readBells t_readRopes t_pulls t_readings t_traceNow t_kindOf t_needsOf a1 hu11) dX7_doesRing_70 ⟨by decide, by decide⟩ rfl rfl (rest := [.int u9.1]) rfl (Nat.le_of_ble_eq_true rfl) [0, 3, 4] (by decide) rfl rfl (w2 := (w_X7_doesRing G h_t h_t_lastRang h_t_swings h_t_kindOf h_t_needsOf h_t_fromOf h_t_toOf h_t_longOf h_t_readKind h_t_readNeeds h_t_readFrom h_t_readTo h_t_readLong h_t_pullOf h_t_pullAt h_t_peals h_t_heardSince h_t_readingOf h_t_readingAt h_t_readingIs h_t_sheetSize h_t_sheetLane h_t_sheet h_t_hands t_fault t_bells t_tied t_ropes t_spanNow t_readAt t_readBells t_readRopes t_pulls t_readings t_traceNow t_lastRang t_swings t_kindOf t_needsOf)) [1, 2] 5 rfl [(h_t_lastRang, .inl (G.2.1, 6, .inl t_lastRang)), (h_t_swings, .inl (G.2.1, 36, .inl t_swings))] rfl rfl rfl (by decide) (st2 := [.int u11, .int u9.1]) rfl ?_
    refine k_icmp_lt 73 cx (tgt := 80) dX7_doesRing_73 (by decide) hm (fun hc hm => ?_) (fun hc hm => ?_)
    · refine k_iconst 80 cx (v := (0 : Int32)) dX7_doesRing_80 (by decide) ?_
      obtain rfl := Option.some.inj hm
      exact k_zret 81 cx dX7_doesRing_81 (by decide) rfl rfl
    · refine k_iconst 76 cx (v := (1 : Int32)) dX7_doesRing_76 (by decide) ?_
      refine k_goto 77 cx (tgt := 81) dX7_doesRing_77 (by decide) ?_
      obtain rfl := Option.some.inj hm
      exact k_zret 81 cx dX7_doesRing_81 (by decide) rfl rfl
  · refine k_iconst 80 cx (v := (0 : Int32)) dX7_doesRing_80 (by decide) ?_
    obtain rfl := Option.some.inj hm
    exact k_zret 81 cx dX7_doesRing_81 (by decide) rfl rfl
set_option maxRecDepth 100000 in
theorem cwX7_177 : CWV RX7 177 RX7 yX7_swingAll cX7_swingAll 6 none 3 7 TX7 34 := ⟨tb_m (i := 848) rfl rfl, tb_m (i := 850) rfl rfl, tb_m (i := 40) rfl rfl, tb_m (i := 58) rfl rfl, tb_m (i := 851) rfl rfl, ⟨by decide +kernel, by decide +kernel, by decide +kernel⟩, rfl⟩
set_option maxRecDepth 100000 in
theorem cwX7_181 : CWV RX7 181 RX7 yX7_doesRing cX7_doesRing 5 (some .boolean) 2 7 TX7 34 := ⟨tb_m (i := 856) rfl rfl, tb_m (i := 858) rfl rfl, tb_m (i := 42) rfl rfl, tb_m (i := 58) rfl rfl, tb_m (i := 859) rfl rfl, ⟨by decide +kernel, by decide +kernel, by decide +kernel⟩, rfl⟩
def w_X7_go (G : GT) (h_t : Nat) (h_t_lastRang : Nat) (h_t_heardSince : Nat) (h_t_swings : Nat) (h_t_peals : Nat) (h_t_pullOf : Nat) (h_t_pullAt : Nat) (h_t_kindOf : Nat) (h_t_needsOf : Nat) (h_t_longOf : Nat) (h_t_fromOf : Nat) (h_t_toOf : Nat) (h_t_readKind : Nat) (h_t_readNeeds : Nat) (h_t_readFrom : Nat) (h_t_readTo : Nat) (h_t_readLong : Nat) (h_t_readingOf : Nat) (h_t_readingAt : Nat) (h_t_readingIs : Nat) (h_t_sheetSize : Nat) (h_t_sheetLane : Nat) (h_t_sheet : Nat) (h_t_hands : Nat) (t_fault : Int32) (t_bells : Int32) (t_tied : Int32) (t_ropes : Int32) (t_spanNow : Int32) (t_readAt : Int32) (t_readBells : Int32) (t_readRopes : Int32) (t_pulls : Int32) (t_readings : Int32) (t_traceNow : Int32) (t_lastRang : (Nat → Int32)) (t_heardSince : (Nat → Int32)) (t_swings : (Nat → Int32)) (t_peals : (Nat → Int32)) (t_pullOf : (Nat → Int32)) (t_pullAt : (Nat → Int32)) (t_kindOf : (Nat → Int32)) (t_needsOf : (Nat → Int32)) (t_longOf : (Nat → Int32)) (t_fromOf : (Nat → Int32)) (t_toOf : (Nat → Int32)) : va_W := [(h_t, .inr (7, [.int t_fault, .int t_bells, .ref h_t_kindOf, .ref h_t_needsOf, .int t_tied, .int t_ropes, .ref h_t_fromOf, .ref h_t_toOf, .ref h_t_longOf, .int t_spanNow, .int t_readAt, .int t_readBells, .int t_readRopes, .ref h_t_readKind, .ref h_t_readNeeds, .ref h_t_readFrom, .ref h_t_readTo, .ref h_t_readLong, .int t_pulls, .ref h_t_pullOf, .ref h_t_pullAt, .ref h_t_peals, .ref h_t_swings, .ref h_t_lastRang, .ref h_t_heardSince, .int t_readings, .ref h_t_readingOf, .ref h_t_readingAt, .ref h_t_readingIs, .ref h_t_sheetSize, .ref h_t_sheetLane, .ref h_t_sheet, .ref h_t_hands, .int t_traceNow])), (h_t_lastRang, .inl (G.2.1, 6, .inl t_lastRang)), (h_t_heardSince, .inl (G.2.1, 6, .inl t_heardSince)), (h_t_swings, .inl (G.2.1, 36, .inl t_swings)), (h_t_peals, .inl (G.2.1, 400, .inl t_peals)), (h_t_pullOf, .inl (G.2.1, 6, .inl t_pullOf)), (h_t_pullAt, .inl (G.2.1, 6, .inl t_pullAt)), (h_t_kindOf, .inl (G.2.1, 6, .inl t_kindOf)), (h_t_needsOf, .inl (G.2.1, 6, .inl t_needsOf)), (h_t_longOf, .inl (G.2.1, 9, .inl t_longOf)), (h_t_fromOf, .inl (G.2.1, 9, .inl t_fromOf)), (h_t_toOf, .inl (G.2.1, 9, .inl t_toOf))]
def L_X7_go_3 : Nat → Int32 → (Nat → Int32) → (Nat → Int32) → Option (Int32 × (Nat → Int32) × (Nat → Int32))
  | 0, _, _, _ => none
  | n + 1, x4, t_lastRang, t_heardSince => (if (6 : Int32) ≤ x4 then (some (x4, t_lastRang, t_heardSince)) else (gB (inb x4 6) (nme (upd t_lastRang (Int32.toNatClampNeg x4) (-1 : Int32)) (fun f10 => (gB (inb x4 6) (nme (upd t_heardSince (Int32.toNatClampNeg x4) (0 : Int32)) (fun f11 => (nme (x4 + (1 : Int32)) (fun v12 => (L_X7_go_3 n v12 f10 f11))))))))))
def L_X7_go_35 : Nat → Int32 → (Nat → Int32) → Option (Int32 × (Nat → Int32))
  | 0, _, _ => none
  | n + 1, x4, t_swings => (if (36 : Int32) ≤ x4 then (some (x4, t_swings)) else (gB (inb x4 36) (nme (upd t_swings (Int32.toNatClampNeg x4) (0 : Int32)) (fun f20 => (nme (x4 + (1 : Int32)) (fun v21 => (L_X7_go_35 n v21 f20)))))))
def L_X7_go_76 (x4 : Int32) : Nat → Int32 → (Nat → Int32) → Option (Int32 × (Nat → Int32))
  | 0, _, _ => none
  | n + 1, x5, t_swings => (if (6 : Int32) ≤ x5 then (some (x5, t_swings)) else (gB (inb (((6 : Int32) * x5) + (x4 - x4 / (6 : Int32) * (6 : Int32))) 36) (nme (upd t_swings (Int32.toNatClampNeg (((6 : Int32) * x5) + (x4 - x4 / (6 : Int32) * (6 : Int32)))) (0 : Int32)) (fun f30 => (nme (x5 + (1 : Int32)) (fun v31 => (L_X7_go_76 x4 n v31 f30)))))))
def L_X7_go_117 (x4 : Int32) (t_bells : Int32) (t_tied : Int32) (t_spanNow : Int32) (t_lastRang : (Nat → Int32)) (t_swings : (Nat → Int32)) (t_kindOf : (Nat → Int32)) (t_needsOf : (Nat → Int32)) : Nat → Int32 → (Nat → Int32) → Option (Int32 × (Nat → Int32))
  | 0, _, _ => none
  | n + 1, x5, t_peals => (if t_bells ≤ x5 then (some (x5, t_peals)) else ((M_X7_doesRing t_tied t_spanNow t_lastRang t_swings t_kindOf t_needsOf x5 x4).bind (fun u46 => (if u46 = 0 then (nme (x5 + (1 : Int32)) (fun v47 => (L_X7_go_117 x4 t_bells t_tied t_spanNow t_lastRang t_swings t_kindOf t_needsOf n v47 t_peals))) else (gB (inb x4 400) (gB (inb x4 400) (nme (upd t_peals (Int32.toNatClampNeg x4) ((t_peals (Int32.toNatClampNeg x4)) ||| ((1 : Int32) <<< (x5 &&& 31)))) (fun f48 => (nme (x5 + (1 : Int32)) (fun v49 => (L_X7_go_117 x4 t_bells t_tied t_spanNow t_lastRang t_swings t_kindOf t_needsOf n v49 f48)))))))))))
def L_X7_go_160 (x4 : Int32) (t_bells : Int32) (t_peals : (Nat → Int32)) : Nat → Int32 → (Nat → Int32) → (Nat → Int32) → Option (Int32 × (Nat → Int32) × (Nat → Int32))
  | 0, _, _, _ => none
  | n + 1, x5, t_lastRang, t_heardSince => (if t_bells ≤ x5 then (some (x5, t_lastRang, t_heardSince)) else (gB (inb x4 400) ((M_X7_isIn (t_peals (Int32.toNatClampNeg x4)) x5).bind (fun u84 => (if u84 = 0 then (gB (inb x5 6) (gB (inb x5 6) (nme (upd t_lastRang (Int32.toNatClampNeg x5) (t_lastRang (Int32.toNatClampNeg x5))) (fun f85 => (if u84 = 0 then (gB (inb x5 6) (gB (inb x5 6) (nme (upd t_heardSince (Int32.toNatClampNeg x5) (t_heardSince (Int32.toNatClampNeg x5))) (fun f86 => (nme (x5 + (1 : Int32)) (fun v87 => (L_X7_go_160 x4 t_bells t_peals n v87 f85 f86))))))) else (gB (inb x5 6) (nme (upd t_heardSince (Int32.toNatClampNeg x5) (0 : Int32)) (fun f88 => (nme (x5 + (1 : Int32)) (fun v89 => (L_X7_go_160 x4 t_bells t_peals n v89 f85 f88))))))))))) else (gB (inb x5 6) (nme (upd t_lastRang (Int32.toNatClampNeg x5) x4) (fun f90 => (if u84 = 0 then (gB (inb x5 6) (gB (inb x5 6) (nme (upd t_heardSince (Int32.toNatClampNeg x5) (t_heardSince (Int32.toNatClampNeg x5))) (fun f91 => (nme (x5 + (1 : Int32)) (fun v92 => (L_X7_go_160 x4 t_bells t_peals n v92 f90 f91))))))) else (gB (inb x5 6) (nme (upd t_heardSince (Int32.toNatClampNeg x5) (0 : Int32)) (fun f93 => (nme (x5 + (1 : Int32)) (fun v94 => (L_X7_go_160 x4 t_bells t_peals n v94 f90 f93)))))))))))))))
def L_X7_go_59 (x1 : Int32) (x2 : Int32) (x3 : Int32) (t_bells : Int32) (t_tied : Int32) (t_ropes : Int32) (t_spanNow : Int32) (t_pulls : Int32) (t_pullOf : (Nat → Int32)) (t_pullAt : (Nat → Int32)) (t_kindOf : (Nat → Int32)) (t_needsOf : (Nat → Int32)) (t_longOf : (Nat → Int32)) (t_fromOf : (Nat → Int32)) (t_toOf : (Nat → Int32)) : Nat → Int32 → (Nat → Int32) → (Nat → Int32) → (Nat → Int32) → (Nat → Int32) → Option (Int32 × (Nat → Int32) × (Nat → Int32) × (Nat → Int32) × (Nat → Int32))
  | 0, _, _, _, _, _ => none
  | n + 1, x4, t_lastRang, t_heardSince, t_swings, t_peals => (if x1 ≤ x4 then (some (x4, t_lastRang, t_heardSince, t_swings, t_peals)) else (gB (inb x4 400) (nme (upd t_peals (Int32.toNatClampNeg x4) (0 : Int32)) (fun f109 => ((L_X7_go_76 x4 1000 (0 : Int32) t_swings).bind (fun u110 => ((M_X7_swingAll t_bells t_ropes t_pulls t_pullOf u110.2 t_pullAt t_kindOf t_needsOf t_longOf f109 t_fromOf t_toOf t_heardSince x4 x2 x3).bind (fun u111 => ((L_X7_go_117 x4 t_bells t_tied t_spanNow t_lastRang u111.1 t_kindOf t_needsOf 1000 (0 : Int32) f109).bind (fun u112 => ((L_X7_go_160 x4 t_bells u112.2 1000 (0 : Int32) t_lastRang u111.2).bind (fun u113 => (nme (x4 + (1 : Int32)) (fun v114 => (L_X7_go_59 x1 x2 x3 t_bells t_tied t_ropes t_spanNow t_pulls t_pullOf t_pullAt t_kindOf t_needsOf t_longOf t_fromOf t_toOf n v114 u113.2.1 u113.2.2 u111.1 u112.2)))))))))))))))
def M_X7_go (t_bells : Int32) (t_tied : Int32) (t_ropes : Int32) (t_spanNow : Int32) (t_pulls : Int32) (t_lastRang : (Nat → Int32)) (t_heardSince : (Nat → Int32)) (t_swings : (Nat → Int32)) (t_peals : (Nat → Int32)) (t_pullOf : (Nat → Int32)) (t_pullAt : (Nat → Int32)) (t_kindOf : (Nat → Int32)) (t_needsOf : (Nat → Int32)) (t_longOf : (Nat → Int32)) (t_fromOf : (Nat → Int32)) (t_toOf : (Nat → Int32)) (a1 : Int32) (a2 : Int32) (a3 : Int32) : Option ((Nat → Int32) × (Nat → Int32) × (Nat → Int32) × (Nat → Int32)) := ((L_X7_go_3 1000 (0 : Int32) t_lastRang t_heardSince).bind (fun u13 => ((L_X7_go_35 1000 (0 : Int32) t_swings).bind (fun u22 => ((L_X7_go_59 a1 a2 a3 t_bells t_tied t_ropes t_spanNow t_pulls t_pullOf t_pullAt t_kindOf t_needsOf t_longOf t_fromOf t_toOf 1000 (0 : Int32) u13.2.1 u13.2.2 u22.2 t_peals).bind (fun u115 => (some (u115.2.1, u115.2.2.1, u115.2.2.2.1, u115.2.2.2.2))))))))
set_option maxHeartbeats 4000000 in
set_option maxRecDepth 100000 in
theorem c_X7_go (l : Launch) (G : GT) (h_t : Nat) (h_t_lastRang : Nat) (h_t_heardSince : Nat) (h_t_swings : Nat) (h_t_peals : Nat) (h_t_pullOf : Nat) (h_t_pullAt : Nat) (h_t_kindOf : Nat) (h_t_needsOf : Nat) (h_t_longOf : Nat) (h_t_fromOf : Nat) (h_t_toOf : Nat) (h_t_readKind : Nat) (h_t_readNeeds : Nat) (h_t_readFrom : Nat) (h_t_readTo : Nat) (h_t_readLong : Nat) (h_t_readingOf : Nat) (h_t_readingAt : Nat) (h_t_readingIs : Nat) (h_t_sheetSize : Nat) (h_t_sheetLane : Nat) (h_t_sheet : Nat) (h_t_hands : Nat) (t_fault : Int32) (t_bells : Int32) (t_tied : Int32) (t_ropes : Int32) (t_spanNow : Int32) (t_readAt : Int32) (t_readBells : Int32) (t_readRopes : Int32) (t_pulls : Int32) (t_readings : Int32) (t_traceNow : Int32) (t_lastRang : (Nat → Int32)) (t_heardSince : (Nat → Int32)) (t_swings : (Nat → Int32)) (t_peals : (Nat → Int32)) (t_pullOf : (Nat → Int32)) (t_pullAt : (Nat → Int32)) (t_kindOf : (Nat → Int32)) (t_needsOf : (Nat → Int32)) (t_longOf : (Nat → Int32)) (t_fromOf : (Nat → Int32)) (t_toOf : (Nat → Int32)) (a1 : Int32) (a2 : Int32) (a3 : Int32) {u : (Nat → Int32) × (Nat → Int32) × (Nat → Int32) × (Nat → Int32)} (hm : M_X7_go t_bells t_tied t_ropes t_spanNow t_pulls t_lastRang t_heardSince t_swings t_peals t_pullOf t_pullAt t_kindOf t_needsOf t_longOf t_fromOf t_toOf a1 a2 a3 = some u) : CT l yX7_go cX7_go 7 none 2 47 [.ref h_t, .int a1, .int a2, .int a3] G (w_X7_go G h_t h_t_lastRang h_t_heardSince h_t_swings h_t_peals h_t_pullOf h_t_pullAt h_t_kindOf h_t_needsOf h_t_longOf h_t_fromOf h_t_toOf h_t_readKind h_t_readNeeds h_t_readFrom h_t_readTo h_t_readLong h_t_readingOf h_t_readingAt h_t_readingIs h_t_sheetSize h_t_sheetLane h_t_sheet h_t_hands t_fault t_bells t_tied t_ropes t_spanNow t_readAt t_readBells t_readRopes t_pulls t_readings t_traceNow t_lastRang t_heardSince t_swings t_peals t_pullOf t_pullAt t_kindOf t_needsOf t_longOf t_fromOf t_toOf) none (w_X7_go G h_t h_t_lastRang h_t_heardSince h_t_swings h_t_peals h_t_pullOf h_t_pullAt h_t_kindOf h_t_needsOf h_t_longOf h_t_fromOf h_t_toOf h_t_readKind h_t_readNeeds h_t_readFrom h_t_readTo h_t_readLong h_t_readingOf h_t_readingAt h_t_readingIs h_t_sheetSize h_t_sheetLane h_t_sheet h_t_hands t_fault t_bells t_tied t_ropes t_spanNow t_readAt t_readBells t_readRopes t_pulls t_readings t_traceNow u.1 u.2.1 u.2.2.1 u.2.2.2 t_pullOf t_pullAt t_kindOf t_needsOf t_longOf t_fromOf t_toOf) := by
  refine ct_intro RX7 [(0, .ref h_t), (1, .int a1), (2, .int a2), (3, .int a3)] (by decide) rfl (Nat.le_of_ble_eq_true rfl) rfl (fun X hX cx => ?_)
  have lp3 : ∀ (Q : State → Prop) (A : Nat → Prop) (x1 : Int32) (x2 : Int32) (x3 : Int32) (t_fault : Int32) (t_bells : Int32) (t_tied : Int32) (t_ropes : Int32) (t_spanNow : Int32) (t_readAt : Int32) (t_readBells : Int32) (t_readRopes : Int32) (t_pulls : Int32) (t_readings : Int32) (t_traceNow : Int32) (t_swings : (Nat → Int32)) (t_peals : (Nat → Int32)) (t_pullOf : (Nat → Int32)) (t_pullAt : (Nat → Int32)) (t_kindOf : (Nat → Int32)) (t_needsOf : (Nat → Int32)) (t_longOf : (Nat → Int32)) (t_fromOf : (Nat → Int32)) (t_toOf : (Nat → Int32)) (n : Nat) (x4 : Int32) (t_lastRang : (Nat → Int32)) (t_heardSince : (Nat → Int32)) (y : Int32 × (Nat → Int32) × (Nat → Int32)), L_X7_go_3 n x4 t_lastRang t_heardSince = some y → (KJ X Q G A 7 32 [(0, .ref h_t), (1, .int x1), (2, .int x2), (3, .int x3)] [] (w_X7_go G h_t h_t_lastRang h_t_heardSince h_t_swings h_t_peals h_t_pullOf h_t_pullAt h_t_kindOf h_t_needsOf h_t_longOf h_t_fromOf h_t_toOf h_t_readKind h_t_readNeeds h_t_readFrom h_t_readTo h_t_readLong h_t_readingOf h_t_readingAt h_t_readingIs h_t_sheetSize h_t_sheetLane h_t_sheet h_t_hands t_fault t_bells t_tied t_ropes t_spanNow t_readAt t_readBells t_readRopes t_pulls t_readings t_traceNow y.2.1 y.2.2 t_swings t_peals t_pullOf t_pullAt t_kindOf t_needsOf t_longOf t_fromOf t_toOf)) → KJ X Q G A 7 3 [(0, .ref h_t), (1, .int x1), (2, .int x2), (3, .int x3), (4, .int x4)] [] (w_X7_go G h_t h_t_lastRang h_t_heardSince h_t_swings h_t_peals h_t_pullOf h_t_pullAt h_t_kindOf h_t_needsOf h_t_longOf h_t_fromOf h_t_toOf h_t_readKind h_t_readNeeds h_t_readFrom h_t_readTo h_t_readLong h_t_readingOf h_t_readingAt h_t_readingIs h_t_sheetSize h_t_sheetLane h_t_sheet h_t_hands t_fault t_bells t_tied t_ropes t_spanNow t_readAt t_readBells t_readRopes t_pulls t_readings t_traceNow t_lastRang t_heardSince t_swings t_peals t_pullOf t_pullAt t_kindOf t_needsOf t_longOf t_fromOf t_toOf) := by
    intro Q A x1 x2 x3 t_fault t_bells t_tied t_ropes t_spanNow t_readAt t_readBells t_readRopes t_pulls t_readings t_traceNow t_swings t_peals t_pullOf t_pullAt t_kindOf t_needsOf t_longOf t_fromOf t_toOf n
    induction n with
    | zero => intro x4 t_lastRang t_heardSince y hm _; exact noS hm
    | succ n ih =>
      intro x4 t_lastRang t_heardSince y hm k0
      rw [L_X7_go_3] at hm
      refine k_iload 3 cx dX7_go_3 4 rfl ?_
      refine k_bipush 5 cx (v := (6 : Int32)) dX7_go_5 (by decide) ?_
      refine k_icmp_ge 7 cx (tgt := 32) dX7_go_7 (by decide) hm (fun hc hm => ?_) (fun hc hm => ?_)
      · obtain rfl := Option.some.inj hm
        refine k_lv [0, 1, 2, 3] rfl ?_
        exact k0
      · refine k_aload_n 10 cx dX7_go_10 rfl 0 rfl ?_
        refine fgX7_52 11 cx dX7_go_11 0 rfl rfl ?_
        refine k_iload 14 cx dX7_go_14 4 rfl ?_
        refine k_iconst 16 cx (v := (-1 : Int32)) dX7_go_16 (by decide) ?_
        refine k_iast 17 cx dX7_go_17 1 rfl (fun f10 => (w_X7_go G h_t h_t_lastRang h_t_heardSince h_t_swings h_t_peals h_t_pullOf h_t_pullAt h_t_kindOf h_t_needsOf h_t_longOf h_t_fromOf h_t_toOf h_t_readKind h_t_readNeeds h_t_readFrom h_t_readTo h_t_readLong h_t_readingOf h_t_readingAt h_t_readingIs h_t_sheetSize h_t_sheetLane h_t_sheet h_t_hands t_fault t_bells t_tied t_ropes t_spanNow t_readAt t_readBells t_readRopes t_pulls t_readings t_traceNow f10 t_heardSince t_swings t_peals t_pullOf t_pullAt t_kindOf t_needsOf t_longOf t_fromOf t_toOf)) (fun _ => rfl) hm (fun f10 hm => ?_)
        refine k_aload_n 18 cx dX7_go_18 rfl 0 rfl ?_
        refine fgX7_55 19 cx dX7_go_19 0 rfl rfl ?_
        refine k_iload 22 cx dX7_go_22 4 rfl ?_
        refine k_iconst 24 cx (v := (0 : Int32)) dX7_go_24 (by decide) ?_
        refine k_iast 25 cx dX7_go_25 2 rfl (fun f11 => (w_X7_go G h_t h_t_lastRang h_t_heardSince h_t_swings h_t_peals h_t_pullOf h_t_pullAt h_t_kindOf h_t_needsOf h_t_longOf h_t_fromOf h_t_toOf h_t_readKind h_t_readNeeds h_t_readFrom h_t_readTo h_t_readLong h_t_readingOf h_t_readingAt h_t_readingIs h_t_sheetSize h_t_sheetLane h_t_sheet h_t_hands t_fault t_bells t_tied t_ropes t_spanNow t_readAt t_readBells t_readRopes t_pulls t_readings t_traceNow f10 f11 t_swings t_peals t_pullOf t_pullAt t_kindOf t_needsOf t_longOf t_fromOf t_toOf)) (fun _ => rfl) hm (fun f11 hm => ?_)
        refine k_iinc 26 cx dX7_go_26 4 rfl (by decide) (by decide) (fun v12 => [(4, .int v12), (0, .ref h_t), (1, .int x1), (2, .int x2), (3, .int x3)]) (fun _ => rfl) hm (fun v12 hm => ?_)
        refine k_goto 29 cx (tgt := 3) dX7_go_29 (by decide) ?_
        refine k_lv [1, 2, 3, 4, 0] rfl ?_
        exact ih v12 f10 f11 _ hm k0
  have lp35 : ∀ (Q : State → Prop) (A : Nat → Prop) (x1 : Int32) (x2 : Int32) (x3 : Int32) (t_fault : Int32) (t_bells : Int32) (t_tied : Int32) (t_ropes : Int32) (t_spanNow : Int32) (t_readAt : Int32) (t_readBells : Int32) (t_readRopes : Int32) (t_pulls : Int32) (t_readings : Int32) (t_traceNow : Int32) (t_lastRang : (Nat → Int32)) (t_heardSince : (Nat → Int32)) (t_peals : (Nat → Int32)) (t_pullOf : (Nat → Int32)) (t_pullAt : (Nat → Int32)) (t_kindOf : (Nat → Int32)) (t_needsOf : (Nat → Int32)) (t_longOf : (Nat → Int32)) (t_fromOf : (Nat → Int32)) (t_toOf : (Nat → Int32)) (n : Nat) (x4 : Int32) (t_swings : (Nat → Int32)) (y : Int32 × (Nat → Int32)), L_X7_go_35 n x4 t_swings = some y → (KJ X Q G A 7 56 [(0, .ref h_t), (1, .int x1), (2, .int x2), (3, .int x3)] [] (w_X7_go G h_t h_t_lastRang h_t_heardSince h_t_swings h_t_peals h_t_pullOf h_t_pullAt h_t_kindOf h_t_needsOf h_t_longOf h_t_fromOf h_t_toOf h_t_readKind h_t_readNeeds h_t_readFrom h_t_readTo h_t_readLong h_t_readingOf h_t_readingAt h_t_readingIs h_t_sheetSize h_t_sheetLane h_t_sheet h_t_hands t_fault t_bells t_tied t_ropes t_spanNow t_readAt t_readBells t_readRopes t_pulls t_readings t_traceNow t_lastRang t_heardSince y.2 t_peals t_pullOf t_pullAt t_kindOf t_needsOf t_longOf t_fromOf t_toOf)) → KJ X Q G A 7 35 [(0, .ref h_t), (1, .int x1), (2, .int x2), (3, .int x3), (4, .int x4)] [] (w_X7_go G h_t h_t_lastRang h_t_heardSince h_t_swings h_t_peals h_t_pullOf h_t_pullAt h_t_kindOf h_t_needsOf h_t_longOf h_t_fromOf h_t_toOf h_t_readKind h_t_readNeeds h_t_readFrom h_t_readTo h_t_readLong h_t_readingOf h_t_readingAt h_t_readingIs h_t_sheetSize h_t_sheetLane h_t_sheet h_t_hands t_fault t_bells t_tied t_ropes t_spanNow t_readAt t_readBells t_readRopes t_pulls t_readings t_traceNow t_lastRang t_heardSince t_swings t_peals t_pullOf t_pullAt t_kindOf t_needsOf t_longOf t_fromOf t_toOf) := by
    intro Q A x1 x2 x3 t_fault t_bells t_tied t_ropes t_spanNow t_readAt t_readBells t_readRopes t_pulls t_readings t_traceNow t_lastRang t_heardSince t_peals t_pullOf t_pullAt t_kindOf t_needsOf t_longOf t_fromOf t_toOf n
    induction n with
    | zero => intro x4 t_swings y hm _; exact noS hm
    | succ n ih =>
      intro x4 t_swings y hm k0
      rw [L_X7_go_35] at hm
      refine k_iload 35 cx dX7_go_35 4 rfl ?_
      refine k_bipush 37 cx (v := (36 : Int32)) dX7_go_37 (by decide) ?_
      refine k_icmp_ge 39 cx (tgt := 56) dX7_go_39 (by decide) hm (fun hc hm => ?_) (fun hc hm => ?_)
      · obtain rfl := Option.some.inj hm
        refine k_lv [0, 1, 2, 3] rfl ?_
        exact k0
      · refine k_aload_n 42 cx dX7_go_42 rfl 0 rfl ?_
        refine fgX7_49 43 cx dX7_go_43 0 rfl rfl ?_
        refine k_iload 46 cx dX7_go_46 4 rfl ?_
        refine k_iconst 48 cx (v := (0 : Int32)) dX7_go_48 (by decide) ?_
        refine k_iast 49 cx dX7_go_49 3 rfl (fun f20 => (w_X7_go G h_t h_t_lastRang h_t_heardSince h_t_swings h_t_peals h_t_pullOf h_t_pullAt h_t_kindOf h_t_needsOf h_t_longOf h_t_fromOf h_t_toOf h_t_readKind h_t_readNeeds h_t_readFrom h_t_readTo h_t_readLong h_t_readingOf h_t_readingAt h_t_readingIs h_t_sheetSize h_t_sheetLane h_t_sheet h_t_hands t_fault t_bells t_tied t_ropes t_spanNow t_readAt t_readBells t_readRopes t_pulls t_readings t_traceNow t_lastRang t_heardSince f20 t_peals t_pullOf t_pullAt t_kindOf t_needsOf t_longOf t_fromOf t_toOf)) (fun _ => rfl) hm (fun f20 hm => ?_)
        refine k_iinc 50 cx dX7_go_50 4 rfl (by decide) (by decide) (fun v21 => [(4, .int v21), (0, .ref h_t), (1, .int x1), (2, .int x2), (3, .int x3)]) (fun _ => rfl) hm (fun v21 hm => ?_)
        refine k_goto 53 cx (tgt := 35) dX7_go_53 (by decide) ?_
        refine k_lv [1, 2, 3, 4, 0] rfl ?_
        exact ih v21 f20 _ hm k0
  have lp76 : ∀ (Q : State → Prop) (A : Nat → Prop) (x1 : Int32) (x2 : Int32) (x3 : Int32) (x4 : Int32) (t_fault : Int32) (t_bells : Int32) (t_tied : Int32) (t_ropes : Int32) (t_spanNow : Int32) (t_readAt : Int32) (t_readBells : Int32) (t_readRopes : Int32) (t_pulls : Int32) (t_readings : Int32) (t_traceNow : Int32) (t_lastRang : (Nat → Int32)) (t_heardSince : (Nat → Int32)) (t_peals : (Nat → Int32)) (t_pullOf : (Nat → Int32)) (t_pullAt : (Nat → Int32)) (t_kindOf : (Nat → Int32)) (t_needsOf : (Nat → Int32)) (t_longOf : (Nat → Int32)) (t_fromOf : (Nat → Int32)) (t_toOf : (Nat → Int32)) (n : Nat) (x5 : Int32) (t_swings : (Nat → Int32)) (y : Int32 × (Nat → Int32)), L_X7_go_76 x4 n x5 t_swings = some y → (KJ X Q G A 7 106 [(0, .ref h_t), (1, .int x1), (2, .int x2), (3, .int x3), (4, .int x4)] [] (w_X7_go G h_t h_t_lastRang h_t_heardSince h_t_swings h_t_peals h_t_pullOf h_t_pullAt h_t_kindOf h_t_needsOf h_t_longOf h_t_fromOf h_t_toOf h_t_readKind h_t_readNeeds h_t_readFrom h_t_readTo h_t_readLong h_t_readingOf h_t_readingAt h_t_readingIs h_t_sheetSize h_t_sheetLane h_t_sheet h_t_hands t_fault t_bells t_tied t_ropes t_spanNow t_readAt t_readBells t_readRopes t_pulls t_readings t_traceNow t_lastRang t_heardSince y.2 t_peals t_pullOf t_pullAt t_kindOf t_needsOf t_longOf t_fromOf t_toOf)) → KJ X Q G A 7 76 [(0, .ref h_t), (1, .int x1), (2, .int x2), (3, .int x3), (4, .int x4), (5, .int x5)] [] (w_X7_go G h_t h_t_lastRang h_t_heardSince h_t_swings h_t_peals h_t_pullOf h_t_pullAt h_t_kindOf h_t_needsOf h_t_longOf h_t_fromOf h_t_toOf h_t_readKind h_t_readNeeds h_t_readFrom h_t_readTo h_t_readLong h_t_readingOf h_t_readingAt h_t_readingIs h_t_sheetSize h_t_sheetLane h_t_sheet h_t_hands t_fault t_bells t_tied t_ropes t_spanNow t_readAt t_readBells t_readRopes t_pulls t_readings t_traceNow t_lastRang t_heardSince t_swings t_peals t_pullOf t_pullAt t_kindOf t_needsOf t_longOf t_fromOf t_toOf) := by
    intro Q A x1 x2 x3 x4 t_fault t_bells t_tied t_ropes t_spanNow t_readAt t_readBells t_readRopes t_pulls t_readings t_traceNow t_lastRang t_heardSince t_peals t_pullOf t_pullAt t_kindOf t_needsOf t_longOf t_fromOf t_toOf n
    induction n with
    | zero => intro x5 t_swings y hm _; exact noS hm
    | succ n ih =>
      intro x5 t_swings y hm k0
      rw [L_X7_go_76] at hm
      refine k_iload 76 cx dX7_go_76 5 rfl ?_
      refine k_bipush 78 cx (v := (6 : Int32)) dX7_go_78 (by decide) ?_
      refine k_icmp_ge 80 cx (tgt := 106) dX7_go_80 (by decide) hm (fun hc hm => ?_) (fun hc hm => ?_)
      · obtain rfl := Option.some.inj hm
        refine k_lv [0, 1, 2, 3, 4] rfl ?_
        exact k0
      · refine k_aload_n 83 cx dX7_go_83 rfl 0 rfl ?_
        refine fgX7_49 84 cx dX7_go_84 0 rfl rfl ?_
        refine k_bipush 87 cx (v := (6 : Int32)) dX7_go_87 (by decide) ?_
        refine k_iload 89 cx dX7_go_89 5 rfl ?_
        refine k_imul 91 cx dX7_go_91 ?_
        refine k_iload 92 cx dX7_go_92 4 rfl ?_
        refine k_bipush 94 cx (v := (6 : Int32)) dX7_go_94 (by decide) ?_
        refine k_irem_c 96 cx dX7_go_96 (by decide) ?_
        refine k_iadd 97 cx dX7_go_97 ?_
        refine k_iconst 98 cx (v := (0 : Int32)) dX7_go_98 (by decide) ?_
        refine k_iast 99 cx dX7_go_99 3 rfl (fun f30 => (w_X7_go G h_t h_t_lastRang h_t_heardSince h_t_swings h_t_peals h_t_pullOf h_t_pullAt h_t_kindOf h_t_needsOf h_t_longOf h_t_fromOf h_t_toOf h_t_readKind h_t_readNeeds h_t_readFrom h_t_readTo h_t_readLong h_t_readingOf h_t_readingAt h_t_readingIs h_t_sheetSize h_t_sheetLane h_t_sheet h_t_hands t_fault t_bells t_tied t_ropes t_spanNow t_readAt t_readBells t_readRopes t_pulls t_readings t_traceNow t_lastRang t_heardSince f30 t_peals t_pullOf t_pullAt t_kindOf t_needsOf t_longOf t_fromOf t_toOf)) (fun _ => rfl) hm (fun f30 hm => ?_)
        refine k_iinc 100 cx dX7_go_100 5 rfl (by decide) (by decide) (fun v31 => [(5, .int v31), (0, .ref h_t), (1, .int x1), (2, .int x2), (3, .int x3), (4, .int x4)]) (fun _ => rfl) hm (fun v31 hm => ?_)
        refine k_goto 103 cx (tgt := 76) dX7_go_103 (by decide) ?_
        refine k_lv [1, 2, 3, 4, 5, 0] rfl ?_
        exact ih v31 f30 _ hm k0
  have lp117 : ∀ (Q : State → Prop) (A : Nat → Prop) (x1 : Int32) (x2 : Int32) (x3 : Int32) (x4 : Int32) (t_fault : Int32) (t_bells : Int32) (t_tied : Int32) (t_ropes : Int32) (t_spanNow : Int32) (t_readAt : Int32) (t_readBells : Int32) (t_readRopes : Int32) (t_pulls : Int32) (t_readings : Int32) (t_traceNow : Int32) (t_lastRang : (Nat → Int32)) (t_heardSince : (Nat → Int32)) (t_swings : (Nat → Int32)) (t_pullOf : (Nat → Int32)) (t_pullAt : (Nat → Int32)) (t_kindOf : (Nat → Int32)) (t_needsOf : (Nat → Int32)) (t_longOf : (Nat → Int32)) (t_fromOf : (Nat → Int32)) (t_toOf : (Nat → Int32)) (n : Nat) (x5 : Int32) (t_peals : (Nat → Int32)) (y : Int32 × (Nat → Int32)), L_X7_go_117 x4 t_bells t_tied t_spanNow t_lastRang t_swings t_kindOf t_needsOf n x5 t_peals = some y → (KJ X Q G A 7 157 [(0, .ref h_t), (1, .int x1), (2, .int x2), (3, .int x3), (4, .int x4)] [] (w_X7_go G h_t h_t_lastRang h_t_heardSince h_t_swings h_t_peals h_t_pullOf h_t_pullAt h_t_kindOf h_t_needsOf h_t_longOf h_t_fromOf h_t_toOf h_t_readKind h_t_readNeeds h_t_readFrom h_t_readTo h_t_readLong h_t_readingOf h_t_readingAt h_t_readingIs h_t_sheetSize h_t_sheetLane h_t_sheet h_t_hands t_fault t_bells t_tied t_ropes t_spanNow t_readAt t_readBells t_readRopes t_pulls t_readings t_traceNow t_lastRang t_heardSince t_swings y.2 t_pullOf t_pullAt t_kindOf t_needsOf t_longOf t_fromOf t_toOf)) → KJ X Q G A 7 117 [(0, .ref h_t), (1, .int x1), (2, .int x2), (3, .int x3), (4, .int x4), (5, .int x5)] [] (w_X7_go G h_t h_t_lastRang h_t_heardSince h_t_swings h_t_peals h_t_pullOf h_t_pullAt h_t_kindOf h_t_needsOf h_t_longOf h_t_fromOf h_t_toOf h_t_readKind h_t_readNeeds h_t_readFrom h_t_readTo h_t_readLong h_t_readingOf h_t_readingAt h_t_readingIs h_t_sheetSize h_t_sheetLane h_t_sheet h_t_hands t_fault t_bells t_tied t_ropes t_spanNow t_readAt t_readBells t_readRopes t_pulls t_readings t_traceNow t_lastRang t_heardSince t_swings t_peals t_pullOf t_pullAt t_kindOf t_needsOf t_longOf t_fromOf t_toOf) := by
    intro Q A x1 x2 x3 x4 t_fault t_bells t_tied t_ropes t_spanNow t_readAt t_readBells t_readRopes t_pulls t_readings t_traceNow t_lastRang t_heardSince t_swings t_pullOf t_pullAt t_kindOf t_needsOf t_longOf t_fromOf t_toOf n
    induction n with
    | zero => intro x5 t_peals y hm _; exact noS hm
    | succ n ih =>
      intro x5 t_peals y hm k0
      rw [L_X7_go_117] at hm
      refine k_iload 117 cx dX7_go_117 5 rfl ?_
      refine k_aload_n 119 cx dX7_go_119 rfl 0 rfl ?_
      refine fgX7_90 120 cx dX7_go_120 0 rfl rfl ?_
      refine k_icmp_ge 123 cx (tgt := 157) dX7_go_123 (by decide) hm (fun hc hm => ?_) (fun hc hm => ?_)
      · obtain rfl := Option.some.inj hm
        refine k_lv [0, 1, 2, 3, 4] rfl ?_
        exact k0
      · refine k_aload_n 126 cx dX7_go_126 rfl 0 rfl ?_
        refine k_iload 127 cx dX7_go_127 5 rfl ?_
        refine k_iload 129 cx dX7_go_129 4 rfl ?_
        obtain ⟨u46, hu46, hm⟩ := bnd hm
        refine k_callV 131 cx cwX7_181 (c_X7_doesRing X.2.1 G h_t h_t_lastRang h_t_swings h_t_kindOf h_t_needsOf h_t_fromOf h_t_toOf h_t_longOf h_t_readKind h_t_readNeeds h_t_readFrom h_t_readTo h_t_readLong h_t_pullOf h_t_pullAt h_t_peals h_t_heardSince h_t_readingOf h_t_readingAt h_t_readingIs h_t_sheetSize h_t_sheetLane h_t_sheet h_t_hands t_fault t_bells t_tied t_ropes t_spanNow t_readAt t_readBells t_readRopes t_pulls t_readings t_traceNow t_lastRang t_swings t_kindOf t_needsOf x5 x4 hu46) dX7_go_131 ⟨by decide, by decide⟩ rfl rfl (rest := []) rfl (Nat.le_of_ble_eq_true rfl) [0, 1, 3, 7, 8] (by decide) rfl rfl (w2 := (w_X7_go G h_t h_t_lastRang h_t_heardSince h_t_swings h_t_peals h_t_pullOf h_t_pullAt h_t_kindOf h_t_needsOf h_t_longOf h_t_fromOf h_t_toOf h_t_readKind h_t_readNeeds h_t_readFrom h_t_readTo h_t_readLong h_t_readingOf h_t_readingAt h_t_readingIs h_t_sheetSize h_t_sheetLane h_t_sheet h_t_hands t_fault t_bells t_tied t_ropes t_spanNow t_readAt t_readBells t_readRopes t_pulls t_readings t_traceNow t_lastRang t_heardSince t_swings t_peals t_pullOf t_pullAt t_kindOf t_needsOf t_longOf t_fromOf t_toOf)) [2, 4, 5, 6, 9, 10, 11] 12 rfl [(h_t_heardSince, .inl (G.2.1, 6, .inl t_heardSince)), (h_t_peals, .inl (G.2.1, 400, .inl t_peals)), (h_t_pullOf, .inl (G.2.1, 6, .inl t_pullOf)), (h_t_pullAt, .inl (G.2.1, 6, .inl t_pullAt)), (h_t_longOf, .inl (G.2.1, 9, .inl t_longOf)), (h_t_fromOf, .inl (G.2.1, 9, .inl t_fromOf)), (h_t_toOf, .inl (G.2.1, 9, .inl t_toOf))] rfl rfl rfl (by decide) (st2 := [.int u46]) rfl ?_
        refine k_if_eq 134 cx (tgt := 151) dX7_go_134 (by decide) hm (fun hc hm => ?_) (fun hc hm => ?_)
        · refine k_iinc 151 cx dX7_go_151 5 rfl (by decide) (by decide) (fun v47 => [(5, .int v47), (0, .ref h_t), (1, .int x1), (2, .int x2), (3, .int x3), (4, .int x4)]) (fun _ => rfl) hm (fun v47 hm => ?_)
          refine k_goto 154 cx (tgt := 117) dX7_go_154 (by decide) ?_
          refine k_lv [1, 2, 3, 4, 5, 0] rfl ?_
          exact ih v47 t_peals _ hm k0
        · refine k_aload_n 137 cx dX7_go_137 rfl 0 rfl ?_
          refine fgX7_46 138 cx dX7_go_138 0 rfl rfl ?_
          refine k_iload 141 cx dX7_go_141 4 rfl ?_
          refine k_dup2 143 cx dX7_go_143 rfl rfl ?_
          refine k_iald 144 cx dX7_go_144 4 rfl hm (fun hm => ?_)
          refine k_iconst 145 cx (v := (1 : Int32)) dX7_go_145 (by decide) ?_
          refine k_iload 146 cx dX7_go_146 5 rfl ?_
          refine k_ishl 148 cx dX7_go_148 ?_
          refine k_ior 149 cx dX7_go_149 ?_
          refine k_iast 150 cx dX7_go_150 4 rfl (fun f48 => (w_X7_go G h_t h_t_lastRang h_t_heardSince h_t_swings h_t_peals h_t_pullOf h_t_pullAt h_t_kindOf h_t_needsOf h_t_longOf h_t_fromOf h_t_toOf h_t_readKind h_t_readNeeds h_t_readFrom h_t_readTo h_t_readLong h_t_readingOf h_t_readingAt h_t_readingIs h_t_sheetSize h_t_sheetLane h_t_sheet h_t_hands t_fault t_bells t_tied t_ropes t_spanNow t_readAt t_readBells t_readRopes t_pulls t_readings t_traceNow t_lastRang t_heardSince t_swings f48 t_pullOf t_pullAt t_kindOf t_needsOf t_longOf t_fromOf t_toOf)) (fun _ => rfl) hm (fun f48 hm => ?_)
          refine k_iinc 151 cx dX7_go_151 5 rfl (by decide) (by decide) (fun v49 => [(5, .int v49), (0, .ref h_t), (1, .int x1), (2, .int x2), (3, .int x3), (4, .int x4)]) (fun _ => rfl) hm (fun v49 hm => ?_)
          refine k_goto 154 cx (tgt := 117) dX7_go_154 (by decide) ?_
          refine k_lv [1, 2, 3, 4, 5, 0] rfl ?_
          exact ih v49 f48 _ hm k0
  have lp160 : ∀ (Q : State → Prop) (A : Nat → Prop) (x1 : Int32) (x2 : Int32) (x3 : Int32) (x4 : Int32) (t_fault : Int32) (t_bells : Int32) (t_tied : Int32) (t_ropes : Int32) (t_spanNow : Int32) (t_readAt : Int32) (t_readBells : Int32) (t_readRopes : Int32) (t_pulls : Int32) (t_readings : Int32) (t_traceNow : Int32) (t_swings : (Nat → Int32)) (t_peals : (Nat → Int32)) (t_pullOf : (Nat → Int32)) (t_pullAt : (Nat → Int32)) (t_kindOf : (Nat → Int32)) (t_needsOf : (Nat → Int32)) (t_longOf : (Nat → Int32)) (t_fromOf : (Nat → Int32)) (t_toOf : (Nat → Int32)) (n : Nat) (x5 : Int32) (t_lastRang : (Nat → Int32)) (t_heardSince : (Nat → Int32)) (y : Int32 × (Nat → Int32) × (Nat → Int32)), L_X7_go_160 x4 t_bells t_peals n x5 t_lastRang t_heardSince = some y → (KJ X Q G A 7 236 [(0, .ref h_t), (1, .int x1), (2, .int x2), (3, .int x3), (4, .int x4)] [] (w_X7_go G h_t h_t_lastRang h_t_heardSince h_t_swings h_t_peals h_t_pullOf h_t_pullAt h_t_kindOf h_t_needsOf h_t_longOf h_t_fromOf h_t_toOf h_t_readKind h_t_readNeeds h_t_readFrom h_t_readTo h_t_readLong h_t_readingOf h_t_readingAt h_t_readingIs h_t_sheetSize h_t_sheetLane h_t_sheet h_t_hands t_fault t_bells t_tied t_ropes t_spanNow t_readAt t_readBells t_readRopes t_pulls t_readings t_traceNow y.2.1 y.2.2 t_swings t_peals t_pullOf t_pullAt t_kindOf t_needsOf t_longOf t_fromOf t_toOf)) → KJ X Q G A 7 160 [(0, .ref h_t), (1, .int x1), (2, .int x2), (3, .int x3), (4, .int x4), (5, .int x5)] [] (w_X7_go G h_t h_t_lastRang h_t_heardSince h_t_swings h_t_peals h_t_pullOf h_t_pullAt h_t_kindOf h_t_needsOf h_t_longOf h_t_fromOf h_t_toOf h_t_readKind h_t_readNeeds h_t_readFrom h_t_readTo h_t_readLong h_t_readingOf h_t_readingAt h_t_readingIs h_t_sheetSize h_t_sheetLane h_t_sheet h_t_hands t_fault t_bells t_tied t_ropes t_spanNow t_readAt t_readBells t_readRopes t_pulls t_readings t_traceNow t_lastRang t_heardSince t_swings t_peals t_pullOf t_pullAt t_kindOf t_needsOf t_longOf t_fromOf t_toOf) := by
    intro Q A x1 x2 x3 x4 t_fault t_bells t_tied t_ropes t_spanNow t_readAt t_readBells t_readRopes t_pulls t_readings t_traceNow t_swings t_peals t_pullOf t_pullAt t_kindOf t_needsOf t_longOf t_fromOf t_toOf n
    induction n with
    | zero => intro x5 t_lastRang t_heardSince y hm _; exact noS hm
    | succ n ih =>
      intro x5 t_lastRang t_heardSince y hm k0
      rw [L_X7_go_160] at hm
      refine k_iload 160 cx dX7_go_160 5 rfl ?_
      refine k_aload_n 162 cx dX7_go_162 rfl 0 rfl ?_
      refine fgX7_90 163 cx dX7_go_163 0 rfl rfl ?_
      refine k_icmp_ge 166 cx (tgt := 236) dX7_go_166 (by decide) hm (fun hc hm => ?_) (fun hc hm => ?_)
      · obtain rfl := Option.some.inj hm
        refine k_lv [0, 1, 2, 3, 4] rfl ?_
        exact k0
      · refine k_aload_n 169 cx dX7_go_169 rfl 0 rfl ?_
        refine fgX7_46 170 cx dX7_go_170 0 rfl rfl ?_
        refine k_iload 173 cx dX7_go_173 4 rfl ?_
        refine k_iald 175 cx dX7_go_175 4 rfl hm (fun hm => ?_)
        refine k_iload 176 cx dX7_go_176 5 rfl ?_
        obtain ⟨u84, hu84, hm⟩ := bnd hm
        refine k_callS 178 cx cwX7_166 (c_X7_isIn X.2.1 G (t_peals (Int32.toNatClampNeg x4)) x5 hu84) dX7_go_178 ⟨by decide, by decide⟩ rfl (rest := []) rfl (Nat.le_of_ble_eq_true rfl) [] (by decide) rfl rfl (w2 := (w_X7_go G h_t h_t_lastRang h_t_heardSince h_t_swings h_t_peals h_t_pullOf h_t_pullAt h_t_kindOf h_t_needsOf h_t_longOf h_t_fromOf h_t_toOf h_t_readKind h_t_readNeeds h_t_readFrom h_t_readTo h_t_readLong h_t_readingOf h_t_readingAt h_t_readingIs h_t_sheetSize h_t_sheetLane h_t_sheet h_t_hands t_fault t_bells t_tied t_ropes t_spanNow t_readAt t_readBells t_readRopes t_pulls t_readings t_traceNow t_lastRang t_heardSince t_swings t_peals t_pullOf t_pullAt t_kindOf t_needsOf t_longOf t_fromOf t_toOf)) [0, 1, 2, 3, 4, 5, 6, 7, 8, 9, 10, 11] 12 rfl [(h_t, .inr (7, [.int t_fault, .int t_bells, .ref h_t_kindOf, .ref h_t_needsOf, .int t_tied, .int t_ropes, .ref h_t_fromOf, .ref h_t_toOf, .ref h_t_longOf, .int t_spanNow, .int t_readAt, .int t_readBells, .int t_readRopes, .ref h_t_readKind, .ref h_t_readNeeds, .ref h_t_readFrom, .ref h_t_readTo, .ref h_t_readLong, .int t_pulls, .ref h_t_pullOf, .ref h_t_pullAt, .ref h_t_peals, .ref h_t_swings, .ref h_t_lastRang, .ref h_t_heardSince, .int t_readings, .ref h_t_readingOf, .ref h_t_readingAt, .ref h_t_readingIs, .ref h_t_sheetSize, .ref h_t_sheetLane, .ref h_t_sheet, .ref h_t_hands, .int t_traceNow])), (h_t_lastRang, .inl (G.2.1, 6, .inl t_lastRang)), (h_t_heardSince, .inl (G.2.1, 6, .inl t_heardSince)), (h_t_swings, .inl (G.2.1, 36, .inl t_swings)), (h_t_peals, .inl (G.2.1, 400, .inl t_peals)), (h_t_pullOf, .inl (G.2.1, 6, .inl t_pullOf)), (h_t_pullAt, .inl (G.2.1, 6, .inl t_pullAt)), (h_t_kindOf, .inl (G.2.1, 6, .inl t_kindOf)), (h_t_needsOf, .inl (G.2.1, 6, .inl t_needsOf)), (h_t_longOf, .inl (G.2.1, 9, .inl t_longOf)), (h_t_fromOf, .inl (G.2.1, 9, .inl t_fromOf)), (h_t_toOf, .inl (G.2.1, 9, .inl t_toOf))] rfl rfl rfl (by decide) (st2 := [.int u84]) rfl ?_
        refine k_istore 181 cx dX7_go_181 (by decide) (lv' := [(6, .int u84), (0, .ref h_t), (1, .int x1), (2, .int x2), (3, .int x3), (4, .int x4), (5, .int x5)]) rfl ?_
        refine k_aload_n 183 cx dX7_go_183 rfl 1 rfl ?_
        refine fgX7_52 184 cx dX7_go_184 0 rfl rfl ?_
        refine k_iload 187 cx dX7_go_187 6 rfl ?_
        refine k_iload 189 cx dX7_go_189 0 rfl ?_
        refine k_if_eq 191 cx (tgt := 199) dX7_go_191 (by decide) hm (fun hc hm => ?_) (fun hc hm => ?_)
        · refine k_aload_n 199 cx dX7_go_199 rfl 1 rfl ?_
          refine fgX7_52 200 cx dX7_go_200 0 rfl rfl ?_
          refine k_iload 203 cx dX7_go_203 6 rfl ?_
          refine k_iald 205 cx dX7_go_205 1 rfl hm (fun hm => ?_)
          refine k_iast 206 cx dX7_go_206 1 rfl (fun f85 => (w_X7_go G h_t h_t_lastRang h_t_heardSince h_t_swings h_t_peals h_t_pullOf h_t_pullAt h_t_kindOf h_t_needsOf h_t_longOf h_t_fromOf h_t_toOf h_t_readKind h_t_readNeeds h_t_readFrom h_t_readTo h_t_readLong h_t_readingOf h_t_readingAt h_t_readingIs h_t_sheetSize h_t_sheetLane h_t_sheet h_t_hands t_fault t_bells t_tied t_ropes t_spanNow t_readAt t_readBells t_readRopes t_pulls t_readings t_traceNow f85 t_heardSince t_swings t_peals t_pullOf t_pullAt t_kindOf t_needsOf t_longOf t_fromOf t_toOf)) (fun _ => rfl) hm (fun f85 hm => ?_)
          refine k_aload_n 207 cx dX7_go_207 rfl 1 rfl ?_
          refine fgX7_55 208 cx dX7_go_208 0 rfl rfl ?_
          refine k_iload 211 cx dX7_go_211 6 rfl ?_
          refine k_iload 213 cx dX7_go_213 0 rfl ?_
          refine k_if_eq 215 cx (tgt := 222) dX7_go_215 (by decide) hm (fun hc hm => ?_) (fun hc hm => ?_)
          · refine k_aload_n 222 cx dX7_go_222 rfl 1 rfl ?_
            refine fgX7_55 223 cx dX7_go_223 0 rfl rfl ?_
            refine k_iload 226 cx dX7_go_226 6 rfl ?_
            refine k_iald 228 cx dX7_go_228 2 rfl hm (fun hm => ?_)
            refine k_iast 229 cx dX7_go_229 2 rfl (fun f86 => (w_X7_go G h_t h_t_lastRang h_t_heardSince h_t_swings h_t_peals h_t_pullOf h_t_pullAt h_t_kindOf h_t_needsOf h_t_longOf h_t_fromOf h_t_toOf h_t_readKind h_t_readNeeds h_t_readFrom h_t_readTo h_t_readLong h_t_readingOf h_t_readingAt h_t_readingIs h_t_sheetSize h_t_sheetLane h_t_sheet h_t_hands t_fault t_bells t_tied t_ropes t_spanNow t_readAt t_readBells t_readRopes t_pulls t_readings t_traceNow f85 f86 t_swings t_peals t_pullOf t_pullAt t_kindOf t_needsOf t_longOf t_fromOf t_toOf)) (fun _ => rfl) hm (fun f86 hm => ?_)
            refine k_iinc 230 cx dX7_go_230 6 rfl (by decide) (by decide) (fun v87 => [(5, .int v87), (6, .int u84), (0, .ref h_t), (1, .int x1), (2, .int x2), (3, .int x3), (4, .int x4)]) (fun _ => rfl) hm (fun v87 hm => ?_)
            refine k_goto 233 cx (tgt := 160) dX7_go_233 (by decide) ?_
            refine k_lv [2, 3, 4, 5, 6, 0] rfl ?_
            exact ih v87 f85 f86 _ hm k0
          · refine k_iconst 218 cx (v := (0 : Int32)) dX7_go_218 (by decide) ?_
            refine k_goto 219 cx (tgt := 229) dX7_go_219 (by decide) ?_
            refine k_iast 229 cx dX7_go_229 2 rfl (fun f88 => (w_X7_go G h_t h_t_lastRang h_t_heardSince h_t_swings h_t_peals h_t_pullOf h_t_pullAt h_t_kindOf h_t_needsOf h_t_longOf h_t_fromOf h_t_toOf h_t_readKind h_t_readNeeds h_t_readFrom h_t_readTo h_t_readLong h_t_readingOf h_t_readingAt h_t_readingIs h_t_sheetSize h_t_sheetLane h_t_sheet h_t_hands t_fault t_bells t_tied t_ropes t_spanNow t_readAt t_readBells t_readRopes t_pulls t_readings t_traceNow f85 f88 t_swings t_peals t_pullOf t_pullAt t_kindOf t_needsOf t_longOf t_fromOf t_toOf)) (fun _ => rfl) hm (fun f88 hm => ?_)
            refine k_iinc 230 cx dX7_go_230 6 rfl (by decide) (by decide) (fun v89 => [(5, .int v89), (6, .int u84), (0, .ref h_t), (1, .int x1), (2, .int x2), (3, .int x3), (4, .int x4)]) (fun _ => rfl) hm (fun v89 hm => ?_)
            refine k_goto 233 cx (tgt := 160) dX7_go_233 (by decide) ?_
            refine k_lv [2, 3, 4, 5, 6, 0] rfl ?_
            exact ih v89 f85 f88 _ hm k0
        · refine k_iload 194 cx dX7_go_194 5 rfl ?_
          refine k_goto 196 cx (tgt := 206) dX7_go_196 (by decide) ?_
          refine k_iast 206 cx dX7_go_206 1 rfl (fun f90 => (w_X7_go G h_t h_t_lastRang h_t_heardSince h_t_swings h_t_peals h_t_pullOf h_t_pullAt h_t_kindOf h_t_needsOf h_t_longOf h_t_fromOf h_t_toOf h_t_readKind h_t_readNeeds h_t_readFrom h_t_readTo h_t_readLong h_t_readingOf h_t_readingAt h_t_readingIs h_t_sheetSize h_t_sheetLane h_t_sheet h_t_hands t_fault t_bells t_tied t_ropes t_spanNow t_readAt t_readBells t_readRopes t_pulls t_readings t_traceNow f90 t_heardSince t_swings t_peals t_pullOf t_pullAt t_kindOf t_needsOf t_longOf t_fromOf t_toOf)) (fun _ => rfl) hm (fun f90 hm => ?_)
          refine k_aload_n 207 cx dX7_go_207 rfl 1 rfl ?_
          refine fgX7_55 208 cx dX7_go_208 0 rfl rfl ?_
          refine k_iload 211 cx dX7_go_211 6 rfl ?_
          refine k_iload 213 cx dX7_go_213 0 rfl ?_
          refine k_if_eq 215 cx (tgt := 222) dX7_go_215 (by decide) hm (fun hc hm => ?_) (fun hc hm => ?_)
          · refine k_aload_n 222 cx dX7_go_222 rfl 1 rfl ?_
            refine fgX7_55 223 cx dX7_go_223 0 rfl rfl ?_
            refine k_iload 226 cx dX7_go_226 6 rfl ?_
            refine k_iald 228 cx dX7_go_228 2 rfl hm (fun hm => ?_)
            refine k_iast 229 cx dX7_go_229 2 rfl (fun f91 => (w_X7_go G h_t h_t_lastRang h_t_heardSince h_t_swings h_t_peals h_t_pullOf h_t_pullAt h_t_kindOf h_t_needsOf h_t_longOf h_t_fromOf h_t_toOf h_t_readKind h_t_readNeeds h_t_readFrom h_t_readTo h_t_readLong h_t_readingOf h_t_readingAt h_t_readingIs h_t_sheetSize h_t_sheetLane h_t_sheet h_t_hands t_fault t_bells t_tied t_ropes t_spanNow t_readAt t_readBells t_readRopes t_pulls t_readings t_traceNow f90 f91 t_swings t_peals t_pullOf t_pullAt t_kindOf t_needsOf t_longOf t_fromOf t_toOf)) (fun _ => rfl) hm (fun f91 hm => ?_)
            refine k_iinc 230 cx dX7_go_230 6 rfl (by decide) (by decide) (fun v92 => [(5, .int v92), (6, .int u84), (0, .ref h_t), (1, .int x1), (2, .int x2), (3, .int x3), (4, .int x4)]) (fun _ => rfl) hm (fun v92 hm => ?_)
            refine k_goto 233 cx (tgt := 160) dX7_go_233 (by decide) ?_
            refine k_lv [2, 3, 4, 5, 6, 0] rfl ?_
            exact ih v92 f90 f91 _ hm k0
          · refine k_iconst 218 cx (v := (0 : Int32)) dX7_go_218 (by decide) ?_
            refine k_goto 219 cx (tgt := 229) dX7_go_219 (by decide) ?_
            refine k_iast 229 cx dX7_go_229 2 rfl (fun f93 => (w_X7_go G h_t h_t_lastRang h_t_heardSince h_t_swings h_t_peals h_t_pullOf h_t_pullAt h_t_kindOf h_t_needsOf h_t_longOf h_t_fromOf h_t_toOf h_t_readKind h_t_readNeeds h_t_readFrom h_t_readTo h_t_readLong h_t_readingOf h_t_readingAt h_t_readingIs h_t_sheetSize h_t_sheetLane h_t_sheet h_t_hands t_fault t_bells t_tied t_ropes t_spanNow t_readAt t_readBells t_readRopes t_pulls t_readings t_traceNow f90 f93 t_swings t_peals t_pullOf t_pullAt t_kindOf t_needsOf t_longOf t_fromOf t_toOf)) (fun _ => rfl) hm (fun f93 hm => ?_)
            refine k_iinc 230 cx dX7_go_230 6 rfl (by decide) (by decide) (fun v94 => [(5, .int v94), (6, .int u84), (0, .ref h_t), (1, .int x1), (2, .int x2), (3, .int x3), (4, .int x4)]) (fun _ => rfl) hm (fun v94 hm => ?_)
            refine k_goto 233 cx (tgt := 160) dX7_go_233 (by decide) ?_
            refine k_lv [2, 3, 4, 5, 6, 0] rfl ?_
            exact ih v94 f90 f93 _ hm k0
  have lp59 : ∀ (Q : State → Prop) (A : Nat → Prop) (x1 : Int32) (x2 : Int32) (x3 : Int32) (t_fault : Int32) (t_bells : Int32) (t_tied : Int32) (t_ropes : Int32) (t_spanNow : Int32) (t_readAt : Int32) (t_readBells : Int32) (t_readRopes : Int32) (t_pulls : Int32) (t_readings : Int32) (t_traceNow : Int32) (t_pullOf : (Nat → Int32)) (t_pullAt : (Nat → Int32)) (t_kindOf : (Nat → Int32)) (t_needsOf : (Nat → Int32)) (t_longOf : (Nat → Int32)) (t_fromOf : (Nat → Int32)) (t_toOf : (Nat → Int32)) (n : Nat) (x4 : Int32) (t_lastRang : (Nat → Int32)) (t_heardSince : (Nat → Int32)) (t_swings : (Nat → Int32)) (t_peals : (Nat → Int32)) (y : Int32 × (Nat → Int32) × (Nat → Int32) × (Nat → Int32) × (Nat → Int32)), L_X7_go_59 x1 x2 x3 t_bells t_tied t_ropes t_spanNow t_pulls t_pullOf t_pullAt t_kindOf t_needsOf t_longOf t_fromOf t_toOf n x4 t_lastRang t_heardSince t_swings t_peals = some y → (KJ X Q G A 7 242 [] [] (w_X7_go G h_t h_t_lastRang h_t_heardSince h_t_swings h_t_peals h_t_pullOf h_t_pullAt h_t_kindOf h_t_needsOf h_t_longOf h_t_fromOf h_t_toOf h_t_readKind h_t_readNeeds h_t_readFrom h_t_readTo h_t_readLong h_t_readingOf h_t_readingAt h_t_readingIs h_t_sheetSize h_t_sheetLane h_t_sheet h_t_hands t_fault t_bells t_tied t_ropes t_spanNow t_readAt t_readBells t_readRopes t_pulls t_readings t_traceNow y.2.1 y.2.2.1 y.2.2.2.1 y.2.2.2.2 t_pullOf t_pullAt t_kindOf t_needsOf t_longOf t_fromOf t_toOf)) → KJ X Q G A 7 59 [(0, .ref h_t), (1, .int x1), (2, .int x2), (3, .int x3), (4, .int x4)] [] (w_X7_go G h_t h_t_lastRang h_t_heardSince h_t_swings h_t_peals h_t_pullOf h_t_pullAt h_t_kindOf h_t_needsOf h_t_longOf h_t_fromOf h_t_toOf h_t_readKind h_t_readNeeds h_t_readFrom h_t_readTo h_t_readLong h_t_readingOf h_t_readingAt h_t_readingIs h_t_sheetSize h_t_sheetLane h_t_sheet h_t_hands t_fault t_bells t_tied t_ropes t_spanNow t_readAt t_readBells t_readRopes t_pulls t_readings t_traceNow t_lastRang t_heardSince t_swings t_peals t_pullOf t_pullAt t_kindOf t_needsOf t_longOf t_fromOf t_toOf) := by
    intro Q A x1 x2 x3 t_fault t_bells t_tied t_ropes t_spanNow t_readAt t_readBells t_readRopes t_pulls t_readings t_traceNow t_pullOf t_pullAt t_kindOf t_needsOf t_longOf t_fromOf t_toOf n
    induction n with
    | zero => intro x4 t_lastRang t_heardSince t_swings t_peals y hm _; exact noS hm
    | succ n ih =>
      intro x4 t_lastRang t_heardSince t_swings t_peals y hm k0
      rw [L_X7_go_59] at hm
      refine k_iload 59 cx dX7_go_59 4 rfl ?_
      refine k_iload_n 61 cx dX7_go_61 rfl 1 rfl ?_
      refine k_icmp_ge 62 cx (tgt := 242) dX7_go_62 (by decide) hm (fun hc hm => ?_) (fun hc hm => ?_)
      · obtain rfl := Option.some.inj hm
        refine k_lv [] rfl ?_
        exact k0
      · refine k_aload_n 65 cx dX7_go_65 rfl 0 rfl ?_
        refine fgX7_46 66 cx dX7_go_66 0 rfl rfl ?_
        refine k_iload 69 cx dX7_go_69 4 rfl ?_
        refine k_iconst 71 cx (v := (0 : Int32)) dX7_go_71 (by decide) ?_
        refine k_iast 72 cx dX7_go_72 4 rfl (fun f109 => (w_X7_go G h_t h_t_lastRang h_t_heardSince h_t_swings h_t_peals h_t_pullOf h_t_pullAt h_t_kindOf h_t_needsOf h_t_longOf h_t_fromOf h_t_toOf h_t_readKind h_t_readNeeds h_t_readFrom h_t_readTo h_t_readLong h_t_readingOf h_t_readingAt h_t_readingIs h_t_sheetSize h_t_sheetLane h_t_sheet h_t_hands t_fault t_bells t_tied t_ropes t_spanNow t_readAt t_readBells t_readRopes t_pulls t_readings t_traceNow t_lastRang t_heardSince t_swings f109 t_pullOf t_pullAt t_kindOf t_needsOf t_longOf t_fromOf t_toOf)) (fun _ => rfl) hm (fun f109 hm => ?_)
        refine k_iconst 73 cx (v := (0 : Int32)) dX7_go_73 (by decide) ?_
        refine k_istore 74 cx dX7_go_74 (by decide) (lv' := [(5, .int (0 : Int32)), (0, .ref h_t), (1, .int x1), (2, .int x2), (3, .int x3), (4, .int x4)]) rfl ?_
        refine k_lv [1, 2, 3, 4, 5, 0] rfl ?_
        obtain ⟨u110, hu110, hm⟩ := bnd hm
        refine lp76 _ _ x1 x2 x3 x4 t_fault t_bells t_tied t_ropes t_spanNow t_readAt t_readBells t_readRopes t_pulls t_readings t_traceNow t_lastRang t_heardSince f109 t_pullOf t_pullAt t_kindOf t_needsOf t_longOf t_fromOf t_toOf 1000 (0 : Int32) t_swings u110 hu110 ?_
        refine k_aload_n 106 cx dX7_go_106 rfl 0 rfl ?_
        refine k_iload 107 cx dX7_go_107 4 rfl ?_
        refine k_iload_n 109 cx dX7_go_109 rfl 2 rfl ?_
        refine k_iload_n 110 cx dX7_go_110 rfl 3 rfl ?_
        obtain ⟨u111, hu111, hm⟩ := bnd hm
        refine k_callV 111 cx cwX7_177 (c_X7_swingAll X.2.1 G h_t h_t_pullOf h_t_swings h_t_pullAt h_t_kindOf h_t_needsOf h_t_longOf h_t_peals h_t_fromOf h_t_toOf h_t_heardSince h_t_readKind h_t_readNeeds h_t_readFrom h_t_readTo h_t_readLong h_t_lastRang h_t_readingOf h_t_readingAt h_t_readingIs h_t_sheetSize h_t_sheetLane h_t_sheet h_t_hands t_fault t_bells t_tied t_ropes t_spanNow t_readAt t_readBells t_readRopes t_pulls t_readings t_traceNow t_pullOf u110.2 t_pullAt t_kindOf t_needsOf t_longOf f109 t_fromOf t_toOf t_heardSince x4 x2 x3 hu111) dX7_go_111 ⟨by decide, by decide⟩ rfl rfl (rest := []) rfl (Nat.le_of_ble_eq_true rfl) [0, 5, 3, 6, 7, 8, 9, 4, 10, 11, 2] (by decide) rfl rfl (w2 := (w_X7_go G h_t h_t_lastRang h_t_heardSince h_t_swings h_t_peals h_t_pullOf h_t_pullAt h_t_kindOf h_t_needsOf h_t_longOf h_t_fromOf h_t_toOf h_t_readKind h_t_readNeeds h_t_readFrom h_t_readTo h_t_readLong h_t_readingOf h_t_readingAt h_t_readingIs h_t_sheetSize h_t_sheetLane h_t_sheet h_t_hands t_fault t_bells t_tied t_ropes t_spanNow t_readAt t_readBells t_readRopes t_pulls t_readings t_traceNow t_lastRang u111.2 u111.1 f109 t_pullOf t_pullAt t_kindOf t_needsOf t_longOf t_fromOf t_toOf)) [1] 12 rfl [(h_t_lastRang, .inl (G.2.1, 6, .inl t_lastRang))] rfl rfl rfl (by decide) (st2 := []) rfl ?_
        refine k_iconst 114 cx (v := (0 : Int32)) dX7_go_114 (by decide) ?_
        refine k_istore 115 cx dX7_go_115 (by decide) (lv' := [(5, .int (0 : Int32)), (0, .ref h_t), (1, .int x1), (2, .int x2), (3, .int x3), (4, .int x4)]) rfl ?_
        refine k_lv [1, 2, 3, 4, 5, 0] rfl ?_
        obtain ⟨u112, hu112, hm⟩ := bnd hm
        refine lp117 _ _ x1 x2 x3 x4 t_fault t_bells t_tied t_ropes t_spanNow t_readAt t_readBells t_readRopes t_pulls t_readings t_traceNow t_lastRang u111.2 u111.1 t_pullOf t_pullAt t_kindOf t_needsOf t_longOf t_fromOf t_toOf 1000 (0 : Int32) f109 u112 hu112 ?_
        refine k_iconst 157 cx (v := (0 : Int32)) dX7_go_157 (by decide) ?_
        refine k_istore 158 cx dX7_go_158 (by decide) (lv' := [(5, .int (0 : Int32)), (0, .ref h_t), (1, .int x1), (2, .int x2), (3, .int x3), (4, .int x4)]) rfl ?_
        refine k_lv [1, 2, 3, 4, 5, 0] rfl ?_
        obtain ⟨u113, hu113, hm⟩ := bnd hm
        refine lp160 _ _ x1 x2 x3 x4 t_fault t_bells t_tied t_ropes t_spanNow t_readAt t_readBells t_readRopes t_pulls t_readings t_traceNow u111.1 u112.2 t_pullOf t_pullAt t_kindOf t_needsOf t_longOf t_fromOf t_toOf 1000 (0 : Int32) t_lastRang u111.2 u113 hu113 ?_
        refine k_iinc 236 cx dX7_go_236 4 rfl (by decide) (by decide) (fun v114 => [(4, .int v114), (0, .ref h_t), (1, .int x1), (2, .int x2), (3, .int x3)]) (fun _ => rfl) hm (fun v114 hm => ?_)
        refine k_goto 239 cx (tgt := 59) dX7_go_239 (by decide) ?_
        refine k_lv [1, 2, 3, 4, 0] rfl ?_
        exact ih v114 u113.2.1 u113.2.2 u111.1 u112.2 _ hm k0
  unfold M_X7_go at hm
  refine k_iconst 0 cx (v := (0 : Int32)) dX7_go_0 (by decide) ?_
  refine k_istore 1 cx dX7_go_1 (by decide) (lv' := [(4, .int (0 : Int32)), (0, .ref h_t), (1, .int a1), (2, .int a2), (3, .int a3)]) rfl ?_
  refine k_lv [1, 2, 3, 4, 0] rfl ?_
  obtain ⟨u13, hu13, hm⟩ := bnd hm
  refine lp3 _ _ a1 a2 a3 t_fault t_bells t_tied t_ropes t_spanNow t_readAt t_readBells t_readRopes t_pulls t_readings t_traceNow t_swings t_peals t_pullOf t_pullAt t_kindOf t_needsOf t_longOf t_fromOf t_toOf 1000 (0 : Int32) t_lastRang t_heardSince u13 hu13 ?_
  refine k_iconst 32 cx (v := (0 : Int32)) dX7_go_32 (by decide) ?_
  refine k_istore 33 cx dX7_go_33 (by decide) (lv' := [(4, .int (0 : Int32)), (0, .ref h_t), (1, .int a1), (2, .int a2), (3, .int a3)]) rfl ?_
  refine k_lv [1, 2, 3, 4, 0] rfl ?_
  obtain ⟨u22, hu22, hm⟩ := bnd hm
  refine lp35 _ _ a1 a2 a3 t_fault t_bells t_tied t_ropes t_spanNow t_readAt t_readBells t_readRopes t_pulls t_readings t_traceNow u13.2.1 u13.2.2 t_peals t_pullOf t_pullAt t_kindOf t_needsOf t_longOf t_fromOf t_toOf 1000 (0 : Int32) t_swings u22 hu22 ?_
  refine k_iconst 56 cx (v := (0 : Int32)) dX7_go_56 (by decide) ?_
  refine k_istore 57 cx dX7_go_57 (by decide) (lv' := [(4, .int (0 : Int32)), (0, .ref h_t), (1, .int a1), (2, .int a2), (3, .int a3)]) rfl ?_
  refine k_lv [1, 2, 3, 4, 0] rfl ?_
  obtain ⟨u115, hu115, hm⟩ := bnd hm
  refine lp59 _ _ a1 a2 a3 t_fault t_bells t_tied t_ropes t_spanNow t_readAt t_readBells t_readRopes t_pulls t_readings t_traceNow t_pullOf t_pullAt t_kindOf t_needsOf t_longOf t_fromOf t_toOf 1000 (0 : Int32) u13.2.1 u13.2.2 u22.2 t_peals u115 hu115 ?_
  obtain rfl := Option.some.inj hm
  exact k_vret 242 cx dX7_go_242 rfl rfl
set_option maxRecDepth 100000 in
theorem cwX7_184 : CWV RX7 184 RX7 yX7_go cX7_go 7 none 3 7 TX7 34 := ⟨tb_m (i := 844) rfl rfl, tb_m (i := 846) rfl rfl, tb_m (i := 39) rfl rfl, tb_m (i := 58) rfl rfl, tb_m (i := 847) rfl rfl, ⟨by decide +kernel, by decide +kernel, by decide +kernel⟩, rfl⟩
def w_X7_goPulls (G : GT) (h_t : Nat) (h_t_lastRang : Nat) (h_t_heardSince : Nat) (h_t_swings : Nat) (h_t_peals : Nat) (h_t_pullOf : Nat) (h_t_pullAt : Nat) (h_t_kindOf : Nat) (h_t_needsOf : Nat) (h_t_longOf : Nat) (h_t_fromOf : Nat) (h_t_toOf : Nat) (h_t_readKind : Nat) (h_t_readNeeds : Nat) (h_t_readFrom : Nat) (h_t_readTo : Nat) (h_t_readLong : Nat) (h_t_readingOf : Nat) (h_t_readingAt : Nat) (h_t_readingIs : Nat) (h_t_sheetSize : Nat) (h_t_sheetLane : Nat) (h_t_sheet : Nat) (h_t_hands : Nat) (t_fault : Int32) (t_bells : Int32) (t_tied : Int32) (t_ropes : Int32) (t_spanNow : Int32) (t_readAt : Int32) (t_readBells : Int32) (t_readRopes : Int32) (t_pulls : Int32) (t_readings : Int32) (t_traceNow : Int32) (t_lastRang : (Nat → Int32)) (t_heardSince : (Nat → Int32)) (t_swings : (Nat → Int32)) (t_peals : (Nat → Int32)) (t_pullOf : (Nat → Int32)) (t_pullAt : (Nat → Int32)) (t_kindOf : (Nat → Int32)) (t_needsOf : (Nat → Int32)) (t_longOf : (Nat → Int32)) (t_fromOf : (Nat → Int32)) (t_toOf : (Nat → Int32)) : va_W := [(h_t, .inr (7, [.int t_fault, .int t_bells, .ref h_t_kindOf, .ref h_t_needsOf, .int t_tied, .int t_ropes, .ref h_t_fromOf, .ref h_t_toOf, .ref h_t_longOf, .int t_spanNow, .int t_readAt, .int t_readBells, .int t_readRopes, .ref h_t_readKind, .ref h_t_readNeeds, .ref h_t_readFrom, .ref h_t_readTo, .ref h_t_readLong, .int t_pulls, .ref h_t_pullOf, .ref h_t_pullAt, .ref h_t_peals, .ref h_t_swings, .ref h_t_lastRang, .ref h_t_heardSince, .int t_readings, .ref h_t_readingOf, .ref h_t_readingAt, .ref h_t_readingIs, .ref h_t_sheetSize, .ref h_t_sheetLane, .ref h_t_sheet, .ref h_t_hands, .int t_traceNow])), (h_t_lastRang, .inl (G.2.1, 6, .inl t_lastRang)), (h_t_heardSince, .inl (G.2.1, 6, .inl t_heardSince)), (h_t_swings, .inl (G.2.1, 36, .inl t_swings)), (h_t_peals, .inl (G.2.1, 400, .inl t_peals)), (h_t_pullOf, .inl (G.2.1, 6, .inl t_pullOf)), (h_t_pullAt, .inl (G.2.1, 6, .inl t_pullAt)), (h_t_kindOf, .inl (G.2.1, 6, .inl t_kindOf)), (h_t_needsOf, .inl (G.2.1, 6, .inl t_needsOf)), (h_t_longOf, .inl (G.2.1, 9, .inl t_longOf)), (h_t_fromOf, .inl (G.2.1, 9, .inl t_fromOf)), (h_t_toOf, .inl (G.2.1, 9, .inl t_toOf))]
def M_X7_goPulls (t_bells : Int32) (t_tied : Int32) (t_ropes : Int32) (t_spanNow : Int32) (t_pulls : Int32) (t_lastRang : (Nat → Int32)) (t_heardSince : (Nat → Int32)) (t_swings : (Nat → Int32)) (t_peals : (Nat → Int32)) (t_pullOf : (Nat → Int32)) (t_pullAt : (Nat → Int32)) (t_kindOf : (Nat → Int32)) (t_needsOf : (Nat → Int32)) (t_longOf : (Nat → Int32)) (t_fromOf : (Nat → Int32)) (t_toOf : (Nat → Int32)) : Option ((Nat → Int32) × (Nat → Int32) × (Nat → Int32) × (Nat → Int32)) := ((M_X7_go t_bells t_tied t_ropes t_spanNow t_pulls t_lastRang t_heardSince t_swings t_peals t_pullOf t_pullAt t_kindOf t_needsOf t_longOf t_fromOf t_toOf (400 : Int32) (-9 : Int32) (-9 : Int32)).bind (fun u1 => (some (u1.1, u1.2.1, u1.2.2.1, u1.2.2.2))))
set_option maxHeartbeats 4000000 in
set_option maxRecDepth 100000 in
theorem c_X7_goPulls (l : Launch) (G : GT) (h_t : Nat) (h_t_lastRang : Nat) (h_t_heardSince : Nat) (h_t_swings : Nat) (h_t_peals : Nat) (h_t_pullOf : Nat) (h_t_pullAt : Nat) (h_t_kindOf : Nat) (h_t_needsOf : Nat) (h_t_longOf : Nat) (h_t_fromOf : Nat) (h_t_toOf : Nat) (h_t_readKind : Nat) (h_t_readNeeds : Nat) (h_t_readFrom : Nat) (h_t_readTo : Nat) (h_t_readLong : Nat) (h_t_readingOf : Nat) (h_t_readingAt : Nat) (h_t_readingIs : Nat) (h_t_sheetSize : Nat) (h_t_sheetLane : Nat) (h_t_sheet : Nat) (h_t_hands : Nat) (t_fault : Int32) (t_bells : Int32) (t_tied : Int32) (t_ropes : Int32) (t_spanNow : Int32) (t_readAt : Int32) (t_readBells : Int32) (t_readRopes : Int32) (t_pulls : Int32) (t_readings : Int32) (t_traceNow : Int32) (t_lastRang : (Nat → Int32)) (t_heardSince : (Nat → Int32)) (t_swings : (Nat → Int32)) (t_peals : (Nat → Int32)) (t_pullOf : (Nat → Int32)) (t_pullAt : (Nat → Int32)) (t_kindOf : (Nat → Int32)) (t_needsOf : (Nat → Int32)) (t_longOf : (Nat → Int32)) (t_fromOf : (Nat → Int32)) (t_toOf : (Nat → Int32)) {u : (Nat → Int32) × (Nat → Int32) × (Nat → Int32) × (Nat → Int32)} (hm : M_X7_goPulls t_bells t_tied t_ropes t_spanNow t_pulls t_lastRang t_heardSince t_swings t_peals t_pullOf t_pullAt t_kindOf t_needsOf t_longOf t_fromOf t_toOf = some u) : CT l yX7_goPulls cX7_goPulls 1 none 3 73 [.ref h_t] G (w_X7_goPulls G h_t h_t_lastRang h_t_heardSince h_t_swings h_t_peals h_t_pullOf h_t_pullAt h_t_kindOf h_t_needsOf h_t_longOf h_t_fromOf h_t_toOf h_t_readKind h_t_readNeeds h_t_readFrom h_t_readTo h_t_readLong h_t_readingOf h_t_readingAt h_t_readingIs h_t_sheetSize h_t_sheetLane h_t_sheet h_t_hands t_fault t_bells t_tied t_ropes t_spanNow t_readAt t_readBells t_readRopes t_pulls t_readings t_traceNow t_lastRang t_heardSince t_swings t_peals t_pullOf t_pullAt t_kindOf t_needsOf t_longOf t_fromOf t_toOf) none (w_X7_goPulls G h_t h_t_lastRang h_t_heardSince h_t_swings h_t_peals h_t_pullOf h_t_pullAt h_t_kindOf h_t_needsOf h_t_longOf h_t_fromOf h_t_toOf h_t_readKind h_t_readNeeds h_t_readFrom h_t_readTo h_t_readLong h_t_readingOf h_t_readingAt h_t_readingIs h_t_sheetSize h_t_sheetLane h_t_sheet h_t_hands t_fault t_bells t_tied t_ropes t_spanNow t_readAt t_readBells t_readRopes t_pulls t_readings t_traceNow u.1 u.2.1 u.2.2.1 u.2.2.2 t_pullOf t_pullAt t_kindOf t_needsOf t_longOf t_fromOf t_toOf) := by
  refine ct_intro RX7 [(0, .ref h_t)] (by decide) rfl (Nat.le_of_ble_eq_true rfl) rfl (fun X hX cx => ?_)
  unfold M_X7_goPulls at hm
  refine k_aload_n 0 cx dX7_goPulls_0 rfl 0 rfl ?_
  refine k_sipush 1 cx (v := (400 : Int32)) dX7_goPulls_1 (by decide) ?_
  refine k_bipush 4 cx (v := (-9 : Int32)) dX7_goPulls_4 (by decide) ?_
  refine k_bipush 6 cx (v := (-9 : Int32)) dX7_goPulls_6 (by decide) ?_
  obtain ⟨u1, hu1, hm⟩ := bnd hm
  refine k_callV 8 cx cwX7_184 (c_X7_go X.2.1 G h_t h_t_lastRang h_t_heardSince h_t_swings h_t_peals h_t_pullOf h_t_pullAt h_t_kindOf h_t_needsOf h_t_longOf h_t_fromOf h_t_toOf h_t_readKind h_t_readNeeds h_t_readFrom h_t_readTo h_t_readLong h_t_readingOf h_t_readingAt h_t_readingIs h_t_sheetSize h_t_sheetLane h_t_sheet h_t_hands t_fault t_bells t_tied t_ropes t_spanNow t_readAt t_readBells t_readRopes t_pulls t_readings t_traceNow t_lastRang t_heardSince t_swings t_peals t_pullOf t_pullAt t_kindOf t_needsOf t_longOf t_fromOf t_toOf (400 : Int32) (-9 : Int32) (-9 : Int32) hu1) dX7_goPulls_8 ⟨by decide, by decide⟩ rfl rfl (rest := []) rfl (Nat.le_of_ble_eq_true rfl) [0, 1, 2, 3, 4, 5, 6, 7, 8, 9, 10, 11] (by decide) rfl rfl (w2 := (w_X7_goPulls G h_t h_t_lastRang h_t_heardSince h_t_swings h_t_peals h_t_pullOf h_t_pullAt h_t_kindOf h_t_needsOf h_t_longOf h_t_fromOf h_t_toOf h_t_readKind h_t_readNeeds h_t_readFrom h_t_readTo h_t_readLong h_t_readingOf h_t_readingAt h_t_readingIs h_t_sheetSize h_t_sheetLane h_t_sheet h_t_hands t_fault t_bells t_tied t_ropes t_spanNow t_readAt t_readBells t_readRopes t_pulls t_readings t_traceNow u1.1 u1.2.1 u1.2.2.1 u1.2.2.2 t_pullOf t_pullAt t_kindOf t_needsOf t_longOf t_fromOf t_toOf)) [] 12 rfl [] rfl rfl rfl (by decide) (st2 := []) rfl ?_
  obtain rfl := Option.some.inj hm
  exact k_vret 11 cx dX7_goPulls_11 rfl rfl
set_option maxRecDepth 100000 in
theorem cwX7_187 : CWV RX7 187 RX7 yX7_goPulls cX7_goPulls 1 none 0 7 TX7 34 := ⟨tb_m (i := 840) rfl rfl, tb_m (i := 842) rfl rfl, tb_m (i := 38) rfl rfl, tb_m (i := 58) rfl rfl, tb_m (i := 843) rfl rfl, ⟨by decide +kernel, by decide +kernel, by decide +kernel⟩, rfl⟩
def w_X7_rings (G : GT) (h_t : Nat) (h_t_lastRang : Nat) (h_t_heardSince : Nat) (h_t_swings : Nat) (h_t_peals : Nat) (h_t_pullOf : Nat) (h_t_pullAt : Nat) (h_t_kindOf : Nat) (h_t_needsOf : Nat) (h_t_longOf : Nat) (h_t_fromOf : Nat) (h_t_toOf : Nat) (h_t_readKind : Nat) (h_t_readNeeds : Nat) (h_t_readFrom : Nat) (h_t_readTo : Nat) (h_t_readLong : Nat) (h_t_readingOf : Nat) (h_t_readingAt : Nat) (h_t_readingIs : Nat) (h_t_sheetSize : Nat) (h_t_sheetLane : Nat) (h_t_sheet : Nat) (h_t_hands : Nat) (t_fault : Int32) (t_bells : Int32) (t_tied : Int32) (t_ropes : Int32) (t_spanNow : Int32) (t_readAt : Int32) (t_readBells : Int32) (t_readRopes : Int32) (t_pulls : Int32) (t_readings : Int32) (t_traceNow : Int32) (t_lastRang : (Nat → Int32)) (t_heardSince : (Nat → Int32)) (t_swings : (Nat → Int32)) (t_peals : (Nat → Int32)) (t_pullOf : (Nat → Int32)) (t_pullAt : (Nat → Int32)) (t_kindOf : (Nat → Int32)) (t_needsOf : (Nat → Int32)) (t_longOf : (Nat → Int32)) (t_fromOf : (Nat → Int32)) (t_toOf : (Nat → Int32)) : va_W := [(h_t, .inr (7, [.int t_fault, .int t_bells, .ref h_t_kindOf, .ref h_t_needsOf, .int t_tied, .int t_ropes, .ref h_t_fromOf, .ref h_t_toOf, .ref h_t_longOf, .int t_spanNow, .int t_readAt, .int t_readBells, .int t_readRopes, .ref h_t_readKind, .ref h_t_readNeeds, .ref h_t_readFrom, .ref h_t_readTo, .ref h_t_readLong, .int t_pulls, .ref h_t_pullOf, .ref h_t_pullAt, .ref h_t_peals, .ref h_t_swings, .ref h_t_lastRang, .ref h_t_heardSince, .int t_readings, .ref h_t_readingOf, .ref h_t_readingAt, .ref h_t_readingIs, .ref h_t_sheetSize, .ref h_t_sheetLane, .ref h_t_sheet, .ref h_t_hands, .int t_traceNow])), (h_t_lastRang, .inl (G.2.1, 6, .inl t_lastRang)), (h_t_heardSince, .inl (G.2.1, 6, .inl t_heardSince)), (h_t_swings, .inl (G.2.1, 36, .inl t_swings)), (h_t_peals, .inl (G.2.1, 400, .inl t_peals)), (h_t_pullOf, .inl (G.2.1, 6, .inl t_pullOf)), (h_t_pullAt, .inl (G.2.1, 6, .inl t_pullAt)), (h_t_kindOf, .inl (G.2.1, 6, .inl t_kindOf)), (h_t_needsOf, .inl (G.2.1, 6, .inl t_needsOf)), (h_t_longOf, .inl (G.2.1, 9, .inl t_longOf)), (h_t_fromOf, .inl (G.2.1, 9, .inl t_fromOf)), (h_t_toOf, .inl (G.2.1, 9, .inl t_toOf))]
def L_X7_rings_18 (x1 : Int32) (t_peals : (Nat → Int32)) : Nat → Int32 → Int32 → Option (Int32 × Int32)
  | 0, _, _ => none
  | n + 1, x2, x3 => (if (400 : Int32) ≤ x3 then (some (x2, x3)) else (gB (inb x3 400) (nme (x2 + (((t_peals (Int32.toNatClampNeg x3)) >>> (x1 &&& 31)) &&& (1 : Int32))) (fun v9 => (nme (x3 + (1 : Int32)) (fun v10 => (L_X7_rings_18 x1 t_peals n v9 v10)))))))
def M_X7_rings (t_bells : Int32) (t_tied : Int32) (t_ropes : Int32) (t_spanNow : Int32) (t_pulls : Int32) (t_lastRang : (Nat → Int32)) (t_heardSince : (Nat → Int32)) (t_swings : (Nat → Int32)) (t_peals : (Nat → Int32)) (t_pullOf : (Nat → Int32)) (t_pullAt : (Nat → Int32)) (t_kindOf : (Nat → Int32)) (t_needsOf : (Nat → Int32)) (t_longOf : (Nat → Int32)) (t_fromOf : (Nat → Int32)) (t_toOf : (Nat → Int32)) (a1 : Int32) : Option (Int32 × (Nat → Int32) × (Nat → Int32) × (Nat → Int32) × (Nat → Int32)) := ((M_X7_noBell t_bells a1).bind (fun u1 => (if u1 = 0 then ((M_X7_goPulls t_bells t_tied t_ropes t_spanNow t_pulls t_lastRang t_heardSince t_swings t_peals t_pullOf t_pullAt t_kindOf t_needsOf t_longOf t_fromOf t_toOf).bind (fun u2 => ((L_X7_rings_18 a1 u2.2.2.2 1000 (0 : Int32) (0 : Int32)).bind (fun u11 => (some (u11.1, u2.1, u2.2.1, u2.2.2.1, u2.2.2.2)))))) else (some ((-1 : Int32), t_lastRang, t_heardSince, t_swings, t_peals)))))
set_option maxHeartbeats 4000000 in
set_option maxRecDepth 100000 in
theorem c_X7_rings (l : Launch) (G : GT) (h_t : Nat) (h_t_lastRang : Nat) (h_t_heardSince : Nat) (h_t_swings : Nat) (h_t_peals : Nat) (h_t_pullOf : Nat) (h_t_pullAt : Nat) (h_t_kindOf : Nat) (h_t_needsOf : Nat) (h_t_longOf : Nat) (h_t_fromOf : Nat) (h_t_toOf : Nat) (h_t_readKind : Nat) (h_t_readNeeds : Nat) (h_t_readFrom : Nat) (h_t_readTo : Nat) (h_t_readLong : Nat) (h_t_readingOf : Nat) (h_t_readingAt : Nat) (h_t_readingIs : Nat) (h_t_sheetSize : Nat) (h_t_sheetLane : Nat) (h_t_sheet : Nat) (h_t_hands : Nat) (t_fault : Int32) (t_bells : Int32) (t_tied : Int32) (t_ropes : Int32) (t_spanNow : Int32) (t_readAt : Int32) (t_readBells : Int32) (t_readRopes : Int32) (t_pulls : Int32) (t_readings : Int32) (t_traceNow : Int32) (t_lastRang : (Nat → Int32)) (t_heardSince : (Nat → Int32)) (t_swings : (Nat → Int32)) (t_peals : (Nat → Int32)) (t_pullOf : (Nat → Int32)) (t_pullAt : (Nat → Int32)) (t_kindOf : (Nat → Int32)) (t_needsOf : (Nat → Int32)) (t_longOf : (Nat → Int32)) (t_fromOf : (Nat → Int32)) (t_toOf : (Nat → Int32)) (a1 : Int32) {u : Int32 × (Nat → Int32) × (Nat → Int32) × (Nat → Int32) × (Nat → Int32)} (hm : M_X7_rings t_bells t_tied t_ropes t_spanNow t_pulls t_lastRang t_heardSince t_swings t_peals t_pullOf t_pullAt t_kindOf t_needsOf t_longOf t_fromOf t_toOf a1 = some u) : CT l yX7_rings cX7_rings 4 (some .int) 4 93 [.ref h_t, .int a1] G (w_X7_rings G h_t h_t_lastRang h_t_heardSince h_t_swings h_t_peals h_t_pullOf h_t_pullAt h_t_kindOf h_t_needsOf h_t_longOf h_t_fromOf h_t_toOf h_t_readKind h_t_readNeeds h_t_readFrom h_t_readTo h_t_readLong h_t_readingOf h_t_readingAt h_t_readingIs h_t_sheetSize h_t_sheetLane h_t_sheet h_t_hands t_fault t_bells t_tied t_ropes t_spanNow t_readAt t_readBells t_readRopes t_pulls t_readings t_traceNow t_lastRang t_heardSince t_swings t_peals t_pullOf t_pullAt t_kindOf t_needsOf t_longOf t_fromOf t_toOf) (some (.int u.1)) (w_X7_rings G h_t h_t_lastRang h_t_heardSince h_t_swings h_t_peals h_t_pullOf h_t_pullAt h_t_kindOf h_t_needsOf h_t_longOf h_t_fromOf h_t_toOf h_t_readKind h_t_readNeeds h_t_readFrom h_t_readTo h_t_readLong h_t_readingOf h_t_readingAt h_t_readingIs h_t_sheetSize h_t_sheetLane h_t_sheet h_t_hands t_fault t_bells t_tied t_ropes t_spanNow t_readAt t_readBells t_readRopes t_pulls t_readings t_traceNow u.2.1 u.2.2.1 u.2.2.2.1 u.2.2.2.2 t_pullOf t_pullAt t_kindOf t_needsOf t_longOf t_fromOf t_toOf) := by
  refine ct_intro RX7 [(0, .ref h_t), (1, .int a1)] (by decide) rfl (Nat.le_of_ble_eq_true rfl) rfl (fun X hX cx => ?_)
  have lp18 : ∀ (Q : State → Prop) (A : Nat → Prop) (x1 : Int32) (t_fault : Int32) (t_bells : Int32) (t_tied : Int32) (t_ropes : Int32) (t_spanNow : Int32) (t_readAt : Int32) (t_readBells : Int32) (t_readRopes : Int32) (t_pulls : Int32) (t_readings : Int32) (t_traceNow : Int32) (t_lastRang : (Nat → Int32)) (t_heardSince : (Nat → Int32)) (t_swings : (Nat → Int32)) (t_peals : (Nat → Int32)) (t_pullOf : (Nat → Int32)) (t_pullAt : (Nat → Int32)) (t_kindOf : (Nat → Int32)) (t_needsOf : (Nat → Int32)) (t_longOf : (Nat → Int32)) (t_fromOf : (Nat → Int32)) (t_toOf : (Nat → Int32)) (n : Nat) (x2 : Int32) (x3 : Int32) (y : Int32 × Int32), L_X7_rings_18 x1 t_peals n x2 x3 = some y → (KJ X Q G A 4 44 [(2, .int y.1)] [] (w_X7_rings G h_t h_t_lastRang h_t_heardSince h_t_swings h_t_peals h_t_pullOf h_t_pullAt h_t_kindOf h_t_needsOf h_t_longOf h_t_fromOf h_t_toOf h_t_readKind h_t_readNeeds h_t_readFrom h_t_readTo h_t_readLong h_t_readingOf h_t_readingAt h_t_readingIs h_t_sheetSize h_t_sheetLane h_t_sheet h_t_hands t_fault t_bells t_tied t_ropes t_spanNow t_readAt t_readBells t_readRopes t_pulls t_readings t_traceNow t_lastRang t_heardSince t_swings t_peals t_pullOf t_pullAt t_kindOf t_needsOf t_longOf t_fromOf t_toOf)) → KJ X Q G A 4 18 [(0, .ref h_t), (1, .int x1), (2, .int x2), (3, .int x3)] [] (w_X7_rings G h_t h_t_lastRang h_t_heardSince h_t_swings h_t_peals h_t_pullOf h_t_pullAt h_t_kindOf h_t_needsOf h_t_longOf h_t_fromOf h_t_toOf h_t_readKind h_t_readNeeds h_t_readFrom h_t_readTo h_t_readLong h_t_readingOf h_t_readingAt h_t_readingIs h_t_sheetSize h_t_sheetLane h_t_sheet h_t_hands t_fault t_bells t_tied t_ropes t_spanNow t_readAt t_readBells t_readRopes t_pulls t_readings t_traceNow t_lastRang t_heardSince t_swings t_peals t_pullOf t_pullAt t_kindOf t_needsOf t_longOf t_fromOf t_toOf) := by
    intro Q A x1 t_fault t_bells t_tied t_ropes t_spanNow t_readAt t_readBells t_readRopes t_pulls t_readings t_traceNow t_lastRang t_heardSince t_swings t_peals t_pullOf t_pullAt t_kindOf t_needsOf t_longOf t_fromOf t_toOf n
    induction n with
    | zero => intro x2 x3 y hm _; exact noS hm
    | succ n ih =>
      intro x2 x3 y hm k0
      rw [L_X7_rings_18] at hm
      refine k_iload_n 18 cx dX7_rings_18 rfl 3 rfl ?_
      refine k_sipush 19 cx (v := (400 : Int32)) dX7_rings_19 (by decide) ?_
      refine k_icmp_ge 22 cx (tgt := 44) dX7_rings_22 (by decide) hm (fun hc hm => ?_) (fun hc hm => ?_)
      · obtain rfl := Option.some.inj hm
        refine k_lv [2] rfl ?_
        exact k0
      · refine k_iload_n 25 cx dX7_rings_25 rfl 2 rfl ?_
        refine k_aload_n 26 cx dX7_rings_26 rfl 0 rfl ?_
        refine fgX7_46 27 cx dX7_rings_27 0 rfl rfl ?_
        refine k_iload_n 30 cx dX7_rings_30 rfl 3 rfl ?_
        refine k_iald 31 cx dX7_rings_31 4 rfl hm (fun hm => ?_)
        refine k_iload_n 32 cx dX7_rings_32 rfl 1 rfl ?_
        refine k_ishr 33 cx dX7_rings_33 ?_
        refine k_iconst 34 cx (v := (1 : Int32)) dX7_rings_34 (by decide) ?_
        refine k_iand 35 cx dX7_rings_35 ?_
        refine k_iadd 36 cx dX7_rings_36 ?_
        refine k_nm hm (fun v9 hm => ?_)
        refine k_istore_n 37 cx dX7_rings_37 rfl (by decide) (lv' := [(2, .int v9), (0, .ref h_t), (1, .int x1), (3, .int x3)]) rfl ?_
        refine k_iinc 38 cx dX7_rings_38 3 rfl (by decide) (by decide) (fun v10 => [(3, .int v10), (2, .int v9), (0, .ref h_t), (1, .int x1)]) (fun _ => rfl) hm (fun v10 hm => ?_)
        refine k_goto 41 cx (tgt := 18) dX7_rings_41 (by decide) ?_
        refine k_lv [2, 3, 1, 0] rfl ?_
        exact ih v9 v10 _ hm k0
  unfold M_X7_rings at hm
  refine k_aload_n 0 cx dX7_rings_0 rfl 0 rfl ?_
  refine k_iload_n 1 cx dX7_rings_1 rfl 1 rfl ?_
  obtain ⟨u1, hu1, hm⟩ := bnd hm
  refine k_callV 2 cx cwX7_160 (c_X7_noBell X.2.1 G h_t h_t_kindOf h_t_needsOf h_t_fromOf h_t_toOf h_t_longOf h_t_readKind h_t_readNeeds h_t_readFrom h_t_readTo h_t_readLong h_t_pullOf h_t_pullAt h_t_peals h_t_swings h_t_lastRang h_t_heardSince h_t_readingOf h_t_readingAt h_t_readingIs h_t_sheetSize h_t_sheetLane h_t_sheet h_t_hands t_fault t_bells t_tied t_ropes t_spanNow t_readAt t_readBells t_readRopes t_pulls t_readings t_traceNow a1 hu1) dX7_rings_2 ⟨by decide, by decide⟩ rfl rfl (rest := []) rfl (Nat.le_of_ble_eq_true rfl) [0] (by decide) rfl rfl (w2 := (w_X7_rings G h_t h_t_lastRang h_t_heardSince h_t_swings h_t_peals h_t_pullOf h_t_pullAt h_t_kindOf h_t_needsOf h_t_longOf h_t_fromOf h_t_toOf h_t_readKind h_t_readNeeds h_t_readFrom h_t_readTo h_t_readLong h_t_readingOf h_t_readingAt h_t_readingIs h_t_sheetSize h_t_sheetLane h_t_sheet h_t_hands t_fault t_bells t_tied t_ropes t_spanNow t_readAt t_readBells t_readRopes t_pulls t_readings t_traceNow t_lastRang t_heardSince t_swings t_peals t_pullOf t_pullAt t_kindOf t_needsOf t_longOf t_fromOf t_toOf)) [1, 2, 3, 4, 5, 6, 7, 8, 9, 10, 11] 12 rfl [(h_t_lastRang, .inl (G.2.1, 6, .inl t_lastRang)), (h_t_heardSince, .inl (G.2.1, 6, .inl t_heardSince)), (h_t_swings, .inl (G.2.1, 36, .inl t_swings)), (h_t_peals, .inl (G.2.1, 400, .inl t_peals)), (h_t_pullOf, .inl (G.2.1, 6, .inl t_pullOf)), (h_t_pullAt, .inl (G.2.1, 6, .inl t_pullAt)), (h_t_kindOf, .inl (G.2.1, 6, .inl t_kindOf)), (h_t_needsOf, .inl (G.2.1, 6, .inl t_needsOf)), (h_t_longOf, .inl (G.2.1, 9, .inl t_longOf)), (h_t_fromOf, .inl (G.2.1, 9, .inl t_fromOf)), (h_t_toOf, .inl (G.2.1, 9, .inl t_toOf))] rfl rfl rfl (by decide) (st2 := [.int u1]) rfl ?_
  refine k_if_eq 5 cx (tgt := 10) dX7_rings_5 (by decide) hm (fun hc hm => ?_) (fun hc hm => ?_)
  · refine k_aload_n 10 cx dX7_rings_10 rfl 0 rfl ?_
    obtain ⟨u2, hu2, hm⟩ := bnd hm
    refine k_callV 11 cx cwX7_187 (c_X7_goPulls X.2.1 G h_t h_t_lastRang h_t_heardSince h_t_swings h_t_peals h_t_pullOf h_t_pullAt h_t_kindOf h_t_needsOf h_t_longOf h_t_fromOf h_t_toOf h_t_readKind h_t_readNeeds h_t_readFrom h_t_readTo h_t_readLong h_t_readingOf h_t_readingAt h_t_readingIs h_t_sheetSize h_t_sheetLane h_t_sheet h_t_hands t_fault t_bells t_tied t_ropes t_spanNow t_readAt t_readBells t_readRopes t_pulls t_readings t_traceNow t_lastRang t_heardSince t_swings t_peals t_pullOf t_pullAt t_kindOf t_needsOf t_longOf t_fromOf t_toOf hu2) dX7_rings_11 ⟨by decide, by decide⟩ rfl rfl (rest := []) rfl (Nat.le_of_ble_eq_true rfl) [0, 1, 2, 3, 4, 5, 6, 7, 8, 9, 10, 11] (by decide) rfl rfl (w2 := (w_X7_rings G h_t h_t_lastRang h_t_heardSince h_t_swings h_t_peals h_t_pullOf h_t_pullAt h_t_kindOf h_t_needsOf h_t_longOf h_t_fromOf h_t_toOf h_t_readKind h_t_readNeeds h_t_readFrom h_t_readTo h_t_readLong h_t_readingOf h_t_readingAt h_t_readingIs h_t_sheetSize h_t_sheetLane h_t_sheet h_t_hands t_fault t_bells t_tied t_ropes t_spanNow t_readAt t_readBells t_readRopes t_pulls t_readings t_traceNow u2.1 u2.2.1 u2.2.2.1 u2.2.2.2 t_pullOf t_pullAt t_kindOf t_needsOf t_longOf t_fromOf t_toOf)) [] 12 rfl [] rfl rfl rfl (by decide) (st2 := []) rfl ?_
    refine k_iconst 14 cx (v := (0 : Int32)) dX7_rings_14 (by decide) ?_
    refine k_istore_n 15 cx dX7_rings_15 rfl (by decide) (lv' := [(2, .int (0 : Int32)), (0, .ref h_t), (1, .int a1)]) rfl ?_
    refine k_iconst 16 cx (v := (0 : Int32)) dX7_rings_16 (by decide) ?_
    refine k_istore_n 17 cx dX7_rings_17 rfl (by decide) (lv' := [(3, .int (0 : Int32)), (2, .int (0 : Int32)), (0, .ref h_t), (1, .int a1)]) rfl ?_
    refine k_lv [2, 3, 1, 0] rfl ?_
    obtain ⟨u11, hu11, hm⟩ := bnd hm
    refine lp18 _ _ a1 t_fault t_bells t_tied t_ropes t_spanNow t_readAt t_readBells t_readRopes t_pulls t_readings t_traceNow u2.1 u2.2.1 u2.2.2.1 u2.2.2.2 t_pullOf t_pullAt t_kindOf t_needsOf t_longOf t_fromOf t_toOf 1000 (0 : Int32) (0 : Int32) u11 hu11 ?_
    refine k_iload_n 44 cx dX7_rings_44 rfl 0 rfl ?_
    obtain rfl := Option.some.inj hm
    exact k_iret 45 cx dX7_rings_45 rfl rfl
  · refine k_iconst 8 cx (v := (-1 : Int32)) dX7_rings_8 (by decide) ?_
    obtain rfl := Option.some.inj hm
    exact k_iret 9 cx dX7_rings_9 rfl rfl
def w_X7_ringsAt (G : GT) (h_t : Nat) (h_t_lastRang : Nat) (h_t_heardSince : Nat) (h_t_swings : Nat) (h_t_peals : Nat) (h_t_pullOf : Nat) (h_t_pullAt : Nat) (h_t_kindOf : Nat) (h_t_needsOf : Nat) (h_t_longOf : Nat) (h_t_fromOf : Nat) (h_t_toOf : Nat) (h_t_readKind : Nat) (h_t_readNeeds : Nat) (h_t_readFrom : Nat) (h_t_readTo : Nat) (h_t_readLong : Nat) (h_t_readingOf : Nat) (h_t_readingAt : Nat) (h_t_readingIs : Nat) (h_t_sheetSize : Nat) (h_t_sheetLane : Nat) (h_t_sheet : Nat) (h_t_hands : Nat) (t_fault : Int32) (t_bells : Int32) (t_tied : Int32) (t_ropes : Int32) (t_spanNow : Int32) (t_readAt : Int32) (t_readBells : Int32) (t_readRopes : Int32) (t_pulls : Int32) (t_readings : Int32) (t_traceNow : Int32) (t_lastRang : (Nat → Int32)) (t_heardSince : (Nat → Int32)) (t_swings : (Nat → Int32)) (t_peals : (Nat → Int32)) (t_pullOf : (Nat → Int32)) (t_pullAt : (Nat → Int32)) (t_kindOf : (Nat → Int32)) (t_needsOf : (Nat → Int32)) (t_longOf : (Nat → Int32)) (t_fromOf : (Nat → Int32)) (t_toOf : (Nat → Int32)) : va_W := [(h_t, .inr (7, [.int t_fault, .int t_bells, .ref h_t_kindOf, .ref h_t_needsOf, .int t_tied, .int t_ropes, .ref h_t_fromOf, .ref h_t_toOf, .ref h_t_longOf, .int t_spanNow, .int t_readAt, .int t_readBells, .int t_readRopes, .ref h_t_readKind, .ref h_t_readNeeds, .ref h_t_readFrom, .ref h_t_readTo, .ref h_t_readLong, .int t_pulls, .ref h_t_pullOf, .ref h_t_pullAt, .ref h_t_peals, .ref h_t_swings, .ref h_t_lastRang, .ref h_t_heardSince, .int t_readings, .ref h_t_readingOf, .ref h_t_readingAt, .ref h_t_readingIs, .ref h_t_sheetSize, .ref h_t_sheetLane, .ref h_t_sheet, .ref h_t_hands, .int t_traceNow])), (h_t_lastRang, .inl (G.2.1, 6, .inl t_lastRang)), (h_t_heardSince, .inl (G.2.1, 6, .inl t_heardSince)), (h_t_swings, .inl (G.2.1, 36, .inl t_swings)), (h_t_peals, .inl (G.2.1, 400, .inl t_peals)), (h_t_pullOf, .inl (G.2.1, 6, .inl t_pullOf)), (h_t_pullAt, .inl (G.2.1, 6, .inl t_pullAt)), (h_t_kindOf, .inl (G.2.1, 6, .inl t_kindOf)), (h_t_needsOf, .inl (G.2.1, 6, .inl t_needsOf)), (h_t_longOf, .inl (G.2.1, 9, .inl t_longOf)), (h_t_fromOf, .inl (G.2.1, 9, .inl t_fromOf)), (h_t_toOf, .inl (G.2.1, 9, .inl t_toOf))]
def L_X7_ringsAt_23 (x1 : Int32) (x2 : Int32) (t_peals : (Nat → Int32)) : Nat → Int32 → Int32 → Option (Nat × Int32 × Int32)
  | 0, _, _ => none
  | n + 1, x3, x4 => (if (400 : Int32) ≤ x4 then (some (1, x3, x4)) else (gB (inb x4 400) ((M_X7_isIn (t_peals (Int32.toNatClampNeg x4)) x1).bind (fun u15 => (if u15 = 0 then (nme (x4 + (1 : Int32)) (fun v16 => (L_X7_ringsAt_23 x1 x2 t_peals n x3 v16))) else (if x3 = x2 then (some (0, x3, x4)) else (nme (x3 + (1 : Int32)) (fun v17 => (nme (x4 + (1 : Int32)) (fun v18 => (L_X7_ringsAt_23 x1 x2 t_peals n v17 v18)))))))))))
def M_X7_ringsAt (t_bells : Int32) (t_tied : Int32) (t_ropes : Int32) (t_spanNow : Int32) (t_pulls : Int32) (t_lastRang : (Nat → Int32)) (t_heardSince : (Nat → Int32)) (t_swings : (Nat → Int32)) (t_peals : (Nat → Int32)) (t_pullOf : (Nat → Int32)) (t_pullAt : (Nat → Int32)) (t_kindOf : (Nat → Int32)) (t_needsOf : (Nat → Int32)) (t_longOf : (Nat → Int32)) (t_fromOf : (Nat → Int32)) (t_toOf : (Nat → Int32)) (a1 : Int32) (a2 : Int32) : Option (Int32 × (Nat → Int32) × (Nat → Int32) × (Nat → Int32) × (Nat → Int32)) := ((M_X7_noBell t_bells a1).bind (fun u1 => (if u1 = 0 then (if 0 ≤ a2 then ((M_X7_goPulls t_bells t_tied t_ropes t_spanNow t_pulls t_lastRang t_heardSince t_swings t_peals t_pullOf t_pullAt t_kindOf t_needsOf t_longOf t_fromOf t_toOf).bind (fun u2 => ((L_X7_ringsAt_23 a1 a2 u2.2.2.2 1000 (0 : Int32) (0 : Int32)).bind (fun u19 => (if u19.1 = 0 then (some (u19.2.2, u2.1, u2.2.1, u2.2.2.1, u2.2.2.2)) else (some ((-9 : Int32), u2.1, u2.2.1, u2.2.2.1, u2.2.2.2))))))) else (some ((-1 : Int32), t_lastRang, t_heardSince, t_swings, t_peals))) else (some ((-1 : Int32), t_lastRang, t_heardSince, t_swings, t_peals)))))
set_option maxHeartbeats 4000000 in
set_option maxRecDepth 100000 in
theorem c_X7_ringsAt (l : Launch) (G : GT) (h_t : Nat) (h_t_lastRang : Nat) (h_t_heardSince : Nat) (h_t_swings : Nat) (h_t_peals : Nat) (h_t_pullOf : Nat) (h_t_pullAt : Nat) (h_t_kindOf : Nat) (h_t_needsOf : Nat) (h_t_longOf : Nat) (h_t_fromOf : Nat) (h_t_toOf : Nat) (h_t_readKind : Nat) (h_t_readNeeds : Nat) (h_t_readFrom : Nat) (h_t_readTo : Nat) (h_t_readLong : Nat) (h_t_readingOf : Nat) (h_t_readingAt : Nat) (h_t_readingIs : Nat) (h_t_sheetSize : Nat) (h_t_sheetLane : Nat) (h_t_sheet : Nat) (h_t_hands : Nat) (t_fault : Int32) (t_bells : Int32) (t_tied : Int32) (t_ropes : Int32) (t_spanNow : Int32) (t_readAt : Int32) (t_readBells : Int32) (t_readRopes : Int32) (t_pulls : Int32) (t_readings : Int32) (t_traceNow : Int32) (t_lastRang : (Nat → Int32)) (t_heardSince : (Nat → Int32)) (t_swings : (Nat → Int32)) (t_peals : (Nat → Int32)) (t_pullOf : (Nat → Int32)) (t_pullAt : (Nat → Int32)) (t_kindOf : (Nat → Int32)) (t_needsOf : (Nat → Int32)) (t_longOf : (Nat → Int32)) (t_fromOf : (Nat → Int32)) (t_toOf : (Nat → Int32)) (a1 : Int32) (a2 : Int32) {u : Int32 × (Nat → Int32) × (Nat → Int32) × (Nat → Int32) × (Nat → Int32)} (hm : M_X7_ringsAt t_bells t_tied t_ropes t_spanNow t_pulls t_lastRang t_heardSince t_swings t_peals t_pullOf t_pullAt t_kindOf t_needsOf t_longOf t_fromOf t_toOf a1 a2 = some u) : CT l yX7_ringsAt cX7_ringsAt 5 (some .int) 4 93 [.ref h_t, .int a1, .int a2] G (w_X7_ringsAt G h_t h_t_lastRang h_t_heardSince h_t_swings h_t_peals h_t_pullOf h_t_pullAt h_t_kindOf h_t_needsOf h_t_longOf h_t_fromOf h_t_toOf h_t_readKind h_t_readNeeds h_t_readFrom h_t_readTo h_t_readLong h_t_readingOf h_t_readingAt h_t_readingIs h_t_sheetSize h_t_sheetLane h_t_sheet h_t_hands t_fault t_bells t_tied t_ropes t_spanNow t_readAt t_readBells t_readRopes t_pulls t_readings t_traceNow t_lastRang t_heardSince t_swings t_peals t_pullOf t_pullAt t_kindOf t_needsOf t_longOf t_fromOf t_toOf) (some (.int u.1)) (w_X7_ringsAt G h_t h_t_lastRang h_t_heardSince h_t_swings h_t_peals h_t_pullOf h_t_pullAt h_t_kindOf h_t_needsOf h_t_longOf h_t_fromOf h_t_toOf h_t_readKind h_t_readNeeds h_t_readFrom h_t_readTo h_t_readLong h_t_readingOf h_t_readingAt h_t_readingIs h_t_sheetSize h_t_sheetLane h_t_sheet h_t_hands t_fault t_bells t_tied t_ropes t_spanNow t_readAt t_readBells t_readRopes t_pulls t_readings t_traceNow u.2.1 u.2.2.1 u.2.2.2.1 u.2.2.2.2 t_pullOf t_pullAt t_kindOf t_needsOf t_longOf t_fromOf t_toOf) := by
  refine ct_intro RX7 [(0, .ref h_t), (1, .int a1), (2, .int a2)] (by decide) rfl (Nat.le_of_ble_eq_true rfl) rfl (fun X hX cx => ?_)
  have lp23 : ∀ (Q : State → Prop) (A : Nat → Prop) (x1 : Int32) (x2 : Int32) (t_fault : Int32) (t_bells : Int32) (t_tied : Int32) (t_ropes : Int32) (t_spanNow : Int32) (t_readAt : Int32) (t_readBells : Int32) (t_readRopes : Int32) (t_pulls : Int32) (t_readings : Int32) (t_traceNow : Int32) (t_lastRang : (Nat → Int32)) (t_heardSince : (Nat → Int32)) (t_swings : (Nat → Int32)) (t_peals : (Nat → Int32)) (t_pullOf : (Nat → Int32)) (t_pullAt : (Nat → Int32)) (t_kindOf : (Nat → Int32)) (t_needsOf : (Nat → Int32)) (t_longOf : (Nat → Int32)) (t_fromOf : (Nat → Int32)) (t_toOf : (Nat → Int32)) (n : Nat) (x3 : Int32) (x4 : Int32) (y : Nat × Int32 × Int32), L_X7_ringsAt_23 x1 x2 t_peals n x3 x4 = some y → (y.1 = 0 → KJ X Q G A 5 50 [(4, .int y.2.2)] [] (w_X7_ringsAt G h_t h_t_lastRang h_t_heardSince h_t_swings h_t_peals h_t_pullOf h_t_pullAt h_t_kindOf h_t_needsOf h_t_longOf h_t_fromOf h_t_toOf h_t_readKind h_t_readNeeds h_t_readFrom h_t_readTo h_t_readLong h_t_readingOf h_t_readingAt h_t_readingIs h_t_sheetSize h_t_sheetLane h_t_sheet h_t_hands t_fault t_bells t_tied t_ropes t_spanNow t_readAt t_readBells t_readRopes t_pulls t_readings t_traceNow t_lastRang t_heardSince t_swings t_peals t_pullOf t_pullAt t_kindOf t_needsOf t_longOf t_fromOf t_toOf)) → (y.1 = 1 → KJ X Q G A 5 62 [] [] (w_X7_ringsAt G h_t h_t_lastRang h_t_heardSince h_t_swings h_t_peals h_t_pullOf h_t_pullAt h_t_kindOf h_t_needsOf h_t_longOf h_t_fromOf h_t_toOf h_t_readKind h_t_readNeeds h_t_readFrom h_t_readTo h_t_readLong h_t_readingOf h_t_readingAt h_t_readingIs h_t_sheetSize h_t_sheetLane h_t_sheet h_t_hands t_fault t_bells t_tied t_ropes t_spanNow t_readAt t_readBells t_readRopes t_pulls t_readings t_traceNow t_lastRang t_heardSince t_swings t_peals t_pullOf t_pullAt t_kindOf t_needsOf t_longOf t_fromOf t_toOf)) → KJ X Q G A 5 23 [(0, .ref h_t), (1, .int x1), (2, .int x2), (3, .int x3), (4, .int x4)] [] (w_X7_ringsAt G h_t h_t_lastRang h_t_heardSince h_t_swings h_t_peals h_t_pullOf h_t_pullAt h_t_kindOf h_t_needsOf h_t_longOf h_t_fromOf h_t_toOf h_t_readKind h_t_readNeeds h_t_readFrom h_t_readTo h_t_readLong h_t_readingOf h_t_readingAt h_t_readingIs h_t_sheetSize h_t_sheetLane h_t_sheet h_t_hands t_fault t_bells t_tied t_ropes t_spanNow t_readAt t_readBells t_readRopes t_pulls t_readings t_traceNow t_lastRang t_heardSince t_swings t_peals t_pullOf t_pullAt t_kindOf t_needsOf t_longOf t_fromOf t_toOf) := by
    intro Q A x1 x2 t_fault t_bells t_tied t_ropes t_spanNow t_readAt t_readBells t_readRopes t_pulls t_readings t_traceNow t_lastRang t_heardSince t_swings t_peals t_pullOf t_pullAt t_kindOf t_needsOf t_longOf t_fromOf t_toOf n
    induction n with
    | zero => intro x3 x4 y hm _ _; exact noS hm
    | succ n ih =>
      intro x3 x4 y hm k0 k1
      rw [L_X7_ringsAt_23] at hm
      refine k_iload 23 cx dX7_ringsAt_23 4 rfl ?_
      refine k_sipush 25 cx (v := (400 : Int32)) dX7_ringsAt_25 (by decide) ?_
      refine k_icmp_ge 28 cx (tgt := 62) dX7_ringsAt_28 (by decide) hm (fun hc hm => ?_) (fun hc hm => ?_)
      · obtain rfl := Option.some.inj hm
        refine k_lv [] rfl ?_
        exact k1 rfl
      · refine k_aload_n 31 cx dX7_ringsAt_31 rfl 0 rfl ?_
        refine fgX7_46 32 cx dX7_ringsAt_32 0 rfl rfl ?_
        refine k_iload 35 cx dX7_ringsAt_35 4 rfl ?_
        refine k_iald 37 cx dX7_ringsAt_37 4 rfl hm (fun hm => ?_)
        refine k_iload_n 38 cx dX7_ringsAt_38 rfl 1 rfl ?_
        obtain ⟨u15, hu15, hm⟩ := bnd hm
        refine k_callS 39 cx cwX7_166 (c_X7_isIn X.2.1 G (t_peals (Int32.toNatClampNeg x4)) x1 hu15) dX7_ringsAt_39 ⟨by decide, by decide⟩ rfl (rest := []) rfl (Nat.le_of_ble_eq_true rfl) [] (by decide) rfl rfl (w2 := (w_X7_ringsAt G h_t h_t_lastRang h_t_heardSince h_t_swings h_t_peals h_t_pullOf h_t_pullAt h_t_kindOf h_t_needsOf h_t_longOf h_t_fromOf h_t_toOf h_t_readKind h_t_readNeeds h_t_readFrom h_t_readTo h_t_readLong h_t_readingOf h_t_readingAt h_t_readingIs h_t_sheetSize h_t_sheetLane h_t_sheet h_t_hands t_fault t_bells t_tied t_ropes t_spanNow t_readAt t_readBells t_readRopes t_pulls t_readings t_traceNow t_lastRang t_heardSince t_swings t_peals t_pullOf t_pullAt t_kindOf t_needsOf t_longOf t_fromOf t_toOf)) [0, 1, 2, 3, 4, 5, 6, 7, 8, 9, 10, 11] 12 rfl [(h_t, .inr (7, [.int t_fault, .int t_bells, .ref h_t_kindOf, .ref h_t_needsOf, .int t_tied, .int t_ropes, .ref h_t_fromOf, .ref h_t_toOf, .ref h_t_longOf, .int t_spanNow, .int t_readAt, .int t_readBells, .int t_readRopes, .ref h_t_readKind, .ref h_t_readNeeds, .ref h_t_readFrom, .ref h_t_readTo, .ref h_t_readLong, .int t_pulls, .ref h_t_pullOf, .ref h_t_pullAt, .ref h_t_peals, .ref h_t_swings, .ref h_t_lastRang, .ref h_t_heardSince, .int t_readings, .ref h_t_readingOf, .ref h_t_readingAt, .ref h_t_readingIs, .ref h_t_sheetSize, .ref h_t_sheetLane, .ref h_t_sheet, .ref h_t_hands, .int t_traceNow])), (h_t_lastRang, .inl (G.2.1, 6, .inl t_lastRang)), (h_t_heardSince, .inl (G.2.1, 6, .inl t_heardSince)), (h_t_swings, .inl (G.2.1, 36, .inl t_swings)), (h_t_peals, .inl (G.2.1, 400, .inl t_peals)), (h_t_pullOf, .inl (G.2.1, 6, .inl t_pullOf)), (h_t_pullAt, .inl (G.2.1, 6, .inl t_pullAt)), (h_t_kindOf, .inl (G.2.1, 6, .inl t_kindOf)), (h_t_needsOf, .inl (G.2.1, 6, .inl t_needsOf)), (h_t_longOf, .inl (G.2.1, 9, .inl t_longOf)), (h_t_fromOf, .inl (G.2.1, 9, .inl t_fromOf)), (h_t_toOf, .inl (G.2.1, 9, .inl t_toOf))] rfl rfl rfl (by decide) (st2 := [.int u15]) rfl ?_
        refine k_if_eq 42 cx (tgt := 56) dX7_ringsAt_42 (by decide) hm (fun hc hm => ?_) (fun hc hm => ?_)
        · refine k_iinc 56 cx dX7_ringsAt_56 4 rfl (by decide) (by decide) (fun v16 => [(4, .int v16), (0, .ref h_t), (1, .int x1), (2, .int x2), (3, .int x3)]) (fun _ => rfl) hm (fun v16 hm => ?_)
          refine k_goto 59 cx (tgt := 23) dX7_ringsAt_59 (by decide) ?_
          refine k_lv [1, 2, 3, 4, 0] rfl ?_
          exact ih x3 v16 _ hm k0 k1
        · refine k_iload_n 45 cx dX7_ringsAt_45 rfl 3 rfl ?_
          refine k_iload_n 46 cx dX7_ringsAt_46 rfl 2 rfl ?_
          refine k_icmp_ne 47 cx (tgt := 53) dX7_ringsAt_47 (by decide) hm (fun hc hm => ?_) (fun hc hm => ?_)
          · obtain rfl := Option.some.inj hm
            refine k_lv [4] rfl ?_
            exact k0 rfl
          · refine k_iinc 53 cx dX7_ringsAt_53 3 rfl (by decide) (by decide) (fun v17 => [(3, .int v17), (0, .ref h_t), (1, .int x1), (2, .int x2), (4, .int x4)]) (fun _ => rfl) hm (fun v17 hm => ?_)
            refine k_iinc 56 cx dX7_ringsAt_56 4 rfl (by decide) (by decide) (fun v18 => [(4, .int v18), (3, .int v17), (0, .ref h_t), (1, .int x1), (2, .int x2)]) (fun _ => rfl) hm (fun v18 hm => ?_)
            refine k_goto 59 cx (tgt := 23) dX7_ringsAt_59 (by decide) ?_
            refine k_lv [2, 3, 4, 1, 0] rfl ?_
            exact ih v17 v18 _ hm k0 k1
  unfold M_X7_ringsAt at hm
  refine k_aload_n 0 cx dX7_ringsAt_0 rfl 0 rfl ?_
  refine k_iload_n 1 cx dX7_ringsAt_1 rfl 1 rfl ?_
  obtain ⟨u1, hu1, hm⟩ := bnd hm
  refine k_callV 2 cx cwX7_160 (c_X7_noBell X.2.1 G h_t h_t_kindOf h_t_needsOf h_t_fromOf h_t_toOf h_t_longOf h_t_readKind h_t_readNeeds h_t_readFrom h_t_readTo h_t_readLong h_t_pullOf h_t_pullAt h_t_peals h_t_swings h_t_lastRang h_t_heardSince h_t_readingOf h_t_readingAt h_t_readingIs h_t_sheetSize h_t_sheetLane h_t_sheet h_t_hands t_fault t_bells t_tied t_ropes t_spanNow t_readAt t_readBells t_readRopes t_pulls t_readings t_traceNow a1 hu1) dX7_ringsAt_2 ⟨by decide, by decide⟩ rfl rfl (rest := []) rfl (Nat.le_of_ble_eq_true rfl) [0] (by decide) rfl rfl (w2 := (w_X7_ringsAt G h_t h_t_lastRang h_t_heardSince h_t_swings h_t_peals h_t_pullOf h_t_pullAt h_t_kindOf h_t_needsOf h_t_longOf h_t_fromOf h_t_toOf h_t_readKind h_t_readNeeds h_t_readFrom h_t_readTo h_t_readLong h_t_readingOf h_t_readingAt h_t_readingIs h_t_sheetSize h_t_sheetLane h_t_sheet h_t_hands t_fault t_bells t_tied t_ropes t_spanNow t_readAt t_readBells t_readRopes t_pulls t_readings t_traceNow t_lastRang t_heardSince t_swings t_peals t_pullOf t_pullAt t_kindOf t_needsOf t_longOf t_fromOf t_toOf)) [1, 2, 3, 4, 5, 6, 7, 8, 9, 10, 11] 12 rfl [(h_t_lastRang, .inl (G.2.1, 6, .inl t_lastRang)), (h_t_heardSince, .inl (G.2.1, 6, .inl t_heardSince)), (h_t_swings, .inl (G.2.1, 36, .inl t_swings)), (h_t_peals, .inl (G.2.1, 400, .inl t_peals)), (h_t_pullOf, .inl (G.2.1, 6, .inl t_pullOf)), (h_t_pullAt, .inl (G.2.1, 6, .inl t_pullAt)), (h_t_kindOf, .inl (G.2.1, 6, .inl t_kindOf)), (h_t_needsOf, .inl (G.2.1, 6, .inl t_needsOf)), (h_t_longOf, .inl (G.2.1, 9, .inl t_longOf)), (h_t_fromOf, .inl (G.2.1, 9, .inl t_fromOf)), (h_t_toOf, .inl (G.2.1, 9, .inl t_toOf))] rfl rfl rfl (by decide) (st2 := [.int u1]) rfl ?_
  refine k_if_ne 5 cx (tgt := 12) dX7_ringsAt_5 (by decide) hm (fun hc hm => ?_) (fun hc hm => ?_)
  · refine k_iload_n 8 cx dX7_ringsAt_8 rfl 2 rfl ?_
    refine k_if_ge 9 cx (tgt := 14) dX7_ringsAt_9 (by decide) hm (fun hc hm => ?_) (fun hc hm => ?_)
    · refine k_aload_n 14 cx dX7_ringsAt_14 rfl 0 rfl ?_
      obtain ⟨u2, hu2, hm⟩ := bnd hm
      refine k_callV 15 cx cwX7_187 (c_X7_goPulls X.2.1 G h_t h_t_lastRang h_t_heardSince h_t_swings h_t_peals h_t_pullOf h_t_pullAt h_t_kindOf h_t_needsOf h_t_longOf h_t_fromOf h_t_toOf h_t_readKind h_t_readNeeds h_t_readFrom h_t_readTo h_t_readLong h_t_readingOf h_t_readingAt h_t_readingIs h_t_sheetSize h_t_sheetLane h_t_sheet h_t_hands t_fault t_bells t_tied t_ropes t_spanNow t_readAt t_readBells t_readRopes t_pulls t_readings t_traceNow t_lastRang t_heardSince t_swings t_peals t_pullOf t_pullAt t_kindOf t_needsOf t_longOf t_fromOf t_toOf hu2) dX7_ringsAt_15 ⟨by decide, by decide⟩ rfl rfl (rest := []) rfl (Nat.le_of_ble_eq_true rfl) [0, 1, 2, 3, 4, 5, 6, 7, 8, 9, 10, 11] (by decide) rfl rfl (w2 := (w_X7_ringsAt G h_t h_t_lastRang h_t_heardSince h_t_swings h_t_peals h_t_pullOf h_t_pullAt h_t_kindOf h_t_needsOf h_t_longOf h_t_fromOf h_t_toOf h_t_readKind h_t_readNeeds h_t_readFrom h_t_readTo h_t_readLong h_t_readingOf h_t_readingAt h_t_readingIs h_t_sheetSize h_t_sheetLane h_t_sheet h_t_hands t_fault t_bells t_tied t_ropes t_spanNow t_readAt t_readBells t_readRopes t_pulls t_readings t_traceNow u2.1 u2.2.1 u2.2.2.1 u2.2.2.2 t_pullOf t_pullAt t_kindOf t_needsOf t_longOf t_fromOf t_toOf)) [] 12 rfl [] rfl rfl rfl (by decide) (st2 := []) rfl ?_
      refine k_iconst 18 cx (v := (0 : Int32)) dX7_ringsAt_18 (by decide) ?_
      refine k_istore_n 19 cx dX7_ringsAt_19 rfl (by decide) (lv' := [(3, .int (0 : Int32)), (0, .ref h_t), (1, .int a1), (2, .int a2)]) rfl ?_
      refine k_iconst 20 cx (v := (0 : Int32)) dX7_ringsAt_20 (by decide) ?_
      refine k_istore 21 cx dX7_ringsAt_21 (by decide) (lv' := [(4, .int (0 : Int32)), (3, .int (0 : Int32)), (0, .ref h_t), (1, .int a1), (2, .int a2)]) rfl ?_
      refine k_lv [2, 3, 4, 1, 0] rfl ?_
      obtain ⟨u19, hu19, hm⟩ := bnd hm
      refine lp23 _ _ a1 a2 t_fault t_bells t_tied t_ropes t_spanNow t_readAt t_readBells t_readRopes t_pulls t_readings t_traceNow u2.1 u2.2.1 u2.2.2.1 u2.2.2.2 t_pullOf t_pullAt t_kindOf t_needsOf t_longOf t_fromOf t_toOf 1000 (0 : Int32) (0 : Int32) u19 hu19 (fun hk => ?_) (fun hk => ?_)
      · have hm := (if_pos hk).symm.trans hm
        refine k_iload 50 cx dX7_ringsAt_50 0 rfl ?_
        obtain rfl := Option.some.inj hm
        exact k_iret 52 cx dX7_ringsAt_52 rfl rfl
      · have hm := (if_neg (by rw [hk]; decide)).symm.trans hm
        refine k_bipush 62 cx (v := (-9 : Int32)) dX7_ringsAt_62 (by decide) ?_
        obtain rfl := Option.some.inj hm
        exact k_iret 64 cx dX7_ringsAt_64 rfl rfl
    · refine k_iconst 12 cx (v := (-1 : Int32)) dX7_ringsAt_12 (by decide) ?_
      obtain rfl := Option.some.inj hm
      exact k_iret 13 cx dX7_ringsAt_13 rfl rfl
  · refine k_iconst 12 cx (v := (-1 : Int32)) dX7_ringsAt_12 (by decide) ?_
    obtain rfl := Option.some.inj hm
    exact k_iret 13 cx dX7_ringsAt_13 rfl rfl
