set_option maxRecDepth 100000 in
theorem cwX6_203 : CWV RX6 203 RX3 yX3_begin cX3_begin 3 none 2 3 TX3 3 := ⟨tb_m (i := 562) rfl rfl, tb_m (i := 563) rfl rfl, tb_m (i := 564) rfl rfl, tb_m (i := 57) rfl rfl, tb_m (i := 565) rfl rfl, ⟨by decide +kernel, by decide +kernel, by decide +kernel⟩, rfl⟩
def w_X6_sheet (G : GT) (sa : Nat → Nat) (kk : Nat) (h_t : Nat) (h_t_sheets : Nat) (h_E_cells : Nat) (h_t_valley : Nat) (h_t_text : Nat) (h_t_pulls : Nat) (h_t_triedPulls : Nat) (h_t_readings : Nat) (h_t_heard : Nat) (h_t_trial : Nat) (t_heardIsCurrent : Int32) (t_trace : Int32) (t_fault : Int32) (E_lane : Int32) (E_size : Int32) (E_cells : (Nat → Int32)) : va_W := [(h_t, .inr (6, [.ref h_t_valley, .ref h_t_text, .ref h_t_pulls, .ref h_t_triedPulls, .ref h_t_readings, .ref h_t_heard, .ref h_t_trial, .ref h_t_sheets, .int t_heardIsCurrent, .int t_trace, .int t_fault])), (h_t_sheets, .inl (G.2.2.2, 4, .inr (.inr (.inr (.inr (fun j => some (sa j))))))), ((sa kk), .inr (3, [.ref h_E_cells, .int E_lane, .int E_size])), (h_E_cells, .inl (G.2.1, 60, .inl E_cells))]
def M_X6_sheet (E_lane : Int32) (E_size : Int32) (E_cells : (Nat → Int32)) (a1 : Int32) (a2 : Int32) (a3 : Int32) : Option (Int32 × Int32 × Int32 × Int32 × (Nat → Int32)) := ((M_X6_isSheet a1).bind (fun u1 => (if u1 = 0 then (some ((-1 : Int32), (0 : Int32), E_lane, E_size, E_cells)) else ((M_X6_isLane a2).bind (fun u2 => (if u2 = 0 then (some ((-2 : Int32), (0 : Int32), E_lane, E_size, E_cells)) else (if a3 ≤ (60 : Int32) then (if 0 ≤ a3 then (gB (inb a1 4) ((M_X3_begin E_cells a2 a3).bind (fun u3 => (some ((1 : Int32), (0 : Int32), u3.1, u3.2.1, u3.2.2))))) else ((M_X6_faulty (4 : Int32)).bind (fun u4 => (some (u4.1, u4.2, E_lane, E_size, E_cells))))) else (some ((-2 : Int32), (0 : Int32), E_lane, E_size, E_cells)))))))))
set_option maxHeartbeats 4000000 in
set_option maxRecDepth 100000 in
theorem c_X6_sheet (l : Launch) (G : GT) (sa : Nat → Nat) (kk : Nat) (h_t : Nat) (h_t_sheets : Nat) (h_E_cells : Nat) (h_t_valley : Nat) (h_t_text : Nat) (h_t_pulls : Nat) (h_t_triedPulls : Nat) (h_t_readings : Nat) (h_t_heard : Nat) (h_t_trial : Nat) (t_heardIsCurrent : Int32) (t_trace : Int32) (t_fault : Int32) (E_lane : Int32) (E_size : Int32) (E_cells : (Nat → Int32)) (a1 : Int32) (a2 : Int32) (a3 : Int32) (hkk : inb a1 4 = true → Int32.toNatClampNeg a1 = kk) {u : Int32 × Int32 × Int32 × Int32 × (Nat → Int32)} (hm : M_X6_sheet E_lane E_size E_cells a1 a2 a3 = some u) : CT l yX6_sheet cX6_sheet 4 (some .int) 2 45 [.ref h_t, .int a1, .int a2, .int a3] G (w_X6_sheet G sa kk h_t h_t_sheets h_E_cells h_t_valley h_t_text h_t_pulls h_t_triedPulls h_t_readings h_t_heard h_t_trial t_heardIsCurrent t_trace t_fault E_lane E_size E_cells) (some (.int u.1)) (w_X6_sheet G sa kk h_t h_t_sheets h_E_cells h_t_valley h_t_text h_t_pulls h_t_triedPulls h_t_readings h_t_heard h_t_trial t_heardIsCurrent t_trace u.2.1 u.2.2.1 u.2.2.2.1 u.2.2.2.2) := by
  refine ct_intro RX6 [(0, .ref h_t), (1, .int a1), (2, .int a2), (3, .int a3)] (by decide) rfl (Nat.le_of_ble_eq_true rfl) rfl (fun X hX cx => ?_)
  unfold M_X6_sheet at hm
  refine k_aload_n 0 cx dX6_sheet_0 rfl 0 rfl ?_
  refine k_iconst 1 cx (v := (0 : Int32)) dX6_sheet_1 (by decide) ?_
  refine fpX6_61 2 cx dX6_sheet_2 0 rfl rfl rfl (by simp) (w1 := (w_X6_sheet G sa kk h_t h_t_sheets h_E_cells h_t_valley h_t_text h_t_pulls h_t_triedPulls h_t_readings h_t_heard h_t_trial t_heardIsCurrent t_trace (0 : Int32) E_lane E_size E_cells)) rfl ?_
  refine k_iload_n 5 cx dX6_sheet_5 rfl 1 rfl ?_
  obtain ⟨u1, hu1, hm⟩ := bnd hm
  refine k_callS 6 cx cwX6_65 (c_X6_isSheet X.2.1 G a1 hu1) dX6_sheet_6 ⟨by decide, by decide⟩ rfl (rest := []) rfl (Nat.le_of_ble_eq_true rfl) [] (by decide) rfl rfl (w2 := (w_X6_sheet G sa kk h_t h_t_sheets h_E_cells h_t_valley h_t_text h_t_pulls h_t_triedPulls h_t_readings h_t_heard h_t_trial t_heardIsCurrent t_trace (0 : Int32) E_lane E_size E_cells)) [0, 1, 2, 3] 4 rfl [(h_t, .inr (6, [.ref h_t_valley, .ref h_t_text, .ref h_t_pulls, .ref h_t_triedPulls, .ref h_t_readings, .ref h_t_heard, .ref h_t_trial, .ref h_t_sheets, .int t_heardIsCurrent, .int t_trace, .int (0 : Int32)])), (h_t_sheets, .inl (G.2.2.2, 4, .inr (.inr (.inr (.inr (fun j => some (sa j))))))), ((sa kk), .inr (3, [.ref h_E_cells, .int E_lane, .int E_size])), (h_E_cells, .inl (G.2.1, 60, .inl E_cells))] rfl rfl rfl (by decide) (st2 := [.int u1]) rfl ?_
  refine k_if_ne 9 cx (tgt := 14) dX6_sheet_9 (by decide) hm (fun hc hm => ?_) (fun hc hm => ?_)
  · refine k_iconst 12 cx (v := (-1 : Int32)) dX6_sheet_12 (by decide) ?_
    obtain rfl := Option.some.inj hm
    exact k_iret 13 cx dX6_sheet_13 rfl rfl
  · refine k_iload_n 14 cx dX6_sheet_14 rfl 2 rfl ?_
    obtain ⟨u2, hu2, hm⟩ := bnd hm
    refine k_callS 15 cx cwX6_69 (c_X6_isLane X.2.1 G a2 hu2) dX6_sheet_15 ⟨by decide, by decide⟩ rfl (rest := []) rfl (Nat.le_of_ble_eq_true rfl) [] (by decide) rfl rfl (w2 := (w_X6_sheet G sa kk h_t h_t_sheets h_E_cells h_t_valley h_t_text h_t_pulls h_t_triedPulls h_t_readings h_t_heard h_t_trial t_heardIsCurrent t_trace (0 : Int32) E_lane E_size E_cells)) [0, 1, 2, 3] 4 rfl [(h_t, .inr (6, [.ref h_t_valley, .ref h_t_text, .ref h_t_pulls, .ref h_t_triedPulls, .ref h_t_readings, .ref h_t_heard, .ref h_t_trial, .ref h_t_sheets, .int t_heardIsCurrent, .int t_trace, .int (0 : Int32)])), (h_t_sheets, .inl (G.2.2.2, 4, .inr (.inr (.inr (.inr (fun j => some (sa j))))))), ((sa kk), .inr (3, [.ref h_E_cells, .int E_lane, .int E_size])), (h_E_cells, .inl (G.2.1, 60, .inl E_cells))] rfl rfl rfl (by decide) (st2 := [.int u2]) rfl ?_
    refine k_if_eq 18 cx (tgt := 27) dX6_sheet_18 (by decide) hm (fun hc hm => ?_) (fun hc hm => ?_)
    · refine k_bipush 27 cx (v := (-2 : Int32)) dX6_sheet_27 (by decide) ?_
      obtain rfl := Option.some.inj hm
      exact k_iret 29 cx dX6_sheet_29 rfl rfl
    · refine k_iload_n 21 cx dX6_sheet_21 rfl 3 rfl ?_
      refine k_bipush 22 cx (v := (60 : Int32)) dX6_sheet_22 (by decide) ?_
      refine k_icmp_le 24 cx (tgt := 30) dX6_sheet_24 (by decide) hm (fun hc hm => ?_) (fun hc hm => ?_)
      · refine k_iload_n 30 cx dX6_sheet_30 rfl 3 rfl ?_
        refine k_if_ge 31 cx (tgt := 40) dX6_sheet_31 (by decide) hm (fun hc hm => ?_) (fun hc hm => ?_)
        · refine k_aload_n 40 cx dX6_sheet_40 rfl 0 rfl ?_
          refine fgX6_56 41 cx dX6_sheet_41 0 rfl rfl ?_
          refine k_iload_n 44 cx dX6_sheet_44 rfl 1 rfl ?_
          refine k_aald 45 cx kk dX6_sheet_45 1 rfl hm hkk (fun hm => ?_)
          refine k_iload_n 46 cx dX6_sheet_46 rfl 2 rfl ?_
          refine k_iload_n 47 cx dX6_sheet_47 rfl 3 rfl ?_
          obtain ⟨u3, hu3, hm⟩ := bnd hm
          refine k_callV 48 cx cwX6_203 (c_X3_begin X.2.1 G (sa kk) h_E_cells E_lane E_size E_cells a2 a3 hu3) dX6_sheet_48 ⟨by decide, by decide⟩ rfl rfl (rest := []) rfl (Nat.le_of_ble_eq_true rfl) [2, 3] (by decide) rfl rfl (w2 := (w_X6_sheet G sa kk h_t h_t_sheets h_E_cells h_t_valley h_t_text h_t_pulls h_t_triedPulls h_t_readings h_t_heard h_t_trial t_heardIsCurrent t_trace (0 : Int32) u3.1 u3.2.1 u3.2.2)) [0, 1] 4 rfl [(h_t, .inr (6, [.ref h_t_valley, .ref h_t_text, .ref h_t_pulls, .ref h_t_triedPulls, .ref h_t_readings, .ref h_t_heard, .ref h_t_trial, .ref h_t_sheets, .int t_heardIsCurrent, .int t_trace, .int (0 : Int32)])), (h_t_sheets, .inl (G.2.2.2, 4, .inr (.inr (.inr (.inr (fun j => some (sa j)))))))] rfl rfl rfl (by decide) (st2 := []) rfl ?_
          refine k_iconst 51 cx (v := (1 : Int32)) dX6_sheet_51 (by decide) ?_
          obtain rfl := Option.some.inj hm
          exact k_iret 52 cx dX6_sheet_52 rfl rfl
        · refine k_aload_n 34 cx dX6_sheet_34 rfl 0 rfl ?_
          refine k_iconst 35 cx (v := (4 : Int32)) dX6_sheet_35 (by decide) ?_
          obtain ⟨u4, hu4, hm⟩ := bnd hm
          refine k_callV 36 cx cwX6_76 (c_X6_faulty X.2.1 G h_t h_t_valley h_t_text h_t_pulls h_t_triedPulls h_t_readings h_t_heard h_t_trial h_t_sheets t_heardIsCurrent t_trace (0 : Int32) (4 : Int32) hu4) dX6_sheet_36 ⟨by decide, by decide⟩ rfl rfl (rest := []) rfl (Nat.le_of_ble_eq_true rfl) [0] (by decide) rfl rfl (w2 := (w_X6_sheet G sa kk h_t h_t_sheets h_E_cells h_t_valley h_t_text h_t_pulls h_t_triedPulls h_t_readings h_t_heard h_t_trial t_heardIsCurrent t_trace u4.2 E_lane E_size E_cells)) [1, 2, 3] 4 rfl [(h_t_sheets, .inl (G.2.2.2, 4, .inr (.inr (.inr (.inr (fun j => some (sa j))))))), ((sa kk), .inr (3, [.ref h_E_cells, .int E_lane, .int E_size])), (h_E_cells, .inl (G.2.1, 60, .inl E_cells))] rfl rfl rfl (by decide) (st2 := [.int u4.1]) rfl ?_
          obtain rfl := Option.some.inj hm
          exact k_iret 39 cx dX6_sheet_39 rfl rfl
      · refine k_bipush 27 cx (v := (-2 : Int32)) dX6_sheet_27 (by decide) ?_
        obtain rfl := Option.some.inj hm
        exact k_iret 29 cx dX6_sheet_29 rfl rfl
set_option maxRecDepth 100000 in
theorem fpX6_209 {X : XT} {Q : State → Prop} {G : GT} {A : Nat → Prop} {nL : Nat} {lv : List (Nat × Value)} {st : List Value} {ws : va_W} {cc : ByteArray} {fr lo : Nat} {ret : Option FieldType} (pc : Nat) (cx : Cx X cc nL RX6 G fr lo ret) {a : Nat} {fs : List Value} {v : Value} (hd : decode cc pc = .ok (.putfield 209, 3)) (q0 : Nat) (he : ws[q0]? = some (a, .inr (3, fs))) (hn : narrow .int v = v) (hfit : fits .int v = true) (hlen : 2 < fs.length) (w1 : va_W) (hw : ws.set q0 (a, .inr (3, fs.set 2 v)) = w1) (k : KJ X Q G A nL (pc + 3) lv st w1) : KJ X Q G A nL pc lv (v :: .ref a :: st) ws :=
  k_put (ref := RX3) (T := TX3) (N := 3) (ci := 3) (ty := .int) pc cx inX3 rfl tyX3 tyX3_ok nmX3 2 (by decide) (tb_m (i := 227) rfl rfl) rfl rfl (by decide +kernel) hd q0 he hn hfit hlen w1 hw k
set_option maxRecDepth 100000 in
theorem cwX6_206 : CWV RX6 206 RX3 yX3_hasRow cX3_hasRow 1 (some .boolean) 0 3 TX3 3 := ⟨tb_m (i := 571) rfl rfl, tb_m (i := 288) rfl rfl, tb_m (i := 289) rfl rfl, tb_m (i := 57) rfl rfl, tb_m (i := 290) rfl rfl, ⟨by decide +kernel, by decide +kernel, by decide +kernel⟩, rfl⟩
def w_X6_lose (G : GT) (sa : Nat → Nat) (kk : Nat) (h_t : Nat) (h_t_sheets : Nat) (h_t_valley : Nat) (h_t_text : Nat) (h_t_pulls : Nat) (h_t_triedPulls : Nat) (h_t_readings : Nat) (h_t_heard : Nat) (h_t_trial : Nat) (h_E_cells : Nat) (t_heardIsCurrent : Int32) (t_trace : Int32) (t_fault : Int32) (E_lane : Int32) (E_size : Int32) : va_W := [(h_t, .inr (6, [.ref h_t_valley, .ref h_t_text, .ref h_t_pulls, .ref h_t_triedPulls, .ref h_t_readings, .ref h_t_heard, .ref h_t_trial, .ref h_t_sheets, .int t_heardIsCurrent, .int t_trace, .int t_fault])), (h_t_sheets, .inl (G.2.2.2, 4, .inr (.inr (.inr (.inr (fun j => some (sa j))))))), ((sa kk), .inr (3, [.ref h_E_cells, .int E_lane, .int E_size]))]
def M_X6_lose (E_size : Int32) (a1 : Int32) : Option (Int32 × Int32) := ((M_X6_isSheet a1).bind (fun u1 => (if u1 = 0 then (some ((-1 : Int32), E_size)) else (gB (inb a1 4) ((M_X3_hasRow E_size).bind (fun u2 => (if u2 = 0 then (some ((0 : Int32), E_size)) else (gB (inb a1 4) (some ((1 : Int32), (-1 : Int32)))))))))))
set_option maxHeartbeats 4000000 in
set_option maxRecDepth 100000 in
theorem c_X6_lose (l : Launch) (G : GT) (sa : Nat → Nat) (kk : Nat) (h_t : Nat) (h_t_sheets : Nat) (h_t_valley : Nat) (h_t_text : Nat) (h_t_pulls : Nat) (h_t_triedPulls : Nat) (h_t_readings : Nat) (h_t_heard : Nat) (h_t_trial : Nat) (h_E_cells : Nat) (t_heardIsCurrent : Int32) (t_trace : Int32) (t_fault : Int32) (E_lane : Int32) (E_size : Int32) (a1 : Int32) (hkk : inb a1 4 = true → Int32.toNatClampNeg a1 = kk) {u : Int32 × Int32} (hm : M_X6_lose E_size a1 = some u) : CT l yX6_lose cX6_lose 2 (some .int) 1 20 [.ref h_t, .int a1] G (w_X6_lose G sa kk h_t h_t_sheets h_t_valley h_t_text h_t_pulls h_t_triedPulls h_t_readings h_t_heard h_t_trial h_E_cells t_heardIsCurrent t_trace t_fault E_lane E_size) (some (.int u.1)) (w_X6_lose G sa kk h_t h_t_sheets h_t_valley h_t_text h_t_pulls h_t_triedPulls h_t_readings h_t_heard h_t_trial h_E_cells t_heardIsCurrent t_trace t_fault E_lane u.2) := by
  refine ct_intro RX6 [(0, .ref h_t), (1, .int a1)] (by decide) rfl (Nat.le_of_ble_eq_true rfl) rfl (fun X hX cx => ?_)
  unfold M_X6_lose at hm
  refine k_iload_n 0 cx dX6_lose_0 rfl 1 rfl ?_
  obtain ⟨u1, hu1, hm⟩ := bnd hm
  refine k_callS 1 cx cwX6_65 (c_X6_isSheet X.2.1 G a1 hu1) dX6_lose_1 ⟨by decide, by decide⟩ rfl (rest := []) rfl (Nat.le_of_ble_eq_true rfl) [] (by decide) rfl rfl (w2 := (w_X6_lose G sa kk h_t h_t_sheets h_t_valley h_t_text h_t_pulls h_t_triedPulls h_t_readings h_t_heard h_t_trial h_E_cells t_heardIsCurrent t_trace t_fault E_lane E_size)) [0, 1, 2] 3 rfl [(h_t, .inr (6, [.ref h_t_valley, .ref h_t_text, .ref h_t_pulls, .ref h_t_triedPulls, .ref h_t_readings, .ref h_t_heard, .ref h_t_trial, .ref h_t_sheets, .int t_heardIsCurrent, .int t_trace, .int t_fault])), (h_t_sheets, .inl (G.2.2.2, 4, .inr (.inr (.inr (.inr (fun j => some (sa j))))))), ((sa kk), .inr (3, [.ref h_E_cells, .int E_lane, .int E_size]))] rfl rfl rfl (by decide) (st2 := [.int u1]) rfl ?_
  refine k_if_ne 4 cx (tgt := 9) dX6_lose_4 (by decide) hm (fun hc hm => ?_) (fun hc hm => ?_)
  · refine k_iconst 7 cx (v := (-1 : Int32)) dX6_lose_7 (by decide) ?_
    obtain rfl := Option.some.inj hm
    exact k_iret 8 cx dX6_lose_8 rfl rfl
  · refine k_aload_n 9 cx dX6_lose_9 rfl 0 rfl ?_
    refine fgX6_56 10 cx dX6_lose_10 0 rfl rfl ?_
    refine k_iload_n 13 cx dX6_lose_13 rfl 1 rfl ?_
    refine k_aald 14 cx kk dX6_lose_14 1 rfl hm hkk (fun hm => ?_)
    obtain ⟨u2, hu2, hm⟩ := bnd hm
    refine k_callV 15 cx cwX6_206 (c_X3_hasRow X.2.1 G (sa kk) h_E_cells E_lane E_size hu2) dX6_lose_15 ⟨by decide, by decide⟩ rfl rfl (rest := []) rfl (Nat.le_of_ble_eq_true rfl) [2] (by decide) rfl rfl (w2 := (w_X6_lose G sa kk h_t h_t_sheets h_t_valley h_t_text h_t_pulls h_t_triedPulls h_t_readings h_t_heard h_t_trial h_E_cells t_heardIsCurrent t_trace t_fault E_lane E_size)) [0, 1] 3 rfl [(h_t, .inr (6, [.ref h_t_valley, .ref h_t_text, .ref h_t_pulls, .ref h_t_triedPulls, .ref h_t_readings, .ref h_t_heard, .ref h_t_trial, .ref h_t_sheets, .int t_heardIsCurrent, .int t_trace, .int t_fault])), (h_t_sheets, .inl (G.2.2.2, 4, .inr (.inr (.inr (.inr (fun j => some (sa j)))))))] rfl rfl rfl (by decide) (st2 := [.int u2]) rfl ?_
    refine k_if_ne 18 cx (tgt := 23) dX6_lose_18 (by decide) hm (fun hc hm => ?_) (fun hc hm => ?_)
    · refine k_iconst 21 cx (v := (0 : Int32)) dX6_lose_21 (by decide) ?_
      obtain rfl := Option.some.inj hm
      exact k_iret 22 cx dX6_lose_22 rfl rfl
    · refine k_aload_n 23 cx dX6_lose_23 rfl 0 rfl ?_
      refine fgX6_56 24 cx dX6_lose_24 0 rfl rfl ?_
      refine k_iload_n 27 cx dX6_lose_27 rfl 1 rfl ?_
      refine k_aald 28 cx kk dX6_lose_28 1 rfl hm hkk (fun hm => ?_)
      refine k_iconst 29 cx (v := (-1 : Int32)) dX6_lose_29 (by decide) ?_
      refine fpX6_209 30 cx dX6_lose_30 2 rfl rfl rfl (by simp) (w1 := (w_X6_lose G sa kk h_t h_t_sheets h_t_valley h_t_text h_t_pulls h_t_triedPulls h_t_readings h_t_heard h_t_trial h_E_cells t_heardIsCurrent t_trace t_fault E_lane (-1 : Int32))) rfl ?_
      refine k_iconst 33 cx (v := (1 : Int32)) dX6_lose_33 (by decide) ?_
      obtain rfl := Option.some.inj hm
      exact k_iret 34 cx dX6_lose_34 rfl rfl
set_option maxRecDepth 100000 in
theorem cwX6_212 : CWV RX6 212 RX3 yX3_hasCell cX3_hasCell 2 (some .boolean) 1 3 TX3 3 := ⟨tb_m (i := 576) rfl rfl, tb_m (i := 577) rfl rfl, tb_m (i := 578) rfl rfl, tb_m (i := 57) rfl rfl, tb_m (i := 579) rfl rfl, ⟨by decide +kernel, by decide +kernel, by decide +kernel⟩, rfl⟩
set_option maxRecDepth 100000 in
theorem cwX6_215 : CWV RX6 215 RX3 yX3_cutToLane cX3_cutToLane 2 (some .int) 1 3 TX3 3 := ⟨tb_m (i := 580) rfl rfl, tb_m (i := 581) rfl rfl, tb_m (i := 582) rfl rfl, tb_m (i := 57) rfl rfl, tb_m (i := 583) rfl rfl, ⟨by decide +kernel, by decide +kernel, by decide +kernel⟩, rfl⟩
def w_X6_put (G : GT) (sa : Nat → Nat) (kk : Nat) (h_t : Nat) (h_t_sheets : Nat) (h_E_cells : Nat) (h_t_valley : Nat) (h_t_text : Nat) (h_t_pulls : Nat) (h_t_triedPulls : Nat) (h_t_readings : Nat) (h_t_heard : Nat) (h_t_trial : Nat) (t_heardIsCurrent : Int32) (t_trace : Int32) (t_fault : Int32) (E_lane : Int32) (E_size : Int32) (E_cells : (Nat → Int32)) : va_W := [(h_t, .inr (6, [.ref h_t_valley, .ref h_t_text, .ref h_t_pulls, .ref h_t_triedPulls, .ref h_t_readings, .ref h_t_heard, .ref h_t_trial, .ref h_t_sheets, .int t_heardIsCurrent, .int t_trace, .int t_fault])), (h_t_sheets, .inl (G.2.2.2, 4, .inr (.inr (.inr (.inr (fun j => some (sa j))))))), ((sa kk), .inr (3, [.ref h_E_cells, .int E_lane, .int E_size])), (h_E_cells, .inl (G.2.1, 60, .inl E_cells))]
def M_X6_put (E_lane : Int32) (E_size : Int32) (E_cells : (Nat → Int32)) (a1 : Int32) (a2 : Int32) (a3 : Int32) : Option (Int32 × Int32 × (Nat → Int32)) := ((M_X6_isSheet a1).bind (fun u1 => (if u1 = 0 then (some ((-1 : Int32), (0 : Int32), E_cells)) else (gB (inb a1 4) ((M_X3_hasRow E_size).bind (fun u2 => (if u2 = 0 then ((M_X6_faulty (1 : Int32)).bind (fun u7 => (some (u7.1, u7.2, E_cells)))) else (gB (inb a1 4) ((M_X3_hasCell E_size a2).bind (fun u3 => (if u3 = 0 then ((M_X6_faulty (3 : Int32)).bind (fun u6 => (some (u6.1, u6.2, E_cells)))) else (gB (inb a1 4) (gB (inb a1 4) ((M_X3_cutToLane E_lane a3).bind (fun u4 => (gB (inb a2 60) (nme (upd E_cells (Int32.toNatClampNeg a2) u4) (fun f5 => (some ((1 : Int32), (0 : Int32), f5))))))))))))))))))))
set_option maxHeartbeats 4000000 in
set_option maxRecDepth 100000 in
theorem c_X6_put (l : Launch) (G : GT) (sa : Nat → Nat) (kk : Nat) (h_t : Nat) (h_t_sheets : Nat) (h_E_cells : Nat) (h_t_valley : Nat) (h_t_text : Nat) (h_t_pulls : Nat) (h_t_triedPulls : Nat) (h_t_readings : Nat) (h_t_heard : Nat) (h_t_trial : Nat) (t_heardIsCurrent : Int32) (t_trace : Int32) (t_fault : Int32) (E_lane : Int32) (E_size : Int32) (E_cells : (Nat → Int32)) (a1 : Int32) (a2 : Int32) (a3 : Int32) (hkk : inb a1 4 = true → Int32.toNatClampNeg a1 = kk) {u : Int32 × Int32 × (Nat → Int32)} (hm : M_X6_put E_lane E_size E_cells a1 a2 a3 = some u) : CT l yX6_put cX6_put 4 (some .int) 1 21 [.ref h_t, .int a1, .int a2, .int a3] G (w_X6_put G sa kk h_t h_t_sheets h_E_cells h_t_valley h_t_text h_t_pulls h_t_triedPulls h_t_readings h_t_heard h_t_trial t_heardIsCurrent t_trace t_fault E_lane E_size E_cells) (some (.int u.1)) (w_X6_put G sa kk h_t h_t_sheets h_E_cells h_t_valley h_t_text h_t_pulls h_t_triedPulls h_t_readings h_t_heard h_t_trial t_heardIsCurrent t_trace u.2.1 E_lane E_size u.2.2) := by
  refine ct_intro RX6 [(0, .ref h_t), (1, .int a1), (2, .int a2), (3, .int a3)] (by decide) rfl (Nat.le_of_ble_eq_true rfl) rfl (fun X hX cx => ?_)
  unfold M_X6_put at hm
  refine k_aload_n 0 cx dX6_put_0 rfl 0 rfl ?_
  refine k_iconst 1 cx (v := (0 : Int32)) dX6_put_1 (by decide) ?_
  refine fpX6_61 2 cx dX6_put_2 0 rfl rfl rfl (by simp) (w1 := (w_X6_put G sa kk h_t h_t_sheets h_E_cells h_t_valley h_t_text h_t_pulls h_t_triedPulls h_t_readings h_t_heard h_t_trial t_heardIsCurrent t_trace (0 : Int32) E_lane E_size E_cells)) rfl ?_
  refine k_iload_n 5 cx dX6_put_5 rfl 1 rfl ?_
  obtain ⟨u1, hu1, hm⟩ := bnd hm
  refine k_callS 6 cx cwX6_65 (c_X6_isSheet X.2.1 G a1 hu1) dX6_put_6 ⟨by decide, by decide⟩ rfl (rest := []) rfl (Nat.le_of_ble_eq_true rfl) [] (by decide) rfl rfl (w2 := (w_X6_put G sa kk h_t h_t_sheets h_E_cells h_t_valley h_t_text h_t_pulls h_t_triedPulls h_t_readings h_t_heard h_t_trial t_heardIsCurrent t_trace (0 : Int32) E_lane E_size E_cells)) [0, 1, 2, 3] 4 rfl [(h_t, .inr (6, [.ref h_t_valley, .ref h_t_text, .ref h_t_pulls, .ref h_t_triedPulls, .ref h_t_readings, .ref h_t_heard, .ref h_t_trial, .ref h_t_sheets, .int t_heardIsCurrent, .int t_trace, .int (0 : Int32)])), (h_t_sheets, .inl (G.2.2.2, 4, .inr (.inr (.inr (.inr (fun j => some (sa j))))))), ((sa kk), .inr (3, [.ref h_E_cells, .int E_lane, .int E_size])), (h_E_cells, .inl (G.2.1, 60, .inl E_cells))] rfl rfl rfl (by decide) (st2 := [.int u1]) rfl ?_
  refine k_if_ne 9 cx (tgt := 14) dX6_put_9 (by decide) hm (fun hc hm => ?_) (fun hc hm => ?_)
  · refine k_iconst 12 cx (v := (-1 : Int32)) dX6_put_12 (by decide) ?_
    obtain rfl := Option.some.inj hm
    exact k_iret 13 cx dX6_put_13 rfl rfl
  · refine k_aload_n 14 cx dX6_put_14 rfl 0 rfl ?_
    refine fgX6_56 15 cx dX6_put_15 0 rfl rfl ?_
    refine k_iload_n 18 cx dX6_put_18 rfl 1 rfl ?_
    refine k_aald 19 cx kk dX6_put_19 1 rfl hm hkk (fun hm => ?_)
    obtain ⟨u2, hu2, hm⟩ := bnd hm
    refine k_callV 20 cx cwX6_206 (c_X3_hasRow X.2.1 G (sa kk) h_E_cells E_lane E_size hu2) dX6_put_20 ⟨by decide, by decide⟩ rfl rfl (rest := []) rfl (Nat.le_of_ble_eq_true rfl) [2] (by decide) rfl rfl (w2 := (w_X6_put G sa kk h_t h_t_sheets h_E_cells h_t_valley h_t_text h_t_pulls h_t_triedPulls h_t_readings h_t_heard h_t_trial t_heardIsCurrent t_trace (0 : Int32) E_lane E_size E_cells)) [0, 1, 3] 4 rfl [(h_t, .inr (6, [.ref h_t_valley, .ref h_t_text, .ref h_t_pulls, .ref h_t_triedPulls, .ref h_t_readings, .ref h_t_heard, .ref h_t_trial, .ref h_t_sheets, .int t_heardIsCurrent, .int t_trace, .int (0 : Int32)])), (h_t_sheets, .inl (G.2.2.2, 4, .inr (.inr (.inr (.inr (fun j => some (sa j))))))), (h_E_cells, .inl (G.2.1, 60, .inl E_cells))] rfl rfl rfl (by decide) (st2 := [.int u2]) rfl ?_
    refine k_if_ne 23 cx (tgt := 32) dX6_put_23 (by decide) hm (fun hc hm => ?_) (fun hc hm => ?_)
    · refine k_aload_n 26 cx dX6_put_26 rfl 0 rfl ?_
      refine k_iconst 27 cx (v := (1 : Int32)) dX6_put_27 (by decide) ?_
      obtain ⟨u7, hu7, hm⟩ := bnd hm
      refine k_callV 28 cx cwX6_76 (c_X6_faulty X.2.1 G h_t h_t_valley h_t_text h_t_pulls h_t_triedPulls h_t_readings h_t_heard h_t_trial h_t_sheets t_heardIsCurrent t_trace (0 : Int32) (1 : Int32) hu7) dX6_put_28 ⟨by decide, by decide⟩ rfl rfl (rest := []) rfl (Nat.le_of_ble_eq_true rfl) [0] (by decide) rfl rfl (w2 := (w_X6_put G sa kk h_t h_t_sheets h_E_cells h_t_valley h_t_text h_t_pulls h_t_triedPulls h_t_readings h_t_heard h_t_trial t_heardIsCurrent t_trace u7.2 E_lane E_size E_cells)) [1, 2, 3] 4 rfl [(h_t_sheets, .inl (G.2.2.2, 4, .inr (.inr (.inr (.inr (fun j => some (sa j))))))), ((sa kk), .inr (3, [.ref h_E_cells, .int E_lane, .int E_size])), (h_E_cells, .inl (G.2.1, 60, .inl E_cells))] rfl rfl rfl (by decide) (st2 := [.int u7.1]) rfl ?_
      obtain rfl := Option.some.inj hm
      exact k_iret 31 cx dX6_put_31 rfl rfl
    · refine k_aload_n 32 cx dX6_put_32 rfl 0 rfl ?_
      refine fgX6_56 33 cx dX6_put_33 0 rfl rfl ?_
      refine k_iload_n 36 cx dX6_put_36 rfl 1 rfl ?_
      refine k_aald 37 cx kk dX6_put_37 1 rfl hm hkk (fun hm => ?_)
      refine k_iload_n 38 cx dX6_put_38 rfl 2 rfl ?_
      obtain ⟨u3, hu3, hm⟩ := bnd hm
      refine k_callV 39 cx cwX6_212 (c_X3_hasCell X.2.1 G (sa kk) h_E_cells E_lane E_size a2 hu3) dX6_put_39 ⟨by decide, by decide⟩ rfl rfl (rest := []) rfl (Nat.le_of_ble_eq_true rfl) [2] (by decide) rfl rfl (w2 := (w_X6_put G sa kk h_t h_t_sheets h_E_cells h_t_valley h_t_text h_t_pulls h_t_triedPulls h_t_readings h_t_heard h_t_trial t_heardIsCurrent t_trace (0 : Int32) E_lane E_size E_cells)) [0, 1, 3] 4 rfl [(h_t, .inr (6, [.ref h_t_valley, .ref h_t_text, .ref h_t_pulls, .ref h_t_triedPulls, .ref h_t_readings, .ref h_t_heard, .ref h_t_trial, .ref h_t_sheets, .int t_heardIsCurrent, .int t_trace, .int (0 : Int32)])), (h_t_sheets, .inl (G.2.2.2, 4, .inr (.inr (.inr (.inr (fun j => some (sa j))))))), (h_E_cells, .inl (G.2.1, 60, .inl E_cells))] rfl rfl rfl (by decide) (st2 := [.int u3]) rfl ?_
      refine k_if_ne 42 cx (tgt := 51) dX6_put_42 (by decide) hm (fun hc hm => ?_) (fun hc hm => ?_)
      · refine k_aload_n 45 cx dX6_put_45 rfl 0 rfl ?_
        refine k_iconst 46 cx (v := (3 : Int32)) dX6_put_46 (by decide) ?_
        obtain ⟨u6, hu6, hm⟩ := bnd hm
        refine k_callV 47 cx cwX6_76 (c_X6_faulty X.2.1 G h_t h_t_valley h_t_text h_t_pulls h_t_triedPulls h_t_readings h_t_heard h_t_trial h_t_sheets t_heardIsCurrent t_trace (0 : Int32) (3 : Int32) hu6) dX6_put_47 ⟨by decide, by decide⟩ rfl rfl (rest := []) rfl (Nat.le_of_ble_eq_true rfl) [0] (by decide) rfl rfl (w2 := (w_X6_put G sa kk h_t h_t_sheets h_E_cells h_t_valley h_t_text h_t_pulls h_t_triedPulls h_t_readings h_t_heard h_t_trial t_heardIsCurrent t_trace u6.2 E_lane E_size E_cells)) [1, 2, 3] 4 rfl [(h_t_sheets, .inl (G.2.2.2, 4, .inr (.inr (.inr (.inr (fun j => some (sa j))))))), ((sa kk), .inr (3, [.ref h_E_cells, .int E_lane, .int E_size])), (h_E_cells, .inl (G.2.1, 60, .inl E_cells))] rfl rfl rfl (by decide) (st2 := [.int u6.1]) rfl ?_
        obtain rfl := Option.some.inj hm
        exact k_iret 50 cx dX6_put_50 rfl rfl
      · refine k_aload_n 51 cx dX6_put_51 rfl 0 rfl ?_
        refine fgX6_56 52 cx dX6_put_52 0 rfl rfl ?_
        refine k_iload_n 55 cx dX6_put_55 rfl 1 rfl ?_
        refine k_aald 56 cx kk dX6_put_56 1 rfl hm hkk (fun hm => ?_)
        refine fgX6_80 57 cx dX6_put_57 2 rfl rfl ?_
        refine k_iload_n 60 cx dX6_put_60 rfl 2 rfl ?_
        refine k_aload_n 61 cx dX6_put_61 rfl 0 rfl ?_
        refine fgX6_56 62 cx dX6_put_62 0 rfl rfl ?_
        refine k_iload_n 65 cx dX6_put_65 rfl 1 rfl ?_
        refine k_aald 66 cx kk dX6_put_66 1 rfl hm hkk (fun hm => ?_)
        refine k_iload_n 67 cx dX6_put_67 rfl 3 rfl ?_
        obtain ⟨u4, hu4, hm⟩ := bnd hm
        refine k_callV 68 cx cwX6_215 (c_X3_cutToLane X.2.1 G (sa kk) h_E_cells E_lane E_size a3 hu4) dX6_put_68 ⟨by decide, by decide⟩ rfl rfl (rest := [.int a2, .ref h_E_cells]) rfl (Nat.le_of_ble_eq_true rfl) [2] (by decide) rfl rfl (w2 := (w_X6_put G sa kk h_t h_t_sheets h_E_cells h_t_valley h_t_text h_t_pulls h_t_triedPulls h_t_readings h_t_heard h_t_trial t_heardIsCurrent t_trace (0 : Int32) E_lane E_size E_cells)) [0, 1, 3] 4 rfl [(h_t, .inr (6, [.ref h_t_valley, .ref h_t_text, .ref h_t_pulls, .ref h_t_triedPulls, .ref h_t_readings, .ref h_t_heard, .ref h_t_trial, .ref h_t_sheets, .int t_heardIsCurrent, .int t_trace, .int (0 : Int32)])), (h_t_sheets, .inl (G.2.2.2, 4, .inr (.inr (.inr (.inr (fun j => some (sa j))))))), (h_E_cells, .inl (G.2.1, 60, .inl E_cells))] rfl rfl rfl (by decide) (st2 := [.int u4, .int a2, .ref h_E_cells]) rfl ?_
        refine k_iast 71 cx dX6_put_71 3 rfl (fun f5 => (w_X6_put G sa kk h_t h_t_sheets h_E_cells h_t_valley h_t_text h_t_pulls h_t_triedPulls h_t_readings h_t_heard h_t_trial t_heardIsCurrent t_trace (0 : Int32) E_lane E_size f5)) (fun _ => rfl) hm (fun f5 hm => ?_)
        refine k_iconst 72 cx (v := (1 : Int32)) dX6_put_72 (by decide) ?_
        obtain rfl := Option.some.inj hm
        exact k_iret 73 cx dX6_put_73 rfl rfl
set_option maxRecDepth 100000 in
theorem fgX6_61 {X : XT} {Q : State → Prop} {G : GT} {A : Nat → Prop} {nL : Nat} {lv : List (Nat × Value)} {st : List Value} {ws : va_W} {cc : ByteArray} {fr lo : Nat} {ret : Option FieldType} (pc : Nat) (cx : Cx X cc nL RX6 G fr lo ret) {a : Nat} {fs : List Value} {v : Value} (hd : decode cc pc = .ok (.getfield 61, 3)) (q0 : Nat) (he : ws[q0]? = some (a, .inr (6, fs))) (hv : fs[10]? = some v) (k : KJ X Q G A nL (pc + 3) lv (v :: st) ws) : KJ X Q G A nL pc lv (.ref a :: st) ws :=
  k_get (ref := RX6) (T := TX6) (N := 11) (ci := 6) pc cx inX6 rfl 10 (by decide) (tb_m (i := 245) rfl rfl) rfl hd q0 he hv k
set_option maxRecDepth 100000 in
theorem cwX6_218 : CWV RX6 218 RX3 yX3_faultOfLane cX3_faultOfLane 2 (some .int) 1 3 TX3 3 := ⟨tb_m (i := 588) rfl rfl, tb_m (i := 284) rfl rfl, tb_m (i := 285) rfl rfl, tb_m (i := 57) rfl rfl, tb_m (i := 286) rfl rfl, ⟨by decide +kernel, by decide +kernel, by decide +kernel⟩, rfl⟩
def w_X6_cell (G : GT) (sa : Nat → Nat) (kk : Nat) (h_t : Nat) (h_t_sheets : Nat) (h_E_cells : Nat) (h_t_valley : Nat) (h_t_text : Nat) (h_t_pulls : Nat) (h_t_triedPulls : Nat) (h_t_readings : Nat) (h_t_heard : Nat) (h_t_trial : Nat) (t_heardIsCurrent : Int32) (t_trace : Int32) (t_fault : Int32) (E_lane : Int32) (E_size : Int32) (E_cells : (Nat → Int32)) : va_W := [(h_t, .inr (6, [.ref h_t_valley, .ref h_t_text, .ref h_t_pulls, .ref h_t_triedPulls, .ref h_t_readings, .ref h_t_heard, .ref h_t_trial, .ref h_t_sheets, .int t_heardIsCurrent, .int t_trace, .int t_fault])), (h_t_sheets, .inl (G.2.2.2, 4, .inr (.inr (.inr (.inr (fun j => some (sa j))))))), ((sa kk), .inr (3, [.ref h_E_cells, .int E_lane, .int E_size])), (h_E_cells, .inl (G.2.1, 60, .inl E_cells))]
def M_X6_cell (E_lane : Int32) (E_size : Int32) (E_cells : (Nat → Int32)) (a1 : Int32) (a2 : Int32) (a3 : Int32) : Option (Int64 × Int32) := ((M_X6_isSheet a1).bind (fun u1 => (if u1 = 0 then (some ((-9223372036854775808 : Int64), (0 : Int32))) else ((M_X6_isLane a3).bind (fun u2 => (if u2 = 0 then (some ((-9223372036854775808 : Int64), (0 : Int32))) else (gB (inb a1 4) ((M_X3_faultOfLane E_lane E_size a3).bind (fun u3 => (if u3 = 0 then (gB (inb a1 4) ((M_X3_hasCell E_size a2).bind (fun u4 => (if u4 = 0 then (some ((-9223372036854775808 : Int64), (3 : Int32))) else (if u3 = 0 then (gB (inb a1 4) (gB (inb a2 60) (some ((Int32.toInt64 (E_cells (Int32.toNatClampNeg a2))), u3)))) else (some ((-9223372036854775808 : Int64), u3))))))) else (if u3 = 0 then (gB (inb a1 4) (gB (inb a2 60) (some ((Int32.toInt64 (E_cells (Int32.toNatClampNeg a2))), u3)))) else (some ((-9223372036854775808 : Int64), u3)))))))))))))
set_option maxHeartbeats 4000000 in
set_option maxRecDepth 100000 in
theorem c_X6_cell (l : Launch) (G : GT) (sa : Nat → Nat) (kk : Nat) (h_t : Nat) (h_t_sheets : Nat) (h_E_cells : Nat) (h_t_valley : Nat) (h_t_text : Nat) (h_t_pulls : Nat) (h_t_triedPulls : Nat) (h_t_readings : Nat) (h_t_heard : Nat) (h_t_trial : Nat) (t_heardIsCurrent : Int32) (t_trace : Int32) (t_fault : Int32) (E_lane : Int32) (E_size : Int32) (E_cells : (Nat → Int32)) (a1 : Int32) (a2 : Int32) (a3 : Int32) (hkk : inb a1 4 = true → Int32.toNatClampNeg a1 = kk) {u : Int64 × Int32} (hm : M_X6_cell E_lane E_size E_cells a1 a2 a3 = some u) : CT l yX6_cell cX6_cell 4 (some .long) 2 41 [.ref h_t, .int a1, .int a2, .int a3] G (w_X6_cell G sa kk h_t h_t_sheets h_E_cells h_t_valley h_t_text h_t_pulls h_t_triedPulls h_t_readings h_t_heard h_t_trial t_heardIsCurrent t_trace t_fault E_lane E_size E_cells) (some (.long u.1)) (w_X6_cell G sa kk h_t h_t_sheets h_E_cells h_t_valley h_t_text h_t_pulls h_t_triedPulls h_t_readings h_t_heard h_t_trial t_heardIsCurrent t_trace u.2 E_lane E_size E_cells) := by
  refine ct_intro RX6 [(0, .ref h_t), (1, .int a1), (2, .int a2), (3, .int a3)] (by decide) rfl (Nat.le_of_ble_eq_true rfl) rfl (fun X hX cx => ?_)
  unfold M_X6_cell at hm
  refine k_aload_n 0 cx dX6_cell_0 rfl 0 rfl ?_
  refine k_iconst 1 cx (v := (0 : Int32)) dX6_cell_1 (by decide) ?_
  refine fpX6_61 2 cx dX6_cell_2 0 rfl rfl rfl (by simp) (w1 := (w_X6_cell G sa kk h_t h_t_sheets h_E_cells h_t_valley h_t_text h_t_pulls h_t_triedPulls h_t_readings h_t_heard h_t_trial t_heardIsCurrent t_trace (0 : Int32) E_lane E_size E_cells)) rfl ?_
  refine k_iload_n 5 cx dX6_cell_5 rfl 1 rfl ?_
  obtain ⟨u1, hu1, hm⟩ := bnd hm
  refine k_callS 6 cx cwX6_65 (c_X6_isSheet X.2.1 G a1 hu1) dX6_cell_6 ⟨by decide, by decide⟩ rfl (rest := []) rfl (Nat.le_of_ble_eq_true rfl) [] (by decide) rfl rfl (w2 := (w_X6_cell G sa kk h_t h_t_sheets h_E_cells h_t_valley h_t_text h_t_pulls h_t_triedPulls h_t_readings h_t_heard h_t_trial t_heardIsCurrent t_trace (0 : Int32) E_lane E_size E_cells)) [0, 1, 2, 3] 4 rfl [(h_t, .inr (6, [.ref h_t_valley, .ref h_t_text, .ref h_t_pulls, .ref h_t_triedPulls, .ref h_t_readings, .ref h_t_heard, .ref h_t_trial, .ref h_t_sheets, .int t_heardIsCurrent, .int t_trace, .int (0 : Int32)])), (h_t_sheets, .inl (G.2.2.2, 4, .inr (.inr (.inr (.inr (fun j => some (sa j))))))), ((sa kk), .inr (3, [.ref h_E_cells, .int E_lane, .int E_size])), (h_E_cells, .inl (G.2.1, 60, .inl E_cells))] rfl rfl rfl (by decide) (st2 := [.int u1]) rfl ?_
  refine k_if_eq 9 cx (tgt := 19) dX6_cell_9 (by decide) hm (fun hc hm => ?_) (fun hc hm => ?_)
  · refine k_ldc2_w 19 cx (v := (-9223372036854775808 : Int64)) dX6_cell_19 (tb_m (i := 549) rfl rfl) ?_
    obtain rfl := Option.some.inj hm
    exact k_lret 22 cx dX6_cell_22 rfl rfl
  · refine k_iload_n 12 cx dX6_cell_12 rfl 3 rfl ?_
    obtain ⟨u2, hu2, hm⟩ := bnd hm
    refine k_callS 13 cx cwX6_69 (c_X6_isLane X.2.1 G a3 hu2) dX6_cell_13 ⟨by decide, by decide⟩ rfl (rest := []) rfl (Nat.le_of_ble_eq_true rfl) [] (by decide) rfl rfl (w2 := (w_X6_cell G sa kk h_t h_t_sheets h_E_cells h_t_valley h_t_text h_t_pulls h_t_triedPulls h_t_readings h_t_heard h_t_trial t_heardIsCurrent t_trace (0 : Int32) E_lane E_size E_cells)) [0, 1, 2, 3] 4 rfl [(h_t, .inr (6, [.ref h_t_valley, .ref h_t_text, .ref h_t_pulls, .ref h_t_triedPulls, .ref h_t_readings, .ref h_t_heard, .ref h_t_trial, .ref h_t_sheets, .int t_heardIsCurrent, .int t_trace, .int (0 : Int32)])), (h_t_sheets, .inl (G.2.2.2, 4, .inr (.inr (.inr (.inr (fun j => some (sa j))))))), ((sa kk), .inr (3, [.ref h_E_cells, .int E_lane, .int E_size])), (h_E_cells, .inl (G.2.1, 60, .inl E_cells))] rfl rfl rfl (by decide) (st2 := [.int u2]) rfl ?_
    refine k_if_ne 16 cx (tgt := 23) dX6_cell_16 (by decide) hm (fun hc hm => ?_) (fun hc hm => ?_)
    · refine k_ldc2_w 19 cx (v := (-9223372036854775808 : Int64)) dX6_cell_19 (tb_m (i := 549) rfl rfl) ?_
      obtain rfl := Option.some.inj hm
      exact k_lret 22 cx dX6_cell_22 rfl rfl
    · refine k_aload_n 23 cx dX6_cell_23 rfl 0 rfl ?_
      refine k_aload_n 24 cx dX6_cell_24 rfl 0 rfl ?_
      refine fgX6_56 25 cx dX6_cell_25 0 rfl rfl ?_
      refine k_iload_n 28 cx dX6_cell_28 rfl 1 rfl ?_
      refine k_aald 29 cx kk dX6_cell_29 1 rfl hm hkk (fun hm => ?_)
      refine k_iload_n 30 cx dX6_cell_30 rfl 3 rfl ?_
      obtain ⟨u3, hu3, hm⟩ := bnd hm
      refine k_callV 31 cx cwX6_218 (c_X3_faultOfLane X.2.1 G (sa kk) h_E_cells E_lane E_size a3 hu3) dX6_cell_31 ⟨by decide, by decide⟩ rfl rfl (rest := [.ref h_t]) rfl (Nat.le_of_ble_eq_true rfl) [2] (by decide) rfl rfl (w2 := (w_X6_cell G sa kk h_t h_t_sheets h_E_cells h_t_valley h_t_text h_t_pulls h_t_triedPulls h_t_readings h_t_heard h_t_trial t_heardIsCurrent t_trace (0 : Int32) E_lane E_size E_cells)) [0, 1, 3] 4 rfl [(h_t, .inr (6, [.ref h_t_valley, .ref h_t_text, .ref h_t_pulls, .ref h_t_triedPulls, .ref h_t_readings, .ref h_t_heard, .ref h_t_trial, .ref h_t_sheets, .int t_heardIsCurrent, .int t_trace, .int (0 : Int32)])), (h_t_sheets, .inl (G.2.2.2, 4, .inr (.inr (.inr (.inr (fun j => some (sa j))))))), (h_E_cells, .inl (G.2.1, 60, .inl E_cells))] rfl rfl rfl (by decide) (st2 := [.int u3, .ref h_t]) rfl ?_
      refine fpX6_61 34 cx dX6_cell_34 0 rfl rfl rfl (by simp) (w1 := (w_X6_cell G sa kk h_t h_t_sheets h_E_cells h_t_valley h_t_text h_t_pulls h_t_triedPulls h_t_readings h_t_heard h_t_trial t_heardIsCurrent t_trace u3 E_lane E_size E_cells)) rfl ?_
      refine k_aload_n 37 cx dX6_cell_37 rfl 0 rfl ?_
      refine fgX6_61 38 cx dX6_cell_38 0 rfl rfl ?_
      refine k_if_ne 41 cx (tgt := 62) dX6_cell_41 (by decide) hm (fun hc hm => ?_) (fun hc hm => ?_)
      · refine k_aload_n 44 cx dX6_cell_44 rfl 0 rfl ?_
        refine fgX6_56 45 cx dX6_cell_45 0 rfl rfl ?_
        refine k_iload_n 48 cx dX6_cell_48 rfl 1 rfl ?_
        refine k_aald 49 cx kk dX6_cell_49 1 rfl hm hkk (fun hm => ?_)
        refine k_iload_n 50 cx dX6_cell_50 rfl 2 rfl ?_
        obtain ⟨u4, hu4, hm⟩ := bnd hm
        refine k_callV 51 cx cwX6_212 (c_X3_hasCell X.2.1 G (sa kk) h_E_cells E_lane E_size a2 hu4) dX6_cell_51 ⟨by decide, by decide⟩ rfl rfl (rest := []) rfl (Nat.le_of_ble_eq_true rfl) [2] (by decide) rfl rfl (w2 := (w_X6_cell G sa kk h_t h_t_sheets h_E_cells h_t_valley h_t_text h_t_pulls h_t_triedPulls h_t_readings h_t_heard h_t_trial t_heardIsCurrent t_trace u3 E_lane E_size E_cells)) [0, 1, 3] 4 rfl [(h_t, .inr (6, [.ref h_t_valley, .ref h_t_text, .ref h_t_pulls, .ref h_t_triedPulls, .ref h_t_readings, .ref h_t_heard, .ref h_t_trial, .ref h_t_sheets, .int t_heardIsCurrent, .int t_trace, .int u3])), (h_t_sheets, .inl (G.2.2.2, 4, .inr (.inr (.inr (.inr (fun j => some (sa j))))))), (h_E_cells, .inl (G.2.1, 60, .inl E_cells))] rfl rfl rfl (by decide) (st2 := [.int u4]) rfl ?_
        refine k_if_ne 54 cx (tgt := 62) dX6_cell_54 (by decide) hm (fun hc hm => ?_) (fun hc hm => ?_)
        · refine k_aload_n 57 cx dX6_cell_57 rfl 0 rfl ?_
          refine k_iconst 58 cx (v := (3 : Int32)) dX6_cell_58 (by decide) ?_
          refine fpX6_61 59 cx dX6_cell_59 0 rfl rfl rfl (by simp) (w1 := (w_X6_cell G sa kk h_t h_t_sheets h_E_cells h_t_valley h_t_text h_t_pulls h_t_triedPulls h_t_readings h_t_heard h_t_trial t_heardIsCurrent t_trace (3 : Int32) E_lane E_size E_cells)) rfl ?_
          refine k_aload_n 62 cx dX6_cell_62 rfl 0 rfl ?_
          refine fgX6_61 63 cx dX6_cell_63 0 rfl rfl ?_
          refine k_if_ne_T 66 cx (tgt := 84) dX6_cell_66 (by decide) (by decide) ?_
          refine k_ldc2_w 84 cx (v := (-9223372036854775808 : Int64)) dX6_cell_84 (tb_m (i := 549) rfl rfl) ?_
          obtain rfl := Option.some.inj hm
          exact k_lret 87 cx dX6_cell_87 rfl rfl
        · refine k_aload_n 62 cx dX6_cell_62 rfl 0 rfl ?_
          refine fgX6_61 63 cx dX6_cell_63 0 rfl rfl ?_
          refine k_if_ne 66 cx (tgt := 84) dX6_cell_66 (by decide) hm (fun hc hm => ?_) (fun hc hm => ?_)
          · refine k_aload_n 69 cx dX6_cell_69 rfl 0 rfl ?_
            refine fgX6_56 70 cx dX6_cell_70 0 rfl rfl ?_
            refine k_iload_n 73 cx dX6_cell_73 rfl 1 rfl ?_
            refine k_aald 74 cx kk dX6_cell_74 1 rfl hm hkk (fun hm => ?_)
            refine fgX6_80 75 cx dX6_cell_75 2 rfl rfl ?_
            refine k_iload_n 78 cx dX6_cell_78 rfl 2 rfl ?_
            refine k_iald 79 cx dX6_cell_79 3 rfl hm (fun hm => ?_)
            refine k_i2l 80 cx dX6_cell_80 ?_
            refine k_goto 81 cx (tgt := 87) dX6_cell_81 (by decide) ?_
            obtain rfl := Option.some.inj hm
            exact k_lret 87 cx dX6_cell_87 rfl rfl
          · refine k_ldc2_w 84 cx (v := (-9223372036854775808 : Int64)) dX6_cell_84 (tb_m (i := 549) rfl rfl) ?_
            obtain rfl := Option.some.inj hm
            exact k_lret 87 cx dX6_cell_87 rfl rfl
      · refine k_aload_n 62 cx dX6_cell_62 rfl 0 rfl ?_
        refine fgX6_61 63 cx dX6_cell_63 0 rfl rfl ?_
        refine k_if_ne 66 cx (tgt := 84) dX6_cell_66 (by decide) hm (fun hc hm => ?_) (fun hc hm => ?_)
        · refine k_aload_n 69 cx dX6_cell_69 rfl 0 rfl ?_
          refine fgX6_56 70 cx dX6_cell_70 0 rfl rfl ?_
          refine k_iload_n 73 cx dX6_cell_73 rfl 1 rfl ?_
          refine k_aald 74 cx kk dX6_cell_74 1 rfl hm hkk (fun hm => ?_)
          refine fgX6_80 75 cx dX6_cell_75 2 rfl rfl ?_
          refine k_iload_n 78 cx dX6_cell_78 rfl 2 rfl ?_
          refine k_iald 79 cx dX6_cell_79 3 rfl hm (fun hm => ?_)
          refine k_i2l 80 cx dX6_cell_80 ?_
          refine k_goto 81 cx (tgt := 87) dX6_cell_81 (by decide) ?_
          obtain rfl := Option.some.inj hm
          exact k_lret 87 cx dX6_cell_87 rfl rfl
        · refine k_ldc2_w 84 cx (v := (-9223372036854775808 : Int64)) dX6_cell_84 (tb_m (i := 549) rfl rfl) ?_
          obtain rfl := Option.some.inj hm
          exact k_lret 87 cx dX6_cell_87 rfl rfl
set_option maxRecDepth 100000 in
theorem fgX6_221 {X : XT} {Q : State → Prop} {G : GT} {A : Nat → Prop} {nL : Nat} {lv : List (Nat × Value)} {st : List Value} {ws : va_W} {cc : ByteArray} {fr lo : Nat} {ret : Option FieldType} (pc : Nat) (cx : Cx X cc nL RX6 G fr lo ret) {a : Nat} {fs : List Value} {v : Value} (hd : decode cc pc = .ok (.getfield 221, 3)) (q0 : Nat) (he : ws[q0]? = some (a, .inr (3, fs))) (hv : fs[1]? = some v) (k : KJ X Q G A nL (pc + 3) lv (v :: st) ws) : KJ X Q G A nL pc lv (.ref a :: st) ws :=
  k_get (ref := RX3) (T := TX3) (N := 3) (ci := 3) pc cx inX3 rfl 1 (by decide) (tb_m (i := 225) rfl rfl) rfl hd q0 he hv k
set_option maxRecDepth 100000 in
theorem cwX6_224 : CWV RX6 224 RX3 yX3_hasCells cX3_hasCells 3 (some .boolean) 2 3 TX3 3 := ⟨tb_m (i := 593) rfl rfl, tb_m (i := 292) rfl rfl, tb_m (i := 293) rfl rfl, tb_m (i := 57) rfl rfl, tb_m (i := 294) rfl rfl, ⟨by decide +kernel, by decide +kernel, by decide +kernel⟩, rfl⟩
set_option maxRecDepth 100000 in
theorem acX6_227 : Cond.methodLink RX6 227 arraycopyName ∈ TB ∧ Cond.native arraycopyName ∈ TB ∧ Cond.static arraycopyName ∈ TB ∧ Cond.initialized "java/lang/System" ∈ TB := ⟨tb_m (i := 594) rfl rfl, tb_m (i := 344) rfl rfl, tb_m (i := 343) rfl rfl, tb_m (i := 59) rfl rfl⟩
def w_X6_copy_s (G : GT) (sa : Nat → Nat) (kk : Nat) (h_t : Nat) (h_t_sheets : Nat) (h_E_cells : Nat) (h_t_valley : Nat) (h_t_text : Nat) (h_t_pulls : Nat) (h_t_triedPulls : Nat) (h_t_readings : Nat) (h_t_heard : Nat) (h_t_trial : Nat) (t_heardIsCurrent : Int32) (t_trace : Int32) (t_fault : Int32) (E_lane : Int32) (E_size : Int32) (E_cells : (Nat → Int32)) : va_W := [(h_t, .inr (6, [.ref h_t_valley, .ref h_t_text, .ref h_t_pulls, .ref h_t_triedPulls, .ref h_t_readings, .ref h_t_heard, .ref h_t_trial, .ref h_t_sheets, .int t_heardIsCurrent, .int t_trace, .int t_fault])), (h_t_sheets, .inl (G.2.2.2, 4, .inr (.inr (.inr (.inr (fun j => some (sa j))))))), ((sa kk), .inr (3, [.ref h_E_cells, .int E_lane, .int E_size])), (h_E_cells, .inl (G.2.1, 60, .inl E_cells))]
def M_X6_copy_s (E_lane : Int32) (E_size : Int32) (E_cells : (Nat → Int32)) (a1 : Int32) (a2 : Int32) (a3 : Int32) (a4 : Int32) (a5 : Int32) : Option (Int32 × Int32 × (Nat → Int32)) := ((M_X6_isSheet a1).bind (fun u1 => (if u1 = 0 then (some ((-1 : Int32), (0 : Int32), E_cells)) else ((M_X6_isSheet a3).bind (fun u2 => (if u2 = 0 then (some ((-1 : Int32), (0 : Int32), E_cells)) else (gB (inb a1 4) (gB (inb a3 4) ((M_X3_hasRow E_size).bind (fun u3 => (if u3 = 0 then ((M_X6_faulty (1 : Int32)).bind (fun u4 => (some (u4.1, u4.2, E_cells)))) else ((M_X3_hasRow E_size).bind (fun u5 => (if u5 = 0 then ((M_X6_faulty (1 : Int32)).bind (fun u12 => (some (u12.1, u12.2, E_cells)))) else (if E_lane = E_lane then ((M_X3_hasCells E_size a2 a5).bind (fun u6 => (if u6 = 0 then ((M_X6_faulty (3 : Int32)).bind (fun u7 => (some (u7.1, u7.2, E_cells)))) else ((M_X3_hasCells E_size a4 a5).bind (fun u8 => (if u8 = 0 then ((M_X6_faulty (3 : Int32)).bind (fun u10 => (some (u10.1, u10.2, E_cells)))) else (gB (decide (0 ≤ (a2).toInt ∧ 0 ≤ (a4).toInt ∧ 0 ≤ (a5).toInt ∧ (a2).toInt + (a5).toInt ≤ ((60 : Nat) : Int) ∧ (a4).toInt + (a5).toInt ≤ ((60 : Nat) : Int))) (nme (va_cpy E_cells E_cells (Int32.toNatClampNeg a2) (Int32.toNatClampNeg a4) (Int32.toNatClampNeg a5)) (fun f9 => (some (a5, (0 : Int32), f9))))))))))) else ((M_X6_faulty (2 : Int32)).bind (fun u11 => (some (u11.1, u11.2, E_cells)))))))))))))))))))
set_option maxHeartbeats 4000000 in
set_option maxRecDepth 100000 in
theorem c_X6_copy_s (l : Launch) (G : GT) (sa : Nat → Nat) (kk : Nat) (h_t : Nat) (h_t_sheets : Nat) (h_E_cells : Nat) (h_t_valley : Nat) (h_t_text : Nat) (h_t_pulls : Nat) (h_t_triedPulls : Nat) (h_t_readings : Nat) (h_t_heard : Nat) (h_t_trial : Nat) (t_heardIsCurrent : Int32) (t_trace : Int32) (t_fault : Int32) (E_lane : Int32) (E_size : Int32) (E_cells : (Nat → Int32)) (a1 : Int32) (a2 : Int32) (a3 : Int32) (a4 : Int32) (a5 : Int32) (hkk : inb a1 4 = true → Int32.toNatClampNeg a1 = kk) (hkk2 : inb a3 4 = true → Int32.toNatClampNeg a3 = kk) {u : Int32 × Int32 × (Nat → Int32)} (hm : M_X6_copy_s E_lane E_size E_cells a1 a2 a3 a4 a5 = some u) : CT l yX6_copy cX6_copy 8 (some .int) 1 40 [.ref h_t, .int a1, .int a2, .int a3, .int a4, .int a5] G (w_X6_copy_s G sa kk h_t h_t_sheets h_E_cells h_t_valley h_t_text h_t_pulls h_t_triedPulls h_t_readings h_t_heard h_t_trial t_heardIsCurrent t_trace t_fault E_lane E_size E_cells) (some (.int u.1)) (w_X6_copy_s G sa kk h_t h_t_sheets h_E_cells h_t_valley h_t_text h_t_pulls h_t_triedPulls h_t_readings h_t_heard h_t_trial t_heardIsCurrent t_trace u.2.1 E_lane E_size u.2.2) := by
  refine ct_intro RX6 [(0, .ref h_t), (1, .int a1), (2, .int a2), (3, .int a3), (4, .int a4), (5, .int a5)] (by decide) rfl (Nat.le_of_ble_eq_true rfl) rfl (fun X hX cx => ?_)
  unfold M_X6_copy_s at hm
  refine k_aload_n 0 cx dX6_copy_0 rfl 0 rfl ?_
  refine k_iconst 1 cx (v := (0 : Int32)) dX6_copy_1 (by decide) ?_
  refine fpX6_61 2 cx dX6_copy_2 0 rfl rfl rfl (by simp) (w1 := (w_X6_copy_s G sa kk h_t h_t_sheets h_E_cells h_t_valley h_t_text h_t_pulls h_t_triedPulls h_t_readings h_t_heard h_t_trial t_heardIsCurrent t_trace (0 : Int32) E_lane E_size E_cells)) rfl ?_
  refine k_iload_n 5 cx dX6_copy_5 rfl 1 rfl ?_
  obtain ⟨u1, hu1, hm⟩ := bnd hm
  refine k_callS 6 cx cwX6_65 (c_X6_isSheet X.2.1 G a1 hu1) dX6_copy_6 ⟨by decide, by decide⟩ rfl (rest := []) rfl (Nat.le_of_ble_eq_true rfl) [] (by decide) rfl rfl (w2 := (w_X6_copy_s G sa kk h_t h_t_sheets h_E_cells h_t_valley h_t_text h_t_pulls h_t_triedPulls h_t_readings h_t_heard h_t_trial t_heardIsCurrent t_trace (0 : Int32) E_lane E_size E_cells)) [0, 1, 2, 3] 4 rfl [(h_t, .inr (6, [.ref h_t_valley, .ref h_t_text, .ref h_t_pulls, .ref h_t_triedPulls, .ref h_t_readings, .ref h_t_heard, .ref h_t_trial, .ref h_t_sheets, .int t_heardIsCurrent, .int t_trace, .int (0 : Int32)])), (h_t_sheets, .inl (G.2.2.2, 4, .inr (.inr (.inr (.inr (fun j => some (sa j))))))), ((sa kk), .inr (3, [.ref h_E_cells, .int E_lane, .int E_size])), (h_E_cells, .inl (G.2.1, 60, .inl E_cells))] rfl rfl rfl (by decide) (st2 := [.int u1]) rfl ?_
  refine k_if_eq 9 cx (tgt := 19) dX6_copy_9 (by decide) hm (fun hc hm => ?_) (fun hc hm => ?_)
  · refine k_iconst 19 cx (v := (-1 : Int32)) dX6_copy_19 (by decide) ?_
    obtain rfl := Option.some.inj hm
    exact k_iret 20 cx dX6_copy_20 rfl rfl
  · refine k_iload_n 12 cx dX6_copy_12 rfl 3 rfl ?_
    obtain ⟨u2, hu2, hm⟩ := bnd hm
    refine k_callS 13 cx cwX6_65 (c_X6_isSheet X.2.1 G a3 hu2) dX6_copy_13 ⟨by decide, by decide⟩ rfl (rest := []) rfl (Nat.le_of_ble_eq_true rfl) [] (by decide) rfl rfl (w2 := (w_X6_copy_s G sa kk h_t h_t_sheets h_E_cells h_t_valley h_t_text h_t_pulls h_t_triedPulls h_t_readings h_t_heard h_t_trial t_heardIsCurrent t_trace (0 : Int32) E_lane E_size E_cells)) [0, 1, 2, 3] 4 rfl [(h_t, .inr (6, [.ref h_t_valley, .ref h_t_text, .ref h_t_pulls, .ref h_t_triedPulls, .ref h_t_readings, .ref h_t_heard, .ref h_t_trial, .ref h_t_sheets, .int t_heardIsCurrent, .int t_trace, .int (0 : Int32)])), (h_t_sheets, .inl (G.2.2.2, 4, .inr (.inr (.inr (.inr (fun j => some (sa j))))))), ((sa kk), .inr (3, [.ref h_E_cells, .int E_lane, .int E_size])), (h_E_cells, .inl (G.2.1, 60, .inl E_cells))] rfl rfl rfl (by decide) (st2 := [.int u2]) rfl ?_
    refine k_if_ne 16 cx (tgt := 21) dX6_copy_16 (by decide) hm (fun hc hm => ?_) (fun hc hm => ?_)
    · refine k_iconst 19 cx (v := (-1 : Int32)) dX6_copy_19 (by decide) ?_
      obtain rfl := Option.some.inj hm
      exact k_iret 20 cx dX6_copy_20 rfl rfl
    · refine k_aload_n 21 cx dX6_copy_21 rfl 0 rfl ?_
      refine fgX6_56 22 cx dX6_copy_22 0 rfl rfl ?_
      refine k_iload_n 25 cx dX6_copy_25 rfl 1 rfl ?_
      refine k_aald 26 cx kk dX6_copy_26 1 rfl hm hkk (fun hm => ?_)
      refine k_astore 27 cx dX6_copy_27 (by decide) (lv' := [(6, .ref (sa kk)), (0, .ref h_t), (1, .int a1), (2, .int a2), (3, .int a3), (4, .int a4), (5, .int a5)]) rfl ?_
      refine k_aload_n 29 cx dX6_copy_29 rfl 1 rfl ?_
      refine fgX6_56 30 cx dX6_copy_30 0 rfl rfl ?_
      refine k_iload_n 33 cx dX6_copy_33 rfl 4 rfl ?_
      refine k_aald 34 cx kk dX6_copy_34 1 rfl hm hkk2 (fun hm => ?_)
      refine k_astore 35 cx dX6_copy_35 (by decide) (lv' := [(7, .ref (sa kk)), (6, .ref (sa kk)), (0, .ref h_t), (1, .int a1), (2, .int a2), (3, .int a3), (4, .int a4), (5, .int a5)]) rfl ?_
      refine k_aload 37 cx dX6_copy_37 1 rfl ?_
      obtain ⟨u3, hu3, hm⟩ := bnd hm
      refine k_callV 39 cx cwX6_206 (c_X3_hasRow X.2.1 G (sa kk) h_E_cells E_lane E_size hu3) dX6_copy_39 ⟨by decide, by decide⟩ rfl rfl (rest := []) rfl (Nat.le_of_ble_eq_true rfl) [2] (by decide) rfl rfl (w2 := (w_X6_copy_s G sa kk h_t h_t_sheets h_E_cells h_t_valley h_t_text h_t_pulls h_t_triedPulls h_t_readings h_t_heard h_t_trial t_heardIsCurrent t_trace (0 : Int32) E_lane E_size E_cells)) [0, 1, 3] 4 rfl [(h_t, .inr (6, [.ref h_t_valley, .ref h_t_text, .ref h_t_pulls, .ref h_t_triedPulls, .ref h_t_readings, .ref h_t_heard, .ref h_t_trial, .ref h_t_sheets, .int t_heardIsCurrent, .int t_trace, .int (0 : Int32)])), (h_t_sheets, .inl (G.2.2.2, 4, .inr (.inr (.inr (.inr (fun j => some (sa j))))))), (h_E_cells, .inl (G.2.1, 60, .inl E_cells))] rfl rfl rfl (by decide) (st2 := [.int u3]) rfl ?_
      refine k_if_eq 42 cx (tgt := 53) dX6_copy_42 (by decide) hm (fun hc hm => ?_) (fun hc hm => ?_)
      · refine k_aload_n 53 cx dX6_copy_53 rfl 2 rfl ?_
        refine k_iconst 54 cx (v := (1 : Int32)) dX6_copy_54 (by decide) ?_
        obtain ⟨u4, hu4, hm⟩ := bnd hm
        refine k_callV 55 cx cwX6_76 (c_X6_faulty X.2.1 G h_t h_t_valley h_t_text h_t_pulls h_t_triedPulls h_t_readings h_t_heard h_t_trial h_t_sheets t_heardIsCurrent t_trace (0 : Int32) (1 : Int32) hu4) dX6_copy_55 ⟨by decide, by decide⟩ rfl rfl (rest := []) rfl (Nat.le_of_ble_eq_true rfl) [0] (by decide) rfl rfl (w2 := (w_X6_copy_s G sa kk h_t h_t_sheets h_E_cells h_t_valley h_t_text h_t_pulls h_t_triedPulls h_t_readings h_t_heard h_t_trial t_heardIsCurrent t_trace u4.2 E_lane E_size E_cells)) [1, 2, 3] 4 rfl [(h_t_sheets, .inl (G.2.2.2, 4, .inr (.inr (.inr (.inr (fun j => some (sa j))))))), ((sa kk), .inr (3, [.ref h_E_cells, .int E_lane, .int E_size])), (h_E_cells, .inl (G.2.1, 60, .inl E_cells))] rfl rfl rfl (by decide) (st2 := [.int u4.1]) rfl ?_
        obtain rfl := Option.some.inj hm
        exact k_iret 58 cx dX6_copy_58 rfl rfl
      · refine k_aload 45 cx dX6_copy_45 0 rfl ?_
        obtain ⟨u5, hu5, hm⟩ := bnd hm
        refine k_callV 47 cx cwX6_206 (c_X3_hasRow X.2.1 G (sa kk) h_E_cells E_lane E_size hu5) dX6_copy_47 ⟨by decide, by decide⟩ rfl rfl (rest := []) rfl (Nat.le_of_ble_eq_true rfl) [2] (by decide) rfl rfl (w2 := (w_X6_copy_s G sa kk h_t h_t_sheets h_E_cells h_t_valley h_t_text h_t_pulls h_t_triedPulls h_t_readings h_t_heard h_t_trial t_heardIsCurrent t_trace (0 : Int32) E_lane E_size E_cells)) [0, 1, 3] 4 rfl [(h_t, .inr (6, [.ref h_t_valley, .ref h_t_text, .ref h_t_pulls, .ref h_t_triedPulls, .ref h_t_readings, .ref h_t_heard, .ref h_t_trial, .ref h_t_sheets, .int t_heardIsCurrent, .int t_trace, .int (0 : Int32)])), (h_t_sheets, .inl (G.2.2.2, 4, .inr (.inr (.inr (.inr (fun j => some (sa j))))))), (h_E_cells, .inl (G.2.1, 60, .inl E_cells))] rfl rfl rfl (by decide) (st2 := [.int u5]) rfl ?_
        refine k_if_ne 50 cx (tgt := 59) dX6_copy_50 (by decide) hm (fun hc hm => ?_) (fun hc hm => ?_)
        · refine k_aload_n 53 cx dX6_copy_53 rfl 2 rfl ?_
          refine k_iconst 54 cx (v := (1 : Int32)) dX6_copy_54 (by decide) ?_
          obtain ⟨u12, hu12, hm⟩ := bnd hm
          refine k_callV 55 cx cwX6_76 (c_X6_faulty X.2.1 G h_t h_t_valley h_t_text h_t_pulls h_t_triedPulls h_t_readings h_t_heard h_t_trial h_t_sheets t_heardIsCurrent t_trace (0 : Int32) (1 : Int32) hu12) dX6_copy_55 ⟨by decide, by decide⟩ rfl rfl (rest := []) rfl (Nat.le_of_ble_eq_true rfl) [0] (by decide) rfl rfl (w2 := (w_X6_copy_s G sa kk h_t h_t_sheets h_E_cells h_t_valley h_t_text h_t_pulls h_t_triedPulls h_t_readings h_t_heard h_t_trial t_heardIsCurrent t_trace u12.2 E_lane E_size E_cells)) [1, 2, 3] 4 rfl [(h_t_sheets, .inl (G.2.2.2, 4, .inr (.inr (.inr (.inr (fun j => some (sa j))))))), ((sa kk), .inr (3, [.ref h_E_cells, .int E_lane, .int E_size])), (h_E_cells, .inl (G.2.1, 60, .inl E_cells))] rfl rfl rfl (by decide) (st2 := [.int u12.1]) rfl ?_
          obtain rfl := Option.some.inj hm
          exact k_iret 58 cx dX6_copy_58 rfl rfl
        · refine k_aload 59 cx dX6_copy_59 1 rfl ?_
          refine fgX6_221 61 cx dX6_copy_61 2 rfl rfl ?_
          refine k_aload 64 cx dX6_copy_64 0 rfl ?_
          refine fgX6_221 66 cx dX6_copy_66 2 rfl rfl ?_
          refine k_icmp_eq 69 cx (tgt := 78) dX6_copy_69 (by decide) hm (fun hc hm => ?_) (fun hc hm => ?_)
          · refine k_aload 78 cx dX6_copy_78 1 rfl ?_
            refine k_iload_n 80 cx dX6_copy_80 rfl 4 rfl ?_
            refine k_iload 81 cx dX6_copy_81 7 rfl ?_
            obtain ⟨u6, hu6, hm⟩ := bnd hm
            refine k_callV 83 cx cwX6_224 (c_X3_hasCells X.2.1 G (sa kk) h_E_cells E_lane E_size a2 a5 hu6) dX6_copy_83 ⟨by decide, by decide⟩ rfl rfl (rest := []) rfl (Nat.le_of_ble_eq_true rfl) [2] (by decide) rfl rfl (w2 := (w_X6_copy_s G sa kk h_t h_t_sheets h_E_cells h_t_valley h_t_text h_t_pulls h_t_triedPulls h_t_readings h_t_heard h_t_trial t_heardIsCurrent t_trace (0 : Int32) E_lane E_size E_cells)) [0, 1, 3] 4 rfl [(h_t, .inr (6, [.ref h_t_valley, .ref h_t_text, .ref h_t_pulls, .ref h_t_triedPulls, .ref h_t_readings, .ref h_t_heard, .ref h_t_trial, .ref h_t_sheets, .int t_heardIsCurrent, .int t_trace, .int (0 : Int32)])), (h_t_sheets, .inl (G.2.2.2, 4, .inr (.inr (.inr (.inr (fun j => some (sa j))))))), (h_E_cells, .inl (G.2.1, 60, .inl E_cells))] rfl rfl rfl (by decide) (st2 := [.int u6]) rfl ?_
            refine k_if_eq 86 cx (tgt := 101) dX6_copy_86 (by decide) hm (fun hc hm => ?_) (fun hc hm => ?_)
            · refine k_aload_n 101 cx dX6_copy_101 rfl 2 rfl ?_
              refine k_iconst 102 cx (v := (3 : Int32)) dX6_copy_102 (by decide) ?_
              obtain ⟨u7, hu7, hm⟩ := bnd hm
              refine k_callV 103 cx cwX6_76 (c_X6_faulty X.2.1 G h_t h_t_valley h_t_text h_t_pulls h_t_triedPulls h_t_readings h_t_heard h_t_trial h_t_sheets t_heardIsCurrent t_trace (0 : Int32) (3 : Int32) hu7) dX6_copy_103 ⟨by decide, by decide⟩ rfl rfl (rest := []) rfl (Nat.le_of_ble_eq_true rfl) [0] (by decide) rfl rfl (w2 := (w_X6_copy_s G sa kk h_t h_t_sheets h_E_cells h_t_valley h_t_text h_t_pulls h_t_triedPulls h_t_readings h_t_heard h_t_trial t_heardIsCurrent t_trace u7.2 E_lane E_size E_cells)) [1, 2, 3] 4 rfl [(h_t_sheets, .inl (G.2.2.2, 4, .inr (.inr (.inr (.inr (fun j => some (sa j))))))), ((sa kk), .inr (3, [.ref h_E_cells, .int E_lane, .int E_size])), (h_E_cells, .inl (G.2.1, 60, .inl E_cells))] rfl rfl rfl (by decide) (st2 := [.int u7.1]) rfl ?_
              obtain rfl := Option.some.inj hm
              exact k_iret 106 cx dX6_copy_106 rfl rfl
            · refine k_aload 89 cx dX6_copy_89 0 rfl ?_
              refine k_iload 91 cx dX6_copy_91 6 rfl ?_
              refine k_iload 93 cx dX6_copy_93 7 rfl ?_
              obtain ⟨u8, hu8, hm⟩ := bnd hm
              refine k_callV 95 cx cwX6_224 (c_X3_hasCells X.2.1 G (sa kk) h_E_cells E_lane E_size a4 a5 hu8) dX6_copy_95 ⟨by decide, by decide⟩ rfl rfl (rest := []) rfl (Nat.le_of_ble_eq_true rfl) [2] (by decide) rfl rfl (w2 := (w_X6_copy_s G sa kk h_t h_t_sheets h_E_cells h_t_valley h_t_text h_t_pulls h_t_triedPulls h_t_readings h_t_heard h_t_trial t_heardIsCurrent t_trace (0 : Int32) E_lane E_size E_cells)) [0, 1, 3] 4 rfl [(h_t, .inr (6, [.ref h_t_valley, .ref h_t_text, .ref h_t_pulls, .ref h_t_triedPulls, .ref h_t_readings, .ref h_t_heard, .ref h_t_trial, .ref h_t_sheets, .int t_heardIsCurrent, .int t_trace, .int (0 : Int32)])), (h_t_sheets, .inl (G.2.2.2, 4, .inr (.inr (.inr (.inr (fun j => some (sa j))))))), (h_E_cells, .inl (G.2.1, 60, .inl E_cells))] rfl rfl rfl (by decide) (st2 := [.int u8]) rfl ?_
              refine k_if_ne 98 cx (tgt := 107) dX6_copy_98 (by decide) hm (fun hc hm => ?_) (fun hc hm => ?_)
              · refine k_aload_n 101 cx dX6_copy_101 rfl 2 rfl ?_
                refine k_iconst 102 cx (v := (3 : Int32)) dX6_copy_102 (by decide) ?_
                obtain ⟨u10, hu10, hm⟩ := bnd hm
                refine k_callV 103 cx cwX6_76 (c_X6_faulty X.2.1 G h_t h_t_valley h_t_text h_t_pulls h_t_triedPulls h_t_readings h_t_heard h_t_trial h_t_sheets t_heardIsCurrent t_trace (0 : Int32) (3 : Int32) hu10) dX6_copy_103 ⟨by decide, by decide⟩ rfl rfl (rest := []) rfl (Nat.le_of_ble_eq_true rfl) [0] (by decide) rfl rfl (w2 := (w_X6_copy_s G sa kk h_t h_t_sheets h_E_cells h_t_valley h_t_text h_t_pulls h_t_triedPulls h_t_readings h_t_heard h_t_trial t_heardIsCurrent t_trace u10.2 E_lane E_size E_cells)) [1, 2, 3] 4 rfl [(h_t_sheets, .inl (G.2.2.2, 4, .inr (.inr (.inr (.inr (fun j => some (sa j))))))), ((sa kk), .inr (3, [.ref h_E_cells, .int E_lane, .int E_size])), (h_E_cells, .inl (G.2.1, 60, .inl E_cells))] rfl rfl rfl (by decide) (st2 := [.int u10.1]) rfl ?_
                obtain rfl := Option.some.inj hm
                exact k_iret 106 cx dX6_copy_106 rfl rfl
              · refine k_aload 107 cx dX6_copy_107 1 rfl ?_
                refine fgX6_80 109 cx dX6_copy_109 2 rfl rfl ?_
                refine k_iload_n 112 cx dX6_copy_112 rfl 4 rfl ?_
                refine k_aload 113 cx dX6_copy_113 0 rfl ?_
                refine fgX6_80 115 cx dX6_copy_115 2 rfl rfl ?_
                refine k_iload 118 cx dX6_copy_118 6 rfl ?_
                refine k_iload 120 cx dX6_copy_120 7 rfl ?_
                refine k_acopy 122 cx acX6_227 3 3 rfl rfl hm dX6_copy_122 ⟨by decide, by decide⟩ (fun f9 => (w_X6_copy_s G sa kk h_t h_t_sheets h_E_cells h_t_valley h_t_text h_t_pulls h_t_triedPulls h_t_readings h_t_heard h_t_trial t_heardIsCurrent t_trace (0 : Int32) E_lane E_size f9)) (fun _ => rfl) (fun f9 hm => ?_)
                refine k_iload 125 cx dX6_copy_125 7 rfl ?_
                obtain rfl := Option.some.inj hm
                exact k_iret 127 cx dX6_copy_127 rfl rfl
          · refine k_aload_n 72 cx dX6_copy_72 rfl 2 rfl ?_
            refine k_iconst 73 cx (v := (2 : Int32)) dX6_copy_73 (by decide) ?_
            obtain ⟨u11, hu11, hm⟩ := bnd hm
            refine k_callV 74 cx cwX6_76 (c_X6_faulty X.2.1 G h_t h_t_valley h_t_text h_t_pulls h_t_triedPulls h_t_readings h_t_heard h_t_trial h_t_sheets t_heardIsCurrent t_trace (0 : Int32) (2 : Int32) hu11) dX6_copy_74 ⟨by decide, by decide⟩ rfl rfl (rest := []) rfl (Nat.le_of_ble_eq_true rfl) [0] (by decide) rfl rfl (w2 := (w_X6_copy_s G sa kk h_t h_t_sheets h_E_cells h_t_valley h_t_text h_t_pulls h_t_triedPulls h_t_readings h_t_heard h_t_trial t_heardIsCurrent t_trace u11.2 E_lane E_size E_cells)) [1, 2, 3] 4 rfl [(h_t_sheets, .inl (G.2.2.2, 4, .inr (.inr (.inr (.inr (fun j => some (sa j))))))), ((sa kk), .inr (3, [.ref h_E_cells, .int E_lane, .int E_size])), (h_E_cells, .inl (G.2.1, 60, .inl E_cells))] rfl rfl rfl (by decide) (st2 := [.int u11.1]) rfl ?_
            obtain rfl := Option.some.inj hm
            exact k_iret 77 cx dX6_copy_77 rfl rfl
def w_X6_copy_d (G : GT) (sa : Nat → Nat) (kk : Nat) (kf : Nat) (h_t : Nat) (h_t_sheets : Nat) (h_E_cells : Nat) (h_F_cells : Nat) (h_t_valley : Nat) (h_t_text : Nat) (h_t_pulls : Nat) (h_t_triedPulls : Nat) (h_t_readings : Nat) (h_t_heard : Nat) (h_t_trial : Nat) (t_heardIsCurrent : Int32) (t_trace : Int32) (t_fault : Int32) (E_lane : Int32) (E_size : Int32) (F_lane : Int32) (F_size : Int32) (E_cells : (Nat → Int32)) (F_cells : (Nat → Int32)) : va_W := [(h_t, .inr (6, [.ref h_t_valley, .ref h_t_text, .ref h_t_pulls, .ref h_t_triedPulls, .ref h_t_readings, .ref h_t_heard, .ref h_t_trial, .ref h_t_sheets, .int t_heardIsCurrent, .int t_trace, .int t_fault])), (h_t_sheets, .inl (G.2.2.2, 4, .inr (.inr (.inr (.inr (fun j => some (sa j))))))), ((sa kk), .inr (3, [.ref h_E_cells, .int E_lane, .int E_size])), ((sa kf), .inr (3, [.ref h_F_cells, .int F_lane, .int F_size])), (h_E_cells, .inl (G.2.1, 60, .inl E_cells)), (h_F_cells, .inl (G.2.1, 60, .inl F_cells))]
def M_X6_copy_d (E_lane : Int32) (E_size : Int32) (F_lane : Int32) (F_size : Int32) (E_cells : (Nat → Int32)) (F_cells : (Nat → Int32)) (a1 : Int32) (a2 : Int32) (a3 : Int32) (a4 : Int32) (a5 : Int32) : Option (Int32 × Int32 × (Nat → Int32)) := ((M_X6_isSheet a1).bind (fun u1 => (if u1 = 0 then (some ((-1 : Int32), (0 : Int32), F_cells)) else ((M_X6_isSheet a3).bind (fun u2 => (if u2 = 0 then (some ((-1 : Int32), (0 : Int32), F_cells)) else (gB (inb a1 4) (gB (inb a3 4) ((M_X3_hasRow E_size).bind (fun u3 => (if u3 = 0 then ((M_X6_faulty (1 : Int32)).bind (fun u4 => (some (u4.1, u4.2, F_cells)))) else ((M_X3_hasRow F_size).bind (fun u5 => (if u5 = 0 then ((M_X6_faulty (1 : Int32)).bind (fun u12 => (some (u12.1, u12.2, F_cells)))) else (if E_lane = F_lane then ((M_X3_hasCells E_size a2 a5).bind (fun u6 => (if u6 = 0 then ((M_X6_faulty (3 : Int32)).bind (fun u7 => (some (u7.1, u7.2, F_cells)))) else ((M_X3_hasCells F_size a4 a5).bind (fun u8 => (if u8 = 0 then ((M_X6_faulty (3 : Int32)).bind (fun u10 => (some (u10.1, u10.2, F_cells)))) else (gB (decide (0 ≤ (a2).toInt ∧ 0 ≤ (a4).toInt ∧ 0 ≤ (a5).toInt ∧ (a2).toInt + (a5).toInt ≤ ((60 : Nat) : Int) ∧ (a4).toInt + (a5).toInt ≤ ((60 : Nat) : Int))) (nme (va_cpy E_cells F_cells (Int32.toNatClampNeg a2) (Int32.toNatClampNeg a4) (Int32.toNatClampNeg a5)) (fun f9 => (some (a5, (0 : Int32), f9))))))))))) else ((M_X6_faulty (2 : Int32)).bind (fun u11 => (some (u11.1, u11.2, F_cells)))))))))))))))))))
set_option maxHeartbeats 4000000 in
set_option maxRecDepth 100000 in
theorem c_X6_copy_d (l : Launch) (G : GT) (sa : Nat → Nat) (kk : Nat) (kf : Nat) (h_t : Nat) (h_t_sheets : Nat) (h_E_cells : Nat) (h_F_cells : Nat) (h_t_valley : Nat) (h_t_text : Nat) (h_t_pulls : Nat) (h_t_triedPulls : Nat) (h_t_readings : Nat) (h_t_heard : Nat) (h_t_trial : Nat) (t_heardIsCurrent : Int32) (t_trace : Int32) (t_fault : Int32) (E_lane : Int32) (E_size : Int32) (F_lane : Int32) (F_size : Int32) (E_cells : (Nat → Int32)) (F_cells : (Nat → Int32)) (a1 : Int32) (a2 : Int32) (a3 : Int32) (a4 : Int32) (a5 : Int32) (hkk : inb a1 4 = true → Int32.toNatClampNeg a1 = kk) (hkf : inb a3 4 = true → Int32.toNatClampNeg a3 = kf) {u : Int32 × Int32 × (Nat → Int32)} (hm : M_X6_copy_d E_lane E_size F_lane F_size E_cells F_cells a1 a2 a3 a4 a5 = some u) : CT l yX6_copy cX6_copy 8 (some .int) 1 40 [.ref h_t, .int a1, .int a2, .int a3, .int a4, .int a5] G (w_X6_copy_d G sa kk kf h_t h_t_sheets h_E_cells h_F_cells h_t_valley h_t_text h_t_pulls h_t_triedPulls h_t_readings h_t_heard h_t_trial t_heardIsCurrent t_trace t_fault E_lane E_size F_lane F_size E_cells F_cells) (some (.int u.1)) (w_X6_copy_d G sa kk kf h_t h_t_sheets h_E_cells h_F_cells h_t_valley h_t_text h_t_pulls h_t_triedPulls h_t_readings h_t_heard h_t_trial t_heardIsCurrent t_trace u.2.1 E_lane E_size F_lane F_size E_cells u.2.2) := by
  refine ct_intro RX6 [(0, .ref h_t), (1, .int a1), (2, .int a2), (3, .int a3), (4, .int a4), (5, .int a5)] (by decide) rfl (Nat.le_of_ble_eq_true rfl) rfl (fun X hX cx => ?_)
  unfold M_X6_copy_d at hm
  refine k_aload_n 0 cx dX6_copy_0 rfl 0 rfl ?_
  refine k_iconst 1 cx (v := (0 : Int32)) dX6_copy_1 (by decide) ?_
  refine fpX6_61 2 cx dX6_copy_2 0 rfl rfl rfl (by simp) (w1 := (w_X6_copy_d G sa kk kf h_t h_t_sheets h_E_cells h_F_cells h_t_valley h_t_text h_t_pulls h_t_triedPulls h_t_readings h_t_heard h_t_trial t_heardIsCurrent t_trace (0 : Int32) E_lane E_size F_lane F_size E_cells F_cells)) rfl ?_
  refine k_iload_n 5 cx dX6_copy_5 rfl 1 rfl ?_
  obtain ⟨u1, hu1, hm⟩ := bnd hm
  refine k_callS 6 cx cwX6_65 (c_X6_isSheet X.2.1 G a1 hu1) dX6_copy_6 ⟨by decide, by decide⟩ rfl (rest := []) rfl (Nat.le_of_ble_eq_true rfl) [] (by decide) rfl rfl (w2 := (w_X6_copy_d G sa kk kf h_t h_t_sheets h_E_cells h_F_cells h_t_valley h_t_text h_t_pulls h_t_triedPulls h_t_readings h_t_heard h_t_trial t_heardIsCurrent t_trace (0 : Int32) E_lane E_size F_lane F_size E_cells F_cells)) [0, 1, 2, 3, 4, 5] 6 rfl [(h_t, .inr (6, [.ref h_t_valley, .ref h_t_text, .ref h_t_pulls, .ref h_t_triedPulls, .ref h_t_readings, .ref h_t_heard, .ref h_t_trial, .ref h_t_sheets, .int t_heardIsCurrent, .int t_trace, .int (0 : Int32)])), (h_t_sheets, .inl (G.2.2.2, 4, .inr (.inr (.inr (.inr (fun j => some (sa j))))))), ((sa kk), .inr (3, [.ref h_E_cells, .int E_lane, .int E_size])), ((sa kf), .inr (3, [.ref h_F_cells, .int F_lane, .int F_size])), (h_E_cells, .inl (G.2.1, 60, .inl E_cells)), (h_F_cells, .inl (G.2.1, 60, .inl F_cells))] rfl rfl rfl (by decide) (st2 := [.int u1]) rfl ?_
  refine k_if_eq 9 cx (tgt := 19) dX6_copy_9 (by decide) hm (fun hc hm => ?_) (fun hc hm => ?_)
  · refine k_iconst 19 cx (v := (-1 : Int32)) dX6_copy_19 (by decide) ?_
    obtain rfl := Option.some.inj hm
    exact k_iret 20 cx dX6_copy_20 rfl rfl
  · refine k_iload_n 12 cx dX6_copy_12 rfl 3 rfl ?_
    obtain ⟨u2, hu2, hm⟩ := bnd hm
    refine k_callS 13 cx cwX6_65 (c_X6_isSheet X.2.1 G a3 hu2) dX6_copy_13 ⟨by decide, by decide⟩ rfl (rest := []) rfl (Nat.le_of_ble_eq_true rfl) [] (by decide) rfl rfl (w2 := (w_X6_copy_d G sa kk kf h_t h_t_sheets h_E_cells h_F_cells h_t_valley h_t_text h_t_pulls h_t_triedPulls h_t_readings h_t_heard h_t_trial t_heardIsCurrent t_trace (0 : Int32) E_lane E_size F_lane F_size E_cells F_cells)) [0, 1, 2, 3, 4, 5] 6 rfl [(h_t, .inr (6, [.ref h_t_valley, .ref h_t_text, .ref h_t_pulls, .ref h_t_triedPulls, .ref h_t_readings, .ref h_t_heard, .ref h_t_trial, .ref h_t_sheets, .int t_heardIsCurrent, .int t_trace, .int (0 : Int32)])), (h_t_sheets, .inl (G.2.2.2, 4, .inr (.inr (.inr (.inr (fun j => some (sa j))))))), ((sa kk), .inr (3, [.ref h_E_cells, .int E_lane, .int E_size])), ((sa kf), .inr (3, [.ref h_F_cells, .int F_lane, .int F_size])), (h_E_cells, .inl (G.2.1, 60, .inl E_cells)), (h_F_cells, .inl (G.2.1, 60, .inl F_cells))] rfl rfl rfl (by decide) (st2 := [.int u2]) rfl ?_
    refine k_if_ne 16 cx (tgt := 21) dX6_copy_16 (by decide) hm (fun hc hm => ?_) (fun hc hm => ?_)
    · refine k_iconst 19 cx (v := (-1 : Int32)) dX6_copy_19 (by decide) ?_
      obtain rfl := Option.some.inj hm
      exact k_iret 20 cx dX6_copy_20 rfl rfl
    · refine k_aload_n 21 cx dX6_copy_21 rfl 0 rfl ?_
      refine fgX6_56 22 cx dX6_copy_22 0 rfl rfl ?_
      refine k_iload_n 25 cx dX6_copy_25 rfl 1 rfl ?_
      refine k_aald 26 cx kk dX6_copy_26 1 rfl hm hkk (fun hm => ?_)
      refine k_astore 27 cx dX6_copy_27 (by decide) (lv' := [(6, .ref (sa kk)), (0, .ref h_t), (1, .int a1), (2, .int a2), (3, .int a3), (4, .int a4), (5, .int a5)]) rfl ?_
      refine k_aload_n 29 cx dX6_copy_29 rfl 1 rfl ?_
      refine fgX6_56 30 cx dX6_copy_30 0 rfl rfl ?_
      refine k_iload_n 33 cx dX6_copy_33 rfl 4 rfl ?_
      refine k_aald 34 cx kf dX6_copy_34 1 rfl hm hkf (fun hm => ?_)
      refine k_astore 35 cx dX6_copy_35 (by decide) (lv' := [(7, .ref (sa kf)), (6, .ref (sa kk)), (0, .ref h_t), (1, .int a1), (2, .int a2), (3, .int a3), (4, .int a4), (5, .int a5)]) rfl ?_
      refine k_aload 37 cx dX6_copy_37 1 rfl ?_
      obtain ⟨u3, hu3, hm⟩ := bnd hm
      refine k_callV 39 cx cwX6_206 (c_X3_hasRow X.2.1 G (sa kk) h_E_cells E_lane E_size hu3) dX6_copy_39 ⟨by decide, by decide⟩ rfl rfl (rest := []) rfl (Nat.le_of_ble_eq_true rfl) [2] (by decide) rfl rfl (w2 := (w_X6_copy_d G sa kk kf h_t h_t_sheets h_E_cells h_F_cells h_t_valley h_t_text h_t_pulls h_t_triedPulls h_t_readings h_t_heard h_t_trial t_heardIsCurrent t_trace (0 : Int32) E_lane E_size F_lane F_size E_cells F_cells)) [0, 1, 3, 4, 5] 6 rfl [(h_t, .inr (6, [.ref h_t_valley, .ref h_t_text, .ref h_t_pulls, .ref h_t_triedPulls, .ref h_t_readings, .ref h_t_heard, .ref h_t_trial, .ref h_t_sheets, .int t_heardIsCurrent, .int t_trace, .int (0 : Int32)])), (h_t_sheets, .inl (G.2.2.2, 4, .inr (.inr (.inr (.inr (fun j => some (sa j))))))), ((sa kf), .inr (3, [.ref h_F_cells, .int F_lane, .int F_size])), (h_E_cells, .inl (G.2.1, 60, .inl E_cells)), (h_F_cells, .inl (G.2.1, 60, .inl F_cells))] rfl rfl rfl (by decide) (st2 := [.int u3]) rfl ?_
      refine k_if_eq 42 cx (tgt := 53) dX6_copy_42 (by decide) hm (fun hc hm => ?_) (fun hc hm => ?_)
      · refine k_aload_n 53 cx dX6_copy_53 rfl 2 rfl ?_
        refine k_iconst 54 cx (v := (1 : Int32)) dX6_copy_54 (by decide) ?_
        obtain ⟨u4, hu4, hm⟩ := bnd hm
        refine k_callV 55 cx cwX6_76 (c_X6_faulty X.2.1 G h_t h_t_valley h_t_text h_t_pulls h_t_triedPulls h_t_readings h_t_heard h_t_trial h_t_sheets t_heardIsCurrent t_trace (0 : Int32) (1 : Int32) hu4) dX6_copy_55 ⟨by decide, by decide⟩ rfl rfl (rest := []) rfl (Nat.le_of_ble_eq_true rfl) [0] (by decide) rfl rfl (w2 := (w_X6_copy_d G sa kk kf h_t h_t_sheets h_E_cells h_F_cells h_t_valley h_t_text h_t_pulls h_t_triedPulls h_t_readings h_t_heard h_t_trial t_heardIsCurrent t_trace u4.2 E_lane E_size F_lane F_size E_cells F_cells)) [1, 2, 3, 4, 5] 6 rfl [(h_t_sheets, .inl (G.2.2.2, 4, .inr (.inr (.inr (.inr (fun j => some (sa j))))))), ((sa kk), .inr (3, [.ref h_E_cells, .int E_lane, .int E_size])), ((sa kf), .inr (3, [.ref h_F_cells, .int F_lane, .int F_size])), (h_E_cells, .inl (G.2.1, 60, .inl E_cells)), (h_F_cells, .inl (G.2.1, 60, .inl F_cells))] rfl rfl rfl (by decide) (st2 := [.int u4.1]) rfl ?_
        obtain rfl := Option.some.inj hm
        exact k_iret 58 cx dX6_copy_58 rfl rfl
      · refine k_aload 45 cx dX6_copy_45 0 rfl ?_
        obtain ⟨u5, hu5, hm⟩ := bnd hm
        refine k_callV 47 cx cwX6_206 (c_X3_hasRow X.2.1 G (sa kf) h_F_cells F_lane F_size hu5) dX6_copy_47 ⟨by decide, by decide⟩ rfl rfl (rest := []) rfl (Nat.le_of_ble_eq_true rfl) [3] (by decide) rfl rfl (w2 := (w_X6_copy_d G sa kk kf h_t h_t_sheets h_E_cells h_F_cells h_t_valley h_t_text h_t_pulls h_t_triedPulls h_t_readings h_t_heard h_t_trial t_heardIsCurrent t_trace (0 : Int32) E_lane E_size F_lane F_size E_cells F_cells)) [0, 1, 2, 4, 5] 6 rfl [(h_t, .inr (6, [.ref h_t_valley, .ref h_t_text, .ref h_t_pulls, .ref h_t_triedPulls, .ref h_t_readings, .ref h_t_heard, .ref h_t_trial, .ref h_t_sheets, .int t_heardIsCurrent, .int t_trace, .int (0 : Int32)])), (h_t_sheets, .inl (G.2.2.2, 4, .inr (.inr (.inr (.inr (fun j => some (sa j))))))), ((sa kk), .inr (3, [.ref h_E_cells, .int E_lane, .int E_size])), (h_E_cells, .inl (G.2.1, 60, .inl E_cells)), (h_F_cells, .inl (G.2.1, 60, .inl F_cells))] rfl rfl rfl (by decide) (st2 := [.int u5]) rfl ?_
        refine k_if_ne 50 cx (tgt := 59) dX6_copy_50 (by decide) hm (fun hc hm => ?_) (fun hc hm => ?_)
        · refine k_aload_n 53 cx dX6_copy_53 rfl 2 rfl ?_
          refine k_iconst 54 cx (v := (1 : Int32)) dX6_copy_54 (by decide) ?_
          obtain ⟨u12, hu12, hm⟩ := bnd hm
          refine k_callV 55 cx cwX6_76 (c_X6_faulty X.2.1 G h_t h_t_valley h_t_text h_t_pulls h_t_triedPulls h_t_readings h_t_heard h_t_trial h_t_sheets t_heardIsCurrent t_trace (0 : Int32) (1 : Int32) hu12) dX6_copy_55 ⟨by decide, by decide⟩ rfl rfl (rest := []) rfl (Nat.le_of_ble_eq_true rfl) [0] (by decide) rfl rfl (w2 := (w_X6_copy_d G sa kk kf h_t h_t_sheets h_E_cells h_F_cells h_t_valley h_t_text h_t_pulls h_t_triedPulls h_t_readings h_t_heard h_t_trial t_heardIsCurrent t_trace u12.2 E_lane E_size F_lane F_size E_cells F_cells)) [1, 2, 3, 4, 5] 6 rfl [(h_t_sheets, .inl (G.2.2.2, 4, .inr (.inr (.inr (.inr (fun j => some (sa j))))))), ((sa kk), .inr (3, [.ref h_E_cells, .int E_lane, .int E_size])), ((sa kf), .inr (3, [.ref h_F_cells, .int F_lane, .int F_size])), (h_E_cells, .inl (G.2.1, 60, .inl E_cells)), (h_F_cells, .inl (G.2.1, 60, .inl F_cells))] rfl rfl rfl (by decide) (st2 := [.int u12.1]) rfl ?_
          obtain rfl := Option.some.inj hm
          exact k_iret 58 cx dX6_copy_58 rfl rfl
        · refine k_aload 59 cx dX6_copy_59 1 rfl ?_
          refine fgX6_221 61 cx dX6_copy_61 2 rfl rfl ?_
          refine k_aload 64 cx dX6_copy_64 0 rfl ?_
          refine fgX6_221 66 cx dX6_copy_66 3 rfl rfl ?_
          refine k_icmp_eq 69 cx (tgt := 78) dX6_copy_69 (by decide) hm (fun hc hm => ?_) (fun hc hm => ?_)
          · refine k_aload 78 cx dX6_copy_78 1 rfl ?_
            refine k_iload_n 80 cx dX6_copy_80 rfl 4 rfl ?_
            refine k_iload 81 cx dX6_copy_81 7 rfl ?_
            obtain ⟨u6, hu6, hm⟩ := bnd hm
            refine k_callV 83 cx cwX6_224 (c_X3_hasCells X.2.1 G (sa kk) h_E_cells E_lane E_size a2 a5 hu6) dX6_copy_83 ⟨by decide, by decide⟩ rfl rfl (rest := []) rfl (Nat.le_of_ble_eq_true rfl) [2] (by decide) rfl rfl (w2 := (w_X6_copy_d G sa kk kf h_t h_t_sheets h_E_cells h_F_cells h_t_valley h_t_text h_t_pulls h_t_triedPulls h_t_readings h_t_heard h_t_trial t_heardIsCurrent t_trace (0 : Int32) E_lane E_size F_lane F_size E_cells F_cells)) [0, 1, 3, 4, 5] 6 rfl [(h_t, .inr (6, [.ref h_t_valley, .ref h_t_text, .ref h_t_pulls, .ref h_t_triedPulls, .ref h_t_readings, .ref h_t_heard, .ref h_t_trial, .ref h_t_sheets, .int t_heardIsCurrent, .int t_trace, .int (0 : Int32)])), (h_t_sheets, .inl (G.2.2.2, 4, .inr (.inr (.inr (.inr (fun j => some (sa j))))))), ((sa kf), .inr (3, [.ref h_F_cells, .int F_lane, .int F_size])), (h_E_cells, .inl (G.2.1, 60, .inl E_cells)), (h_F_cells, .inl (G.2.1, 60, .inl F_cells))] rfl rfl rfl (by decide) (st2 := [.int u6]) rfl ?_
            refine k_if_eq 86 cx (tgt := 101) dX6_copy_86 (by decide) hm (fun hc hm => ?_) (fun hc hm => ?_)
            · refine k_aload_n 101 cx dX6_copy_101 rfl 2 rfl ?_
              refine k_iconst 102 cx (v := (3 : Int32)) dX6_copy_102 (by decide) ?_
              obtain ⟨u7, hu7, hm⟩ := bnd hm
              refine k_callV 103 cx cwX6_76 (c_X6_faulty X.2.1 G h_t h_t_valley h_t_text h_t_pulls h_t_triedPulls h_t_readings h_t_heard h_t_trial h_t_sheets t_heardIsCurrent t_trace (0 : Int32) (3 : Int32) hu7) dX6_copy_103 ⟨by decide, by decide⟩ rfl rfl (rest := []) rfl (Nat.le_of_ble_eq_true rfl) [0] (by decide) rfl rfl (w2 := (w_X6_copy_d G sa kk kf h_t h_t_sheets h_E_cells h_F_cells h_t_valley h_t_text h_t_pulls h_t_triedPulls h_t_readings h_t_heard h_t_trial t_heardIsCurrent t_trace u7.2 E_lane E_size F_lane F_size E_cells F_cells)) [1, 2, 3, 4, 5] 6 rfl [(h_t_sheets, .inl (G.2.2.2, 4, .inr (.inr (.inr (.inr (fun j => some (sa j))))))), ((sa kk), .inr (3, [.ref h_E_cells, .int E_lane, .int E_size])), ((sa kf), .inr (3, [.ref h_F_cells, .int F_lane, .int F_size])), (h_E_cells, .inl (G.2.1, 60, .inl E_cells)), (h_F_cells, .inl (G.2.1, 60, .inl F_cells))] rfl rfl rfl (by decide) (st2 := [.int u7.1]) rfl ?_
              obtain rfl := Option.some.inj hm
              exact k_iret 106 cx dX6_copy_106 rfl rfl
            · refine k_aload 89 cx dX6_copy_89 0 rfl ?_
              refine k_iload 91 cx dX6_copy_91 6 rfl ?_
              refine k_iload 93 cx dX6_copy_93 7 rfl ?_
              obtain ⟨u8, hu8, hm⟩ := bnd hm
              refine k_callV 95 cx cwX6_224 (c_X3_hasCells X.2.1 G (sa kf) h_F_cells F_lane F_size a4 a5 hu8) dX6_copy_95 ⟨by decide, by decide⟩ rfl rfl (rest := []) rfl (Nat.le_of_ble_eq_true rfl) [3] (by decide) rfl rfl (w2 := (w_X6_copy_d G sa kk kf h_t h_t_sheets h_E_cells h_F_cells h_t_valley h_t_text h_t_pulls h_t_triedPulls h_t_readings h_t_heard h_t_trial t_heardIsCurrent t_trace (0 : Int32) E_lane E_size F_lane F_size E_cells F_cells)) [0, 1, 2, 4, 5] 6 rfl [(h_t, .inr (6, [.ref h_t_valley, .ref h_t_text, .ref h_t_pulls, .ref h_t_triedPulls, .ref h_t_readings, .ref h_t_heard, .ref h_t_trial, .ref h_t_sheets, .int t_heardIsCurrent, .int t_trace, .int (0 : Int32)])), (h_t_sheets, .inl (G.2.2.2, 4, .inr (.inr (.inr (.inr (fun j => some (sa j))))))), ((sa kk), .inr (3, [.ref h_E_cells, .int E_lane, .int E_size])), (h_E_cells, .inl (G.2.1, 60, .inl E_cells)), (h_F_cells, .inl (G.2.1, 60, .inl F_cells))] rfl rfl rfl (by decide) (st2 := [.int u8]) rfl ?_
              refine k_if_ne 98 cx (tgt := 107) dX6_copy_98 (by decide) hm (fun hc hm => ?_) (fun hc hm => ?_)
              · refine k_aload_n 101 cx dX6_copy_101 rfl 2 rfl ?_
                refine k_iconst 102 cx (v := (3 : Int32)) dX6_copy_102 (by decide) ?_
                obtain ⟨u10, hu10, hm⟩ := bnd hm
                refine k_callV 103 cx cwX6_76 (c_X6_faulty X.2.1 G h_t h_t_valley h_t_text h_t_pulls h_t_triedPulls h_t_readings h_t_heard h_t_trial h_t_sheets t_heardIsCurrent t_trace (0 : Int32) (3 : Int32) hu10) dX6_copy_103 ⟨by decide, by decide⟩ rfl rfl (rest := []) rfl (Nat.le_of_ble_eq_true rfl) [0] (by decide) rfl rfl (w2 := (w_X6_copy_d G sa kk kf h_t h_t_sheets h_E_cells h_F_cells h_t_valley h_t_text h_t_pulls h_t_triedPulls h_t_readings h_t_heard h_t_trial t_heardIsCurrent t_trace u10.2 E_lane E_size F_lane F_size E_cells F_cells)) [1, 2, 3, 4, 5] 6 rfl [(h_t_sheets, .inl (G.2.2.2, 4, .inr (.inr (.inr (.inr (fun j => some (sa j))))))), ((sa kk), .inr (3, [.ref h_E_cells, .int E_lane, .int E_size])), ((sa kf), .inr (3, [.ref h_F_cells, .int F_lane, .int F_size])), (h_E_cells, .inl (G.2.1, 60, .inl E_cells)), (h_F_cells, .inl (G.2.1, 60, .inl F_cells))] rfl rfl rfl (by decide) (st2 := [.int u10.1]) rfl ?_
                obtain rfl := Option.some.inj hm
                exact k_iret 106 cx dX6_copy_106 rfl rfl
              · refine k_aload 107 cx dX6_copy_107 1 rfl ?_
                refine fgX6_80 109 cx dX6_copy_109 2 rfl rfl ?_
                refine k_iload_n 112 cx dX6_copy_112 rfl 4 rfl ?_
                refine k_aload 113 cx dX6_copy_113 0 rfl ?_
                refine fgX6_80 115 cx dX6_copy_115 3 rfl rfl ?_
                refine k_iload 118 cx dX6_copy_118 6 rfl ?_
                refine k_iload 120 cx dX6_copy_120 7 rfl ?_
                refine k_acopy 122 cx acX6_227 4 5 rfl rfl hm dX6_copy_122 ⟨by decide, by decide⟩ (fun f9 => (w_X6_copy_d G sa kk kf h_t h_t_sheets h_E_cells h_F_cells h_t_valley h_t_text h_t_pulls h_t_triedPulls h_t_readings h_t_heard h_t_trial t_heardIsCurrent t_trace (0 : Int32) E_lane E_size F_lane F_size E_cells f9)) (fun _ => rfl) (fun f9 hm => ?_)
                refine k_iload 125 cx dX6_copy_125 7 rfl ?_
                obtain rfl := Option.some.inj hm
                exact k_iret 127 cx dX6_copy_127 rfl rfl
          · refine k_aload_n 72 cx dX6_copy_72 rfl 2 rfl ?_
            refine k_iconst 73 cx (v := (2 : Int32)) dX6_copy_73 (by decide) ?_
            obtain ⟨u11, hu11, hm⟩ := bnd hm
            refine k_callV 74 cx cwX6_76 (c_X6_faulty X.2.1 G h_t h_t_valley h_t_text h_t_pulls h_t_triedPulls h_t_readings h_t_heard h_t_trial h_t_sheets t_heardIsCurrent t_trace (0 : Int32) (2 : Int32) hu11) dX6_copy_74 ⟨by decide, by decide⟩ rfl rfl (rest := []) rfl (Nat.le_of_ble_eq_true rfl) [0] (by decide) rfl rfl (w2 := (w_X6_copy_d G sa kk kf h_t h_t_sheets h_E_cells h_F_cells h_t_valley h_t_text h_t_pulls h_t_triedPulls h_t_readings h_t_heard h_t_trial t_heardIsCurrent t_trace u11.2 E_lane E_size F_lane F_size E_cells F_cells)) [1, 2, 3, 4, 5] 6 rfl [(h_t_sheets, .inl (G.2.2.2, 4, .inr (.inr (.inr (.inr (fun j => some (sa j))))))), ((sa kk), .inr (3, [.ref h_E_cells, .int E_lane, .int E_size])), ((sa kf), .inr (3, [.ref h_F_cells, .int F_lane, .int F_size])), (h_E_cells, .inl (G.2.1, 60, .inl E_cells)), (h_F_cells, .inl (G.2.1, 60, .inl F_cells))] rfl rfl rfl (by decide) (st2 := [.int u11.1]) rfl ?_
            obtain rfl := Option.some.inj hm
            exact k_iret 77 cx dX6_copy_77 rfl rfl
set_option maxRecDepth 100000 in
theorem fgX6_248 {X : XT} {Q : State → Prop} {G : GT} {A : Nat → Prop} {nL : Nat} {lv : List (Nat × Value)} {st : List Value} {ws : va_W} {cc : ByteArray} {fr lo : Nat} {ret : Option FieldType} (pc : Nat) (cx : Cx X cc nL RX6 G fr lo ret) {a : Nat} {fs : List Value} {v : Value} (hd : decode cc pc = .ok (.getfield 248, 3)) (q0 : Nat) (he : ws[q0]? = some (a, .inr (6, fs))) (hv : fs[9]? = some v) (k : KJ X Q G A nL (pc + 3) lv (v :: st) ws) : KJ X Q G A nL pc lv (.ref a :: st) ws :=
  k_get (ref := RX6) (T := TX6) (N := 11) (ci := 6) pc cx inX6 rfl 9 (by decide) (tb_m (i := 244) rfl rfl) rfl hd q0 he hv k
set_option maxRecDepth 100000 in
theorem fpX6_248 {X : XT} {Q : State → Prop} {G : GT} {A : Nat → Prop} {nL : Nat} {lv : List (Nat × Value)} {st : List Value} {ws : va_W} {cc : ByteArray} {fr lo : Nat} {ret : Option FieldType} (pc : Nat) (cx : Cx X cc nL RX6 G fr lo ret) {a : Nat} {fs : List Value} {v : Value} (hd : decode cc pc = .ok (.putfield 248, 3)) (q0 : Nat) (he : ws[q0]? = some (a, .inr (6, fs))) (hn : narrow .int v = v) (hfit : fits .int v = true) (hlen : 9 < fs.length) (w1 : va_W) (hw : ws.set q0 (a, .inr (6, fs.set 9 v)) = w1) (k : KJ X Q G A nL (pc + 3) lv st w1) : KJ X Q G A nL pc lv (v :: .ref a :: st) ws :=
  k_put (ref := RX6) (T := TX6) (N := 11) (ci := 6) (ty := .int) pc cx inX6 rfl tyX6 tyX6_ok nmX6 9 (by decide) (tb_m (i := 244) rfl rfl) rfl rfl (by decide +kernel) hd q0 he hn hfit hlen w1 hw k
def w_X6_leave (G : GT) (h_t : Nat) (h_t_valley : Nat) (h_t_text : Nat) (h_t_pulls : Nat) (h_t_triedPulls : Nat) (h_t_readings : Nat) (h_t_heard : Nat) (h_t_trial : Nat) (h_t_sheets : Nat) (t_heardIsCurrent : Int32) (t_trace : Int32) (t_fault : Int32) : va_W := [(h_t, .inr (6, [.ref h_t_valley, .ref h_t_text, .ref h_t_pulls, .ref h_t_triedPulls, .ref h_t_readings, .ref h_t_heard, .ref h_t_trial, .ref h_t_sheets, .int t_heardIsCurrent, .int t_trace, .int t_fault]))]
def M_X6_leave (t_trace : Int32) (a1 : Int32) : Option (Int32) := (nme (((31 : Int32) * t_trace) + a1) (fun v1 => (some v1)))
set_option maxHeartbeats 4000000 in
set_option maxRecDepth 100000 in
theorem c_X6_leave (l : Launch) (G : GT) (h_t : Nat) (h_t_valley : Nat) (h_t_text : Nat) (h_t_pulls : Nat) (h_t_triedPulls : Nat) (h_t_readings : Nat) (h_t_heard : Nat) (h_t_trial : Nat) (h_t_sheets : Nat) (t_heardIsCurrent : Int32) (t_trace : Int32) (t_fault : Int32) (a1 : Int32) {u : Int32} (hm : M_X6_leave t_trace a1 = some u) : CT l yX6_leave cX6_leave 2 none 0 0 [.ref h_t, .int a1] G (w_X6_leave G h_t h_t_valley h_t_text h_t_pulls h_t_triedPulls h_t_readings h_t_heard h_t_trial h_t_sheets t_heardIsCurrent t_trace t_fault) none (w_X6_leave G h_t h_t_valley h_t_text h_t_pulls h_t_triedPulls h_t_readings h_t_heard h_t_trial h_t_sheets t_heardIsCurrent u t_fault) := by
  refine ct_intro RX6 [(0, .ref h_t), (1, .int a1)] (by decide) rfl (Nat.le_of_ble_eq_true rfl) rfl (fun X hX cx => ?_)
  unfold M_X6_leave at hm
  refine k_aload_n 0 cx dX6_leave_0 rfl 0 rfl ?_
  refine k_bipush 1 cx (v := (31 : Int32)) dX6_leave_1 (by decide) ?_
  refine k_aload_n 3 cx dX6_leave_3 rfl 0 rfl ?_
  refine fgX6_248 4 cx dX6_leave_4 0 rfl rfl ?_
  refine k_imul 7 cx dX6_leave_7 ?_
  refine k_iload_n 8 cx dX6_leave_8 rfl 1 rfl ?_
  refine k_iadd 9 cx dX6_leave_9 ?_
  refine k_nm hm (fun v1 hm => ?_)
  refine fpX6_248 10 cx dX6_leave_10 0 rfl rfl rfl (by simp) (w1 := (w_X6_leave G h_t h_t_valley h_t_text h_t_pulls h_t_triedPulls h_t_readings h_t_heard h_t_trial h_t_sheets t_heardIsCurrent v1 t_fault)) rfl ?_
  obtain rfl := Option.some.inj hm
  exact k_vret 13 cx dX6_leave_13 rfl rfl
set_option maxRecDepth 100000 in
theorem cwX6_262 : CWV RX6 262 RX6 yX6_leave cX6_leave 2 none 1 6 TX6 11 := ⟨tb_m (i := 603) rfl rfl, tb_m (i := 605) rfl rfl, tb_m (i := 23) rfl rfl, tb_m (i := 51) rfl rfl, tb_m (i := 606) rfl rfl, ⟨by decide +kernel, by decide +kernel, by decide +kernel⟩, rfl⟩
def w_X6_bellTells (G : GT) (h_t : Nat) (h_t_valley : Nat) (h_t_valley_needs : Nat) (h_t_text : Nat) (h_t_pulls : Nat) (h_t_triedPulls : Nat) (h_t_readings : Nat) (h_t_heard : Nat) (h_t_trial : Nat) (h_t_sheets : Nat) (h_t_valley_kinds : Nat) (h_t_valley_from : Nat) (h_t_valley_to : Nat) (h_t_valley_lasts : Nat) (t_heardIsCurrent : Int32) (t_trace : Int32) (t_fault : Int32) (t_valley_bells : Int32) (t_valley_ropes : Int32) (t_valley_span : Int32) (t_valley_tied : Int32) (t_valley_needs : (Nat → Int32)) : va_W := [(h_t, .inr (6, [.ref h_t_valley, .ref h_t_text, .ref h_t_pulls, .ref h_t_triedPulls, .ref h_t_readings, .ref h_t_heard, .ref h_t_trial, .ref h_t_sheets, .int t_heardIsCurrent, .int t_trace, .int t_fault])), (h_t_valley, .inr (5, [.ref h_t_valley_kinds, .ref h_t_valley_needs, .ref h_t_valley_from, .ref h_t_valley_to, .ref h_t_valley_lasts, .int t_valley_bells, .int t_valley_ropes, .int t_valley_span, .int t_valley_tied])), (h_t_valley_needs, .inl (G.2.1, 6, .inl t_valley_needs))]
def M_X6_bellTells (t_trace : Int32) (t_valley_needs : (Nat → Int32)) (a1 : Int32) : Option (Int32 × Int32) := ((M_X6_leave t_trace (1 : Int32)).bind (fun u1 => (gB (inb a1 6) (some ((t_valley_needs (Int32.toNatClampNeg a1)), u1)))))
set_option maxHeartbeats 4000000 in
set_option maxRecDepth 100000 in
theorem c_X6_bellTells (l : Launch) (G : GT) (h_t : Nat) (h_t_valley : Nat) (h_t_valley_needs : Nat) (h_t_text : Nat) (h_t_pulls : Nat) (h_t_triedPulls : Nat) (h_t_readings : Nat) (h_t_heard : Nat) (h_t_trial : Nat) (h_t_sheets : Nat) (h_t_valley_kinds : Nat) (h_t_valley_from : Nat) (h_t_valley_to : Nat) (h_t_valley_lasts : Nat) (t_heardIsCurrent : Int32) (t_trace : Int32) (t_fault : Int32) (t_valley_bells : Int32) (t_valley_ropes : Int32) (t_valley_span : Int32) (t_valley_tied : Int32) (t_valley_needs : (Nat → Int32)) (a1 : Int32) {u : Int32 × Int32} (hm : M_X6_bellTells t_trace t_valley_needs a1 = some u) : CT l yX6_bellTells cX6_bellTells 2 (some .int) 1 21 [.ref h_t, .int a1] G (w_X6_bellTells G h_t h_t_valley h_t_valley_needs h_t_text h_t_pulls h_t_triedPulls h_t_readings h_t_heard h_t_trial h_t_sheets h_t_valley_kinds h_t_valley_from h_t_valley_to h_t_valley_lasts t_heardIsCurrent t_trace t_fault t_valley_bells t_valley_ropes t_valley_span t_valley_tied t_valley_needs) (some (.int u.1)) (w_X6_bellTells G h_t h_t_valley h_t_valley_needs h_t_text h_t_pulls h_t_triedPulls h_t_readings h_t_heard h_t_trial h_t_sheets h_t_valley_kinds h_t_valley_from h_t_valley_to h_t_valley_lasts t_heardIsCurrent u.2 t_fault t_valley_bells t_valley_ropes t_valley_span t_valley_tied t_valley_needs) := by
  refine ct_intro RX6 [(0, .ref h_t), (1, .int a1)] (by decide) rfl (Nat.le_of_ble_eq_true rfl) rfl (fun X hX cx => ?_)
  unfold M_X6_bellTells at hm
  refine k_aload_n 0 cx dX6_bellTells_0 rfl 0 rfl ?_
  refine k_iconst 1 cx (v := (1 : Int32)) dX6_bellTells_1 (by decide) ?_
  obtain ⟨u1, hu1, hm⟩ := bnd hm
  refine k_callV 2 cx cwX6_262 (c_X6_leave X.2.1 G h_t h_t_valley h_t_text h_t_pulls h_t_triedPulls h_t_readings h_t_heard h_t_trial h_t_sheets t_heardIsCurrent t_trace t_fault (1 : Int32) hu1) dX6_bellTells_2 ⟨by decide, by decide⟩ rfl rfl (rest := []) rfl (Nat.le_of_ble_eq_true rfl) [0] (by decide) rfl rfl (w2 := (w_X6_bellTells G h_t h_t_valley h_t_valley_needs h_t_text h_t_pulls h_t_triedPulls h_t_readings h_t_heard h_t_trial h_t_sheets h_t_valley_kinds h_t_valley_from h_t_valley_to h_t_valley_lasts t_heardIsCurrent u1 t_fault t_valley_bells t_valley_ropes t_valley_span t_valley_tied t_valley_needs)) [1, 2] 3 rfl [(h_t_valley, .inr (5, [.ref h_t_valley_kinds, .ref h_t_valley_needs, .ref h_t_valley_from, .ref h_t_valley_to, .ref h_t_valley_lasts, .int t_valley_bells, .int t_valley_ropes, .int t_valley_span, .int t_valley_tied])), (h_t_valley_needs, .inl (G.2.1, 6, .inl t_valley_needs))] rfl rfl rfl (by decide) (st2 := []) rfl ?_
  refine k_aload_n 5 cx dX6_bellTells_5 rfl 0 rfl ?_
  refine fgX6_12 6 cx dX6_bellTells_6 0 rfl rfl ?_
  refine fgX6_111 9 cx dX6_bellTells_9 1 rfl rfl ?_
  refine k_iload_n 12 cx dX6_bellTells_12 rfl 1 rfl ?_
  refine k_iald 13 cx dX6_bellTells_13 2 rfl hm (fun hm => ?_)
  obtain rfl := Option.some.inj hm
  exact k_iret 14 cx dX6_bellTells_14 rfl rfl
set_option maxRecDepth 100000 in
theorem cwX6_239 : CWV RX6 239 RX6 yX6_bellTells cX6_bellTells 2 (some .int) 1 6 TX6 11 := ⟨tb_m (i := 607) rfl rfl, tb_m (i := 609) rfl rfl, tb_m (i := 24) rfl rfl, tb_m (i := 51) rfl rfl, tb_m (i := 610) rfl rfl, ⟨by decide +kernel, by decide +kernel, by decide +kernel⟩, rfl⟩
def w_X6_greatTells (G : GT) (h_t : Nat) (h_t_valley : Nat) (h_t_valley_needs : Nat) (h_t_text : Nat) (h_t_pulls : Nat) (h_t_triedPulls : Nat) (h_t_readings : Nat) (h_t_heard : Nat) (h_t_trial : Nat) (h_t_sheets : Nat) (h_t_valley_kinds : Nat) (h_t_valley_from : Nat) (h_t_valley_to : Nat) (h_t_valley_lasts : Nat) (t_heardIsCurrent : Int32) (t_trace : Int32) (t_fault : Int32) (t_valley_bells : Int32) (t_valley_ropes : Int32) (t_valley_span : Int32) (t_valley_tied : Int32) (t_valley_needs : (Nat → Int32)) : va_W := [(h_t, .inr (6, [.ref h_t_valley, .ref h_t_text, .ref h_t_pulls, .ref h_t_triedPulls, .ref h_t_readings, .ref h_t_heard, .ref h_t_trial, .ref h_t_sheets, .int t_heardIsCurrent, .int t_trace, .int t_fault])), (h_t_valley, .inr (5, [.ref h_t_valley_kinds, .ref h_t_valley_needs, .ref h_t_valley_from, .ref h_t_valley_to, .ref h_t_valley_lasts, .int t_valley_bells, .int t_valley_ropes, .int t_valley_span, .int t_valley_tied])), (h_t_valley_needs, .inl (G.2.1, 6, .inl t_valley_needs))]
def M_X6_greatTells (t_trace : Int32) (t_valley_needs : (Nat → Int32)) (a1 : Int32) : Option (Int32 × Int32) := ((M_X6_leave t_trace (2 : Int32)).bind (fun u1 => ((M_X6_bellTells u1 t_valley_needs a1).bind (fun u2 => (some ((u2.1 + (100 : Int32)), u2.2))))))
set_option maxHeartbeats 4000000 in
set_option maxRecDepth 100000 in
theorem c_X6_greatTells (l : Launch) (G : GT) (h_t : Nat) (h_t_valley : Nat) (h_t_valley_needs : Nat) (h_t_text : Nat) (h_t_pulls : Nat) (h_t_triedPulls : Nat) (h_t_readings : Nat) (h_t_heard : Nat) (h_t_trial : Nat) (h_t_sheets : Nat) (h_t_valley_kinds : Nat) (h_t_valley_from : Nat) (h_t_valley_to : Nat) (h_t_valley_lasts : Nat) (t_heardIsCurrent : Int32) (t_trace : Int32) (t_fault : Int32) (t_valley_bells : Int32) (t_valley_ropes : Int32) (t_valley_span : Int32) (t_valley_tied : Int32) (t_valley_needs : (Nat → Int32)) (a1 : Int32) {u : Int32 × Int32} (hm : M_X6_greatTells t_trace t_valley_needs a1 = some u) : CT l yX6_greatTells cX6_greatTells 2 (some .int) 2 42 [.ref h_t, .int a1] G (w_X6_greatTells G h_t h_t_valley h_t_valley_needs h_t_text h_t_pulls h_t_triedPulls h_t_readings h_t_heard h_t_trial h_t_sheets h_t_valley_kinds h_t_valley_from h_t_valley_to h_t_valley_lasts t_heardIsCurrent t_trace t_fault t_valley_bells t_valley_ropes t_valley_span t_valley_tied t_valley_needs) (some (.int u.1)) (w_X6_greatTells G h_t h_t_valley h_t_valley_needs h_t_text h_t_pulls h_t_triedPulls h_t_readings h_t_heard h_t_trial h_t_sheets h_t_valley_kinds h_t_valley_from h_t_valley_to h_t_valley_lasts t_heardIsCurrent u.2 t_fault t_valley_bells t_valley_ropes t_valley_span t_valley_tied t_valley_needs) := by
  refine ct_intro RX6 [(0, .ref h_t), (1, .int a1)] (by decide) rfl (Nat.le_of_ble_eq_true rfl) rfl (fun X hX cx => ?_)
  unfold M_X6_greatTells at hm
  refine k_aload_n 0 cx dX6_greatTells_0 rfl 0 rfl ?_
  refine k_iconst 1 cx (v := (2 : Int32)) dX6_greatTells_1 (by decide) ?_
  obtain ⟨u1, hu1, hm⟩ := bnd hm
  refine k_callV 2 cx cwX6_262 (c_X6_leave X.2.1 G h_t h_t_valley h_t_text h_t_pulls h_t_triedPulls h_t_readings h_t_heard h_t_trial h_t_sheets t_heardIsCurrent t_trace t_fault (2 : Int32) hu1) dX6_greatTells_2 ⟨by decide, by decide⟩ rfl rfl (rest := []) rfl (Nat.le_of_ble_eq_true rfl) [0] (by decide) rfl rfl (w2 := (w_X6_greatTells G h_t h_t_valley h_t_valley_needs h_t_text h_t_pulls h_t_triedPulls h_t_readings h_t_heard h_t_trial h_t_sheets h_t_valley_kinds h_t_valley_from h_t_valley_to h_t_valley_lasts t_heardIsCurrent u1 t_fault t_valley_bells t_valley_ropes t_valley_span t_valley_tied t_valley_needs)) [1, 2] 3 rfl [(h_t_valley, .inr (5, [.ref h_t_valley_kinds, .ref h_t_valley_needs, .ref h_t_valley_from, .ref h_t_valley_to, .ref h_t_valley_lasts, .int t_valley_bells, .int t_valley_ropes, .int t_valley_span, .int t_valley_tied])), (h_t_valley_needs, .inl (G.2.1, 6, .inl t_valley_needs))] rfl rfl rfl (by decide) (st2 := []) rfl ?_
  refine k_aload_n 5 cx dX6_greatTells_5 rfl 0 rfl ?_
  refine k_iload_n 6 cx dX6_greatTells_6 rfl 1 rfl ?_
  obtain ⟨u2, hu2, hm⟩ := bnd hm
  refine k_callV 7 cx cwX6_239 (c_X6_bellTells X.2.1 G h_t h_t_valley h_t_valley_needs h_t_text h_t_pulls h_t_triedPulls h_t_readings h_t_heard h_t_trial h_t_sheets h_t_valley_kinds h_t_valley_from h_t_valley_to h_t_valley_lasts t_heardIsCurrent u1 t_fault t_valley_bells t_valley_ropes t_valley_span t_valley_tied t_valley_needs a1 hu2) dX6_greatTells_7 ⟨by decide, by decide⟩ rfl rfl (rest := []) rfl (Nat.le_of_ble_eq_true rfl) [0, 1, 2] (by decide) rfl rfl (w2 := (w_X6_greatTells G h_t h_t_valley h_t_valley_needs h_t_text h_t_pulls h_t_triedPulls h_t_readings h_t_heard h_t_trial h_t_sheets h_t_valley_kinds h_t_valley_from h_t_valley_to h_t_valley_lasts t_heardIsCurrent u2.2 t_fault t_valley_bells t_valley_ropes t_valley_span t_valley_tied t_valley_needs)) [] 3 rfl [] rfl rfl rfl (by decide) (st2 := [.int u2.1]) rfl ?_
  refine k_bipush 10 cx (v := (100 : Int32)) dX6_greatTells_10 (by decide) ?_
  refine k_iadd 12 cx dX6_greatTells_12 ?_
  obtain rfl := Option.some.inj hm
  exact k_iret 13 cx dX6_greatTells_13 rfl rfl
set_option maxRecDepth 100000 in
theorem cwX6_233 : CWV RX6 233 RX6 yX6_greatTells cX6_greatTells 2 (some .int) 1 6 TX6 11 := ⟨tb_m (i := 599) rfl rfl, tb_m (i := 601) rfl rfl, tb_m (i := 22) rfl rfl, tb_m (i := 51) rfl rfl, tb_m (i := 602) rfl rfl, ⟨by decide +kernel, by decide +kernel, by decide +kernel⟩, rfl⟩
def w_X6_deafTells (G : GT) (h_t : Nat) (h_t_valley : Nat) (h_t_valley_needs : Nat) (h_t_text : Nat) (h_t_pulls : Nat) (h_t_triedPulls : Nat) (h_t_readings : Nat) (h_t_heard : Nat) (h_t_trial : Nat) (h_t_sheets : Nat) (h_t_valley_kinds : Nat) (h_t_valley_from : Nat) (h_t_valley_to : Nat) (h_t_valley_lasts : Nat) (t_heardIsCurrent : Int32) (t_trace : Int32) (t_fault : Int32) (t_valley_bells : Int32) (t_valley_ropes : Int32) (t_valley_span : Int32) (t_valley_tied : Int32) (t_valley_needs : (Nat → Int32)) : va_W := [(h_t, .inr (6, [.ref h_t_valley, .ref h_t_text, .ref h_t_pulls, .ref h_t_triedPulls, .ref h_t_readings, .ref h_t_heard, .ref h_t_trial, .ref h_t_sheets, .int t_heardIsCurrent, .int t_trace, .int t_fault])), (h_t_valley, .inr (5, [.ref h_t_valley_kinds, .ref h_t_valley_needs, .ref h_t_valley_from, .ref h_t_valley_to, .ref h_t_valley_lasts, .int t_valley_bells, .int t_valley_ropes, .int t_valley_span, .int t_valley_tied])), (h_t_valley_needs, .inl (G.2.1, 6, .inl t_valley_needs))]
def M_X6_deafTells (t_trace : Int32) (t_valley_needs : (Nat → Int32)) (a1 : Int32) : Option (Int32 × Int32) := ((M_X6_leave t_trace (3 : Int32)).bind (fun u1 => ((M_X6_greatTells u1 t_valley_needs a1).bind (fun u2 => ((M_X6_bellTells u2.2 t_valley_needs a1).bind (fun u3 => (some ((u2.1 + u3.1), u3.2))))))))
set_option maxHeartbeats 4000000 in
set_option maxRecDepth 100000 in
theorem c_X6_deafTells (l : Launch) (G : GT) (h_t : Nat) (h_t_valley : Nat) (h_t_valley_needs : Nat) (h_t_text : Nat) (h_t_pulls : Nat) (h_t_triedPulls : Nat) (h_t_readings : Nat) (h_t_heard : Nat) (h_t_trial : Nat) (h_t_sheets : Nat) (h_t_valley_kinds : Nat) (h_t_valley_from : Nat) (h_t_valley_to : Nat) (h_t_valley_lasts : Nat) (t_heardIsCurrent : Int32) (t_trace : Int32) (t_fault : Int32) (t_valley_bells : Int32) (t_valley_ropes : Int32) (t_valley_span : Int32) (t_valley_tied : Int32) (t_valley_needs : (Nat → Int32)) (a1 : Int32) {u : Int32 × Int32} (hm : M_X6_deafTells t_trace t_valley_needs a1 = some u) : CT l yX6_deafTells cX6_deafTells 3 (some .int) 3 63 [.ref h_t, .int a1] G (w_X6_deafTells G h_t h_t_valley h_t_valley_needs h_t_text h_t_pulls h_t_triedPulls h_t_readings h_t_heard h_t_trial h_t_sheets h_t_valley_kinds h_t_valley_from h_t_valley_to h_t_valley_lasts t_heardIsCurrent t_trace t_fault t_valley_bells t_valley_ropes t_valley_span t_valley_tied t_valley_needs) (some (.int u.1)) (w_X6_deafTells G h_t h_t_valley h_t_valley_needs h_t_text h_t_pulls h_t_triedPulls h_t_readings h_t_heard h_t_trial h_t_sheets h_t_valley_kinds h_t_valley_from h_t_valley_to h_t_valley_lasts t_heardIsCurrent u.2 t_fault t_valley_bells t_valley_ropes t_valley_span t_valley_tied t_valley_needs) := by
  refine ct_intro RX6 [(0, .ref h_t), (1, .int a1)] (by decide) rfl (Nat.le_of_ble_eq_true rfl) rfl (fun X hX cx => ?_)
  unfold M_X6_deafTells at hm
  refine k_aload_n 0 cx dX6_deafTells_0 rfl 0 rfl ?_
  refine k_iconst 1 cx (v := (3 : Int32)) dX6_deafTells_1 (by decide) ?_
  obtain ⟨u1, hu1, hm⟩ := bnd hm
  refine k_callV 2 cx cwX6_262 (c_X6_leave X.2.1 G h_t h_t_valley h_t_text h_t_pulls h_t_triedPulls h_t_readings h_t_heard h_t_trial h_t_sheets t_heardIsCurrent t_trace t_fault (3 : Int32) hu1) dX6_deafTells_2 ⟨by decide, by decide⟩ rfl rfl (rest := []) rfl (Nat.le_of_ble_eq_true rfl) [0] (by decide) rfl rfl (w2 := (w_X6_deafTells G h_t h_t_valley h_t_valley_needs h_t_text h_t_pulls h_t_triedPulls h_t_readings h_t_heard h_t_trial h_t_sheets h_t_valley_kinds h_t_valley_from h_t_valley_to h_t_valley_lasts t_heardIsCurrent u1 t_fault t_valley_bells t_valley_ropes t_valley_span t_valley_tied t_valley_needs)) [1, 2] 3 rfl [(h_t_valley, .inr (5, [.ref h_t_valley_kinds, .ref h_t_valley_needs, .ref h_t_valley_from, .ref h_t_valley_to, .ref h_t_valley_lasts, .int t_valley_bells, .int t_valley_ropes, .int t_valley_span, .int t_valley_tied])), (h_t_valley_needs, .inl (G.2.1, 6, .inl t_valley_needs))] rfl rfl rfl (by decide) (st2 := []) rfl ?_
  refine k_aload_n 5 cx dX6_deafTells_5 rfl 0 rfl ?_
  refine k_iload_n 6 cx dX6_deafTells_6 rfl 1 rfl ?_
  obtain ⟨u2, hu2, hm⟩ := bnd hm
  refine k_callV 7 cx cwX6_233 (c_X6_greatTells X.2.1 G h_t h_t_valley h_t_valley_needs h_t_text h_t_pulls h_t_triedPulls h_t_readings h_t_heard h_t_trial h_t_sheets h_t_valley_kinds h_t_valley_from h_t_valley_to h_t_valley_lasts t_heardIsCurrent u1 t_fault t_valley_bells t_valley_ropes t_valley_span t_valley_tied t_valley_needs a1 hu2) dX6_deafTells_7 ⟨by decide, by decide⟩ rfl rfl (rest := []) rfl (Nat.le_of_ble_eq_true rfl) [0, 1, 2] (by decide) rfl rfl (w2 := (w_X6_deafTells G h_t h_t_valley h_t_valley_needs h_t_text h_t_pulls h_t_triedPulls h_t_readings h_t_heard h_t_trial h_t_sheets h_t_valley_kinds h_t_valley_from h_t_valley_to h_t_valley_lasts t_heardIsCurrent u2.2 t_fault t_valley_bells t_valley_ropes t_valley_span t_valley_tied t_valley_needs)) [] 3 rfl [] rfl rfl rfl (by decide) (st2 := [.int u2.1]) rfl ?_
  refine k_istore_n 10 cx dX6_deafTells_10 rfl (by decide) (lv' := [(2, .int u2.1), (0, .ref h_t), (1, .int a1)]) rfl ?_
  refine k_iload_n 11 cx dX6_deafTells_11 rfl 0 rfl ?_
  refine k_aload_n 12 cx dX6_deafTells_12 rfl 1 rfl ?_
  refine k_iload_n 13 cx dX6_deafTells_13 rfl 2 rfl ?_
  obtain ⟨u3, hu3, hm⟩ := bnd hm
  refine k_callV 14 cx cwX6_239 (c_X6_bellTells X.2.1 G h_t h_t_valley h_t_valley_needs h_t_text h_t_pulls h_t_triedPulls h_t_readings h_t_heard h_t_trial h_t_sheets h_t_valley_kinds h_t_valley_from h_t_valley_to h_t_valley_lasts t_heardIsCurrent u2.2 t_fault t_valley_bells t_valley_ropes t_valley_span t_valley_tied t_valley_needs a1 hu3) dX6_deafTells_14 ⟨by decide, by decide⟩ rfl rfl (rest := [.int u2.1]) rfl (Nat.le_of_ble_eq_true rfl) [0, 1, 2] (by decide) rfl rfl (w2 := (w_X6_deafTells G h_t h_t_valley h_t_valley_needs h_t_text h_t_pulls h_t_triedPulls h_t_readings h_t_heard h_t_trial h_t_sheets h_t_valley_kinds h_t_valley_from h_t_valley_to h_t_valley_lasts t_heardIsCurrent u3.2 t_fault t_valley_bells t_valley_ropes t_valley_span t_valley_tied t_valley_needs)) [] 3 rfl [] rfl rfl rfl (by decide) (st2 := [.int u3.1, .int u2.1]) rfl ?_
  refine k_iadd 17 cx dX6_deafTells_17 ?_
  obtain rfl := Option.some.inj hm
  exact k_iret 18 cx dX6_deafTells_18 rfl rfl
set_option maxRecDepth 100000 in
theorem cwX6_236 : CWV RX6 236 RX6 yX6_deafTells cX6_deafTells 3 (some .int) 1 6 TX6 11 := ⟨tb_m (i := 611) rfl rfl, tb_m (i := 613) rfl rfl, tb_m (i := 25) rfl rfl, tb_m (i := 51) rfl rfl, tb_m (i := 614) rfl rfl, ⟨by decide +kernel, by decide +kernel, by decide +kernel⟩, rfl⟩
def w_X6_tell (G : GT) (h_t : Nat) (h_t_valley : Nat) (h_t_valley_kinds : Nat) (h_t_valley_needs : Nat) (h_t_text : Nat) (h_t_pulls : Nat) (h_t_triedPulls : Nat) (h_t_readings : Nat) (h_t_heard : Nat) (h_t_trial : Nat) (h_t_sheets : Nat) (h_t_valley_from : Nat) (h_t_valley_to : Nat) (h_t_valley_lasts : Nat) (t_heardIsCurrent : Int32) (t_trace : Int32) (t_fault : Int32) (t_valley_bells : Int32) (t_valley_ropes : Int32) (t_valley_span : Int32) (t_valley_tied : Int32) (t_valley_kinds : (Nat → Int32)) (t_valley_needs : (Nat → Int32)) : va_W := [(h_t, .inr (6, [.ref h_t_valley, .ref h_t_text, .ref h_t_pulls, .ref h_t_triedPulls, .ref h_t_readings, .ref h_t_heard, .ref h_t_trial, .ref h_t_sheets, .int t_heardIsCurrent, .int t_trace, .int t_fault])), (h_t_valley, .inr (5, [.ref h_t_valley_kinds, .ref h_t_valley_needs, .ref h_t_valley_from, .ref h_t_valley_to, .ref h_t_valley_lasts, .int t_valley_bells, .int t_valley_ropes, .int t_valley_span, .int t_valley_tied])), (h_t_valley_kinds, .inl (G.2.1, 6, .inl t_valley_kinds)), (h_t_valley_needs, .inl (G.2.1, 6, .inl t_valley_needs))]
def M_X6_tell (t_trace : Int32) (t_valley_bells : Int32) (t_valley_kinds : (Nat → Int32)) (t_valley_needs : (Nat → Int32)) (a1 : Int32) : Option (Int32 × Int32) := ((M_X5_hasBell t_valley_bells a1).bind (fun u1 => (if u1 = 0 then (some ((-1 : Int32), t_trace)) else (gB (inb a1 6) (nme (t_valley_kinds (Int32.toNatClampNeg a1)) (fun v2 => (if v2 = (1 : Int32) then ((M_X6_greatTells t_trace t_valley_needs a1).bind (fun u3 => (some (u3.1, u3.2)))) else (if v2 = (2 : Int32) then ((M_X6_deafTells t_trace t_valley_needs a1).bind (fun u4 => (some (u4.1, u4.2)))) else ((M_X6_bellTells t_trace t_valley_needs a1).bind (fun u5 => (some (u5.1, u5.2))))))))))))
set_option maxHeartbeats 4000000 in
set_option maxRecDepth 100000 in
theorem c_X6_tell (l : Launch) (G : GT) (h_t : Nat) (h_t_valley : Nat) (h_t_valley_kinds : Nat) (h_t_valley_needs : Nat) (h_t_text : Nat) (h_t_pulls : Nat) (h_t_triedPulls : Nat) (h_t_readings : Nat) (h_t_heard : Nat) (h_t_trial : Nat) (h_t_sheets : Nat) (h_t_valley_from : Nat) (h_t_valley_to : Nat) (h_t_valley_lasts : Nat) (t_heardIsCurrent : Int32) (t_trace : Int32) (t_fault : Int32) (t_valley_bells : Int32) (t_valley_ropes : Int32) (t_valley_span : Int32) (t_valley_tied : Int32) (t_valley_kinds : (Nat → Int32)) (t_valley_needs : (Nat → Int32)) (a1 : Int32) {u : Int32 × Int32} (hm : M_X6_tell t_trace t_valley_bells t_valley_kinds t_valley_needs a1 = some u) : CT l yX6_tell cX6_tell 2 (some .int) 4 85 [.ref h_t, .int a1] G (w_X6_tell G h_t h_t_valley h_t_valley_kinds h_t_valley_needs h_t_text h_t_pulls h_t_triedPulls h_t_readings h_t_heard h_t_trial h_t_sheets h_t_valley_from h_t_valley_to h_t_valley_lasts t_heardIsCurrent t_trace t_fault t_valley_bells t_valley_ropes t_valley_span t_valley_tied t_valley_kinds t_valley_needs) (some (.int u.1)) (w_X6_tell G h_t h_t_valley h_t_valley_kinds h_t_valley_needs h_t_text h_t_pulls h_t_triedPulls h_t_readings h_t_heard h_t_trial h_t_sheets h_t_valley_from h_t_valley_to h_t_valley_lasts t_heardIsCurrent u.2 t_fault t_valley_bells t_valley_ropes t_valley_span t_valley_tied t_valley_kinds t_valley_needs) := by
  refine ct_intro RX6 [(0, .ref h_t), (1, .int a1)] (by decide) rfl (Nat.le_of_ble_eq_true rfl) rfl (fun X hX cx => ?_)
  unfold M_X6_tell at hm
  refine k_aload_n 0 cx dX6_tell_0 rfl 0 rfl ?_
  refine fgX6_12 1 cx dX6_tell_1 0 rfl rfl ?_
  refine k_iload_n 4 cx dX6_tell_4 rfl 1 rfl ?_
  obtain ⟨u1, hu1, hm⟩ := bnd hm
  refine k_callV 5 cx cwX6_105 (c_X5_hasBell X.2.1 G h_t_valley h_t_valley_kinds h_t_valley_needs h_t_valley_from h_t_valley_to h_t_valley_lasts t_valley_bells t_valley_ropes t_valley_span t_valley_tied a1 hu1) dX6_tell_5 ⟨by decide, by decide⟩ rfl rfl (rest := []) rfl (Nat.le_of_ble_eq_true rfl) [1] (by decide) rfl rfl (w2 := (w_X6_tell G h_t h_t_valley h_t_valley_kinds h_t_valley_needs h_t_text h_t_pulls h_t_triedPulls h_t_readings h_t_heard h_t_trial h_t_sheets h_t_valley_from h_t_valley_to h_t_valley_lasts t_heardIsCurrent t_trace t_fault t_valley_bells t_valley_ropes t_valley_span t_valley_tied t_valley_kinds t_valley_needs)) [0, 2, 3] 4 rfl [(h_t, .inr (6, [.ref h_t_valley, .ref h_t_text, .ref h_t_pulls, .ref h_t_triedPulls, .ref h_t_readings, .ref h_t_heard, .ref h_t_trial, .ref h_t_sheets, .int t_heardIsCurrent, .int t_trace, .int t_fault])), (h_t_valley_kinds, .inl (G.2.1, 6, .inl t_valley_kinds)), (h_t_valley_needs, .inl (G.2.1, 6, .inl t_valley_needs))] rfl rfl rfl (by decide) (st2 := [.int u1]) rfl ?_
  refine k_if_ne 8 cx (tgt := 13) dX6_tell_8 (by decide) hm (fun hc hm => ?_) (fun hc hm => ?_)
  · refine k_iconst 11 cx (v := (-1 : Int32)) dX6_tell_11 (by decide) ?_
    obtain rfl := Option.some.inj hm
    exact k_iret 12 cx dX6_tell_12 rfl rfl
  · refine k_aload_n 13 cx dX6_tell_13 rfl 0 rfl ?_
    refine fgX6_12 14 cx dX6_tell_14 0 rfl rfl ?_
    refine fgX6_108 17 cx dX6_tell_17 1 rfl rfl ?_
    refine k_iload_n 20 cx dX6_tell_20 rfl 1 rfl ?_
    refine k_iald 21 cx dX6_tell_21 2 rfl hm (fun hm => ?_)
    refine k_nm hm (fun v2 hm => ?_)
    rcases m_if hm with ⟨hc0, hm⟩ | ⟨hc0, hm⟩
    · refine k_lookup 22 cx (off := 26) (tgt := 48) dX6_tell_22 (by decide) (by rw [hc0]; rfl) (by decide) ?_
      refine k_aload_n 48 cx dX6_tell_48 rfl 0 rfl ?_
      refine k_iload_n 49 cx dX6_tell_49 rfl 1 rfl ?_
      obtain ⟨u3, hu3, hm⟩ := bnd hm
      refine k_callV 50 cx cwX6_233 (c_X6_greatTells X.2.1 G h_t h_t_valley h_t_valley_needs h_t_text h_t_pulls h_t_triedPulls h_t_readings h_t_heard h_t_trial h_t_sheets h_t_valley_kinds h_t_valley_from h_t_valley_to h_t_valley_lasts t_heardIsCurrent t_trace t_fault t_valley_bells t_valley_ropes t_valley_span t_valley_tied t_valley_needs a1 hu3) dX6_tell_50 ⟨by decide, by decide⟩ rfl rfl (rest := []) rfl (Nat.le_of_ble_eq_true rfl) [0, 1, 3] (by decide) rfl rfl (w2 := (w_X6_tell G h_t h_t_valley h_t_valley_kinds h_t_valley_needs h_t_text h_t_pulls h_t_triedPulls h_t_readings h_t_heard h_t_trial h_t_sheets h_t_valley_from h_t_valley_to h_t_valley_lasts t_heardIsCurrent u3.2 t_fault t_valley_bells t_valley_ropes t_valley_span t_valley_tied t_valley_kinds t_valley_needs)) [2] 4 rfl [(h_t_valley_kinds, .inl (G.2.1, 6, .inl t_valley_kinds))] rfl rfl rfl (by decide) (st2 := [.int u3.1]) rfl ?_
      obtain rfl := Option.some.inj hm
      exact k_iret 53 cx dX6_tell_53 rfl rfl
    · rcases m_if hm with ⟨hc1, hm⟩ | ⟨hc1, hm⟩
      · refine k_lookup 22 cx (off := 32) (tgt := 54) dX6_tell_22 (by decide) (by rw [hc1]; rfl) (by decide) ?_
        refine k_aload_n 54 cx dX6_tell_54 rfl 0 rfl ?_
        refine k_iload_n 55 cx dX6_tell_55 rfl 1 rfl ?_
        obtain ⟨u4, hu4, hm⟩ := bnd hm
        refine k_callV 56 cx cwX6_236 (c_X6_deafTells X.2.1 G h_t h_t_valley h_t_valley_needs h_t_text h_t_pulls h_t_triedPulls h_t_readings h_t_heard h_t_trial h_t_sheets h_t_valley_kinds h_t_valley_from h_t_valley_to h_t_valley_lasts t_heardIsCurrent t_trace t_fault t_valley_bells t_valley_ropes t_valley_span t_valley_tied t_valley_needs a1 hu4) dX6_tell_56 ⟨by decide, by decide⟩ rfl rfl (rest := []) rfl (Nat.le_of_ble_eq_true rfl) [0, 1, 3] (by decide) rfl rfl (w2 := (w_X6_tell G h_t h_t_valley h_t_valley_kinds h_t_valley_needs h_t_text h_t_pulls h_t_triedPulls h_t_readings h_t_heard h_t_trial h_t_sheets h_t_valley_from h_t_valley_to h_t_valley_lasts t_heardIsCurrent u4.2 t_fault t_valley_bells t_valley_ropes t_valley_span t_valley_tied t_valley_kinds t_valley_needs)) [2] 4 rfl [(h_t_valley_kinds, .inl (G.2.1, 6, .inl t_valley_kinds))] rfl rfl rfl (by decide) (st2 := [.int u4.1]) rfl ?_
        obtain rfl := Option.some.inj hm
        exact k_iret 59 cx dX6_tell_59 rfl rfl
      · have n0 : v2.toInt ≠ 1 := fun h => hc0 (Int32.toInt_inj.mp (h.trans rfl))
        have n1 : v2.toInt ≠ 2 := fun h => hc1 (Int32.toInt_inj.mp (h.trans rfl))
        refine k_lookup 22 cx (off := 38) (tgt := 60) dX6_tell_22 (by decide) (by simp [Op.lookupswitch.offset, n0, Ne.symm n0, n1, Ne.symm n1]) (by decide) ?_
        refine k_aload_n 60 cx dX6_tell_60 rfl 0 rfl ?_
        refine k_iload_n 61 cx dX6_tell_61 rfl 1 rfl ?_
        obtain ⟨u5, hu5, hm⟩ := bnd hm
        refine k_callV 62 cx cwX6_239 (c_X6_bellTells X.2.1 G h_t h_t_valley h_t_valley_needs h_t_text h_t_pulls h_t_triedPulls h_t_readings h_t_heard h_t_trial h_t_sheets h_t_valley_kinds h_t_valley_from h_t_valley_to h_t_valley_lasts t_heardIsCurrent t_trace t_fault t_valley_bells t_valley_ropes t_valley_span t_valley_tied t_valley_needs a1 hu5) dX6_tell_62 ⟨by decide, by decide⟩ rfl rfl (rest := []) rfl (Nat.le_of_ble_eq_true rfl) [0, 1, 3] (by decide) rfl rfl (w2 := (w_X6_tell G h_t h_t_valley h_t_valley_kinds h_t_valley_needs h_t_text h_t_pulls h_t_triedPulls h_t_readings h_t_heard h_t_trial h_t_sheets h_t_valley_from h_t_valley_to h_t_valley_lasts t_heardIsCurrent u5.2 t_fault t_valley_bells t_valley_ropes t_valley_span t_valley_tied t_valley_kinds t_valley_needs)) [2] 4 rfl [(h_t_valley_kinds, .inl (G.2.1, 6, .inl t_valley_kinds))] rfl rfl rfl (by decide) (st2 := [.int u5.1]) rfl ?_
        obtain rfl := Option.some.inj hm
        exact k_iret 65 cx dX6_tell_65 rfl rfl
def w_X6_lentHailed (G : GT) (h_t : Nat) (h_t_valley : Nat) (h_t_text : Nat) (h_t_pulls : Nat) (h_t_triedPulls : Nat) (h_t_readings : Nat) (h_t_heard : Nat) (h_t_trial : Nat) (h_t_sheets : Nat) (t_heardIsCurrent : Int32) (t_trace : Int32) (t_fault : Int32) : va_W := [(h_t, .inr (6, [.ref h_t_valley, .ref h_t_text, .ref h_t_pulls, .ref h_t_triedPulls, .ref h_t_readings, .ref h_t_heard, .ref h_t_trial, .ref h_t_sheets, .int t_heardIsCurrent, .int t_trace, .int t_fault]))]
def M_X6_lentHailed (t_trace : Int32) (a1 : Int32) : Option (Int32 × Int32) := ((M_X6_leave t_trace (4 : Int32)).bind (fun u1 => (some (a1, u1))))
set_option maxHeartbeats 4000000 in
set_option maxRecDepth 100000 in
theorem c_X6_lentHailed (l : Launch) (G : GT) (h_t : Nat) (h_t_valley : Nat) (h_t_text : Nat) (h_t_pulls : Nat) (h_t_triedPulls : Nat) (h_t_readings : Nat) (h_t_heard : Nat) (h_t_trial : Nat) (h_t_sheets : Nat) (t_heardIsCurrent : Int32) (t_trace : Int32) (t_fault : Int32) (a1 : Int32) {u : Int32 × Int32} (hm : M_X6_lentHailed t_trace a1 = some u) : CT l yX6_lentHailed cX6_lentHailed 2 (some .int) 1 21 [.ref h_t, .int a1] G (w_X6_lentHailed G h_t h_t_valley h_t_text h_t_pulls h_t_triedPulls h_t_readings h_t_heard h_t_trial h_t_sheets t_heardIsCurrent t_trace t_fault) (some (.int u.1)) (w_X6_lentHailed G h_t h_t_valley h_t_text h_t_pulls h_t_triedPulls h_t_readings h_t_heard h_t_trial h_t_sheets t_heardIsCurrent u.2 t_fault) := by
  refine ct_intro RX6 [(0, .ref h_t), (1, .int a1)] (by decide) rfl (Nat.le_of_ble_eq_true rfl) rfl (fun X hX cx => ?_)
  unfold M_X6_lentHailed at hm
  refine k_aload_n 0 cx dX6_lentHailed_0 rfl 0 rfl ?_
  refine k_iconst 1 cx (v := (4 : Int32)) dX6_lentHailed_1 (by decide) ?_
  obtain ⟨u1, hu1, hm⟩ := bnd hm
  refine k_callV 2 cx cwX6_262 (c_X6_leave X.2.1 G h_t h_t_valley h_t_text h_t_pulls h_t_triedPulls h_t_readings h_t_heard h_t_trial h_t_sheets t_heardIsCurrent t_trace t_fault (4 : Int32) hu1) dX6_lentHailed_2 ⟨by decide, by decide⟩ rfl rfl (rest := []) rfl (Nat.le_of_ble_eq_true rfl) [0] (by decide) rfl rfl (w2 := (w_X6_lentHailed G h_t h_t_valley h_t_text h_t_pulls h_t_triedPulls h_t_readings h_t_heard h_t_trial h_t_sheets t_heardIsCurrent u1 t_fault)) [] 1 rfl [] rfl rfl rfl (by decide) (st2 := []) rfl ?_
  refine k_iload_n 5 cx dX6_lentHailed_5 rfl 1 rfl ?_
  obtain rfl := Option.some.inj hm
  exact k_iret 6 cx dX6_lentHailed_6 rfl rfl
def w_X6_deafHailed (G : GT) (h_t : Nat) (h_t_valley : Nat) (h_t_text : Nat) (h_t_pulls : Nat) (h_t_triedPulls : Nat) (h_t_readings : Nat) (h_t_heard : Nat) (h_t_trial : Nat) (h_t_sheets : Nat) (t_heardIsCurrent : Int32) (t_trace : Int32) (t_fault : Int32) : va_W := [(h_t, .inr (6, [.ref h_t_valley, .ref h_t_text, .ref h_t_pulls, .ref h_t_triedPulls, .ref h_t_readings, .ref h_t_heard, .ref h_t_trial, .ref h_t_sheets, .int t_heardIsCurrent, .int t_trace, .int t_fault]))]
def M_X6_deafHailed (t_trace : Int32) : Option (Int32 × Int32) := ((M_X6_leave t_trace (5 : Int32)).bind (fun u1 => (some ((90 : Int32), u1))))
set_option maxHeartbeats 4000000 in
set_option maxRecDepth 100000 in
theorem c_X6_deafHailed (l : Launch) (G : GT) (h_t : Nat) (h_t_valley : Nat) (h_t_text : Nat) (h_t_pulls : Nat) (h_t_triedPulls : Nat) (h_t_readings : Nat) (h_t_heard : Nat) (h_t_trial : Nat) (h_t_sheets : Nat) (t_heardIsCurrent : Int32) (t_trace : Int32) (t_fault : Int32) {u : Int32 × Int32} (hm : M_X6_deafHailed t_trace = some u) : CT l yX6_deafHailed cX6_deafHailed 1 (some .int) 1 21 [.ref h_t] G (w_X6_deafHailed G h_t h_t_valley h_t_text h_t_pulls h_t_triedPulls h_t_readings h_t_heard h_t_trial h_t_sheets t_heardIsCurrent t_trace t_fault) (some (.int u.1)) (w_X6_deafHailed G h_t h_t_valley h_t_text h_t_pulls h_t_triedPulls h_t_readings h_t_heard h_t_trial h_t_sheets t_heardIsCurrent u.2 t_fault) := by
  refine ct_intro RX6 [(0, .ref h_t)] (by decide) rfl (Nat.le_of_ble_eq_true rfl) rfl (fun X hX cx => ?_)
  unfold M_X6_deafHailed at hm
  refine k_aload_n 0 cx dX6_deafHailed_0 rfl 0 rfl ?_
  refine k_iconst 1 cx (v := (5 : Int32)) dX6_deafHailed_1 (by decide) ?_
  obtain ⟨u1, hu1, hm⟩ := bnd hm
  refine k_callV 2 cx cwX6_262 (c_X6_leave X.2.1 G h_t h_t_valley h_t_text h_t_pulls h_t_triedPulls h_t_readings h_t_heard h_t_trial h_t_sheets t_heardIsCurrent t_trace t_fault (5 : Int32) hu1) dX6_deafHailed_2 ⟨by decide, by decide⟩ rfl rfl (rest := []) rfl (Nat.le_of_ble_eq_true rfl) [0] (by decide) rfl rfl (w2 := (w_X6_deafHailed G h_t h_t_valley h_t_text h_t_pulls h_t_triedPulls h_t_readings h_t_heard h_t_trial h_t_sheets t_heardIsCurrent u1 t_fault)) [] 1 rfl [] rfl rfl rfl (by decide) (st2 := []) rfl ?_
  refine k_bipush 5 cx (v := (90 : Int32)) dX6_deafHailed_5 (by decide) ?_
  obtain rfl := Option.some.inj hm
  exact k_iret 7 cx dX6_deafHailed_7 rfl rfl
set_option maxRecDepth 100000 in
theorem cwX6_242 : CWV RX6 242 RX6 yX6_deafHailed cX6_deafHailed 1 (some .int) 0 6 TX6 11 := ⟨tb_m (i := 619) rfl rfl, tb_m (i := 621) rfl rfl, tb_m (i := 26) rfl rfl, tb_m (i := 51) rfl rfl, tb_m (i := 622) rfl rfl, ⟨by decide +kernel, by decide +kernel, by decide +kernel⟩, rfl⟩
set_option maxRecDepth 100000 in
theorem cwX6_245 : CWV RX6 245 RX6 yX6_lentHailed cX6_lentHailed 2 (some .int) 1 6 TX6 11 := ⟨tb_m (i := 623) rfl rfl, tb_m (i := 625) rfl rfl, tb_m (i := 27) rfl rfl, tb_m (i := 51) rfl rfl, tb_m (i := 626) rfl rfl, ⟨by decide +kernel, by decide +kernel, by decide +kernel⟩, rfl⟩
def w_X6_hail (G : GT) (h_t : Nat) (h_t_valley : Nat) (h_t_valley_kinds : Nat) (h_t_text : Nat) (h_t_pulls : Nat) (h_t_triedPulls : Nat) (h_t_readings : Nat) (h_t_heard : Nat) (h_t_trial : Nat) (h_t_sheets : Nat) (h_t_valley_needs : Nat) (h_t_valley_from : Nat) (h_t_valley_to : Nat) (h_t_valley_lasts : Nat) (t_heardIsCurrent : Int32) (t_trace : Int32) (t_fault : Int32) (t_valley_bells : Int32) (t_valley_ropes : Int32) (t_valley_span : Int32) (t_valley_tied : Int32) (t_valley_kinds : (Nat → Int32)) : va_W := [(h_t, .inr (6, [.ref h_t_valley, .ref h_t_text, .ref h_t_pulls, .ref h_t_triedPulls, .ref h_t_readings, .ref h_t_heard, .ref h_t_trial, .ref h_t_sheets, .int t_heardIsCurrent, .int t_trace, .int t_fault])), (h_t_valley, .inr (5, [.ref h_t_valley_kinds, .ref h_t_valley_needs, .ref h_t_valley_from, .ref h_t_valley_to, .ref h_t_valley_lasts, .int t_valley_bells, .int t_valley_ropes, .int t_valley_span, .int t_valley_tied])), (h_t_valley_kinds, .inl (G.2.1, 6, .inl t_valley_kinds))]
def M_X6_hail (t_trace : Int32) (t_valley_bells : Int32) (t_valley_kinds : (Nat → Int32)) (a1 : Int32) : Option (Int32 × Int32) := ((M_X5_hasBell t_valley_bells a1).bind (fun u1 => (if u1 = 0 then (some ((-1 : Int32), t_trace)) else (gB (inb a1 6) (if (t_valley_kinds (Int32.toNatClampNeg a1)) = (2 : Int32) then ((M_X6_deafHailed t_trace).bind (fun u3 => (some (u3.1, u3.2)))) else ((M_X6_lentHailed t_trace a1).bind (fun u2 => (some (u2.1, u2.2)))))))))
set_option maxHeartbeats 4000000 in
set_option maxRecDepth 100000 in
theorem c_X6_hail (l : Launch) (G : GT) (h_t : Nat) (h_t_valley : Nat) (h_t_valley_kinds : Nat) (h_t_text : Nat) (h_t_pulls : Nat) (h_t_triedPulls : Nat) (h_t_readings : Nat) (h_t_heard : Nat) (h_t_trial : Nat) (h_t_sheets : Nat) (h_t_valley_needs : Nat) (h_t_valley_from : Nat) (h_t_valley_to : Nat) (h_t_valley_lasts : Nat) (t_heardIsCurrent : Int32) (t_trace : Int32) (t_fault : Int32) (t_valley_bells : Int32) (t_valley_ropes : Int32) (t_valley_span : Int32) (t_valley_tied : Int32) (t_valley_kinds : (Nat → Int32)) (a1 : Int32) {u : Int32 × Int32} (hm : M_X6_hail t_trace t_valley_bells t_valley_kinds a1 = some u) : CT l yX6_hail cX6_hail 2 (some .int) 2 42 [.ref h_t, .int a1] G (w_X6_hail G h_t h_t_valley h_t_valley_kinds h_t_text h_t_pulls h_t_triedPulls h_t_readings h_t_heard h_t_trial h_t_sheets h_t_valley_needs h_t_valley_from h_t_valley_to h_t_valley_lasts t_heardIsCurrent t_trace t_fault t_valley_bells t_valley_ropes t_valley_span t_valley_tied t_valley_kinds) (some (.int u.1)) (w_X6_hail G h_t h_t_valley h_t_valley_kinds h_t_text h_t_pulls h_t_triedPulls h_t_readings h_t_heard h_t_trial h_t_sheets h_t_valley_needs h_t_valley_from h_t_valley_to h_t_valley_lasts t_heardIsCurrent u.2 t_fault t_valley_bells t_valley_ropes t_valley_span t_valley_tied t_valley_kinds) := by
  refine ct_intro RX6 [(0, .ref h_t), (1, .int a1)] (by decide) rfl (Nat.le_of_ble_eq_true rfl) rfl (fun X hX cx => ?_)
  unfold M_X6_hail at hm
  refine k_aload_n 0 cx dX6_hail_0 rfl 0 rfl ?_
  refine fgX6_12 1 cx dX6_hail_1 0 rfl rfl ?_
  refine k_iload_n 4 cx dX6_hail_4 rfl 1 rfl ?_
  obtain ⟨u1, hu1, hm⟩ := bnd hm
  refine k_callV 5 cx cwX6_105 (c_X5_hasBell X.2.1 G h_t_valley h_t_valley_kinds h_t_valley_needs h_t_valley_from h_t_valley_to h_t_valley_lasts t_valley_bells t_valley_ropes t_valley_span t_valley_tied a1 hu1) dX6_hail_5 ⟨by decide, by decide⟩ rfl rfl (rest := []) rfl (Nat.le_of_ble_eq_true rfl) [1] (by decide) rfl rfl (w2 := (w_X6_hail G h_t h_t_valley h_t_valley_kinds h_t_text h_t_pulls h_t_triedPulls h_t_readings h_t_heard h_t_trial h_t_sheets h_t_valley_needs h_t_valley_from h_t_valley_to h_t_valley_lasts t_heardIsCurrent t_trace t_fault t_valley_bells t_valley_ropes t_valley_span t_valley_tied t_valley_kinds)) [0, 2] 3 rfl [(h_t, .inr (6, [.ref h_t_valley, .ref h_t_text, .ref h_t_pulls, .ref h_t_triedPulls, .ref h_t_readings, .ref h_t_heard, .ref h_t_trial, .ref h_t_sheets, .int t_heardIsCurrent, .int t_trace, .int t_fault])), (h_t_valley_kinds, .inl (G.2.1, 6, .inl t_valley_kinds))] rfl rfl rfl (by decide) (st2 := [.int u1]) rfl ?_
  refine k_if_ne 8 cx (tgt := 13) dX6_hail_8 (by decide) hm (fun hc hm => ?_) (fun hc hm => ?_)
  · refine k_iconst 11 cx (v := (-1 : Int32)) dX6_hail_11 (by decide) ?_
    obtain rfl := Option.some.inj hm
    exact k_iret 12 cx dX6_hail_12 rfl rfl
  · refine k_aload_n 13 cx dX6_hail_13 rfl 0 rfl ?_
    refine fgX6_12 14 cx dX6_hail_14 0 rfl rfl ?_
    refine fgX6_108 17 cx dX6_hail_17 1 rfl rfl ?_
    refine k_iload_n 20 cx dX6_hail_20 rfl 1 rfl ?_
    refine k_iald 21 cx dX6_hail_21 2 rfl hm (fun hm => ?_)
    refine k_iconst 22 cx (v := (2 : Int32)) dX6_hail_22 (by decide) ?_
    refine k_icmp_ne 23 cx (tgt := 33) dX6_hail_23 (by decide) hm (fun hc hm => ?_) (fun hc hm => ?_)
    · refine k_aload_n 26 cx dX6_hail_26 rfl 0 rfl ?_
      obtain ⟨u3, hu3, hm⟩ := bnd hm
      refine k_callV 27 cx cwX6_242 (c_X6_deafHailed X.2.1 G h_t h_t_valley h_t_text h_t_pulls h_t_triedPulls h_t_readings h_t_heard h_t_trial h_t_sheets t_heardIsCurrent t_trace t_fault hu3) dX6_hail_27 ⟨by decide, by decide⟩ rfl rfl (rest := []) rfl (Nat.le_of_ble_eq_true rfl) [0] (by decide) rfl rfl (w2 := (w_X6_hail G h_t h_t_valley h_t_valley_kinds h_t_text h_t_pulls h_t_triedPulls h_t_readings h_t_heard h_t_trial h_t_sheets h_t_valley_needs h_t_valley_from h_t_valley_to h_t_valley_lasts t_heardIsCurrent u3.2 t_fault t_valley_bells t_valley_ropes t_valley_span t_valley_tied t_valley_kinds)) [1, 2] 3 rfl [(h_t_valley, .inr (5, [.ref h_t_valley_kinds, .ref h_t_valley_needs, .ref h_t_valley_from, .ref h_t_valley_to, .ref h_t_valley_lasts, .int t_valley_bells, .int t_valley_ropes, .int t_valley_span, .int t_valley_tied])), (h_t_valley_kinds, .inl (G.2.1, 6, .inl t_valley_kinds))] rfl rfl rfl (by decide) (st2 := [.int u3.1]) rfl ?_
      refine k_goto 30 cx (tgt := 38) dX6_hail_30 (by decide) ?_
      obtain rfl := Option.some.inj hm
      exact k_iret 38 cx dX6_hail_38 rfl rfl
    · refine k_aload_n 33 cx dX6_hail_33 rfl 0 rfl ?_
      refine k_iload_n 34 cx dX6_hail_34 rfl 1 rfl ?_
      obtain ⟨u2, hu2, hm⟩ := bnd hm
      refine k_callV 35 cx cwX6_245 (c_X6_lentHailed X.2.1 G h_t h_t_valley h_t_text h_t_pulls h_t_triedPulls h_t_readings h_t_heard h_t_trial h_t_sheets t_heardIsCurrent t_trace t_fault a1 hu2) dX6_hail_35 ⟨by decide, by decide⟩ rfl rfl (rest := []) rfl (Nat.le_of_ble_eq_true rfl) [0] (by decide) rfl rfl (w2 := (w_X6_hail G h_t h_t_valley h_t_valley_kinds h_t_text h_t_pulls h_t_triedPulls h_t_readings h_t_heard h_t_trial h_t_sheets h_t_valley_needs h_t_valley_from h_t_valley_to h_t_valley_lasts t_heardIsCurrent u2.2 t_fault t_valley_bells t_valley_ropes t_valley_span t_valley_tied t_valley_kinds)) [1, 2] 3 rfl [(h_t_valley, .inr (5, [.ref h_t_valley_kinds, .ref h_t_valley_needs, .ref h_t_valley_from, .ref h_t_valley_to, .ref h_t_valley_lasts, .int t_valley_bells, .int t_valley_ropes, .int t_valley_span, .int t_valley_tied])), (h_t_valley_kinds, .inl (G.2.1, 6, .inl t_valley_kinds))] rfl rfl rfl (by decide) (st2 := [.int u2.1]) rfl ?_
      obtain rfl := Option.some.inj hm
      exact k_iret 38 cx dX6_hail_38 rfl rfl
def w_X6_as (G : GT) (h_t : Nat) (h_t_valley : Nat) (h_t_valley_kinds : Nat) (h_t_text : Nat) (h_t_pulls : Nat) (h_t_triedPulls : Nat) (h_t_readings : Nat) (h_t_heard : Nat) (h_t_trial : Nat) (h_t_sheets : Nat) (h_t_valley_needs : Nat) (h_t_valley_from : Nat) (h_t_valley_to : Nat) (h_t_valley_lasts : Nat) (t_heardIsCurrent : Int32) (t_trace : Int32) (t_fault : Int32) (t_valley_bells : Int32) (t_valley_ropes : Int32) (t_valley_span : Int32) (t_valley_tied : Int32) (t_valley_kinds : (Nat → Int32)) : va_W := [(h_t, .inr (6, [.ref h_t_valley, .ref h_t_text, .ref h_t_pulls, .ref h_t_triedPulls, .ref h_t_readings, .ref h_t_heard, .ref h_t_trial, .ref h_t_sheets, .int t_heardIsCurrent, .int t_trace, .int t_fault])), (h_t_valley, .inr (5, [.ref h_t_valley_kinds, .ref h_t_valley_needs, .ref h_t_valley_from, .ref h_t_valley_to, .ref h_t_valley_lasts, .int t_valley_bells, .int t_valley_ropes, .int t_valley_span, .int t_valley_tied])), (h_t_valley_kinds, .inl (G.2.1, 6, .inl t_valley_kinds))]
def M_X6_as (t_valley_bells : Int32) (t_valley_kinds : (Nat → Int32)) (a1 : Int32) (a2 : Int32) : Option (Int32 × Int32) := ((M_X5_hasBell t_valley_bells a1).bind (fun u1 => (if u1 = 0 then (some ((-1 : Int32), (0 : Int32))) else (if a2 < 0 then (some ((-2 : Int32), (0 : Int32))) else (if a2 ≤ (2 : Int32) then (gB (inb a1 6) (if (t_valley_kinds (Int32.toNatClampNeg a1)) < a2 then ((M_X6_faulty (2 : Int32)).bind (fun u2 => (some (u2.1, u2.2)))) else (some ((1 : Int32), (0 : Int32))))) else (some ((-2 : Int32), (0 : Int32))))))))
set_option maxHeartbeats 4000000 in
set_option maxRecDepth 100000 in
theorem c_X6_as (l : Launch) (G : GT) (h_t : Nat) (h_t_valley : Nat) (h_t_valley_kinds : Nat) (h_t_text : Nat) (h_t_pulls : Nat) (h_t_triedPulls : Nat) (h_t_readings : Nat) (h_t_heard : Nat) (h_t_trial : Nat) (h_t_sheets : Nat) (h_t_valley_needs : Nat) (h_t_valley_from : Nat) (h_t_valley_to : Nat) (h_t_valley_lasts : Nat) (t_heardIsCurrent : Int32) (t_trace : Int32) (t_fault : Int32) (t_valley_bells : Int32) (t_valley_ropes : Int32) (t_valley_span : Int32) (t_valley_tied : Int32) (t_valley_kinds : (Nat → Int32)) (a1 : Int32) (a2 : Int32) {u : Int32 × Int32} (hm : M_X6_as t_valley_bells t_valley_kinds a1 a2 = some u) : CT l yX6_as cX6_as 3 (some .int) 1 21 [.ref h_t, .int a1, .int a2] G (w_X6_as G h_t h_t_valley h_t_valley_kinds h_t_text h_t_pulls h_t_triedPulls h_t_readings h_t_heard h_t_trial h_t_sheets h_t_valley_needs h_t_valley_from h_t_valley_to h_t_valley_lasts t_heardIsCurrent t_trace t_fault t_valley_bells t_valley_ropes t_valley_span t_valley_tied t_valley_kinds) (some (.int u.1)) (w_X6_as G h_t h_t_valley h_t_valley_kinds h_t_text h_t_pulls h_t_triedPulls h_t_readings h_t_heard h_t_trial h_t_sheets h_t_valley_needs h_t_valley_from h_t_valley_to h_t_valley_lasts t_heardIsCurrent t_trace u.2 t_valley_bells t_valley_ropes t_valley_span t_valley_tied t_valley_kinds) := by
  refine ct_intro RX6 [(0, .ref h_t), (1, .int a1), (2, .int a2)] (by decide) rfl (Nat.le_of_ble_eq_true rfl) rfl (fun X hX cx => ?_)
  unfold M_X6_as at hm
  refine k_aload_n 0 cx dX6_as_0 rfl 0 rfl ?_
  refine k_iconst 1 cx (v := (0 : Int32)) dX6_as_1 (by decide) ?_
  refine fpX6_61 2 cx dX6_as_2 0 rfl rfl rfl (by simp) (w1 := (w_X6_as G h_t h_t_valley h_t_valley_kinds h_t_text h_t_pulls h_t_triedPulls h_t_readings h_t_heard h_t_trial h_t_sheets h_t_valley_needs h_t_valley_from h_t_valley_to h_t_valley_lasts t_heardIsCurrent t_trace (0 : Int32) t_valley_bells t_valley_ropes t_valley_span t_valley_tied t_valley_kinds)) rfl ?_
  refine k_aload_n 5 cx dX6_as_5 rfl 0 rfl ?_
  refine fgX6_12 6 cx dX6_as_6 0 rfl rfl ?_
  refine k_iload_n 9 cx dX6_as_9 rfl 1 rfl ?_
  obtain ⟨u1, hu1, hm⟩ := bnd hm
  refine k_callV 10 cx cwX6_105 (c_X5_hasBell X.2.1 G h_t_valley h_t_valley_kinds h_t_valley_needs h_t_valley_from h_t_valley_to h_t_valley_lasts t_valley_bells t_valley_ropes t_valley_span t_valley_tied a1 hu1) dX6_as_10 ⟨by decide, by decide⟩ rfl rfl (rest := []) rfl (Nat.le_of_ble_eq_true rfl) [1] (by decide) rfl rfl (w2 := (w_X6_as G h_t h_t_valley h_t_valley_kinds h_t_text h_t_pulls h_t_triedPulls h_t_readings h_t_heard h_t_trial h_t_sheets h_t_valley_needs h_t_valley_from h_t_valley_to h_t_valley_lasts t_heardIsCurrent t_trace (0 : Int32) t_valley_bells t_valley_ropes t_valley_span t_valley_tied t_valley_kinds)) [0, 2] 3 rfl [(h_t, .inr (6, [.ref h_t_valley, .ref h_t_text, .ref h_t_pulls, .ref h_t_triedPulls, .ref h_t_readings, .ref h_t_heard, .ref h_t_trial, .ref h_t_sheets, .int t_heardIsCurrent, .int t_trace, .int (0 : Int32)])), (h_t_valley_kinds, .inl (G.2.1, 6, .inl t_valley_kinds))] rfl rfl rfl (by decide) (st2 := [.int u1]) rfl ?_
  refine k_if_ne 13 cx (tgt := 18) dX6_as_13 (by decide) hm (fun hc hm => ?_) (fun hc hm => ?_)
  · refine k_iconst 16 cx (v := (-1 : Int32)) dX6_as_16 (by decide) ?_
    obtain rfl := Option.some.inj hm
    exact k_iret 17 cx dX6_as_17 rfl rfl
  · refine k_iload_n 18 cx dX6_as_18 rfl 2 rfl ?_
    refine k_if_lt 19 cx (tgt := 27) dX6_as_19 (by decide) hm (fun hc hm => ?_) (fun hc hm => ?_)
    · refine k_bipush 27 cx (v := (-2 : Int32)) dX6_as_27 (by decide) ?_
      obtain rfl := Option.some.inj hm
      exact k_iret 29 cx dX6_as_29 rfl rfl
    · refine k_iload_n 22 cx dX6_as_22 rfl 2 rfl ?_
      refine k_iconst 23 cx (v := (2 : Int32)) dX6_as_23 (by decide) ?_
      refine k_icmp_le 24 cx (tgt := 30) dX6_as_24 (by decide) hm (fun hc hm => ?_) (fun hc hm => ?_)
      · refine k_aload_n 30 cx dX6_as_30 rfl 0 rfl ?_
        refine fgX6_12 31 cx dX6_as_31 0 rfl rfl ?_
        refine fgX6_108 34 cx dX6_as_34 1 rfl rfl ?_
        refine k_iload_n 37 cx dX6_as_37 rfl 1 rfl ?_
        refine k_iald 38 cx dX6_as_38 2 rfl hm (fun hm => ?_)
        refine k_iload_n 39 cx dX6_as_39 rfl 2 rfl ?_
        refine k_icmp_lt 40 cx (tgt := 47) dX6_as_40 (by decide) hm (fun hc hm => ?_) (fun hc hm => ?_)
        · refine k_aload_n 47 cx dX6_as_47 rfl 0 rfl ?_
          refine k_iconst 48 cx (v := (2 : Int32)) dX6_as_48 (by decide) ?_
          obtain ⟨u2, hu2, hm⟩ := bnd hm
          refine k_callV 49 cx cwX6_76 (c_X6_faulty X.2.1 G h_t h_t_valley h_t_text h_t_pulls h_t_triedPulls h_t_readings h_t_heard h_t_trial h_t_sheets t_heardIsCurrent t_trace (0 : Int32) (2 : Int32) hu2) dX6_as_49 ⟨by decide, by decide⟩ rfl rfl (rest := []) rfl (Nat.le_of_ble_eq_true rfl) [0] (by decide) rfl rfl (w2 := (w_X6_as G h_t h_t_valley h_t_valley_kinds h_t_text h_t_pulls h_t_triedPulls h_t_readings h_t_heard h_t_trial h_t_sheets h_t_valley_needs h_t_valley_from h_t_valley_to h_t_valley_lasts t_heardIsCurrent t_trace u2.2 t_valley_bells t_valley_ropes t_valley_span t_valley_tied t_valley_kinds)) [1, 2] 3 rfl [(h_t_valley, .inr (5, [.ref h_t_valley_kinds, .ref h_t_valley_needs, .ref h_t_valley_from, .ref h_t_valley_to, .ref h_t_valley_lasts, .int t_valley_bells, .int t_valley_ropes, .int t_valley_span, .int t_valley_tied])), (h_t_valley_kinds, .inl (G.2.1, 6, .inl t_valley_kinds))] rfl rfl rfl (by decide) (st2 := [.int u2.1]) rfl ?_
          obtain rfl := Option.some.inj hm
          exact k_iret 52 cx dX6_as_52 rfl rfl
        · refine k_iconst 43 cx (v := (1 : Int32)) dX6_as_43 (by decide) ?_
          refine k_goto 44 cx (tgt := 52) dX6_as_44 (by decide) ?_
          obtain rfl := Option.some.inj hm
          exact k_iret 52 cx dX6_as_52 rfl rfl
      · refine k_bipush 27 cx (v := (-2 : Int32)) dX6_as_27 (by decide) ?_
        obtain rfl := Option.some.inj hm
        exact k_iret 29 cx dX6_as_29 rfl rfl
def w_X6_trace (G : GT) (h_t : Nat) (h_t_valley : Nat) (h_t_text : Nat) (h_t_pulls : Nat) (h_t_triedPulls : Nat) (h_t_readings : Nat) (h_t_heard : Nat) (h_t_trial : Nat) (h_t_sheets : Nat) (t_heardIsCurrent : Int32) (t_trace : Int32) (t_fault : Int32) : va_W := [(h_t, .inr (6, [.ref h_t_valley, .ref h_t_text, .ref h_t_pulls, .ref h_t_triedPulls, .ref h_t_readings, .ref h_t_heard, .ref h_t_trial, .ref h_t_sheets, .int t_heardIsCurrent, .int t_trace, .int t_fault]))]
def M_X6_trace (t_trace : Int32) : Option (Int32) := (some t_trace)
set_option maxHeartbeats 4000000 in
set_option maxRecDepth 100000 in
theorem c_X6_trace (l : Launch) (G : GT) (h_t : Nat) (h_t_valley : Nat) (h_t_text : Nat) (h_t_pulls : Nat) (h_t_triedPulls : Nat) (h_t_readings : Nat) (h_t_heard : Nat) (h_t_trial : Nat) (h_t_sheets : Nat) (t_heardIsCurrent : Int32) (t_trace : Int32) (t_fault : Int32) {u : Int32} (hm : M_X6_trace t_trace = some u) : CT l yX6_trace cX6_trace 1 (some .int) 0 0 [.ref h_t] G (w_X6_trace G h_t h_t_valley h_t_text h_t_pulls h_t_triedPulls h_t_readings h_t_heard h_t_trial h_t_sheets t_heardIsCurrent t_trace t_fault) (some (.int u)) (w_X6_trace G h_t h_t_valley h_t_text h_t_pulls h_t_triedPulls h_t_readings h_t_heard h_t_trial h_t_sheets t_heardIsCurrent t_trace t_fault) := by
  refine ct_intro RX6 [(0, .ref h_t)] (by decide) rfl (Nat.le_of_ble_eq_true rfl) rfl (fun X hX cx => ?_)
  unfold M_X6_trace at hm
  refine k_aload_n 0 cx dX6_trace_0 rfl 0 rfl ?_
  refine fgX6_248 1 cx dX6_trace_1 0 rfl rfl ?_
  obtain rfl := Option.some.inj hm
  exact k_iret 4 cx dX6_trace_4 rfl rfl
def w_X6_fault (G : GT) (h_t : Nat) (h_t_valley : Nat) (h_t_text : Nat) (h_t_pulls : Nat) (h_t_triedPulls : Nat) (h_t_readings : Nat) (h_t_heard : Nat) (h_t_trial : Nat) (h_t_sheets : Nat) (t_heardIsCurrent : Int32) (t_trace : Int32) (t_fault : Int32) : va_W := [(h_t, .inr (6, [.ref h_t_valley, .ref h_t_text, .ref h_t_pulls, .ref h_t_triedPulls, .ref h_t_readings, .ref h_t_heard, .ref h_t_trial, .ref h_t_sheets, .int t_heardIsCurrent, .int t_trace, .int t_fault]))]
def M_X6_fault (t_fault : Int32) : Option (Int32) := (some t_fault)
set_option maxHeartbeats 4000000 in
set_option maxRecDepth 100000 in
theorem c_X6_fault (l : Launch) (G : GT) (h_t : Nat) (h_t_valley : Nat) (h_t_text : Nat) (h_t_pulls : Nat) (h_t_triedPulls : Nat) (h_t_readings : Nat) (h_t_heard : Nat) (h_t_trial : Nat) (h_t_sheets : Nat) (t_heardIsCurrent : Int32) (t_trace : Int32) (t_fault : Int32) {u : Int32} (hm : M_X6_fault t_fault = some u) : CT l yX6_fault cX6_fault 1 (some .int) 0 0 [.ref h_t] G (w_X6_fault G h_t h_t_valley h_t_text h_t_pulls h_t_triedPulls h_t_readings h_t_heard h_t_trial h_t_sheets t_heardIsCurrent t_trace t_fault) (some (.int u)) (w_X6_fault G h_t h_t_valley h_t_text h_t_pulls h_t_triedPulls h_t_readings h_t_heard h_t_trial h_t_sheets t_heardIsCurrent t_trace t_fault) := by
  refine ct_intro RX6 [(0, .ref h_t)] (by decide) rfl (Nat.le_of_ble_eq_true rfl) rfl (fun X hX cx => ?_)
  unfold M_X6_fault at hm
  refine k_aload_n 0 cx dX6_fault_0 rfl 0 rfl ?_
  refine fgX6_61 1 cx dX6_fault_1 0 rfl rfl ?_
  obtain rfl := Option.some.inj hm
  exact k_iret 4 cx dX6_fault_4 rfl rfl
def w_X6_many (G : GT) (h_t : Nat) (h_t_valley : Nat) (h_t_pulls : Nat) (h_t_readings : Nat) (h_t_text : Nat) (h_t_triedPulls : Nat) (h_t_heard : Nat) (h_t_trial : Nat) (h_t_sheets : Nat) (h_t_valley_kinds : Nat) (h_t_valley_needs : Nat) (h_t_valley_from : Nat) (h_t_valley_to : Nat) (h_t_valley_lasts : Nat) (h_t_pulls_bells : Nat) (h_t_pulls_minutes : Nat) (h_t_pulls_times : Nat) (h_t_readings_bells : Nat) (h_t_readings_minutes : Nat) (h_t_readings_rang : Nat) (t_heardIsCurrent : Int32) (t_trace : Int32) (t_fault : Int32) (t_valley_bells : Int32) (t_valley_ropes : Int32) (t_valley_span : Int32) (t_valley_tied : Int32) (t_pulls_count : Int32) (t_readings_count : Int32) : va_W := [(h_t, .inr (6, [.ref h_t_valley, .ref h_t_text, .ref h_t_pulls, .ref h_t_triedPulls, .ref h_t_readings, .ref h_t_heard, .ref h_t_trial, .ref h_t_sheets, .int t_heardIsCurrent, .int t_trace, .int t_fault])), (h_t_valley, .inr (5, [.ref h_t_valley_kinds, .ref h_t_valley_needs, .ref h_t_valley_from, .ref h_t_valley_to, .ref h_t_valley_lasts, .int t_valley_bells, .int t_valley_ropes, .int t_valley_span, .int t_valley_tied])), (h_t_pulls, .inr (1, [.ref h_t_pulls_bells, .ref h_t_pulls_minutes, .ref h_t_pulls_times, .int t_pulls_count])), (h_t_readings, .inr (2, [.ref h_t_readings_bells, .ref h_t_readings_minutes, .ref h_t_readings_rang, .int t_readings_count]))]
def M_X6_many (t_valley_bells : Int32) (t_valley_ropes : Int32) (t_valley_span : Int32) (t_pulls_count : Int32) (t_readings_count : Int32) (a1 : Int32) : Option (Int32) := (if a1 = (0 : Int32) then (some t_valley_bells) else (if a1 = (1 : Int32) then (some t_valley_ropes) else (if a1 = (2 : Int32) then (some t_pulls_count) else (if a1 = (3 : Int32) then (some t_readings_count) else (if a1 = (4 : Int32) then (some t_valley_span) else (some (-2 : Int32)))))))
set_option maxHeartbeats 4000000 in
set_option maxRecDepth 100000 in
theorem c_X6_many (l : Launch) (G : GT) (h_t : Nat) (h_t_valley : Nat) (h_t_pulls : Nat) (h_t_readings : Nat) (h_t_text : Nat) (h_t_triedPulls : Nat) (h_t_heard : Nat) (h_t_trial : Nat) (h_t_sheets : Nat) (h_t_valley_kinds : Nat) (h_t_valley_needs : Nat) (h_t_valley_from : Nat) (h_t_valley_to : Nat) (h_t_valley_lasts : Nat) (h_t_pulls_bells : Nat) (h_t_pulls_minutes : Nat) (h_t_pulls_times : Nat) (h_t_readings_bells : Nat) (h_t_readings_minutes : Nat) (h_t_readings_rang : Nat) (t_heardIsCurrent : Int32) (t_trace : Int32) (t_fault : Int32) (t_valley_bells : Int32) (t_valley_ropes : Int32) (t_valley_span : Int32) (t_valley_tied : Int32) (t_pulls_count : Int32) (t_readings_count : Int32) (a1 : Int32) {u : Int32} (hm : M_X6_many t_valley_bells t_valley_ropes t_valley_span t_pulls_count t_readings_count a1 = some u) : CT l yX6_many cX6_many 2 (some .int) 0 0 [.ref h_t, .int a1] G (w_X6_many G h_t h_t_valley h_t_pulls h_t_readings h_t_text h_t_triedPulls h_t_heard h_t_trial h_t_sheets h_t_valley_kinds h_t_valley_needs h_t_valley_from h_t_valley_to h_t_valley_lasts h_t_pulls_bells h_t_pulls_minutes h_t_pulls_times h_t_readings_bells h_t_readings_minutes h_t_readings_rang t_heardIsCurrent t_trace t_fault t_valley_bells t_valley_ropes t_valley_span t_valley_tied t_pulls_count t_readings_count) (some (.int u)) (w_X6_many G h_t h_t_valley h_t_pulls h_t_readings h_t_text h_t_triedPulls h_t_heard h_t_trial h_t_sheets h_t_valley_kinds h_t_valley_needs h_t_valley_from h_t_valley_to h_t_valley_lasts h_t_pulls_bells h_t_pulls_minutes h_t_pulls_times h_t_readings_bells h_t_readings_minutes h_t_readings_rang t_heardIsCurrent t_trace t_fault t_valley_bells t_valley_ropes t_valley_span t_valley_tied t_pulls_count t_readings_count) := by
  refine ct_intro RX6 [(0, .ref h_t), (1, .int a1)] (by decide) rfl (Nat.le_of_ble_eq_true rfl) rfl (fun X hX cx => ?_)
  unfold M_X6_many at hm
  refine k_iload_n 0 cx dX6_many_0 rfl 1 rfl ?_
  rcases m_if hm with ⟨hc0, hm⟩ | ⟨hc0, hm⟩
  · refine k_tabIn 1 cx (off := 35) (tgt := 36) (0 : Int32) hc0 dX6_many_1 ⟨by decide, by decide, rfl, by decide⟩ ?_
    refine k_aload_n 36 cx dX6_many_36 rfl 0 rfl ?_
    refine fgX6_12 37 cx dX6_many_37 0 rfl rfl ?_
    refine fgX6_102 40 cx dX6_many_40 1 rfl rfl ?_
    obtain rfl := Option.some.inj hm
    exact k_iret 43 cx dX6_many_43 rfl rfl
  · rcases m_if hm with ⟨hc1, hm⟩ | ⟨hc1, hm⟩
    · refine k_tabIn 1 cx (off := 43) (tgt := 44) (1 : Int32) hc1 dX6_many_1 ⟨by decide, by decide, rfl, by decide⟩ ?_
      refine k_aload_n 44 cx dX6_many_44 rfl 0 rfl ?_
      refine fgX6_12 45 cx dX6_many_45 0 rfl rfl ?_
      refine fgX6_120 48 cx dX6_many_48 1 rfl rfl ?_
      obtain rfl := Option.some.inj hm
      exact k_iret 51 cx dX6_many_51 rfl rfl
    · rcases m_if hm with ⟨hc2, hm⟩ | ⟨hc2, hm⟩
      · refine k_tabIn 1 cx (off := 51) (tgt := 52) (2 : Int32) hc2 dX6_many_1 ⟨by decide, by decide, rfl, by decide⟩ ?_
        refine k_aload_n 52 cx dX6_many_52 rfl 0 rfl ?_
        refine fgX6_28 53 cx dX6_many_53 0 rfl rfl ?_
        refine fgX6_94 56 cx dX6_many_56 2 rfl rfl ?_
        obtain rfl := Option.some.inj hm
        exact k_iret 59 cx dX6_many_59 rfl rfl
      · rcases m_if hm with ⟨hc3, hm⟩ | ⟨hc3, hm⟩
        · refine k_tabIn 1 cx (off := 59) (tgt := 60) (3 : Int32) hc3 dX6_many_1 ⟨by decide, by decide, rfl, by decide⟩ ?_
          refine k_aload_n 60 cx dX6_many_60 rfl 0 rfl ?_
          refine fgX6_38 61 cx dX6_many_61 0 rfl rfl ?_
          refine fgX6_97 64 cx dX6_many_64 3 rfl rfl ?_
          obtain rfl := Option.some.inj hm
          exact k_iret 67 cx dX6_many_67 rfl rfl
        · rcases m_if hm with ⟨hc4, hm⟩ | ⟨hc4, hm⟩
          · refine k_tabIn 1 cx (off := 67) (tgt := 68) (4 : Int32) hc4 dX6_many_1 ⟨by decide, by decide, rfl, by decide⟩ ?_
            refine k_aload_n 68 cx dX6_many_68 rfl 0 rfl ?_
            refine fgX6_12 69 cx dX6_many_69 0 rfl rfl ?_
            refine fgX6_139 72 cx dX6_many_72 1 rfl rfl ?_
            obtain rfl := Option.some.inj hm
            exact k_iret 75 cx dX6_many_75 rfl rfl
          · have n0 : a1.toInt ≠ 0 := fun h => hc0 (Int32.toInt_inj.mp (h.trans rfl))
            have n1 : a1.toInt ≠ 1 := fun h => hc1 (Int32.toInt_inj.mp (h.trans rfl))
            have n2 : a1.toInt ≠ 2 := fun h => hc2 (Int32.toInt_inj.mp (h.trans rfl))
            have n3 : a1.toInt ≠ 3 := fun h => hc3 (Int32.toInt_inj.mp (h.trans rfl))
            have n4 : a1.toInt ≠ 4 := fun h => hc4 (Int32.toInt_inj.mp (h.trans rfl))
            refine k_tabOut 1 cx (tgt := 76) dX6_many_1 (by omega) (by decide) ?_
            refine k_bipush 76 cx (v := (-2 : Int32)) dX6_many_76 (by decide) ?_
            obtain rfl := Option.some.inj hm
            exact k_iret 78 cx dX6_many_78 rfl rfl
