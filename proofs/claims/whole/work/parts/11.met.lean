set_option maxRecDepth 100000 in
theorem fgX5_27 {X : XT} {Q : State → Prop} {G : GT} {A : Nat → Prop} {nL : Nat} {lv : List (Nat × Value)} {st : List Value} {ws : va_W} {cc : ByteArray} {fr lo : Nat} {ret : Option FieldType} (pc : Nat) (cx : Cx X cc nL RX5 G fr lo ret) {a : Nat} {fs : List Value} {v : Value} (hd : decode cc pc = .ok (.getfield 27, 3)) (q0 : Nat) (he : ws[q0]? = some (a, .inr (5, fs))) (hv : fs[5]? = some v) (k : KJ X Q G A nL (pc + 3) lv (v :: st) ws) : KJ X Q G A nL pc lv (.ref a :: st) ws :=
  k_get (ref := RX5) (T := TX5) (N := 9) (ci := 5) pc cx inX5 rfl 5 (by decide) (tb_m (i := 96) rfl rfl) rfl hd q0 he hv k
def w_X5_hasBell (G : GT) (h_t : Nat) (h_t_kinds : Nat) (h_t_needs : Nat) (h_t_from : Nat) (h_t_to : Nat) (h_t_lasts : Nat) (t_bells : Int32) (t_ropes : Int32) (t_span : Int32) (t_tied : Int32) : va_W := [(h_t, .inr (5, [.ref h_t_kinds, .ref h_t_needs, .ref h_t_from, .ref h_t_to, .ref h_t_lasts, .int t_bells, .int t_ropes, .int t_span, .int t_tied]))]
def M_X5_hasBell (t_bells : Int32) (a1 : Int32) : Option (Int32) := (if a1 < 0 then (some (0 : Int32)) else (if t_bells ≤ a1 then (some (0 : Int32)) else (some (1 : Int32))))
set_option maxHeartbeats 4000000 in
set_option maxRecDepth 100000 in
theorem c_X5_hasBell (l : Launch) (G : GT) (h_t : Nat) (h_t_kinds : Nat) (h_t_needs : Nat) (h_t_from : Nat) (h_t_to : Nat) (h_t_lasts : Nat) (t_bells : Int32) (t_ropes : Int32) (t_span : Int32) (t_tied : Int32) (a1 : Int32) {u : Int32} (hm : M_X5_hasBell t_bells a1 = some u) : CT l yX5_hasBell cX5_hasBell 2 (some .boolean) 0 0 [.ref h_t, .int a1] G (w_X5_hasBell G h_t h_t_kinds h_t_needs h_t_from h_t_to h_t_lasts t_bells t_ropes t_span t_tied) (some (.int u)) (w_X5_hasBell G h_t h_t_kinds h_t_needs h_t_from h_t_to h_t_lasts t_bells t_ropes t_span t_tied) := by
  refine ct_intro RX5 [(0, .ref h_t), (1, .int a1)] (by decide) rfl (Nat.le_of_ble_eq_true rfl) rfl (fun X hX cx => ?_)
  unfold M_X5_hasBell at hm
  refine k_iload_n 0 cx dX5_hasBell_0 rfl 1 rfl ?_
  refine k_if_lt 1 cx (tgt := 16) dX5_hasBell_1 (by decide) hm (fun hc hm => ?_) (fun hc hm => ?_)
  · refine k_iconst 16 cx (v := (0 : Int32)) dX5_hasBell_16 (by decide) ?_
    obtain rfl := Option.some.inj hm
    exact k_zret 17 cx dX5_hasBell_17 (by decide) rfl rfl
  · refine k_iload_n 4 cx dX5_hasBell_4 rfl 1 rfl ?_
    refine k_aload_n 5 cx dX5_hasBell_5 rfl 0 rfl ?_
    refine fgX5_27 6 cx dX5_hasBell_6 0 rfl rfl ?_
    refine k_icmp_ge 9 cx (tgt := 16) dX5_hasBell_9 (by decide) hm (fun hc hm => ?_) (fun hc hm => ?_)
    · refine k_iconst 16 cx (v := (0 : Int32)) dX5_hasBell_16 (by decide) ?_
      obtain rfl := Option.some.inj hm
      exact k_zret 17 cx dX5_hasBell_17 (by decide) rfl rfl
    · refine k_iconst 12 cx (v := (1 : Int32)) dX5_hasBell_12 (by decide) ?_
      refine k_goto 13 cx (tgt := 17) dX5_hasBell_13 (by decide) ?_
      obtain rfl := Option.some.inj hm
      exact k_zret 17 cx dX5_hasBell_17 (by decide) rfl rfl
set_option maxRecDepth 100000 in
theorem fgX4_71 {X : XT} {Q : State → Prop} {G : GT} {A : Nat → Prop} {nL : Nat} {lv : List (Nat × Value)} {st : List Value} {ws : va_W} {cc : ByteArray} {fr lo : Nat} {ret : Option FieldType} (pc : Nat) (cx : Cx X cc nL RX4 G fr lo ret) {a : Nat} {fs : List Value} {v : Value} (hd : decode cc pc = .ok (.getfield 71, 3)) (q0 : Nat) (he : ws[q0]? = some (a, .inr (5, fs))) (hv : fs[4]? = some v) (k : KJ X Q G A nL (pc + 3) lv (v :: st) ws) : KJ X Q G A nL pc lv (.ref a :: st) ws :=
  k_get (ref := RX5) (T := TX5) (N := 9) (ci := 5) pc cx inX5 rfl 4 (by decide) (tb_m (i := 94) rfl rfl) rfl hd q0 he hv k
set_option maxRecDepth 100000 in
theorem fpX4_49 {X : XT} {Q : State → Prop} {G : GT} {A : Nat → Prop} {nL : Nat} {lv : List (Nat × Value)} {st : List Value} {ws : va_W} {cc : ByteArray} {fr lo : Nat} {ret : Option FieldType} (pc : Nat) (cx : Cx X cc nL RX4 G fr lo ret) {a : Nat} {fs : List Value} {v : Value} (hd : decode cc pc = .ok (.putfield 49, 3)) (q0 : Nat) (he : ws[q0]? = some (a, .inr (5, fs))) (hn : narrow .int v = v) (hfit : fits .int v = true) (hlen : 6 < fs.length) (w1 : va_W) (hw : ws.set q0 (a, .inr (5, fs.set 6 v)) = w1) (k : KJ X Q G A nL (pc + 3) lv st w1) : KJ X Q G A nL pc lv (v :: .ref a :: st) ws :=
  k_put (ref := RX5) (T := TX5) (N := 9) (ci := 5) (ty := .int) pc cx inX5 rfl tyX5 tyX5_ok nmX5 6 (by decide) (tb_m (i := 102) rfl rfl) rfl rfl (by decide +kernel) hd q0 he hn hfit hlen w1 hw k
def w_X4_takesLong (G : GT) (h_t : Nat) (h_t_told : Nat) (h_t_told_lasts : Nat) (h_t_told_kinds : Nat) (h_t_told_needs : Nat) (h_t_told_from : Nat) (h_t_told_to : Nat) (t_state : Int32) (t_told_bells : Int32) (t_told_ropes : Int32) (t_told_span : Int32) (t_told_tied : Int32) (t_told_lasts : (Nat → Int32)) : va_W := [(h_t, .inr (4, [.ref h_t_told, .int t_state])), (h_t_told, .inr (5, [.ref h_t_told_kinds, .ref h_t_told_needs, .ref h_t_told_from, .ref h_t_told_to, .ref h_t_told_lasts, .int t_told_bells, .int t_told_ropes, .int t_told_span, .int t_told_tied])), (h_t_told_lasts, .inl (G.2.1, 9, .inl t_told_lasts))]
def M_X4_takesLong (t_state : Int32) (t_told_ropes : Int32) (t_told_lasts : (Nat → Int32)) (a1 : Int32) : Option (Int32 × Int32 × Int32 × (Nat → Int32)) := (if a1 < (1 : Int32) then (some ((0 : Int32), t_state, t_told_ropes, t_told_lasts)) else (if a1 ≤ (9 : Int32) then (gB (inb t_told_ropes 9) (nme (upd t_told_lasts (Int32.toNatClampNeg t_told_ropes) a1) (fun f1 => (nme (t_told_ropes + (1 : Int32)) (fun v2 => (some ((1 : Int32), (1 : Int32), v2, f1))))))) else (some ((0 : Int32), t_state, t_told_ropes, t_told_lasts))))
set_option maxHeartbeats 4000000 in
set_option maxRecDepth 100000 in
theorem c_X4_takesLong (l : Launch) (G : GT) (h_t : Nat) (h_t_told : Nat) (h_t_told_lasts : Nat) (h_t_told_kinds : Nat) (h_t_told_needs : Nat) (h_t_told_from : Nat) (h_t_told_to : Nat) (t_state : Int32) (t_told_bells : Int32) (t_told_ropes : Int32) (t_told_span : Int32) (t_told_tied : Int32) (t_told_lasts : (Nat → Int32)) (a1 : Int32) {u : Int32 × Int32 × Int32 × (Nat → Int32)} (hm : M_X4_takesLong t_state t_told_ropes t_told_lasts a1 = some u) : CT l yX4_takesLong cX4_takesLong 2 (some .boolean) 0 0 [.ref h_t, .int a1] G (w_X4_takesLong G h_t h_t_told h_t_told_lasts h_t_told_kinds h_t_told_needs h_t_told_from h_t_told_to t_state t_told_bells t_told_ropes t_told_span t_told_tied t_told_lasts) (some (.int u.1)) (w_X4_takesLong G h_t h_t_told h_t_told_lasts h_t_told_kinds h_t_told_needs h_t_told_from h_t_told_to u.2.1 t_told_bells u.2.2.1 t_told_span t_told_tied u.2.2.2) := by
  refine ct_intro RX4 [(0, .ref h_t), (1, .int a1)] (by decide) rfl (Nat.le_of_ble_eq_true rfl) rfl (fun X hX cx => ?_)
  unfold M_X4_takesLong at hm
  refine k_iload_n 0 cx dX4_takesLong_0 rfl 1 rfl ?_
  refine k_iconst 1 cx (v := (1 : Int32)) dX4_takesLong_1 (by decide) ?_
  refine k_icmp_lt 2 cx (tgt := 11) dX4_takesLong_2 (by decide) hm (fun hc hm => ?_) (fun hc hm => ?_)
  · refine k_iconst 11 cx (v := (0 : Int32)) dX4_takesLong_11 (by decide) ?_
    obtain rfl := Option.some.inj hm
    exact k_zret 12 cx dX4_takesLong_12 (by decide) rfl rfl
  · refine k_iload_n 5 cx dX4_takesLong_5 rfl 1 rfl ?_
    refine k_bipush 6 cx (v := (9 : Int32)) dX4_takesLong_6 (by decide) ?_
    refine k_icmp_le 8 cx (tgt := 13) dX4_takesLong_8 (by decide) hm (fun hc hm => ?_) (fun hc hm => ?_)
    · refine k_aload_n 13 cx dX4_takesLong_13 rfl 0 rfl ?_
      refine fgX4_12 14 cx dX4_takesLong_14 0 rfl rfl ?_
      refine fgX4_71 17 cx dX4_takesLong_17 1 rfl rfl ?_
      refine k_aload_n 20 cx dX4_takesLong_20 rfl 0 rfl ?_
      refine fgX4_12 21 cx dX4_takesLong_21 0 rfl rfl ?_
      refine fgX4_49 24 cx dX4_takesLong_24 1 rfl rfl ?_
      refine k_iload_n 27 cx dX4_takesLong_27 rfl 1 rfl ?_
      refine k_iast 28 cx dX4_takesLong_28 2 rfl (fun f1 => (w_X4_takesLong G h_t h_t_told h_t_told_lasts h_t_told_kinds h_t_told_needs h_t_told_from h_t_told_to t_state t_told_bells t_told_ropes t_told_span t_told_tied f1)) (fun _ => rfl) hm (fun f1 hm => ?_)
      refine k_aload_n 29 cx dX4_takesLong_29 rfl 0 rfl ?_
      refine fgX4_12 30 cx dX4_takesLong_30 0 rfl rfl ?_
      refine k_dup 33 cx dX4_takesLong_33 rfl ?_
      refine fgX4_49 34 cx dX4_takesLong_34 1 rfl rfl ?_
      refine k_iconst 37 cx (v := (1 : Int32)) dX4_takesLong_37 (by decide) ?_
      refine k_iadd 38 cx dX4_takesLong_38 ?_
      refine k_nm hm (fun v2 hm => ?_)
      refine fpX4_49 39 cx dX4_takesLong_39 1 rfl rfl rfl (by simp) (w1 := (w_X4_takesLong G h_t h_t_told h_t_told_lasts h_t_told_kinds h_t_told_needs h_t_told_from h_t_told_to t_state t_told_bells v2 t_told_span t_told_tied f1)) rfl ?_
      refine k_aload_n 42 cx dX4_takesLong_42 rfl 0 rfl ?_
      refine k_iconst 43 cx (v := (1 : Int32)) dX4_takesLong_43 (by decide) ?_
      refine fpX4_21 44 cx dX4_takesLong_44 0 rfl rfl rfl (by simp) (w1 := (w_X4_takesLong G h_t h_t_told h_t_told_lasts h_t_told_kinds h_t_told_needs h_t_told_from h_t_told_to (1 : Int32) t_told_bells v2 t_told_span t_told_tied f1)) rfl ?_
      refine k_iconst 47 cx (v := (1 : Int32)) dX4_takesLong_47 (by decide) ?_
      obtain rfl := Option.some.inj hm
      exact k_zret 48 cx dX4_takesLong_48 (by decide) rfl rfl
    · refine k_iconst 11 cx (v := (0 : Int32)) dX4_takesLong_11 (by decide) ?_
      obtain rfl := Option.some.inj hm
      exact k_zret 12 cx dX4_takesLong_12 (by decide) rfl rfl
set_option maxRecDepth 100000 in
theorem fgX4_21 {X : XT} {Q : State → Prop} {G : GT} {A : Nat → Prop} {nL : Nat} {lv : List (Nat × Value)} {st : List Value} {ws : va_W} {cc : ByteArray} {fr lo : Nat} {ret : Option FieldType} (pc : Nat) (cx : Cx X cc nL RX4 G fr lo ret) {a : Nat} {fs : List Value} {v : Value} (hd : decode cc pc = .ok (.getfield 21, 3)) (q0 : Nat) (he : ws[q0]? = some (a, .inr (4, fs))) (hv : fs[1]? = some v) (k : KJ X Q G A nL (pc + 3) lv (v :: st) ws) : KJ X Q G A nL pc lv (.ref a :: st) ws :=
  k_get (ref := RX4) (T := TX4) (N := 2) (ci := 4) pc cx inX4 rfl 1 (by decide) (tb_m (i := 138) rfl rfl) rfl hd q0 he hv k
set_option maxRecDepth 100000 in
theorem fgX4_65 {X : XT} {Q : State → Prop} {G : GT} {A : Nat → Prop} {nL : Nat} {lv : List (Nat × Value)} {st : List Value} {ws : va_W} {cc : ByteArray} {fr lo : Nat} {ret : Option FieldType} (pc : Nat) (cx : Cx X cc nL RX4 G fr lo ret) {a : Nat} {fs : List Value} {v : Value} (hd : decode cc pc = .ok (.getfield 65, 3)) (q0 : Nat) (he : ws[q0]? = some (a, .inr (5, fs))) (hv : fs[2]? = some v) (k : KJ X Q G A nL (pc + 3) lv (v :: st) ws) : KJ X Q G A nL pc lv (.ref a :: st) ws :=
  k_get (ref := RX5) (T := TX5) (N := 9) (ci := 5) pc cx inX5 rfl 2 (by decide) (tb_m (i := 86) rfl rfl) rfl hd q0 he hv k
set_option maxRecDepth 100000 in
theorem fgX4_68 {X : XT} {Q : State → Prop} {G : GT} {A : Nat → Prop} {nL : Nat} {lv : List (Nat × Value)} {st : List Value} {ws : va_W} {cc : ByteArray} {fr lo : Nat} {ret : Option FieldType} (pc : Nat) (cx : Cx X cc nL RX4 G fr lo ret) {a : Nat} {fs : List Value} {v : Value} (hd : decode cc pc = .ok (.getfield 68, 3)) (q0 : Nat) (he : ws[q0]? = some (a, .inr (5, fs))) (hv : fs[3]? = some v) (k : KJ X Q G A nL (pc + 3) lv (v :: st) ws) : KJ X Q G A nL pc lv (.ref a :: st) ws :=
  k_get (ref := RX5) (T := TX5) (N := 9) (ci := 5) pc cx inX5 rfl 3 (by decide) (tb_m (i := 90) rfl rfl) rfl hd q0 he hv k
set_option maxRecDepth 100000 in
theorem cwX4_59 : CWV RX4 59 RX4 yX4_takesLong cX4_takesLong 2 (some .boolean) 1 4 TX4 2 := ⟨tb_m (i := 330) rfl rfl, tb_m (i := 332) rfl rfl, tb_m (i := 6) rfl rfl, tb_m (i := 53) rfl rfl, tb_m (i := 333) rfl rfl, ⟨by decide +kernel, by decide +kernel, by decide +kernel⟩, rfl⟩
set_option maxRecDepth 100000 in
theorem cwX4_62 : CWV RX4 62 RX5 yX5_hasBell cX5_hasBell 2 (some .boolean) 1 5 TX5 9 := ⟨tb_m (i := 334) rfl rfl, tb_m (i := 335) rfl rfl, tb_m (i := 336) rfl rfl, tb_m (i := 52) rfl rfl, tb_m (i := 337) rfl rfl, ⟨by decide +kernel, by decide +kernel, by decide +kernel⟩, rfl⟩
def w_X4_takesRope (G : GT) (h_t : Nat) (h_t_told : Nat) (h_t_told_to : Nat) (h_t_told_from : Nat) (h_t_told_lasts : Nat) (h_t_told_kinds : Nat) (h_t_told_needs : Nat) (t_state : Int32) (t_told_bells : Int32) (t_told_ropes : Int32) (t_told_span : Int32) (t_told_tied : Int32) (t_told_to : (Nat → Int32)) (t_told_from : (Nat → Int32)) (t_told_lasts : (Nat → Int32)) : va_W := [(h_t, .inr (4, [.ref h_t_told, .int t_state])), (h_t_told, .inr (5, [.ref h_t_told_kinds, .ref h_t_told_needs, .ref h_t_told_from, .ref h_t_told_to, .ref h_t_told_lasts, .int t_told_bells, .int t_told_ropes, .int t_told_span, .int t_told_tied])), (h_t_told_to, .inl (G.2.1, 9, .inl t_told_to)), (h_t_told_from, .inl (G.2.1, 9, .inl t_told_from)), (h_t_told_lasts, .inl (G.2.1, 9, .inl t_told_lasts))]
def M_X4_takesRope (t_state : Int32) (t_told_bells : Int32) (t_told_ropes : Int32) (t_told_to : (Nat → Int32)) (t_told_from : (Nat → Int32)) (t_told_lasts : (Nat → Int32)) (a1 : Int32) : Option (Int32 × Int32 × Int32 × (Nat → Int32) × (Nat → Int32) × (Nat → Int32)) := (if t_state = (5 : Int32) then ((M_X4_takesLong t_state t_told_ropes t_told_lasts a1).bind (fun u4 => (gB (decide (u4.1 = 0 ∨ u4.1 = 1)) (some (u4.1, u4.2.1, u4.2.2.1, t_told_to, t_told_from, u4.2.2.2))))) else ((M_X5_hasBell t_told_bells a1).bind (fun u1 => (if u1 = 0 then (some ((0 : Int32), t_state, t_told_ropes, t_told_to, t_told_from, t_told_lasts)) else (if t_state = (3 : Int32) then (gB (inb t_told_ropes 9) (nme (upd t_told_from (Int32.toNatClampNeg t_told_ropes) a1) (fun f3 => (some ((1 : Int32), (4 : Int32), t_told_ropes, t_told_to, f3, t_told_lasts))))) else (gB (inb t_told_ropes 9) (nme (upd t_told_to (Int32.toNatClampNeg t_told_ropes) a1) (fun f2 => (some ((1 : Int32), (5 : Int32), t_told_ropes, f2, t_told_from, t_told_lasts))))))))))
set_option maxHeartbeats 4000000 in
set_option maxRecDepth 100000 in
theorem c_X4_takesRope (l : Launch) (G : GT) (h_t : Nat) (h_t_told : Nat) (h_t_told_to : Nat) (h_t_told_from : Nat) (h_t_told_lasts : Nat) (h_t_told_kinds : Nat) (h_t_told_needs : Nat) (t_state : Int32) (t_told_bells : Int32) (t_told_ropes : Int32) (t_told_span : Int32) (t_told_tied : Int32) (t_told_to : (Nat → Int32)) (t_told_from : (Nat → Int32)) (t_told_lasts : (Nat → Int32)) (a1 : Int32) {u : Int32 × Int32 × Int32 × (Nat → Int32) × (Nat → Int32) × (Nat → Int32)} (hm : M_X4_takesRope t_state t_told_bells t_told_ropes t_told_to t_told_from t_told_lasts a1 = some u) : CT l yX4_takesRope cX4_takesRope 2 (some .boolean) 1 21 [.ref h_t, .int a1] G (w_X4_takesRope G h_t h_t_told h_t_told_to h_t_told_from h_t_told_lasts h_t_told_kinds h_t_told_needs t_state t_told_bells t_told_ropes t_told_span t_told_tied t_told_to t_told_from t_told_lasts) (some (.int u.1)) (w_X4_takesRope G h_t h_t_told h_t_told_to h_t_told_from h_t_told_lasts h_t_told_kinds h_t_told_needs u.2.1 t_told_bells u.2.2.1 t_told_span t_told_tied u.2.2.2.1 u.2.2.2.2.1 u.2.2.2.2.2) := by
  refine ct_intro RX4 [(0, .ref h_t), (1, .int a1)] (by decide) rfl (Nat.le_of_ble_eq_true rfl) rfl (fun X hX cx => ?_)
  unfold M_X4_takesRope at hm
  refine k_aload_n 0 cx dX4_takesRope_0 rfl 0 rfl ?_
  refine fgX4_21 1 cx dX4_takesRope_1 0 rfl rfl ?_
  refine k_iconst 4 cx (v := (5 : Int32)) dX4_takesRope_4 (by decide) ?_
  refine k_icmp_ne 5 cx (tgt := 14) dX4_takesRope_5 (by decide) hm (fun hc hm => ?_) (fun hc hm => ?_)
  · refine k_aload_n 8 cx dX4_takesRope_8 rfl 0 rfl ?_
    refine k_iload_n 9 cx dX4_takesRope_9 rfl 1 rfl ?_
    obtain ⟨u4, hu4, hm⟩ := bnd hm
    refine k_callV 10 cx cwX4_59 (c_X4_takesLong X.2.1 G h_t h_t_told h_t_told_lasts h_t_told_kinds h_t_told_needs h_t_told_from h_t_told_to t_state t_told_bells t_told_ropes t_told_span t_told_tied t_told_lasts a1 hu4) dX4_takesRope_10 ⟨by decide, by decide⟩ rfl rfl (rest := []) rfl (Nat.le_of_ble_eq_true rfl) [0, 1, 4] (by decide) rfl rfl (w2 := (w_X4_takesRope G h_t h_t_told h_t_told_to h_t_told_from h_t_told_lasts h_t_told_kinds h_t_told_needs u4.2.1 t_told_bells u4.2.2.1 t_told_span t_told_tied t_told_to t_told_from u4.2.2.2)) [2, 3] 5 rfl [(h_t_told_to, .inl (G.2.1, 9, .inl t_told_to)), (h_t_told_from, .inl (G.2.1, 9, .inl t_told_from))] rfl rfl rfl (by decide) (st2 := [.int u4.1]) rfl ?_
    obtain ⟨hb01, hm⟩ := gB_s hm
    obtain rfl := Option.some.inj hm
    exact k_zret 13 cx dX4_takesRope_13 (of_decide_eq_true hb01) rfl rfl
  · refine k_aload_n 14 cx dX4_takesRope_14 rfl 0 rfl ?_
    refine fgX4_12 15 cx dX4_takesRope_15 0 rfl rfl ?_
    refine k_iload_n 18 cx dX4_takesRope_18 rfl 1 rfl ?_
    obtain ⟨u1, hu1, hm⟩ := bnd hm
    refine k_callV 19 cx cwX4_62 (c_X5_hasBell X.2.1 G h_t_told h_t_told_kinds h_t_told_needs h_t_told_from h_t_told_to h_t_told_lasts t_told_bells t_told_ropes t_told_span t_told_tied a1 hu1) dX4_takesRope_19 ⟨by decide, by decide⟩ rfl rfl (rest := []) rfl (Nat.le_of_ble_eq_true rfl) [1] (by decide) rfl rfl (w2 := (w_X4_takesRope G h_t h_t_told h_t_told_to h_t_told_from h_t_told_lasts h_t_told_kinds h_t_told_needs t_state t_told_bells t_told_ropes t_told_span t_told_tied t_told_to t_told_from t_told_lasts)) [0, 2, 3, 4] 5 rfl [(h_t, .inr (4, [.ref h_t_told, .int t_state])), (h_t_told_to, .inl (G.2.1, 9, .inl t_told_to)), (h_t_told_from, .inl (G.2.1, 9, .inl t_told_from)), (h_t_told_lasts, .inl (G.2.1, 9, .inl t_told_lasts))] rfl rfl rfl (by decide) (st2 := [.int u1]) rfl ?_
    refine k_if_ne 22 cx (tgt := 27) dX4_takesRope_22 (by decide) hm (fun hc hm => ?_) (fun hc hm => ?_)
    · refine k_iconst 25 cx (v := (0 : Int32)) dX4_takesRope_25 (by decide) ?_
      obtain rfl := Option.some.inj hm
      exact k_zret 26 cx dX4_takesRope_26 (by decide) rfl rfl
    · refine k_aload_n 27 cx dX4_takesRope_27 rfl 0 rfl ?_
      refine fgX4_21 28 cx dX4_takesRope_28 0 rfl rfl ?_
      refine k_iconst 31 cx (v := (3 : Int32)) dX4_takesRope_31 (by decide) ?_
      refine k_icmp_ne 32 cx (tgt := 59) dX4_takesRope_32 (by decide) hm (fun hc hm => ?_) (fun hc hm => ?_)
      · refine k_aload_n 35 cx dX4_takesRope_35 rfl 0 rfl ?_
        refine fgX4_12 36 cx dX4_takesRope_36 0 rfl rfl ?_
        refine fgX4_65 39 cx dX4_takesRope_39 1 rfl rfl ?_
        refine k_aload_n 42 cx dX4_takesRope_42 rfl 0 rfl ?_
        refine fgX4_12 43 cx dX4_takesRope_43 0 rfl rfl ?_
        refine fgX4_49 46 cx dX4_takesRope_46 1 rfl rfl ?_
        refine k_iload_n 49 cx dX4_takesRope_49 rfl 1 rfl ?_
        refine k_iast 50 cx dX4_takesRope_50 3 rfl (fun f3 => (w_X4_takesRope G h_t h_t_told h_t_told_to h_t_told_from h_t_told_lasts h_t_told_kinds h_t_told_needs t_state t_told_bells t_told_ropes t_told_span t_told_tied t_told_to f3 t_told_lasts)) (fun _ => rfl) hm (fun f3 hm => ?_)
        refine k_aload_n 51 cx dX4_takesRope_51 rfl 0 rfl ?_
        refine k_iconst 52 cx (v := (4 : Int32)) dX4_takesRope_52 (by decide) ?_
        refine fpX4_21 53 cx dX4_takesRope_53 0 rfl rfl rfl (by simp) (w1 := (w_X4_takesRope G h_t h_t_told h_t_told_to h_t_told_from h_t_told_lasts h_t_told_kinds h_t_told_needs (4 : Int32) t_told_bells t_told_ropes t_told_span t_told_tied t_told_to f3 t_told_lasts)) rfl ?_
        refine k_goto 56 cx (tgt := 80) dX4_takesRope_56 (by decide) ?_
        refine k_iconst 80 cx (v := (1 : Int32)) dX4_takesRope_80 (by decide) ?_
        obtain rfl := Option.some.inj hm
        exact k_zret 81 cx dX4_takesRope_81 (by decide) rfl rfl
      · refine k_aload_n 59 cx dX4_takesRope_59 rfl 0 rfl ?_
        refine fgX4_12 60 cx dX4_takesRope_60 0 rfl rfl ?_
        refine fgX4_68 63 cx dX4_takesRope_63 1 rfl rfl ?_
        refine k_aload_n 66 cx dX4_takesRope_66 rfl 0 rfl ?_
        refine fgX4_12 67 cx dX4_takesRope_67 0 rfl rfl ?_
        refine fgX4_49 70 cx dX4_takesRope_70 1 rfl rfl ?_
        refine k_iload_n 73 cx dX4_takesRope_73 rfl 1 rfl ?_
        refine k_iast 74 cx dX4_takesRope_74 2 rfl (fun f2 => (w_X4_takesRope G h_t h_t_told h_t_told_to h_t_told_from h_t_told_lasts h_t_told_kinds h_t_told_needs t_state t_told_bells t_told_ropes t_told_span t_told_tied f2 t_told_from t_told_lasts)) (fun _ => rfl) hm (fun f2 hm => ?_)
        refine k_aload_n 75 cx dX4_takesRope_75 rfl 0 rfl ?_
        refine k_iconst 76 cx (v := (5 : Int32)) dX4_takesRope_76 (by decide) ?_
        refine fpX4_21 77 cx dX4_takesRope_77 0 rfl rfl rfl (by simp) (w1 := (w_X4_takesRope G h_t h_t_told h_t_told_to h_t_told_from h_t_told_lasts h_t_told_kinds h_t_told_needs (5 : Int32) t_told_bells t_told_ropes t_told_span t_told_tied f2 t_told_from t_told_lasts)) rfl ?_
        refine k_iconst 80 cx (v := (1 : Int32)) dX4_takesRope_80 (by decide) ?_
        obtain rfl := Option.some.inj hm
        exact k_zret 81 cx dX4_takesRope_81 (by decide) rfl rfl
set_option maxRecDepth 100000 in
theorem cwX4_32 : CWV RX4 32 RX4 yX4_beginsRope cX4_beginsRope 1 (some .boolean) 0 4 TX4 2 := ⟨tb_m (i := 311) rfl rfl, tb_m (i := 313) rfl rfl, tb_m (i := 2) rfl rfl, tb_m (i := 53) rfl rfl, tb_m (i := 314) rfl rfl, ⟨by decide +kernel, by decide +kernel, by decide +kernel⟩, rfl⟩
set_option maxRecDepth 100000 in
theorem cwX4_36 : CWV RX4 36 RX4 yX4_beginsBell cX4_beginsBell 3 (some .boolean) 1 4 TX4 2 := ⟨tb_m (i := 315) rfl rfl, tb_m (i := 317) rfl rfl, tb_m (i := 3) rfl rfl, tb_m (i := 53) rfl rfl, tb_m (i := 318) rfl rfl, ⟨by decide +kernel, by decide +kernel, by decide +kernel⟩, rfl⟩
set_option maxRecDepth 100000 in
theorem cwX4_39 : CWV RX4 39 RX4 yX4_takesNeeds cX4_takesNeeds 2 (some .boolean) 1 4 TX4 2 := ⟨tb_m (i := 322) rfl rfl, tb_m (i := 324) rfl rfl, tb_m (i := 4) rfl rfl, tb_m (i := 53) rfl rfl, tb_m (i := 325) rfl rfl, ⟨by decide +kernel, by decide +kernel, by decide +kernel⟩, rfl⟩
set_option maxRecDepth 100000 in
theorem cwX4_42 : CWV RX4 42 RX4 yX4_takesRope cX4_takesRope 2 (some .boolean) 1 4 TX4 2 := ⟨tb_m (i := 326) rfl rfl, tb_m (i := 328) rfl rfl, tb_m (i := 5) rfl rfl, tb_m (i := 53) rfl rfl, tb_m (i := 329) rfl rfl, ⟨by decide +kernel, by decide +kernel, by decide +kernel⟩, rfl⟩
def w_X4_goesOnWith (G : GT) (h_t : Nat) (h_t_told : Nat) (h_t_told_kinds : Nat) (h_t_told_needs : Nat) (h_t_told_to : Nat) (h_t_told_from : Nat) (h_t_told_lasts : Nat) (t_state : Int32) (t_told_bells : Int32) (t_told_ropes : Int32) (t_told_span : Int32) (t_told_tied : Int32) (t_told_kinds : (Nat → Int32)) (t_told_needs : (Nat → Int32)) (t_told_to : (Nat → Int32)) (t_told_from : (Nat → Int32)) (t_told_lasts : (Nat → Int32)) : va_W := [(h_t, .inr (4, [.ref h_t_told, .int t_state])), (h_t_told, .inr (5, [.ref h_t_told_kinds, .ref h_t_told_needs, .ref h_t_told_from, .ref h_t_told_to, .ref h_t_told_lasts, .int t_told_bells, .int t_told_ropes, .int t_told_span, .int t_told_tied])), (h_t_told_kinds, .inl (G.2.1, 6, .inl t_told_kinds)), (h_t_told_needs, .inl (G.2.1, 6, .inl t_told_needs)), (h_t_told_to, .inl (G.2.1, 9, .inl t_told_to)), (h_t_told_from, .inl (G.2.1, 9, .inl t_told_from)), (h_t_told_lasts, .inl (G.2.1, 9, .inl t_told_lasts))]
def M_X4_goesOnWith (t_state : Int32) (t_told_bells : Int32) (t_told_ropes : Int32) (t_told_kinds : (Nat → Int32)) (t_told_needs : (Nat → Int32)) (t_told_to : (Nat → Int32)) (t_told_from : (Nat → Int32)) (t_told_lasts : (Nat → Int32)) (a1 : Int32) : Option (Int32 × Int32 × Int32 × Int32 × (Nat → Int32) × (Nat → Int32) × (Nat → Int32) × (Nat → Int32) × (Nat → Int32)) := (if t_state = (0 : Int32) then (if a1 = (118 : Int32) then (some ((1 : Int32), (1 : Int32), t_told_bells, t_told_ropes, t_told_kinds, t_told_needs, t_told_to, t_told_from, t_told_lasts)) else (some ((0 : Int32), (1 : Int32), t_told_bells, t_told_ropes, t_told_kinds, t_told_needs, t_told_to, t_told_from, t_told_lasts))) else (if t_state = (1 : Int32) then (if a1 = (59 : Int32) then ((M_X4_beginsRope t_state t_told_bells t_told_ropes).bind (fun u2 => (gB (decide (u2.1 = 0 ∨ u2.1 = 1)) (some (u2.1, u2.2, t_told_bells, t_told_ropes, t_told_kinds, t_told_needs, t_told_to, t_told_from, t_told_lasts))))) else ((M_X4_beginsBell t_state t_told_bells t_told_ropes t_told_kinds a1).bind (fun u1 => (gB (decide (u1.1 = 0 ∨ u1.1 = 1)) (some (u1.1, u1.2.1, t_told_bells, t_told_ropes, u1.2.2, t_told_needs, t_told_to, t_told_from, t_told_lasts)))))) else (if t_state = (2 : Int32) then ((M_X4_takesNeeds t_state t_told_bells t_told_needs (a1 - (48 : Int32))).bind (fun u3 => (gB (decide (u3.1 = 0 ∨ u3.1 = 1)) (some (u3.1, u3.2.1, u3.2.2.1, t_told_ropes, t_told_kinds, u3.2.2.2, t_told_to, t_told_from, t_told_lasts))))) else ((M_X4_takesRope t_state t_told_bells t_told_ropes t_told_to t_told_from t_told_lasts (a1 - (48 : Int32))).bind (fun u4 => (gB (decide (u4.1 = 0 ∨ u4.1 = 1)) (some (u4.1, u4.2.1, t_told_bells, u4.2.2.1, t_told_kinds, t_told_needs, u4.2.2.2.1, u4.2.2.2.2.1, u4.2.2.2.2.2))))))))
set_option maxHeartbeats 4000000 in
set_option maxRecDepth 100000 in
theorem c_X4_goesOnWith (l : Launch) (G : GT) (h_t : Nat) (h_t_told : Nat) (h_t_told_kinds : Nat) (h_t_told_needs : Nat) (h_t_told_to : Nat) (h_t_told_from : Nat) (h_t_told_lasts : Nat) (t_state : Int32) (t_told_bells : Int32) (t_told_ropes : Int32) (t_told_span : Int32) (t_told_tied : Int32) (t_told_kinds : (Nat → Int32)) (t_told_needs : (Nat → Int32)) (t_told_to : (Nat → Int32)) (t_told_from : (Nat → Int32)) (t_told_lasts : (Nat → Int32)) (a1 : Int32) {u : Int32 × Int32 × Int32 × Int32 × (Nat → Int32) × (Nat → Int32) × (Nat → Int32) × (Nat → Int32) × (Nat → Int32)} (hm : M_X4_goesOnWith t_state t_told_bells t_told_ropes t_told_kinds t_told_needs t_told_to t_told_from t_told_lasts a1 = some u) : CT l yX4_goesOnWith cX4_goesOnWith 2 (some .boolean) 2 42 [.ref h_t, .int a1] G (w_X4_goesOnWith G h_t h_t_told h_t_told_kinds h_t_told_needs h_t_told_to h_t_told_from h_t_told_lasts t_state t_told_bells t_told_ropes t_told_span t_told_tied t_told_kinds t_told_needs t_told_to t_told_from t_told_lasts) (some (.int u.1)) (w_X4_goesOnWith G h_t h_t_told h_t_told_kinds h_t_told_needs h_t_told_to h_t_told_from h_t_told_lasts u.2.1 u.2.2.1 u.2.2.2.1 t_told_span t_told_tied u.2.2.2.2.1 u.2.2.2.2.2.1 u.2.2.2.2.2.2.1 u.2.2.2.2.2.2.2.1 u.2.2.2.2.2.2.2.2) := by
  refine ct_intro RX4 [(0, .ref h_t), (1, .int a1)] (by decide) rfl (Nat.le_of_ble_eq_true rfl) rfl (fun X hX cx => ?_)
  unfold M_X4_goesOnWith at hm
  refine k_aload_n 0 cx dX4_goesOnWith_0 rfl 0 rfl ?_
  refine fgX4_21 1 cx dX4_goesOnWith_1 0 rfl rfl ?_
  rcases m_if hm with ⟨hc0, hm⟩ | ⟨hc0, hm⟩
  · refine k_tabIn 4 cx (off := 28) (tgt := 32) (0 : Int32) hc0 dX4_goesOnWith_4 ⟨by decide, by decide, rfl, by decide⟩ ?_
    refine k_aload_n 32 cx dX4_goesOnWith_32 rfl 0 rfl ?_
    refine k_iconst 33 cx (v := (1 : Int32)) dX4_goesOnWith_33 (by decide) ?_
    refine fpX4_21 34 cx dX4_goesOnWith_34 0 rfl rfl rfl (by simp) (w1 := (w_X4_goesOnWith G h_t h_t_told h_t_told_kinds h_t_told_needs h_t_told_to h_t_told_from h_t_told_lasts (1 : Int32) t_told_bells t_told_ropes t_told_span t_told_tied t_told_kinds t_told_needs t_told_to t_told_from t_told_lasts)) rfl ?_
    refine k_iload_n 37 cx dX4_goesOnWith_37 rfl 1 rfl ?_
    refine k_bipush 38 cx (v := (118 : Int32)) dX4_goesOnWith_38 (by decide) ?_
    refine k_icmp_ne 40 cx (tgt := 47) dX4_goesOnWith_40 (by decide) hm (fun hc hm => ?_) (fun hc hm => ?_)
    · refine k_iconst 43 cx (v := (1 : Int32)) dX4_goesOnWith_43 (by decide) ?_
      refine k_goto 44 cx (tgt := 48) dX4_goesOnWith_44 (by decide) ?_
      obtain rfl := Option.some.inj hm
      exact k_zret 48 cx dX4_goesOnWith_48 (by decide) rfl rfl
    · refine k_iconst 47 cx (v := (0 : Int32)) dX4_goesOnWith_47 (by decide) ?_
      obtain rfl := Option.some.inj hm
      exact k_zret 48 cx dX4_goesOnWith_48 (by decide) rfl rfl
  · rcases m_if hm with ⟨hc1, hm⟩ | ⟨hc1, hm⟩
    · refine k_tabIn 4 cx (off := 45) (tgt := 49) (1 : Int32) hc1 dX4_goesOnWith_4 ⟨by decide, by decide, rfl, by decide⟩ ?_
      refine k_iload_n 49 cx dX4_goesOnWith_49 rfl 1 rfl ?_
      refine k_bipush 50 cx (v := (59 : Int32)) dX4_goesOnWith_50 (by decide) ?_
      refine k_icmp_ne 52 cx (tgt := 62) dX4_goesOnWith_52 (by decide) hm (fun hc hm => ?_) (fun hc hm => ?_)
      · refine k_aload_n 55 cx dX4_goesOnWith_55 rfl 0 rfl ?_
        obtain ⟨u2, hu2, hm⟩ := bnd hm
        refine k_callV 56 cx cwX4_32 (c_X4_beginsRope X.2.1 G h_t h_t_told h_t_told_kinds h_t_told_needs h_t_told_from h_t_told_to h_t_told_lasts t_state t_told_bells t_told_ropes t_told_span t_told_tied hu2) dX4_goesOnWith_56 ⟨by decide, by decide⟩ rfl rfl (rest := []) rfl (Nat.le_of_ble_eq_true rfl) [0, 1] (by decide) rfl rfl (w2 := (w_X4_goesOnWith G h_t h_t_told h_t_told_kinds h_t_told_needs h_t_told_to h_t_told_from h_t_told_lasts u2.2 t_told_bells t_told_ropes t_told_span t_told_tied t_told_kinds t_told_needs t_told_to t_told_from t_told_lasts)) [2, 3, 4, 5, 6] 7 rfl [(h_t_told_kinds, .inl (G.2.1, 6, .inl t_told_kinds)), (h_t_told_needs, .inl (G.2.1, 6, .inl t_told_needs)), (h_t_told_to, .inl (G.2.1, 9, .inl t_told_to)), (h_t_told_from, .inl (G.2.1, 9, .inl t_told_from)), (h_t_told_lasts, .inl (G.2.1, 9, .inl t_told_lasts))] rfl rfl rfl (by decide) (st2 := [.int u2.1]) rfl ?_
        refine k_goto 59 cx (tgt := 67) dX4_goesOnWith_59 (by decide) ?_
        obtain ⟨hb01, hm⟩ := gB_s hm
        obtain rfl := Option.some.inj hm
        exact k_zret 67 cx dX4_goesOnWith_67 (of_decide_eq_true hb01) rfl rfl
      · refine k_aload_n 62 cx dX4_goesOnWith_62 rfl 0 rfl ?_
        refine k_iload_n 63 cx dX4_goesOnWith_63 rfl 1 rfl ?_
        obtain ⟨u1, hu1, hm⟩ := bnd hm
        refine k_callV 64 cx cwX4_36 (c_X4_beginsBell X.2.1 G h_t h_t_told h_t_told_kinds h_t_told_needs h_t_told_from h_t_told_to h_t_told_lasts t_state t_told_bells t_told_ropes t_told_span t_told_tied t_told_kinds a1 hu1) dX4_goesOnWith_64 ⟨by decide, by decide⟩ rfl rfl (rest := []) rfl (Nat.le_of_ble_eq_true rfl) [0, 1, 2] (by decide) rfl rfl (w2 := (w_X4_goesOnWith G h_t h_t_told h_t_told_kinds h_t_told_needs h_t_told_to h_t_told_from h_t_told_lasts u1.2.1 t_told_bells t_told_ropes t_told_span t_told_tied u1.2.2 t_told_needs t_told_to t_told_from t_told_lasts)) [3, 4, 5, 6] 7 rfl [(h_t_told_needs, .inl (G.2.1, 6, .inl t_told_needs)), (h_t_told_to, .inl (G.2.1, 9, .inl t_told_to)), (h_t_told_from, .inl (G.2.1, 9, .inl t_told_from)), (h_t_told_lasts, .inl (G.2.1, 9, .inl t_told_lasts))] rfl rfl rfl (by decide) (st2 := [.int u1.1]) rfl ?_
        obtain ⟨hb01, hm⟩ := gB_s hm
        obtain rfl := Option.some.inj hm
        exact k_zret 67 cx dX4_goesOnWith_67 (of_decide_eq_true hb01) rfl rfl
    · rcases m_if hm with ⟨hc2, hm⟩ | ⟨hc2, hm⟩
      · refine k_tabIn 4 cx (off := 64) (tgt := 68) (2 : Int32) hc2 dX4_goesOnWith_4 ⟨by decide, by decide, rfl, by decide⟩ ?_
        refine k_aload_n 68 cx dX4_goesOnWith_68 rfl 0 rfl ?_
        refine k_iload_n 69 cx dX4_goesOnWith_69 rfl 1 rfl ?_
        refine k_bipush 70 cx (v := (48 : Int32)) dX4_goesOnWith_70 (by decide) ?_
        refine k_isub 72 cx dX4_goesOnWith_72 ?_
        obtain ⟨u3, hu3, hm⟩ := bnd hm
        refine k_callV 73 cx cwX4_39 (c_X4_takesNeeds X.2.1 G h_t h_t_told h_t_told_needs h_t_told_kinds h_t_told_from h_t_told_to h_t_told_lasts t_state t_told_bells t_told_ropes t_told_span t_told_tied t_told_needs (a1 - (48 : Int32)) hu3) dX4_goesOnWith_73 ⟨by decide, by decide⟩ rfl rfl (rest := []) rfl (Nat.le_of_ble_eq_true rfl) [0, 1, 3] (by decide) rfl rfl (w2 := (w_X4_goesOnWith G h_t h_t_told h_t_told_kinds h_t_told_needs h_t_told_to h_t_told_from h_t_told_lasts u3.2.1 u3.2.2.1 t_told_ropes t_told_span t_told_tied t_told_kinds u3.2.2.2 t_told_to t_told_from t_told_lasts)) [2, 4, 5, 6] 7 rfl [(h_t_told_kinds, .inl (G.2.1, 6, .inl t_told_kinds)), (h_t_told_to, .inl (G.2.1, 9, .inl t_told_to)), (h_t_told_from, .inl (G.2.1, 9, .inl t_told_from)), (h_t_told_lasts, .inl (G.2.1, 9, .inl t_told_lasts))] rfl rfl rfl (by decide) (st2 := [.int u3.1]) rfl ?_
        obtain ⟨hb01, hm⟩ := gB_s hm
        obtain rfl := Option.some.inj hm
        exact k_zret 76 cx dX4_goesOnWith_76 (of_decide_eq_true hb01) rfl rfl
      · have n0 : t_state.toInt ≠ 0 := fun h => hc0 (Int32.toInt_inj.mp (h.trans rfl))
        have n1 : t_state.toInt ≠ 1 := fun h => hc1 (Int32.toInt_inj.mp (h.trans rfl))
        have n2 : t_state.toInt ≠ 2 := fun h => hc2 (Int32.toInt_inj.mp (h.trans rfl))
        refine k_tabOut 4 cx (tgt := 77) dX4_goesOnWith_4 (by omega) (by decide) ?_
        refine k_aload_n 77 cx dX4_goesOnWith_77 rfl 0 rfl ?_
        refine k_iload_n 78 cx dX4_goesOnWith_78 rfl 1 rfl ?_
        refine k_bipush 79 cx (v := (48 : Int32)) dX4_goesOnWith_79 (by decide) ?_
        refine k_isub 81 cx dX4_goesOnWith_81 ?_
        obtain ⟨u4, hu4, hm⟩ := bnd hm
        refine k_callV 82 cx cwX4_42 (c_X4_takesRope X.2.1 G h_t h_t_told h_t_told_to h_t_told_from h_t_told_lasts h_t_told_kinds h_t_told_needs t_state t_told_bells t_told_ropes t_told_span t_told_tied t_told_to t_told_from t_told_lasts (a1 - (48 : Int32)) hu4) dX4_goesOnWith_82 ⟨by decide, by decide⟩ rfl rfl (rest := []) rfl (Nat.le_of_ble_eq_true rfl) [0, 1, 4, 5, 6] (by decide) rfl rfl (w2 := (w_X4_goesOnWith G h_t h_t_told h_t_told_kinds h_t_told_needs h_t_told_to h_t_told_from h_t_told_lasts u4.2.1 t_told_bells u4.2.2.1 t_told_span t_told_tied t_told_kinds t_told_needs u4.2.2.2.1 u4.2.2.2.2.1 u4.2.2.2.2.2)) [2, 3] 7 rfl [(h_t_told_kinds, .inl (G.2.1, 6, .inl t_told_kinds)), (h_t_told_needs, .inl (G.2.1, 6, .inl t_told_needs))] rfl rfl rfl (by decide) (st2 := [.int u4.1]) rfl ?_
        obtain ⟨hb01, hm⟩ := gB_s hm
        obtain rfl := Option.some.inj hm
        exact k_zret 85 cx dX4_goesOnWith_85 (of_decide_eq_true hb01) rfl rfl
set_option maxRecDepth 100000 in
theorem cwX4_18 : CWV RX4 18 RX5 yX5_begin cX5_begin 1 none 0 5 TX5 9 := ⟨tb_m (i := 303) rfl rfl, tb_m (i := 304) rfl rfl, tb_m (i := 305) rfl rfl, tb_m (i := 52) rfl rfl, tb_m (i := 306) rfl rfl, ⟨by decide +kernel, by decide +kernel, by decide +kernel⟩, rfl⟩
set_option maxRecDepth 100000 in
theorem cwX4_25 : CWV RX4 25 RX4 yX4_goesOnWith cX4_goesOnWith 2 (some .boolean) 1 4 TX4 2 := ⟨tb_m (i := 307) rfl rfl, tb_m (i := 309) rfl rfl, tb_m (i := 1) rfl rfl, tb_m (i := 53) rfl rfl, tb_m (i := 310) rfl rfl, ⟨by decide +kernel, by decide +kernel, by decide +kernel⟩, rfl⟩
def w_X4_firstFault (G : GT) (h_t : Nat) (h_t_told : Nat) (h_p1 : Nat) (h_t_told_kinds : Nat) (h_t_told_needs : Nat) (h_t_told_to : Nat) (h_t_told_from : Nat) (h_t_told_lasts : Nat) (t_state : Int32) (t_told_bells : Int32) (t_told_ropes : Int32) (t_told_span : Int32) (t_told_tied : Int32) (p1 : (Nat → Int32)) (t_told_kinds : (Nat → Int32)) (t_told_needs : (Nat → Int32)) (t_told_to : (Nat → Int32)) (t_told_from : (Nat → Int32)) (t_told_lasts : (Nat → Int32)) : va_W := [(h_t, .inr (4, [.ref h_t_told, .int t_state])), (h_t_told, .inr (5, [.ref h_t_told_kinds, .ref h_t_told_needs, .ref h_t_told_from, .ref h_t_told_to, .ref h_t_told_lasts, .int t_told_bells, .int t_told_ropes, .int t_told_span, .int t_told_tied])), (h_p1, .inl (G.2.1, 60, .inl p1)), (h_t_told_kinds, .inl (G.2.1, 6, .inl t_told_kinds)), (h_t_told_needs, .inl (G.2.1, 6, .inl t_told_needs)), (h_t_told_to, .inl (G.2.1, 9, .inl t_told_to)), (h_t_told_from, .inl (G.2.1, 9, .inl t_told_from)), (h_t_told_lasts, .inl (G.2.1, 9, .inl t_told_lasts))]
def L_X4_firstFault_15 (x2 : Int32) (x3 : Int32) (p1 : (Nat → Int32)) : Nat → Int32 → Int32 → Int32 → Int32 → (Nat → Int32) → (Nat → Int32) → (Nat → Int32) → (Nat → Int32) → (Nat → Int32) → Option (Nat × Int32 × Int32 × Int32 × Int32 × (Nat → Int32) × (Nat → Int32) × (Nat → Int32) × (Nat → Int32) × (Nat → Int32))
  | 0, _, _, _, _, _, _, _, _, _ => none
  | n + 1, x4, t_state, t_told_bells, t_told_ropes, t_told_kinds, t_told_needs, t_told_to, t_told_from, t_told_lasts => (if x3 ≤ x4 then (some (1, x4, t_state, t_told_bells, t_told_ropes, t_told_kinds, t_told_needs, t_told_to, t_told_from, t_told_lasts)) else (gB (inb (x2 + x4) 60) ((M_X4_goesOnWith t_state t_told_bells t_told_ropes t_told_kinds t_told_needs t_told_to t_told_from t_told_lasts (p1 (Int32.toNatClampNeg (x2 + x4)))).bind (fun u8 => (if u8.1 = 0 then (some (0, x4, u8.2.1, u8.2.2.1, u8.2.2.2.1, u8.2.2.2.2.1, u8.2.2.2.2.2.1, u8.2.2.2.2.2.2.1, u8.2.2.2.2.2.2.2.1, u8.2.2.2.2.2.2.2.2)) else (nme (x4 + (1 : Int32)) (fun v9 => (L_X4_firstFault_15 x2 x3 p1 n v9 u8.2.1 u8.2.2.1 u8.2.2.2.1 u8.2.2.2.2.1 u8.2.2.2.2.2.1 u8.2.2.2.2.2.2.1 u8.2.2.2.2.2.2.2.1 u8.2.2.2.2.2.2.2.2))))))))
def M_X4_firstFault (p1 : (Nat → Int32)) (t_told_kinds : (Nat → Int32)) (t_told_needs : (Nat → Int32)) (t_told_to : (Nat → Int32)) (t_told_from : (Nat → Int32)) (t_told_lasts : (Nat → Int32)) (a2 : Int32) (a3 : Int32) : Option (Int32 × Int32 × Int32 × Int32 × Int32 × Int32 × (Nat → Int32) × (Nat → Int32) × (Nat → Int32) × (Nat → Int32) × (Nat → Int32)) := ((M_X5_begin).bind (fun u1 => ((L_X4_firstFault_15 a2 a3 p1 1000 (0 : Int32) (0 : Int32) u1.1 u1.2.1 t_told_kinds t_told_needs t_told_to t_told_from t_told_lasts).bind (fun u10 => (if u10.1 = 0 then (some (u10.2.1, u10.2.2.1, u10.2.2.2.1, u10.2.2.2.2.1, u1.2.2.1, u1.2.2.2, u10.2.2.2.2.2.1, u10.2.2.2.2.2.2.1, u10.2.2.2.2.2.2.2.1, u10.2.2.2.2.2.2.2.2.1, u10.2.2.2.2.2.2.2.2.2)) else (if u10.2.2.1 = (1 : Int32) then (if u10.2.2.2.1 < (2 : Int32) then (some (a3, u10.2.2.1, u10.2.2.2.1, u10.2.2.2.2.1, u1.2.2.1, u1.2.2.2, u10.2.2.2.2.2.1, u10.2.2.2.2.2.2.1, u10.2.2.2.2.2.2.2.1, u10.2.2.2.2.2.2.2.2.1, u10.2.2.2.2.2.2.2.2.2)) else (some ((-9 : Int32), u10.2.2.1, u10.2.2.2.1, u10.2.2.2.2.1, u1.2.2.1, u1.2.2.2, u10.2.2.2.2.2.1, u10.2.2.2.2.2.2.1, u10.2.2.2.2.2.2.2.1, u10.2.2.2.2.2.2.2.2.1, u10.2.2.2.2.2.2.2.2.2))) else (some (a3, u10.2.2.1, u10.2.2.2.1, u10.2.2.2.2.1, u1.2.2.1, u1.2.2.2, u10.2.2.2.2.2.1, u10.2.2.2.2.2.2.1, u10.2.2.2.2.2.2.2.1, u10.2.2.2.2.2.2.2.2.1, u10.2.2.2.2.2.2.2.2.2))))))))
set_option maxHeartbeats 4000000 in
set_option maxRecDepth 100000 in
theorem c_X4_firstFault (l : Launch) (G : GT) (h_t : Nat) (h_t_told : Nat) (h_p1 : Nat) (h_t_told_kinds : Nat) (h_t_told_needs : Nat) (h_t_told_to : Nat) (h_t_told_from : Nat) (h_t_told_lasts : Nat) (t_state : Int32) (t_told_bells : Int32) (t_told_ropes : Int32) (t_told_span : Int32) (t_told_tied : Int32) (p1 : (Nat → Int32)) (t_told_kinds : (Nat → Int32)) (t_told_needs : (Nat → Int32)) (t_told_to : (Nat → Int32)) (t_told_from : (Nat → Int32)) (t_told_lasts : (Nat → Int32)) (a2 : Int32) (a3 : Int32) {u : Int32 × Int32 × Int32 × Int32 × Int32 × Int32 × (Nat → Int32) × (Nat → Int32) × (Nat → Int32) × (Nat → Int32) × (Nat → Int32)} (hm : M_X4_firstFault p1 t_told_kinds t_told_needs t_told_to t_told_from t_told_lasts a2 a3 = some u) : CT l yX4_firstFault cX4_firstFault 5 (some .int) 3 63 [.ref h_t, .ref h_p1, .int a2, .int a3] G (w_X4_firstFault G h_t h_t_told h_p1 h_t_told_kinds h_t_told_needs h_t_told_to h_t_told_from h_t_told_lasts t_state t_told_bells t_told_ropes t_told_span t_told_tied p1 t_told_kinds t_told_needs t_told_to t_told_from t_told_lasts) (some (.int u.1)) (w_X4_firstFault G h_t h_t_told h_p1 h_t_told_kinds h_t_told_needs h_t_told_to h_t_told_from h_t_told_lasts u.2.1 u.2.2.1 u.2.2.2.1 u.2.2.2.2.1 u.2.2.2.2.2.1 p1 u.2.2.2.2.2.2.1 u.2.2.2.2.2.2.2.1 u.2.2.2.2.2.2.2.2.1 u.2.2.2.2.2.2.2.2.2.1 u.2.2.2.2.2.2.2.2.2.2) := by
  refine ct_intro RX4 [(0, .ref h_t), (1, .ref h_p1), (2, .int a2), (3, .int a3)] (by decide) rfl (Nat.le_of_ble_eq_true rfl) rfl (fun X hX cx => ?_)
  have lp15 : ∀ (Q : State → Prop) (A : Nat → Prop) (x2 : Int32) (x3 : Int32) (t_told_span : Int32) (t_told_tied : Int32) (p1 : (Nat → Int32)) (n : Nat) (x4 : Int32) (t_state : Int32) (t_told_bells : Int32) (t_told_ropes : Int32) (t_told_kinds : (Nat → Int32)) (t_told_needs : (Nat → Int32)) (t_told_to : (Nat → Int32)) (t_told_from : (Nat → Int32)) (t_told_lasts : (Nat → Int32)) (y : Nat × Int32 × Int32 × Int32 × Int32 × (Nat → Int32) × (Nat → Int32) × (Nat → Int32) × (Nat → Int32) × (Nat → Int32)), L_X4_firstFault_15 x2 x3 p1 n x4 t_state t_told_bells t_told_ropes t_told_kinds t_told_needs t_told_to t_told_from t_told_lasts = some y → (y.1 = 0 → KJ X Q G A 5 34 [(4, .int y.2.1)] [] (w_X4_firstFault G h_t h_t_told h_p1 h_t_told_kinds h_t_told_needs h_t_told_to h_t_told_from h_t_told_lasts y.2.2.1 y.2.2.2.1 y.2.2.2.2.1 t_told_span t_told_tied p1 y.2.2.2.2.2.1 y.2.2.2.2.2.2.1 y.2.2.2.2.2.2.2.1 y.2.2.2.2.2.2.2.2.1 y.2.2.2.2.2.2.2.2.2)) → (y.1 = 1 → KJ X Q G A 5 43 [(0, .ref h_t), (3, .int x3)] [] (w_X4_firstFault G h_t h_t_told h_p1 h_t_told_kinds h_t_told_needs h_t_told_to h_t_told_from h_t_told_lasts y.2.2.1 y.2.2.2.1 y.2.2.2.2.1 t_told_span t_told_tied p1 y.2.2.2.2.2.1 y.2.2.2.2.2.2.1 y.2.2.2.2.2.2.2.1 y.2.2.2.2.2.2.2.2.1 y.2.2.2.2.2.2.2.2.2)) → KJ X Q G A 5 15 [(0, .ref h_t), (1, .ref h_p1), (2, .int x2), (3, .int x3), (4, .int x4)] [] (w_X4_firstFault G h_t h_t_told h_p1 h_t_told_kinds h_t_told_needs h_t_told_to h_t_told_from h_t_told_lasts t_state t_told_bells t_told_ropes t_told_span t_told_tied p1 t_told_kinds t_told_needs t_told_to t_told_from t_told_lasts) := by
    intro Q A x2 x3 t_told_span t_told_tied p1 n
    induction n with
    | zero => intro x4 t_state t_told_bells t_told_ropes t_told_kinds t_told_needs t_told_to t_told_from t_told_lasts y hm _ _; exact noS hm
    | succ n ih =>
      intro x4 t_state t_told_bells t_told_ropes t_told_kinds t_told_needs t_told_to t_told_from t_told_lasts y hm k0 k1
      rw [L_X4_firstFault_15] at hm
      refine k_iload 15 cx dX4_firstFault_15 4 rfl ?_
      refine k_iload_n 17 cx dX4_firstFault_17 rfl 3 rfl ?_
      refine k_icmp_ge 18 cx (tgt := 43) dX4_firstFault_18 (by decide) hm (fun hc hm => ?_) (fun hc hm => ?_)
      · obtain rfl := Option.some.inj hm
        refine k_lv [0, 3] rfl ?_
        exact k1 rfl
      · refine k_aload_n 21 cx dX4_firstFault_21 rfl 0 rfl ?_
        refine k_aload_n 22 cx dX4_firstFault_22 rfl 1 rfl ?_
        refine k_iload_n 23 cx dX4_firstFault_23 rfl 2 rfl ?_
        refine k_iload 24 cx dX4_firstFault_24 4 rfl ?_
        refine k_iadd 26 cx dX4_firstFault_26 ?_
        refine k_iald 27 cx dX4_firstFault_27 2 rfl hm (fun hm => ?_)
        obtain ⟨u8, hu8, hm⟩ := bnd hm
        refine k_callV 28 cx cwX4_25 (c_X4_goesOnWith X.2.1 G h_t h_t_told h_t_told_kinds h_t_told_needs h_t_told_to h_t_told_from h_t_told_lasts t_state t_told_bells t_told_ropes t_told_span t_told_tied t_told_kinds t_told_needs t_told_to t_told_from t_told_lasts (p1 (Int32.toNatClampNeg (x2 + x4))) hu8) dX4_firstFault_28 ⟨by decide, by decide⟩ rfl rfl (rest := []) rfl (Nat.le_of_ble_eq_true rfl) [0, 1, 3, 4, 5, 6, 7] (by decide) rfl rfl (w2 := (w_X4_firstFault G h_t h_t_told h_p1 h_t_told_kinds h_t_told_needs h_t_told_to h_t_told_from h_t_told_lasts u8.2.1 u8.2.2.1 u8.2.2.2.1 t_told_span t_told_tied p1 u8.2.2.2.2.1 u8.2.2.2.2.2.1 u8.2.2.2.2.2.2.1 u8.2.2.2.2.2.2.2.1 u8.2.2.2.2.2.2.2.2)) [2] 8 rfl [(h_p1, .inl (G.2.1, 60, .inl p1))] rfl rfl rfl (by decide) (st2 := [.int u8.1]) rfl ?_
        refine k_if_ne 31 cx (tgt := 37) dX4_firstFault_31 (by decide) hm (fun hc hm => ?_) (fun hc hm => ?_)
        · obtain rfl := Option.some.inj hm
          refine k_lv [4] rfl ?_
          exact k0 rfl
        · refine k_iinc 37 cx dX4_firstFault_37 4 rfl (by decide) (by decide) (fun v9 => [(4, .int v9), (0, .ref h_t), (1, .ref h_p1), (2, .int x2), (3, .int x3)]) (fun _ => rfl) hm (fun v9 hm => ?_)
          refine k_goto 40 cx (tgt := 15) dX4_firstFault_40 (by decide) ?_
          refine k_lv [1, 2, 3, 4, 0] rfl ?_
          exact ih v9 u8.2.1 u8.2.2.1 u8.2.2.2.1 u8.2.2.2.2.1 u8.2.2.2.2.2.1 u8.2.2.2.2.2.2.1 u8.2.2.2.2.2.2.2.1 u8.2.2.2.2.2.2.2.2 _ hm k0 k1
  unfold M_X4_firstFault at hm
  refine k_aload_n 0 cx dX4_firstFault_0 rfl 0 rfl ?_
  refine fgX4_12 1 cx dX4_firstFault_1 0 rfl rfl ?_
  obtain ⟨u1, hu1, hm⟩ := bnd hm
  refine k_callV 4 cx cwX4_18 (c_X5_begin X.2.1 G h_t_told h_t_told_kinds h_t_told_needs h_t_told_from h_t_told_to h_t_told_lasts t_told_bells t_told_ropes t_told_span t_told_tied hu1) dX4_firstFault_4 ⟨by decide, by decide⟩ rfl rfl (rest := []) rfl (Nat.le_of_ble_eq_true rfl) [1] (by decide) rfl rfl (w2 := (w_X4_firstFault G h_t h_t_told h_p1 h_t_told_kinds h_t_told_needs h_t_told_to h_t_told_from h_t_told_lasts t_state u1.1 u1.2.1 u1.2.2.1 u1.2.2.2 p1 t_told_kinds t_told_needs t_told_to t_told_from t_told_lasts)) [0, 2, 3, 4, 5, 6, 7] 8 rfl [(h_t, .inr (4, [.ref h_t_told, .int t_state])), (h_p1, .inl (G.2.1, 60, .inl p1)), (h_t_told_kinds, .inl (G.2.1, 6, .inl t_told_kinds)), (h_t_told_needs, .inl (G.2.1, 6, .inl t_told_needs)), (h_t_told_to, .inl (G.2.1, 9, .inl t_told_to)), (h_t_told_from, .inl (G.2.1, 9, .inl t_told_from)), (h_t_told_lasts, .inl (G.2.1, 9, .inl t_told_lasts))] rfl rfl rfl (by decide) (st2 := []) rfl ?_
  refine k_aload_n 7 cx dX4_firstFault_7 rfl 0 rfl ?_
  refine k_iconst 8 cx (v := (0 : Int32)) dX4_firstFault_8 (by decide) ?_
  refine fpX4_21 9 cx dX4_firstFault_9 0 rfl rfl rfl (by simp) (w1 := (w_X4_firstFault G h_t h_t_told h_p1 h_t_told_kinds h_t_told_needs h_t_told_to h_t_told_from h_t_told_lasts (0 : Int32) u1.1 u1.2.1 u1.2.2.1 u1.2.2.2 p1 t_told_kinds t_told_needs t_told_to t_told_from t_told_lasts)) rfl ?_
  refine k_iconst 12 cx (v := (0 : Int32)) dX4_firstFault_12 (by decide) ?_
  refine k_istore 13 cx dX4_firstFault_13 (by decide) (lv' := [(4, .int (0 : Int32)), (0, .ref h_t), (1, .ref h_p1), (2, .int a2), (3, .int a3)]) rfl ?_
  refine k_lv [1, 2, 3, 4, 0] rfl ?_
  obtain ⟨u10, hu10, hm⟩ := bnd hm
  refine lp15 _ _ a2 a3 u1.2.2.1 u1.2.2.2 p1 1000 (0 : Int32) (0 : Int32) u1.1 u1.2.1 t_told_kinds t_told_needs t_told_to t_told_from t_told_lasts u10 hu10 (fun hk => ?_) (fun hk => ?_)
  · have hm := (if_pos hk).symm.trans hm
    refine k_iload 34 cx dX4_firstFault_34 0 rfl ?_
    obtain rfl := Option.some.inj hm
    exact k_iret 36 cx dX4_firstFault_36 rfl rfl
  · have hm := (if_neg (by rw [hk]; decide)).symm.trans hm
    refine k_aload_n 43 cx dX4_firstFault_43 rfl 0 rfl ?_
    refine fgX4_21 44 cx dX4_firstFault_44 0 rfl rfl ?_
    refine k_iconst 47 cx (v := (1 : Int32)) dX4_firstFault_47 (by decide) ?_
    refine k_icmp_ne 48 cx (tgt := 67) dX4_firstFault_48 (by decide) hm (fun hc hm => ?_) (fun hc hm => ?_)
    · refine k_aload_n 51 cx dX4_firstFault_51 rfl 0 rfl ?_
      refine fgX4_12 52 cx dX4_firstFault_52 0 rfl rfl ?_
      refine fgX4_29 55 cx dX4_firstFault_55 1 rfl rfl ?_
      refine k_iconst 58 cx (v := (2 : Int32)) dX4_firstFault_58 (by decide) ?_
      refine k_icmp_lt 59 cx (tgt := 67) dX4_firstFault_59 (by decide) hm (fun hc hm => ?_) (fun hc hm => ?_)
      · refine k_iload_n 67 cx dX4_firstFault_67 rfl 1 rfl ?_
        obtain rfl := Option.some.inj hm
        exact k_iret 68 cx dX4_firstFault_68 rfl rfl
      · refine k_bipush 62 cx (v := (-9 : Int32)) dX4_firstFault_62 (by decide) ?_
        refine k_goto 64 cx (tgt := 68) dX4_firstFault_64 (by decide) ?_
        obtain rfl := Option.some.inj hm
        exact k_iret 68 cx dX4_firstFault_68 rfl rfl
    · refine k_iload_n 67 cx dX4_firstFault_67 rfl 1 rfl ?_
      obtain rfl := Option.some.inj hm
      exact k_iret 68 cx dX4_firstFault_68 rfl rfl
set_option maxRecDepth 100000 in
theorem fgX5_18 {X : XT} {Q : State → Prop} {G : GT} {A : Nat → Prop} {nL : Nat} {lv : List (Nat × Value)} {st : List Value} {ws : va_W} {cc : ByteArray} {fr lo : Nat} {ret : Option FieldType} (pc : Nat) (cx : Cx X cc nL RX5 G fr lo ret) {a : Nat} {fs : List Value} {v : Value} (hd : decode cc pc = .ok (.getfield 18, 3)) (q0 : Nat) (he : ws[q0]? = some (a, .inr (5, fs))) (hv : fs[2]? = some v) (k : KJ X Q G A nL (pc + 3) lv (v :: st) ws) : KJ X Q G A nL pc lv (.ref a :: st) ws :=
  k_get (ref := RX5) (T := TX5) (N := 9) (ci := 5) pc cx inX5 rfl 2 (by decide) (tb_m (i := 84) rfl rfl) rfl hd q0 he hv k
set_option maxRecDepth 100000 in
theorem fgX5_21 {X : XT} {Q : State → Prop} {G : GT} {A : Nat → Prop} {nL : Nat} {lv : List (Nat × Value)} {st : List Value} {ws : va_W} {cc : ByteArray} {fr lo : Nat} {ret : Option FieldType} (pc : Nat) (cx : Cx X cc nL RX5 G fr lo ret) {a : Nat} {fs : List Value} {v : Value} (hd : decode cc pc = .ok (.getfield 21, 3)) (q0 : Nat) (he : ws[q0]? = some (a, .inr (5, fs))) (hv : fs[3]? = some v) (k : KJ X Q G A nL (pc + 3) lv (v :: st) ws) : KJ X Q G A nL pc lv (.ref a :: st) ws :=
  k_get (ref := RX5) (T := TX5) (N := 9) (ci := 5) pc cx inX5 rfl 3 (by decide) (tb_m (i := 88) rfl rfl) rfl hd q0 he hv k
set_option maxRecDepth 100000 in
theorem fgX5_24 {X : XT} {Q : State → Prop} {G : GT} {A : Nat → Prop} {nL : Nat} {lv : List (Nat × Value)} {st : List Value} {ws : va_W} {cc : ByteArray} {fr lo : Nat} {ret : Option FieldType} (pc : Nat) (cx : Cx X cc nL RX5 G fr lo ret) {a : Nat} {fs : List Value} {v : Value} (hd : decode cc pc = .ok (.getfield 24, 3)) (q0 : Nat) (he : ws[q0]? = some (a, .inr (5, fs))) (hv : fs[4]? = some v) (k : KJ X Q G A nL (pc + 3) lv (v :: st) ws) : KJ X Q G A nL pc lv (.ref a :: st) ws :=
  k_get (ref := RX5) (T := TX5) (N := 9) (ci := 5) pc cx inX5 rfl 4 (by decide) (tb_m (i := 92) rfl rfl) rfl hd q0 he hv k
set_option maxRecDepth 100000 in
theorem fgX5_31 {X : XT} {Q : State → Prop} {G : GT} {A : Nat → Prop} {nL : Nat} {lv : List (Nat × Value)} {st : List Value} {ws : va_W} {cc : ByteArray} {fr lo : Nat} {ret : Option FieldType} (pc : Nat) (cx : Cx X cc nL RX5 G fr lo ret) {a : Nat} {fs : List Value} {v : Value} (hd : decode cc pc = .ok (.getfield 31, 3)) (q0 : Nat) (he : ws[q0]? = some (a, .inr (5, fs))) (hv : fs[6]? = some v) (k : KJ X Q G A nL (pc + 3) lv (v :: st) ws) : KJ X Q G A nL pc lv (.ref a :: st) ws :=
  k_get (ref := RX5) (T := TX5) (N := 9) (ci := 5) pc cx inX5 rfl 6 (by decide) (tb_m (i := 100) rfl rfl) rfl hd q0 he hv k
set_option maxRecDepth 100000 in
theorem fgX5_34 {X : XT} {Q : State → Prop} {G : GT} {A : Nat → Prop} {nL : Nat} {lv : List (Nat × Value)} {st : List Value} {ws : va_W} {cc : ByteArray} {fr lo : Nat} {ret : Option FieldType} (pc : Nat) (cx : Cx X cc nL RX5 G fr lo ret) {a : Nat} {fs : List Value} {v : Value} (hd : decode cc pc = .ok (.getfield 34, 3)) (q0 : Nat) (he : ws[q0]? = some (a, .inr (5, fs))) (hv : fs[7]? = some v) (k : KJ X Q G A nL (pc + 3) lv (v :: st) ws) : KJ X Q G A nL pc lv (.ref a :: st) ws :=
  k_get (ref := RX5) (T := TX5) (N := 9) (ci := 5) pc cx inX5 rfl 7 (by decide) (tb_m (i := 103) rfl rfl) rfl hd q0 he hv k
set_option maxRecDepth 100000 in
theorem fgX5_37 {X : XT} {Q : State → Prop} {G : GT} {A : Nat → Prop} {nL : Nat} {lv : List (Nat × Value)} {st : List Value} {ws : va_W} {cc : ByteArray} {fr lo : Nat} {ret : Option FieldType} (pc : Nat) (cx : Cx X cc nL RX5 G fr lo ret) {a : Nat} {fs : List Value} {v : Value} (hd : decode cc pc = .ok (.getfield 37, 3)) (q0 : Nat) (he : ws[q0]? = some (a, .inr (5, fs))) (hv : fs[8]? = some v) (k : KJ X Q G A nL (pc + 3) lv (v :: st) ws) : KJ X Q G A nL pc lv (.ref a :: st) ws :=
  k_get (ref := RX5) (T := TX5) (N := 9) (ci := 5) pc cx inX5 rfl 8 (by decide) (tb_m (i := 106) rfl rfl) rfl hd q0 he hv k
set_option maxRecDepth 100000 in
theorem acX5_40 : Cond.methodLink RX5 40 arraycopyName ∈ TB ∧ Cond.native arraycopyName ∈ TB ∧ Cond.static arraycopyName ∈ TB ∧ Cond.initialized "java/lang/System" ∈ TB := ⟨tb_m (i := 342) rfl rfl, tb_m (i := 344) rfl rfl, tb_m (i := 343) rfl rfl, tb_m (i := 59) rfl rfl⟩
def w_X5_become (G : GT) (h_t : Nat) (h_p1 : Nat) (h_p1_kinds : Nat) (h_t_kinds : Nat) (h_p1_needs : Nat) (h_t_needs : Nat) (h_p1_from : Nat) (h_t_from : Nat) (h_p1_to : Nat) (h_t_to : Nat) (h_p1_lasts : Nat) (h_t_lasts : Nat) (t_bells : Int32) (t_ropes : Int32) (t_span : Int32) (t_tied : Int32) (p1_bells : Int32) (p1_ropes : Int32) (p1_span : Int32) (p1_tied : Int32) (p1_kinds : (Nat → Int32)) (t_kinds : (Nat → Int32)) (p1_needs : (Nat → Int32)) (t_needs : (Nat → Int32)) (p1_from : (Nat → Int32)) (t_from : (Nat → Int32)) (p1_to : (Nat → Int32)) (t_to : (Nat → Int32)) (p1_lasts : (Nat → Int32)) (t_lasts : (Nat → Int32)) : va_W := [(h_t, .inr (5, [.ref h_t_kinds, .ref h_t_needs, .ref h_t_from, .ref h_t_to, .ref h_t_lasts, .int t_bells, .int t_ropes, .int t_span, .int t_tied])), (h_p1, .inr (5, [.ref h_p1_kinds, .ref h_p1_needs, .ref h_p1_from, .ref h_p1_to, .ref h_p1_lasts, .int p1_bells, .int p1_ropes, .int p1_span, .int p1_tied])), (h_p1_kinds, .inl (G.2.1, 6, .inl p1_kinds)), (h_t_kinds, .inl (G.2.1, 6, .inl t_kinds)), (h_p1_needs, .inl (G.2.1, 6, .inl p1_needs)), (h_t_needs, .inl (G.2.1, 6, .inl t_needs)), (h_p1_from, .inl (G.2.1, 9, .inl p1_from)), (h_t_from, .inl (G.2.1, 9, .inl t_from)), (h_p1_to, .inl (G.2.1, 9, .inl p1_to)), (h_t_to, .inl (G.2.1, 9, .inl t_to)), (h_p1_lasts, .inl (G.2.1, 9, .inl p1_lasts)), (h_t_lasts, .inl (G.2.1, 9, .inl t_lasts))]
def M_X5_become (p1_bells : Int32) (p1_ropes : Int32) (p1_span : Int32) (p1_tied : Int32) (p1_kinds : (Nat → Int32)) (t_kinds : (Nat → Int32)) (p1_needs : (Nat → Int32)) (t_needs : (Nat → Int32)) (p1_from : (Nat → Int32)) (t_from : (Nat → Int32)) (p1_to : (Nat → Int32)) (t_to : (Nat → Int32)) (p1_lasts : (Nat → Int32)) (t_lasts : (Nat → Int32)) : Option (Int32 × Int32 × Int32 × Int32 × (Nat → Int32) × (Nat → Int32) × (Nat → Int32) × (Nat → Int32) × (Nat → Int32)) := (gB (decide (0 ≤ ((0 : Int32)).toInt ∧ 0 ≤ ((0 : Int32)).toInt ∧ 0 ≤ ((6 : Int32)).toInt ∧ ((0 : Int32)).toInt + ((6 : Int32)).toInt ≤ ((6 : Nat) : Int) ∧ ((0 : Int32)).toInt + ((6 : Int32)).toInt ≤ ((6 : Nat) : Int))) (nme (va_cpy p1_kinds t_kinds (Int32.toNatClampNeg (0 : Int32)) (Int32.toNatClampNeg (0 : Int32)) (Int32.toNatClampNeg (6 : Int32))) (fun f1 => (gB (decide (0 ≤ ((0 : Int32)).toInt ∧ 0 ≤ ((0 : Int32)).toInt ∧ 0 ≤ ((6 : Int32)).toInt ∧ ((0 : Int32)).toInt + ((6 : Int32)).toInt ≤ ((6 : Nat) : Int) ∧ ((0 : Int32)).toInt + ((6 : Int32)).toInt ≤ ((6 : Nat) : Int))) (nme (va_cpy p1_needs t_needs (Int32.toNatClampNeg (0 : Int32)) (Int32.toNatClampNeg (0 : Int32)) (Int32.toNatClampNeg (6 : Int32))) (fun f2 => (gB (decide (0 ≤ ((0 : Int32)).toInt ∧ 0 ≤ ((0 : Int32)).toInt ∧ 0 ≤ ((8 : Int32)).toInt ∧ ((0 : Int32)).toInt + ((8 : Int32)).toInt ≤ ((9 : Nat) : Int) ∧ ((0 : Int32)).toInt + ((8 : Int32)).toInt ≤ ((9 : Nat) : Int))) (nme (va_cpy p1_from t_from (Int32.toNatClampNeg (0 : Int32)) (Int32.toNatClampNeg (0 : Int32)) (Int32.toNatClampNeg (8 : Int32))) (fun f3 => (gB (decide (0 ≤ ((0 : Int32)).toInt ∧ 0 ≤ ((0 : Int32)).toInt ∧ 0 ≤ ((8 : Int32)).toInt ∧ ((0 : Int32)).toInt + ((8 : Int32)).toInt ≤ ((9 : Nat) : Int) ∧ ((0 : Int32)).toInt + ((8 : Int32)).toInt ≤ ((9 : Nat) : Int))) (nme (va_cpy p1_to t_to (Int32.toNatClampNeg (0 : Int32)) (Int32.toNatClampNeg (0 : Int32)) (Int32.toNatClampNeg (8 : Int32))) (fun f4 => (gB (decide (0 ≤ ((0 : Int32)).toInt ∧ 0 ≤ ((0 : Int32)).toInt ∧ 0 ≤ ((8 : Int32)).toInt ∧ ((0 : Int32)).toInt + ((8 : Int32)).toInt ≤ ((9 : Nat) : Int) ∧ ((0 : Int32)).toInt + ((8 : Int32)).toInt ≤ ((9 : Nat) : Int))) (nme (va_cpy p1_lasts t_lasts (Int32.toNatClampNeg (0 : Int32)) (Int32.toNatClampNeg (0 : Int32)) (Int32.toNatClampNeg (8 : Int32))) (fun f5 => (some (p1_bells, p1_ropes, p1_span, p1_tied, f1, f2, f3, f4, f5)))))))))))))))))
set_option maxHeartbeats 4000000 in
set_option maxRecDepth 100000 in
theorem c_X5_become (l : Launch) (G : GT) (h_t : Nat) (h_p1 : Nat) (h_p1_kinds : Nat) (h_t_kinds : Nat) (h_p1_needs : Nat) (h_t_needs : Nat) (h_p1_from : Nat) (h_t_from : Nat) (h_p1_to : Nat) (h_t_to : Nat) (h_p1_lasts : Nat) (h_t_lasts : Nat) (t_bells : Int32) (t_ropes : Int32) (t_span : Int32) (t_tied : Int32) (p1_bells : Int32) (p1_ropes : Int32) (p1_span : Int32) (p1_tied : Int32) (p1_kinds : (Nat → Int32)) (t_kinds : (Nat → Int32)) (p1_needs : (Nat → Int32)) (t_needs : (Nat → Int32)) (p1_from : (Nat → Int32)) (t_from : (Nat → Int32)) (p1_to : (Nat → Int32)) (t_to : (Nat → Int32)) (p1_lasts : (Nat → Int32)) (t_lasts : (Nat → Int32)) {u : Int32 × Int32 × Int32 × Int32 × (Nat → Int32) × (Nat → Int32) × (Nat → Int32) × (Nat → Int32) × (Nat → Int32)} (hm : M_X5_become p1_bells p1_ropes p1_span p1_tied p1_kinds t_kinds p1_needs t_needs p1_from t_from p1_to t_to p1_lasts t_lasts = some u) : CT l yX5_become cX5_become 2 none 1 40 [.ref h_t, .ref h_p1] G (w_X5_become G h_t h_p1 h_p1_kinds h_t_kinds h_p1_needs h_t_needs h_p1_from h_t_from h_p1_to h_t_to h_p1_lasts h_t_lasts t_bells t_ropes t_span t_tied p1_bells p1_ropes p1_span p1_tied p1_kinds t_kinds p1_needs t_needs p1_from t_from p1_to t_to p1_lasts t_lasts) none (w_X5_become G h_t h_p1 h_p1_kinds h_t_kinds h_p1_needs h_t_needs h_p1_from h_t_from h_p1_to h_t_to h_p1_lasts h_t_lasts u.1 u.2.1 u.2.2.1 u.2.2.2.1 p1_bells p1_ropes p1_span p1_tied p1_kinds u.2.2.2.2.1 p1_needs u.2.2.2.2.2.1 p1_from u.2.2.2.2.2.2.1 p1_to u.2.2.2.2.2.2.2.1 p1_lasts u.2.2.2.2.2.2.2.2) := by
  refine ct_intro RX5 [(0, .ref h_t), (1, .ref h_p1)] (by decide) rfl (Nat.le_of_ble_eq_true rfl) rfl (fun X hX cx => ?_)
  unfold M_X5_become at hm
  refine k_aload_n 0 cx dX5_become_0 rfl 1 rfl ?_
  refine fgX5_9 1 cx dX5_become_1 1 rfl rfl ?_
  refine k_iconst 4 cx (v := (0 : Int32)) dX5_become_4 (by decide) ?_
  refine k_aload_n 5 cx dX5_become_5 rfl 0 rfl ?_
  refine fgX5_9 6 cx dX5_become_6 0 rfl rfl ?_
  refine k_iconst 9 cx (v := (0 : Int32)) dX5_become_9 (by decide) ?_
  refine k_bipush 10 cx (v := (6 : Int32)) dX5_become_10 (by decide) ?_
  refine k_acopy 12 cx acX5_40 2 3 rfl rfl hm dX5_become_12 ⟨by decide, by decide⟩ (fun f1 => (w_X5_become G h_t h_p1 h_p1_kinds h_t_kinds h_p1_needs h_t_needs h_p1_from h_t_from h_p1_to h_t_to h_p1_lasts h_t_lasts t_bells t_ropes t_span t_tied p1_bells p1_ropes p1_span p1_tied p1_kinds f1 p1_needs t_needs p1_from t_from p1_to t_to p1_lasts t_lasts)) (fun _ => rfl) (fun f1 hm => ?_)
  refine k_aload_n 15 cx dX5_become_15 rfl 1 rfl ?_
  refine fgX5_15 16 cx dX5_become_16 1 rfl rfl ?_
  refine k_iconst 19 cx (v := (0 : Int32)) dX5_become_19 (by decide) ?_
  refine k_aload_n 20 cx dX5_become_20 rfl 0 rfl ?_
  refine fgX5_15 21 cx dX5_become_21 0 rfl rfl ?_
  refine k_iconst 24 cx (v := (0 : Int32)) dX5_become_24 (by decide) ?_
  refine k_bipush 25 cx (v := (6 : Int32)) dX5_become_25 (by decide) ?_
  refine k_acopy 27 cx acX5_40 4 5 rfl rfl hm dX5_become_27 ⟨by decide, by decide⟩ (fun f2 => (w_X5_become G h_t h_p1 h_p1_kinds h_t_kinds h_p1_needs h_t_needs h_p1_from h_t_from h_p1_to h_t_to h_p1_lasts h_t_lasts t_bells t_ropes t_span t_tied p1_bells p1_ropes p1_span p1_tied p1_kinds f1 p1_needs f2 p1_from t_from p1_to t_to p1_lasts t_lasts)) (fun _ => rfl) (fun f2 hm => ?_)
  refine k_aload_n 30 cx dX5_become_30 rfl 1 rfl ?_
  refine fgX5_18 31 cx dX5_become_31 1 rfl rfl ?_
  refine k_iconst 34 cx (v := (0 : Int32)) dX5_become_34 (by decide) ?_
  refine k_aload_n 35 cx dX5_become_35 rfl 0 rfl ?_
  refine fgX5_18 36 cx dX5_become_36 0 rfl rfl ?_
  refine k_iconst 39 cx (v := (0 : Int32)) dX5_become_39 (by decide) ?_
  refine k_bipush 40 cx (v := (8 : Int32)) dX5_become_40 (by decide) ?_
  refine k_acopy 42 cx acX5_40 6 7 rfl rfl hm dX5_become_42 ⟨by decide, by decide⟩ (fun f3 => (w_X5_become G h_t h_p1 h_p1_kinds h_t_kinds h_p1_needs h_t_needs h_p1_from h_t_from h_p1_to h_t_to h_p1_lasts h_t_lasts t_bells t_ropes t_span t_tied p1_bells p1_ropes p1_span p1_tied p1_kinds f1 p1_needs f2 p1_from f3 p1_to t_to p1_lasts t_lasts)) (fun _ => rfl) (fun f3 hm => ?_)
  refine k_aload_n 45 cx dX5_become_45 rfl 1 rfl ?_
  refine fgX5_21 46 cx dX5_become_46 1 rfl rfl ?_
  refine k_iconst 49 cx (v := (0 : Int32)) dX5_become_49 (by decide) ?_
  refine k_aload_n 50 cx dX5_become_50 rfl 0 rfl ?_
  refine fgX5_21 51 cx dX5_become_51 0 rfl rfl ?_
  refine k_iconst 54 cx (v := (0 : Int32)) dX5_become_54 (by decide) ?_
  refine k_bipush 55 cx (v := (8 : Int32)) dX5_become_55 (by decide) ?_
  refine k_acopy 57 cx acX5_40 8 9 rfl rfl hm dX5_become_57 ⟨by decide, by decide⟩ (fun f4 => (w_X5_become G h_t h_p1 h_p1_kinds h_t_kinds h_p1_needs h_t_needs h_p1_from h_t_from h_p1_to h_t_to h_p1_lasts h_t_lasts t_bells t_ropes t_span t_tied p1_bells p1_ropes p1_span p1_tied p1_kinds f1 p1_needs f2 p1_from f3 p1_to f4 p1_lasts t_lasts)) (fun _ => rfl) (fun f4 hm => ?_)
  refine k_aload_n 60 cx dX5_become_60 rfl 1 rfl ?_
  refine fgX5_24 61 cx dX5_become_61 1 rfl rfl ?_
  refine k_iconst 64 cx (v := (0 : Int32)) dX5_become_64 (by decide) ?_
  refine k_aload_n 65 cx dX5_become_65 rfl 0 rfl ?_
  refine fgX5_24 66 cx dX5_become_66 0 rfl rfl ?_
  refine k_iconst 69 cx (v := (0 : Int32)) dX5_become_69 (by decide) ?_
  refine k_bipush 70 cx (v := (8 : Int32)) dX5_become_70 (by decide) ?_
  refine k_acopy 72 cx acX5_40 10 11 rfl rfl hm dX5_become_72 ⟨by decide, by decide⟩ (fun f5 => (w_X5_become G h_t h_p1 h_p1_kinds h_t_kinds h_p1_needs h_t_needs h_p1_from h_t_from h_p1_to h_t_to h_p1_lasts h_t_lasts t_bells t_ropes t_span t_tied p1_bells p1_ropes p1_span p1_tied p1_kinds f1 p1_needs f2 p1_from f3 p1_to f4 p1_lasts f5)) (fun _ => rfl) (fun f5 hm => ?_)
  refine k_aload_n 75 cx dX5_become_75 rfl 0 rfl ?_
  refine k_aload_n 76 cx dX5_become_76 rfl 1 rfl ?_
  refine fgX5_27 77 cx dX5_become_77 1 rfl rfl ?_
  refine fpX5_27 80 cx dX5_become_80 0 rfl rfl rfl (by simp) (w1 := (w_X5_become G h_t h_p1 h_p1_kinds h_t_kinds h_p1_needs h_t_needs h_p1_from h_t_from h_p1_to h_t_to h_p1_lasts h_t_lasts p1_bells t_ropes t_span t_tied p1_bells p1_ropes p1_span p1_tied p1_kinds f1 p1_needs f2 p1_from f3 p1_to f4 p1_lasts f5)) rfl ?_
  refine k_aload_n 83 cx dX5_become_83 rfl 0 rfl ?_
  refine k_aload_n 84 cx dX5_become_84 rfl 1 rfl ?_
  refine fgX5_31 85 cx dX5_become_85 1 rfl rfl ?_
  refine fpX5_31 88 cx dX5_become_88 0 rfl rfl rfl (by simp) (w1 := (w_X5_become G h_t h_p1 h_p1_kinds h_t_kinds h_p1_needs h_t_needs h_p1_from h_t_from h_p1_to h_t_to h_p1_lasts h_t_lasts p1_bells p1_ropes t_span t_tied p1_bells p1_ropes p1_span p1_tied p1_kinds f1 p1_needs f2 p1_from f3 p1_to f4 p1_lasts f5)) rfl ?_
  refine k_aload_n 91 cx dX5_become_91 rfl 0 rfl ?_
  refine k_aload_n 92 cx dX5_become_92 rfl 1 rfl ?_
  refine fgX5_34 93 cx dX5_become_93 1 rfl rfl ?_
  refine fpX5_34 96 cx dX5_become_96 0 rfl rfl rfl (by simp) (w1 := (w_X5_become G h_t h_p1 h_p1_kinds h_t_kinds h_p1_needs h_t_needs h_p1_from h_t_from h_p1_to h_t_to h_p1_lasts h_t_lasts p1_bells p1_ropes p1_span t_tied p1_bells p1_ropes p1_span p1_tied p1_kinds f1 p1_needs f2 p1_from f3 p1_to f4 p1_lasts f5)) rfl ?_
  refine k_aload_n 99 cx dX5_become_99 rfl 0 rfl ?_
  refine k_aload_n 100 cx dX5_become_100 rfl 1 rfl ?_
  refine fgX5_37 101 cx dX5_become_101 1 rfl rfl ?_
  refine fpX5_37 104 cx dX5_become_104 0 rfl rfl rfl (by simp) (w1 := (w_X5_become G h_t h_p1 h_p1_kinds h_t_kinds h_p1_needs h_t_needs h_p1_from h_t_from h_p1_to h_t_to h_p1_lasts h_t_lasts p1_bells p1_ropes p1_span p1_tied p1_bells p1_ropes p1_span p1_tied p1_kinds f1 p1_needs f2 p1_from f3 p1_to f4 p1_lasts f5)) rfl ?_
  obtain rfl := Option.some.inj hm
  exact k_vret 107 cx dX5_become_107 rfl rfl
def w_X5_layRope (G : GT) (h_t : Nat) (h_t_from : Nat) (h_t_to : Nat) (h_t_lasts : Nat) (h_t_kinds : Nat) (h_t_needs : Nat) (t_bells : Int32) (t_ropes : Int32) (t_span : Int32) (t_tied : Int32) (t_from : (Nat → Int32)) (t_to : (Nat → Int32)) (t_lasts : (Nat → Int32)) : va_W := [(h_t, .inr (5, [.ref h_t_kinds, .ref h_t_needs, .ref h_t_from, .ref h_t_to, .ref h_t_lasts, .int t_bells, .int t_ropes, .int t_span, .int t_tied])), (h_t_from, .inl (G.2.1, 9, .inl t_from)), (h_t_to, .inl (G.2.1, 9, .inl t_to)), (h_t_lasts, .inl (G.2.1, 9, .inl t_lasts))]
def M_X5_layRope (t_from : (Nat → Int32)) (t_to : (Nat → Int32)) (t_lasts : (Nat → Int32)) (a1 : Int32) (a2 : Int32) (a3 : Int32) (a4 : Int32) : Option ((Nat → Int32) × (Nat → Int32) × (Nat → Int32)) := (gB (inb a1 9) (nme (upd t_from (Int32.toNatClampNeg a1) a2) (fun f1 => (gB (inb a1 9) (nme (upd t_to (Int32.toNatClampNeg a1) a3) (fun f2 => (gB (inb a1 9) (nme (upd t_lasts (Int32.toNatClampNeg a1) a4) (fun f3 => (some (f1, f2, f3)))))))))))
set_option maxHeartbeats 4000000 in
set_option maxRecDepth 100000 in
theorem c_X5_layRope (l : Launch) (G : GT) (h_t : Nat) (h_t_from : Nat) (h_t_to : Nat) (h_t_lasts : Nat) (h_t_kinds : Nat) (h_t_needs : Nat) (t_bells : Int32) (t_ropes : Int32) (t_span : Int32) (t_tied : Int32) (t_from : (Nat → Int32)) (t_to : (Nat → Int32)) (t_lasts : (Nat → Int32)) (a1 : Int32) (a2 : Int32) (a3 : Int32) (a4 : Int32) {u : (Nat → Int32) × (Nat → Int32) × (Nat → Int32)} (hm : M_X5_layRope t_from t_to t_lasts a1 a2 a3 a4 = some u) : CT l yX5_layRope cX5_layRope 5 none 0 0 [.ref h_t, .int a1, .int a2, .int a3, .int a4] G (w_X5_layRope G h_t h_t_from h_t_to h_t_lasts h_t_kinds h_t_needs t_bells t_ropes t_span t_tied t_from t_to t_lasts) none (w_X5_layRope G h_t h_t_from h_t_to h_t_lasts h_t_kinds h_t_needs t_bells t_ropes t_span t_tied u.1 u.2.1 u.2.2) := by
  refine ct_intro RX5 [(0, .ref h_t), (1, .int a1), (2, .int a2), (3, .int a3), (4, .int a4)] (by decide) rfl (Nat.le_of_ble_eq_true rfl) rfl (fun X hX cx => ?_)
  unfold M_X5_layRope at hm
  refine k_aload_n 0 cx dX5_layRope_0 rfl 0 rfl ?_
  refine fgX5_18 1 cx dX5_layRope_1 0 rfl rfl ?_
  refine k_iload_n 4 cx dX5_layRope_4 rfl 1 rfl ?_
  refine k_iload_n 5 cx dX5_layRope_5 rfl 2 rfl ?_
  refine k_iast 6 cx dX5_layRope_6 1 rfl (fun f1 => (w_X5_layRope G h_t h_t_from h_t_to h_t_lasts h_t_kinds h_t_needs t_bells t_ropes t_span t_tied f1 t_to t_lasts)) (fun _ => rfl) hm (fun f1 hm => ?_)
  refine k_aload_n 7 cx dX5_layRope_7 rfl 0 rfl ?_
  refine fgX5_21 8 cx dX5_layRope_8 0 rfl rfl ?_
  refine k_iload_n 11 cx dX5_layRope_11 rfl 1 rfl ?_
  refine k_iload_n 12 cx dX5_layRope_12 rfl 3 rfl ?_
  refine k_iast 13 cx dX5_layRope_13 2 rfl (fun f2 => (w_X5_layRope G h_t h_t_from h_t_to h_t_lasts h_t_kinds h_t_needs t_bells t_ropes t_span t_tied f1 f2 t_lasts)) (fun _ => rfl) hm (fun f2 hm => ?_)
  refine k_aload_n 14 cx dX5_layRope_14 rfl 0 rfl ?_
  refine fgX5_24 15 cx dX5_layRope_15 0 rfl rfl ?_
  refine k_iload_n 18 cx dX5_layRope_18 rfl 1 rfl ?_
  refine k_iload 19 cx dX5_layRope_19 4 rfl ?_
  refine k_iast 21 cx dX5_layRope_21 3 rfl (fun f3 => (w_X5_layRope G h_t h_t_from h_t_to h_t_lasts h_t_kinds h_t_needs t_bells t_ropes t_span t_tied f1 f2 f3)) (fun _ => rfl) hm (fun f3 hm => ?_)
  obtain rfl := Option.some.inj hm
  exact k_vret 22 cx dX5_layRope_22 rfl rfl
def w_X5_isTied (G : GT) (h_t : Nat) (h_t_kinds : Nat) (h_t_needs : Nat) (h_t_from : Nat) (h_t_to : Nat) (h_t_lasts : Nat) (t_bells : Int32) (t_ropes : Int32) (t_span : Int32) (t_tied : Int32) : va_W := [(h_t, .inr (5, [.ref h_t_kinds, .ref h_t_needs, .ref h_t_from, .ref h_t_to, .ref h_t_lasts, .int t_bells, .int t_ropes, .int t_span, .int t_tied]))]
def M_X5_isTied (t_tied : Int32) (a1 : Int32) : Option (Int32) := (if ((t_tied >>> (a1 &&& 31)) &&& (1 : Int32)) = 0 then (some (0 : Int32)) else (some (1 : Int32)))
set_option maxHeartbeats 4000000 in
set_option maxRecDepth 100000 in
theorem c_X5_isTied (l : Launch) (G : GT) (h_t : Nat) (h_t_kinds : Nat) (h_t_needs : Nat) (h_t_from : Nat) (h_t_to : Nat) (h_t_lasts : Nat) (t_bells : Int32) (t_ropes : Int32) (t_span : Int32) (t_tied : Int32) (a1 : Int32) {u : Int32} (hm : M_X5_isTied t_tied a1 = some u) : CT l yX5_isTied cX5_isTied 2 (some .boolean) 0 0 [.ref h_t, .int a1] G (w_X5_isTied G h_t h_t_kinds h_t_needs h_t_from h_t_to h_t_lasts t_bells t_ropes t_span t_tied) (some (.int u)) (w_X5_isTied G h_t h_t_kinds h_t_needs h_t_from h_t_to h_t_lasts t_bells t_ropes t_span t_tied) := by
  refine ct_intro RX5 [(0, .ref h_t), (1, .int a1)] (by decide) rfl (Nat.le_of_ble_eq_true rfl) rfl (fun X hX cx => ?_)
  unfold M_X5_isTied at hm
  refine k_aload_n 0 cx dX5_isTied_0 rfl 0 rfl ?_
  refine fgX5_37 1 cx dX5_isTied_1 0 rfl rfl ?_
  refine k_iload_n 4 cx dX5_isTied_4 rfl 1 rfl ?_
  refine k_ishr 5 cx dX5_isTied_5 ?_
  refine k_iconst 6 cx (v := (1 : Int32)) dX5_isTied_6 (by decide) ?_
  refine k_iand 7 cx dX5_isTied_7 ?_
  refine k_if_eq 8 cx (tgt := 15) dX5_isTied_8 (by decide) hm (fun hc hm => ?_) (fun hc hm => ?_)
  · refine k_iconst 15 cx (v := (0 : Int32)) dX5_isTied_15 (by decide) ?_
    obtain rfl := Option.some.inj hm
    exact k_zret 16 cx dX5_isTied_16 (by decide) rfl rfl
  · refine k_iconst 11 cx (v := (1 : Int32)) dX5_isTied_11 (by decide) ?_
    refine k_goto 12 cx (tgt := 16) dX5_isTied_12 (by decide) ?_
    obtain rfl := Option.some.inj hm
    exact k_zret 16 cx dX5_isTied_16 (by decide) rfl rfl
def w_X5_allBells (G : GT) (h_t : Nat) (h_t_kinds : Nat) (h_t_needs : Nat) (h_t_from : Nat) (h_t_to : Nat) (h_t_lasts : Nat) (t_bells : Int32) (t_ropes : Int32) (t_span : Int32) (t_tied : Int32) : va_W := [(h_t, .inr (5, [.ref h_t_kinds, .ref h_t_needs, .ref h_t_from, .ref h_t_to, .ref h_t_lasts, .int t_bells, .int t_ropes, .int t_span, .int t_tied]))]
def M_X5_allBells (t_bells : Int32) : Option (Int32) := (some (((1 : Int32) <<< (t_bells &&& 31)) - (1 : Int32)))
set_option maxHeartbeats 4000000 in
set_option maxRecDepth 100000 in
theorem c_X5_allBells (l : Launch) (G : GT) (h_t : Nat) (h_t_kinds : Nat) (h_t_needs : Nat) (h_t_from : Nat) (h_t_to : Nat) (h_t_lasts : Nat) (t_bells : Int32) (t_ropes : Int32) (t_span : Int32) (t_tied : Int32) {u : Int32} (hm : M_X5_allBells t_bells = some u) : CT l yX5_allBells cX5_allBells 1 (some .int) 0 0 [.ref h_t] G (w_X5_allBells G h_t h_t_kinds h_t_needs h_t_from h_t_to h_t_lasts t_bells t_ropes t_span t_tied) (some (.int u)) (w_X5_allBells G h_t h_t_kinds h_t_needs h_t_from h_t_to h_t_lasts t_bells t_ropes t_span t_tied) := by
  refine ct_intro RX5 [(0, .ref h_t)] (by decide) rfl (Nat.le_of_ble_eq_true rfl) rfl (fun X hX cx => ?_)
  unfold M_X5_allBells at hm
  refine k_iconst 0 cx (v := (1 : Int32)) dX5_allBells_0 (by decide) ?_
  refine k_aload_n 1 cx dX5_allBells_1 rfl 0 rfl ?_
  refine fgX5_27 2 cx dX5_allBells_2 0 rfl rfl ?_
  refine k_ishl 5 cx dX5_allBells_5 ?_
  refine k_iconst 6 cx (v := (1 : Int32)) dX5_allBells_6 (by decide) ?_
  refine k_isub 7 cx dX5_allBells_7 ?_
  obtain rfl := Option.some.inj hm
  exact k_iret 8 cx dX5_allBells_8 rfl rfl
def w_X5_allRopes (G : GT) (h_t : Nat) (h_t_kinds : Nat) (h_t_needs : Nat) (h_t_from : Nat) (h_t_to : Nat) (h_t_lasts : Nat) (t_bells : Int32) (t_ropes : Int32) (t_span : Int32) (t_tied : Int32) : va_W := [(h_t, .inr (5, [.ref h_t_kinds, .ref h_t_needs, .ref h_t_from, .ref h_t_to, .ref h_t_lasts, .int t_bells, .int t_ropes, .int t_span, .int t_tied]))]
def M_X5_allRopes (t_ropes : Int32) : Option (Int32) := (some (((1 : Int32) <<< (t_ropes &&& 31)) - (1 : Int32)))
set_option maxHeartbeats 4000000 in
set_option maxRecDepth 100000 in
theorem c_X5_allRopes (l : Launch) (G : GT) (h_t : Nat) (h_t_kinds : Nat) (h_t_needs : Nat) (h_t_from : Nat) (h_t_to : Nat) (h_t_lasts : Nat) (t_bells : Int32) (t_ropes : Int32) (t_span : Int32) (t_tied : Int32) {u : Int32} (hm : M_X5_allRopes t_ropes = some u) : CT l yX5_allRopes cX5_allRopes 1 (some .int) 0 0 [.ref h_t] G (w_X5_allRopes G h_t h_t_kinds h_t_needs h_t_from h_t_to h_t_lasts t_bells t_ropes t_span t_tied) (some (.int u)) (w_X5_allRopes G h_t h_t_kinds h_t_needs h_t_from h_t_to h_t_lasts t_bells t_ropes t_span t_tied) := by
  refine ct_intro RX5 [(0, .ref h_t)] (by decide) rfl (Nat.le_of_ble_eq_true rfl) rfl (fun X hX cx => ?_)
  unfold M_X5_allRopes at hm
  refine k_iconst 0 cx (v := (1 : Int32)) dX5_allRopes_0 (by decide) ?_
  refine k_aload_n 1 cx dX5_allRopes_1 rfl 0 rfl ?_
  refine fgX5_31 2 cx dX5_allRopes_2 0 rfl rfl ?_
  refine k_ishl 5 cx dX5_allRopes_5 ?_
  refine k_iconst 6 cx (v := (1 : Int32)) dX5_allRopes_6 (by decide) ?_
  refine k_isub 7 cx dX5_allRopes_7 ?_
  obtain rfl := Option.some.inj hm
  exact k_iret 8 cx dX5_allRopes_8 rfl rfl
def w_X6_isSheet (G : GT) : va_W := []
def M_X6_isSheet (a1 : Int32) : Option (Int32) := (if a1 < 0 then (some (0 : Int32)) else (if (4 : Int32) ≤ a1 then (some (0 : Int32)) else (some (1 : Int32))))
set_option maxHeartbeats 4000000 in
set_option maxRecDepth 100000 in
theorem c_X6_isSheet (l : Launch) (G : GT) (a1 : Int32) {u : Int32} (hm : M_X6_isSheet a1 = some u) : CT l yX6_isSheet cX6_isSheet 1 (some .boolean) 0 0 [.int a1] G (w_X6_isSheet G) (some (.int u)) (w_X6_isSheet G) := by
  refine ct_intro RX6 [(0, .int a1)] (by decide) rfl (Nat.le_of_ble_eq_true rfl) rfl (fun X hX cx => ?_)
  unfold M_X6_isSheet at hm
  refine k_iload_n 0 cx dX6_isSheet_0 rfl 0 rfl ?_
  refine k_if_lt 1 cx (tgt := 13) dX6_isSheet_1 (by decide) hm (fun hc hm => ?_) (fun hc hm => ?_)
  · refine k_iconst 13 cx (v := (0 : Int32)) dX6_isSheet_13 (by decide) ?_
    obtain rfl := Option.some.inj hm
    exact k_zret 14 cx dX6_isSheet_14 (by decide) rfl rfl
  · refine k_iload_n 4 cx dX6_isSheet_4 rfl 0 rfl ?_
    refine k_iconst 5 cx (v := (4 : Int32)) dX6_isSheet_5 (by decide) ?_
    refine k_icmp_ge 6 cx (tgt := 13) dX6_isSheet_6 (by decide) hm (fun hc hm => ?_) (fun hc hm => ?_)
    · refine k_iconst 13 cx (v := (0 : Int32)) dX6_isSheet_13 (by decide) ?_
      obtain rfl := Option.some.inj hm
      exact k_zret 14 cx dX6_isSheet_14 (by decide) rfl rfl
    · refine k_iconst 9 cx (v := (1 : Int32)) dX6_isSheet_9 (by decide) ?_
      refine k_goto 10 cx (tgt := 14) dX6_isSheet_10 (by decide) ?_
      obtain rfl := Option.some.inj hm
      exact k_zret 14 cx dX6_isSheet_14 (by decide) rfl rfl
def w_X6_isLane (G : GT) : va_W := []
def M_X6_isLane (a1 : Int32) : Option (Int32) := (if a1 < 0 then (some (0 : Int32)) else (if (2 : Int32) < a1 then (some (0 : Int32)) else (some (1 : Int32))))
set_option maxHeartbeats 4000000 in
set_option maxRecDepth 100000 in
theorem c_X6_isLane (l : Launch) (G : GT) (a1 : Int32) {u : Int32} (hm : M_X6_isLane a1 = some u) : CT l yX6_isLane cX6_isLane 1 (some .boolean) 0 0 [.int a1] G (w_X6_isLane G) (some (.int u)) (w_X6_isLane G) := by
  refine ct_intro RX6 [(0, .int a1)] (by decide) rfl (Nat.le_of_ble_eq_true rfl) rfl (fun X hX cx => ?_)
  unfold M_X6_isLane at hm
  refine k_iload_n 0 cx dX6_isLane_0 rfl 0 rfl ?_
  refine k_if_lt 1 cx (tgt := 13) dX6_isLane_1 (by decide) hm (fun hc hm => ?_) (fun hc hm => ?_)
  · refine k_iconst 13 cx (v := (0 : Int32)) dX6_isLane_13 (by decide) ?_
    obtain rfl := Option.some.inj hm
    exact k_zret 14 cx dX6_isLane_14 (by decide) rfl rfl
  · refine k_iload_n 4 cx dX6_isLane_4 rfl 0 rfl ?_
    refine k_iconst 5 cx (v := (2 : Int32)) dX6_isLane_5 (by decide) ?_
    refine k_icmp_gt 6 cx (tgt := 13) dX6_isLane_6 (by decide) hm (fun hc hm => ?_) (fun hc hm => ?_)
    · refine k_iconst 13 cx (v := (0 : Int32)) dX6_isLane_13 (by decide) ?_
      obtain rfl := Option.some.inj hm
      exact k_zret 14 cx dX6_isLane_14 (by decide) rfl rfl
    · refine k_iconst 9 cx (v := (1 : Int32)) dX6_isLane_9 (by decide) ?_
      refine k_goto 10 cx (tgt := 14) dX6_isLane_10 (by decide) ?_
      obtain rfl := Option.some.inj hm
      exact k_zret 14 cx dX6_isLane_14 (by decide) rfl rfl
set_option maxRecDepth 100000 in
theorem fpX6_61 {X : XT} {Q : State → Prop} {G : GT} {A : Nat → Prop} {nL : Nat} {lv : List (Nat × Value)} {st : List Value} {ws : va_W} {cc : ByteArray} {fr lo : Nat} {ret : Option FieldType} (pc : Nat) (cx : Cx X cc nL RX6 G fr lo ret) {a : Nat} {fs : List Value} {v : Value} (hd : decode cc pc = .ok (.putfield 61, 3)) (q0 : Nat) (he : ws[q0]? = some (a, .inr (6, fs))) (hn : narrow .int v = v) (hfit : fits .int v = true) (hlen : 10 < fs.length) (w1 : va_W) (hw : ws.set q0 (a, .inr (6, fs.set 10 v)) = w1) (k : KJ X Q G A nL (pc + 3) lv st w1) : KJ X Q G A nL pc lv (v :: .ref a :: st) ws :=
  k_put (ref := RX6) (T := TX6) (N := 11) (ci := 6) (ty := .int) pc cx inX6 rfl tyX6 tyX6_ok nmX6 10 (by decide) (tb_m (i := 245) rfl rfl) rfl rfl (by decide +kernel) hd q0 he hn hfit hlen w1 hw k
def w_X6_faulty (G : GT) (h_t : Nat) (h_t_valley : Nat) (h_t_text : Nat) (h_t_pulls : Nat) (h_t_triedPulls : Nat) (h_t_readings : Nat) (h_t_heard : Nat) (h_t_trial : Nat) (h_t_sheets : Nat) (t_heardIsCurrent : Int32) (t_trace : Int32) (t_fault : Int32) : va_W := [(h_t, .inr (6, [.ref h_t_valley, .ref h_t_text, .ref h_t_pulls, .ref h_t_triedPulls, .ref h_t_readings, .ref h_t_heard, .ref h_t_trial, .ref h_t_sheets, .int t_heardIsCurrent, .int t_trace, .int t_fault]))]
def M_X6_faulty (a1 : Int32) : Option (Int32 × Int32) := (some (((-10 : Int32) - a1), a1))
set_option maxHeartbeats 4000000 in
set_option maxRecDepth 100000 in
theorem c_X6_faulty (l : Launch) (G : GT) (h_t : Nat) (h_t_valley : Nat) (h_t_text : Nat) (h_t_pulls : Nat) (h_t_triedPulls : Nat) (h_t_readings : Nat) (h_t_heard : Nat) (h_t_trial : Nat) (h_t_sheets : Nat) (t_heardIsCurrent : Int32) (t_trace : Int32) (t_fault : Int32) (a1 : Int32) {u : Int32 × Int32} (hm : M_X6_faulty a1 = some u) : CT l yX6_faulty cX6_faulty 2 (some .int) 0 0 [.ref h_t, .int a1] G (w_X6_faulty G h_t h_t_valley h_t_text h_t_pulls h_t_triedPulls h_t_readings h_t_heard h_t_trial h_t_sheets t_heardIsCurrent t_trace t_fault) (some (.int u.1)) (w_X6_faulty G h_t h_t_valley h_t_text h_t_pulls h_t_triedPulls h_t_readings h_t_heard h_t_trial h_t_sheets t_heardIsCurrent t_trace u.2) := by
  refine ct_intro RX6 [(0, .ref h_t), (1, .int a1)] (by decide) rfl (Nat.le_of_ble_eq_true rfl) rfl (fun X hX cx => ?_)
  unfold M_X6_faulty at hm
  refine k_aload_n 0 cx dX6_faulty_0 rfl 0 rfl ?_
  refine k_iload_n 1 cx dX6_faulty_1 rfl 1 rfl ?_
  refine fpX6_61 2 cx dX6_faulty_2 0 rfl rfl rfl (by simp) (w1 := (w_X6_faulty G h_t h_t_valley h_t_text h_t_pulls h_t_triedPulls h_t_readings h_t_heard h_t_trial h_t_sheets t_heardIsCurrent t_trace a1)) rfl ?_
  refine k_bipush 5 cx (v := (-10 : Int32)) dX6_faulty_5 (by decide) ?_
  refine k_iload_n 7 cx dX6_faulty_7 rfl 1 rfl ?_
  refine k_isub 8 cx dX6_faulty_8 ?_
  obtain rfl := Option.some.inj hm
  exact k_iret 9 cx dX6_faulty_9 rfl rfl
set_option maxRecDepth 100000 in
theorem fgX6_12 {X : XT} {Q : State → Prop} {G : GT} {A : Nat → Prop} {nL : Nat} {lv : List (Nat × Value)} {st : List Value} {ws : va_W} {cc : ByteArray} {fr lo : Nat} {ret : Option FieldType} (pc : Nat) (cx : Cx X cc nL RX6 G fr lo ret) {a : Nat} {fs : List Value} {v : Value} (hd : decode cc pc = .ok (.getfield 12, 3)) (q0 : Nat) (he : ws[q0]? = some (a, .inr (6, fs))) (hv : fs[0]? = some v) (k : KJ X Q G A nL (pc + 3) lv (v :: st) ws) : KJ X Q G A nL pc lv (.ref a :: st) ws :=
  k_get (ref := RX6) (T := TX6) (N := 11) (ci := 6) pc cx inX6 rfl 0 (by decide) (tb_m (i := 235) rfl rfl) rfl hd q0 he hv k
set_option maxRecDepth 100000 in
theorem fgX6_21 {X : XT} {Q : State → Prop} {G : GT} {A : Nat → Prop} {nL : Nat} {lv : List (Nat × Value)} {st : List Value} {ws : va_W} {cc : ByteArray} {fr lo : Nat} {ret : Option FieldType} (pc : Nat) (cx : Cx X cc nL RX6 G fr lo ret) {a : Nat} {fs : List Value} {v : Value} (hd : decode cc pc = .ok (.getfield 21, 3)) (q0 : Nat) (he : ws[q0]? = some (a, .inr (6, fs))) (hv : fs[1]? = some v) (k : KJ X Q G A nL (pc + 3) lv (v :: st) ws) : KJ X Q G A nL pc lv (.ref a :: st) ws :=
  k_get (ref := RX6) (T := TX6) (N := 11) (ci := 6) pc cx inX6 rfl 1 (by decide) (tb_m (i := 236) rfl rfl) rfl hd q0 he hv k
set_option maxRecDepth 100000 in
theorem fgX6_28 {X : XT} {Q : State → Prop} {G : GT} {A : Nat → Prop} {nL : Nat} {lv : List (Nat × Value)} {st : List Value} {ws : va_W} {cc : ByteArray} {fr lo : Nat} {ret : Option FieldType} (pc : Nat) (cx : Cx X cc nL RX6 G fr lo ret) {a : Nat} {fs : List Value} {v : Value} (hd : decode cc pc = .ok (.getfield 28, 3)) (q0 : Nat) (he : ws[q0]? = some (a, .inr (6, fs))) (hv : fs[2]? = some v) (k : KJ X Q G A nL (pc + 3) lv (v :: st) ws) : KJ X Q G A nL pc lv (.ref a :: st) ws :=
  k_get (ref := RX6) (T := TX6) (N := 11) (ci := 6) pc cx inX6 rfl 2 (by decide) (tb_m (i := 237) rfl rfl) rfl hd q0 he hv k
set_option maxRecDepth 100000 in
theorem fgX6_38 {X : XT} {Q : State → Prop} {G : GT} {A : Nat → Prop} {nL : Nat} {lv : List (Nat × Value)} {st : List Value} {ws : va_W} {cc : ByteArray} {fr lo : Nat} {ret : Option FieldType} (pc : Nat) (cx : Cx X cc nL RX6 G fr lo ret) {a : Nat} {fs : List Value} {v : Value} (hd : decode cc pc = .ok (.getfield 38, 3)) (q0 : Nat) (he : ws[q0]? = some (a, .inr (6, fs))) (hv : fs[4]? = some v) (k : KJ X Q G A nL (pc + 3) lv (v :: st) ws) : KJ X Q G A nL pc lv (.ref a :: st) ws :=
  k_get (ref := RX6) (T := TX6) (N := 11) (ci := 6) pc cx inX6 rfl 4 (by decide) (tb_m (i := 239) rfl rfl) rfl hd q0 he hv k
set_option maxRecDepth 100000 in
theorem fgX6_56 {X : XT} {Q : State → Prop} {G : GT} {A : Nat → Prop} {nL : Nat} {lv : List (Nat × Value)} {st : List Value} {ws : va_W} {cc : ByteArray} {fr lo : Nat} {ret : Option FieldType} (pc : Nat) (cx : Cx X cc nL RX6 G fr lo ret) {a : Nat} {fs : List Value} {v : Value} (hd : decode cc pc = .ok (.getfield 56, 3)) (q0 : Nat) (he : ws[q0]? = some (a, .inr (6, fs))) (hv : fs[7]? = some v) (k : KJ X Q G A nL (pc + 3) lv (v :: st) ws) : KJ X Q G A nL pc lv (.ref a :: st) ws :=
  k_get (ref := RX6) (T := TX6) (N := 11) (ci := 6) pc cx inX6 rfl 7 (by decide) (tb_m (i := 242) rfl rfl) rfl hd q0 he hv k
set_option maxRecDepth 100000 in
theorem fgX6_80 {X : XT} {Q : State → Prop} {G : GT} {A : Nat → Prop} {nL : Nat} {lv : List (Nat × Value)} {st : List Value} {ws : va_W} {cc : ByteArray} {fr lo : Nat} {ret : Option FieldType} (pc : Nat) (cx : Cx X cc nL RX6 G fr lo ret) {a : Nat} {fs : List Value} {v : Value} (hd : decode cc pc = .ok (.getfield 80, 3)) (q0 : Nat) (he : ws[q0]? = some (a, .inr (3, fs))) (hv : fs[0]? = some v) (k : KJ X Q G A nL (pc + 3) lv (v :: st) ws) : KJ X Q G A nL pc lv (.ref a :: st) ws :=
  k_get (ref := RX3) (T := TX3) (N := 3) (ci := 3) pc cx inX3 rfl 0 (by decide) (tb_m (i := 223) rfl rfl) rfl hd q0 he hv k
set_option maxRecDepth 100000 in
theorem fgX6_88 {X : XT} {Q : State → Prop} {G : GT} {A : Nat → Prop} {nL : Nat} {lv : List (Nat × Value)} {st : List Value} {ws : va_W} {cc : ByteArray} {fr lo : Nat} {ret : Option FieldType} (pc : Nat) (cx : Cx X cc nL RX6 G fr lo ret) {a : Nat} {fs : List Value} {v : Value} (hd : decode cc pc = .ok (.getfield 88, 3)) (q0 : Nat) (he : ws[q0]? = some (a, .inr (4, fs))) (hv : fs[0]? = some v) (k : KJ X Q G A nL (pc + 3) lv (v :: st) ws) : KJ X Q G A nL pc lv (.ref a :: st) ws :=
  k_get (ref := RX4) (T := TX4) (N := 2) (ci := 4) pc cx inX4 rfl 0 (by decide) (tb_m (i := 137) rfl rfl) rfl hd q0 he hv k
set_option maxRecDepth 100000 in
theorem fgX6_102 {X : XT} {Q : State → Prop} {G : GT} {A : Nat → Prop} {nL : Nat} {lv : List (Nat × Value)} {st : List Value} {ws : va_W} {cc : ByteArray} {fr lo : Nat} {ret : Option FieldType} (pc : Nat) (cx : Cx X cc nL RX6 G fr lo ret) {a : Nat} {fs : List Value} {v : Value} (hd : decode cc pc = .ok (.getfield 102, 3)) (q0 : Nat) (he : ws[q0]? = some (a, .inr (5, fs))) (hv : fs[5]? = some v) (k : KJ X Q G A nL (pc + 3) lv (v :: st) ws) : KJ X Q G A nL pc lv (.ref a :: st) ws :=
  k_get (ref := RX5) (T := TX5) (N := 9) (ci := 5) pc cx inX5 rfl 5 (by decide) (tb_m (i := 98) rfl rfl) rfl hd q0 he hv k
set_option maxRecDepth 100000 in
theorem fpX6_94 {X : XT} {Q : State → Prop} {G : GT} {A : Nat → Prop} {nL : Nat} {lv : List (Nat × Value)} {st : List Value} {ws : va_W} {cc : ByteArray} {fr lo : Nat} {ret : Option FieldType} (pc : Nat) (cx : Cx X cc nL RX6 G fr lo ret) {a : Nat} {fs : List Value} {v : Value} (hd : decode cc pc = .ok (.putfield 94, 3)) (q0 : Nat) (he : ws[q0]? = some (a, .inr (1, fs))) (hn : narrow .int v = v) (hfit : fits .int v = true) (hlen : 3 < fs.length) (w1 : va_W) (hw : ws.set q0 (a, .inr (1, fs.set 3 v)) = w1) (k : KJ X Q G A nL (pc + 3) lv st w1) : KJ X Q G A nL pc lv (v :: .ref a :: st) ws :=
  k_put (ref := RX1) (T := TX1) (N := 4) (ci := 1) (ty := .int) pc cx inX1 rfl tyX1 tyX1_ok nmX1 3 (by decide) (tb_m (i := 157) rfl rfl) rfl rfl (by decide +kernel) hd q0 he hn hfit hlen w1 hw k
set_option maxRecDepth 100000 in
theorem fpX6_97 {X : XT} {Q : State → Prop} {G : GT} {A : Nat → Prop} {nL : Nat} {lv : List (Nat × Value)} {st : List Value} {ws : va_W} {cc : ByteArray} {fr lo : Nat} {ret : Option FieldType} (pc : Nat) (cx : Cx X cc nL RX6 G fr lo ret) {a : Nat} {fs : List Value} {v : Value} (hd : decode cc pc = .ok (.putfield 97, 3)) (q0 : Nat) (he : ws[q0]? = some (a, .inr (2, fs))) (hn : narrow .int v = v) (hfit : fits .int v = true) (hlen : 3 < fs.length) (w1 : va_W) (hw : ws.set q0 (a, .inr (2, fs.set 3 v)) = w1) (k : KJ X Q G A nL (pc + 3) lv st w1) : KJ X Q G A nL pc lv (v :: .ref a :: st) ws :=
  k_put (ref := RX2) (T := TX2) (N := 4) (ci := 2) (ty := .int) pc cx inX2 rfl tyX2 tyX2_ok nmX2 3 (by decide) (tb_m (i := 178) rfl rfl) rfl rfl (by decide +kernel) hd q0 he hn hfit hlen w1 hw k
set_option maxRecDepth 100000 in
theorem fpX6_98 {X : XT} {Q : State → Prop} {G : GT} {A : Nat → Prop} {nL : Nat} {lv : List (Nat × Value)} {st : List Value} {ws : va_W} {cc : ByteArray} {fr lo : Nat} {ret : Option FieldType} (pc : Nat) (cx : Cx X cc nL RX6 G fr lo ret) {a : Nat} {fs : List Value} {v : Value} (hd : decode cc pc = .ok (.putfield 98, 3)) (q0 : Nat) (he : ws[q0]? = some (a, .inr (6, fs))) (hn : narrow .boolean v = v) (hfit : fits .boolean v = true) (hlen : 8 < fs.length) (w1 : va_W) (hw : ws.set q0 (a, .inr (6, fs.set 8 v)) = w1) (k : KJ X Q G A nL (pc + 3) lv st w1) : KJ X Q G A nL pc lv (v :: .ref a :: st) ws :=
  k_put (ref := RX6) (T := TX6) (N := 11) (ci := 6) (ty := .boolean) pc cx inX6 rfl tyX6 tyX6_ok nmX6 8 (by decide) (tb_m (i := 243) rfl rfl) rfl rfl (by decide +kernel) hd q0 he hn hfit hlen w1 hw k
set_option maxRecDepth 100000 in
theorem cwX6_65 : CWS RX6 65 yX6_isSheet cX6_isSheet 1 (some .boolean) 1 := ⟨tb_m (i := 273) rfl rfl, tb_m (i := 274) rfl rfl, tb_m (i := 51) rfl rfl, tb_m (i := 275) rfl rfl, ⟨by decide +kernel, by decide +kernel, by decide +kernel⟩⟩
set_option maxRecDepth 100000 in
theorem cwX6_69 : CWS RX6 69 yX6_isLane cX6_isLane 1 (some .boolean) 1 := ⟨tb_m (i := 276) rfl rfl, tb_m (i := 277) rfl rfl, tb_m (i := 51) rfl rfl, tb_m (i := 278) rfl rfl, ⟨by decide +kernel, by decide +kernel, by decide +kernel⟩⟩
set_option maxRecDepth 100000 in
theorem cwX6_72 : CWV RX6 72 RX3 yX3_faultOfCells cX3_faultOfCells 5 (some .int) 3 3 TX3 3 := ⟨tb_m (i := 279) rfl rfl, tb_m (i := 280) rfl rfl, tb_m (i := 281) rfl rfl, tb_m (i := 57) rfl rfl, tb_m (i := 282) rfl rfl, ⟨by decide +kernel, by decide +kernel, by decide +kernel⟩, rfl⟩
set_option maxRecDepth 100000 in
theorem cwX6_76 : CWV RX6 76 RX6 yX6_faulty cX6_faulty 2 (some .int) 1 6 TX6 11 := ⟨tb_m (i := 295) rfl rfl, tb_m (i := 297) rfl rfl, tb_m (i := 0) rfl rfl, tb_m (i := 51) rfl rfl, tb_m (i := 298) rfl rfl, ⟨by decide +kernel, by decide +kernel, by decide +kernel⟩, rfl⟩
set_option maxRecDepth 100000 in
theorem cwX6_84 : CWV RX6 84 RX4 yX4_firstFault cX4_firstFault 5 (some .int) 3 4 TX4 2 := ⟨tb_m (i := 299) rfl rfl, tb_m (i := 300) rfl rfl, tb_m (i := 301) rfl rfl, tb_m (i := 53) rfl rfl, tb_m (i := 302) rfl rfl, ⟨by decide +kernel, by decide +kernel, by decide +kernel⟩, rfl⟩
set_option maxRecDepth 100000 in
theorem cwX6_91 : CWV RX6 91 RX5 yX5_become cX5_become 2 none 1 5 TX5 9 := ⟨tb_m (i := 338) rfl rfl, tb_m (i := 339) rfl rfl, tb_m (i := 340) rfl rfl, tb_m (i := 52) rfl rfl, tb_m (i := 341) rfl rfl, ⟨by decide +kernel, by decide +kernel, by decide +kernel⟩, rfl⟩
def w_X6_valley (G : GT) (sa : Nat → Nat) (kk : Nat) (h_t : Nat) (h_t_sheets : Nat) (h_t_text : Nat) (h_t_text_told : Nat) (h_E_cells : Nat) (h_t_text_told_kinds : Nat) (h_t_text_told_needs : Nat) (h_t_text_told_to : Nat) (h_t_text_told_from : Nat) (h_t_text_told_lasts : Nat) (h_t_valley : Nat) (h_t_valley_kinds : Nat) (h_t_valley_needs : Nat) (h_t_valley_from : Nat) (h_t_valley_to : Nat) (h_t_valley_lasts : Nat) (h_t_pulls : Nat) (h_t_readings : Nat) (h_t_triedPulls : Nat) (h_t_heard : Nat) (h_t_trial : Nat) (h_t_pulls_bells : Nat) (h_t_pulls_minutes : Nat) (h_t_pulls_times : Nat) (h_t_readings_bells : Nat) (h_t_readings_minutes : Nat) (h_t_readings_rang : Nat) (t_heardIsCurrent : Int32) (t_trace : Int32) (t_fault : Int32) (E_lane : Int32) (E_size : Int32) (t_text_state : Int32) (t_text_told_bells : Int32) (t_text_told_ropes : Int32) (t_text_told_span : Int32) (t_text_told_tied : Int32) (E_cells : (Nat → Int32)) (t_text_told_kinds : (Nat → Int32)) (t_text_told_needs : (Nat → Int32)) (t_text_told_to : (Nat → Int32)) (t_text_told_from : (Nat → Int32)) (t_text_told_lasts : (Nat → Int32)) (t_valley_bells : Int32) (t_valley_ropes : Int32) (t_valley_span : Int32) (t_valley_tied : Int32) (t_valley_kinds : (Nat → Int32)) (t_valley_needs : (Nat → Int32)) (t_valley_from : (Nat → Int32)) (t_valley_to : (Nat → Int32)) (t_valley_lasts : (Nat → Int32)) (t_pulls_count : Int32) (t_readings_count : Int32) : va_W := [(h_t, .inr (6, [.ref h_t_valley, .ref h_t_text, .ref h_t_pulls, .ref h_t_triedPulls, .ref h_t_readings, .ref h_t_heard, .ref h_t_trial, .ref h_t_sheets, .int t_heardIsCurrent, .int t_trace, .int t_fault])), (h_t_sheets, .inl (G.2.2.2, 4, .inr (.inr (.inr (.inr (fun j => some (sa j))))))), ((sa kk), .inr (3, [.ref h_E_cells, .int E_lane, .int E_size])), (h_t_text, .inr (4, [.ref h_t_text_told, .int t_text_state])), (h_t_text_told, .inr (5, [.ref h_t_text_told_kinds, .ref h_t_text_told_needs, .ref h_t_text_told_from, .ref h_t_text_told_to, .ref h_t_text_told_lasts, .int t_text_told_bells, .int t_text_told_ropes, .int t_text_told_span, .int t_text_told_tied])), (h_E_cells, .inl (G.2.1, 60, .inl E_cells)), (h_t_text_told_kinds, .inl (G.2.1, 6, .inl t_text_told_kinds)), (h_t_text_told_needs, .inl (G.2.1, 6, .inl t_text_told_needs)), (h_t_text_told_to, .inl (G.2.1, 9, .inl t_text_told_to)), (h_t_text_told_from, .inl (G.2.1, 9, .inl t_text_told_from)), (h_t_text_told_lasts, .inl (G.2.1, 9, .inl t_text_told_lasts)), (h_t_valley, .inr (5, [.ref h_t_valley_kinds, .ref h_t_valley_needs, .ref h_t_valley_from, .ref h_t_valley_to, .ref h_t_valley_lasts, .int t_valley_bells, .int t_valley_ropes, .int t_valley_span, .int t_valley_tied])), (h_t_valley_kinds, .inl (G.2.1, 6, .inl t_valley_kinds)), (h_t_valley_needs, .inl (G.2.1, 6, .inl t_valley_needs)), (h_t_valley_from, .inl (G.2.1, 9, .inl t_valley_from)), (h_t_valley_to, .inl (G.2.1, 9, .inl t_valley_to)), (h_t_valley_lasts, .inl (G.2.1, 9, .inl t_valley_lasts)), (h_t_pulls, .inr (1, [.ref h_t_pulls_bells, .ref h_t_pulls_minutes, .ref h_t_pulls_times, .int t_pulls_count])), (h_t_readings, .inr (2, [.ref h_t_readings_bells, .ref h_t_readings_minutes, .ref h_t_readings_rang, .int t_readings_count]))]
def M_X6_valley (t_heardIsCurrent : Int32) (E_lane : Int32) (E_size : Int32) (t_text_state : Int32) (t_text_told_bells : Int32) (t_text_told_ropes : Int32) (t_text_told_span : Int32) (t_text_told_tied : Int32) (E_cells : (Nat → Int32)) (t_text_told_kinds : (Nat → Int32)) (t_text_told_needs : (Nat → Int32)) (t_text_told_to : (Nat → Int32)) (t_text_told_from : (Nat → Int32)) (t_text_told_lasts : (Nat → Int32)) (t_valley_bells : Int32) (t_valley_ropes : Int32) (t_valley_span : Int32) (t_valley_tied : Int32) (t_valley_kinds : (Nat → Int32)) (t_valley_needs : (Nat → Int32)) (t_valley_from : (Nat → Int32)) (t_valley_to : (Nat → Int32)) (t_valley_lasts : (Nat → Int32)) (t_pulls_count : Int32) (t_readings_count : Int32) (a1 : Int32) (a2 : Int32) (a3 : Int32) (a4 : Int32) : Option (Int32 × Int32 × Int32 × Int32 × Int32 × Int32 × Int32 × Int32 × (Nat → Int32) × (Nat → Int32) × (Nat → Int32) × (Nat → Int32) × (Nat → Int32) × Int32 × Int32 × Int32 × Int32 × (Nat → Int32) × (Nat → Int32) × (Nat → Int32) × (Nat → Int32) × (Nat → Int32) × Int32 × Int32) := ((M_X6_isSheet a1).bind (fun u1 => (if u1 = 0 then (some ((-1 : Int32), t_heardIsCurrent, (0 : Int32), t_text_state, t_text_told_bells, t_text_told_ropes, t_text_told_span, t_text_told_tied, t_text_told_kinds, t_text_told_needs, t_text_told_to, t_text_told_from, t_text_told_lasts, t_valley_bells, t_valley_ropes, t_valley_span, t_valley_tied, t_valley_kinds, t_valley_needs, t_valley_from, t_valley_to, t_valley_lasts, t_pulls_count, t_readings_count)) else ((M_X6_isLane a2).bind (fun u2 => (if u2 = 0 then (some ((-2 : Int32), t_heardIsCurrent, (0 : Int32), t_text_state, t_text_told_bells, t_text_told_ropes, t_text_told_span, t_text_told_tied, t_text_told_kinds, t_text_told_needs, t_text_told_to, t_text_told_from, t_text_told_lasts, t_valley_bells, t_valley_ropes, t_valley_span, t_valley_tied, t_valley_kinds, t_valley_needs, t_valley_from, t_valley_to, t_valley_lasts, t_pulls_count, t_readings_count)) else (gB (inb a1 4) ((M_X3_faultOfCells E_lane E_size a2 a3 a4).bind (fun u3 => (if u3 = 0 then (gB (inb a1 4) ((M_X4_firstFault E_cells t_text_told_kinds t_text_told_needs t_text_told_to t_text_told_from t_text_told_lasts a3 a4).bind (fun u4 => (if u4.1 = (-9 : Int32) then ((M_X5_become u4.2.2.1 u4.2.2.2.1 u4.2.2.2.2.1 u4.2.2.2.2.2.1 u4.2.2.2.2.2.2.1 t_valley_kinds u4.2.2.2.2.2.2.2.1 t_valley_needs u4.2.2.2.2.2.2.2.2.2.1 t_valley_from u4.2.2.2.2.2.2.2.2.1 t_valley_to u4.2.2.2.2.2.2.2.2.2.2 t_valley_lasts).bind (fun u5 => (some (u5.1, (0 : Int32), (0 : Int32), u4.2.1, u4.2.2.1, u4.2.2.2.1, u4.2.2.2.2.1, u4.2.2.2.2.2.1, u4.2.2.2.2.2.2.1, u4.2.2.2.2.2.2.2.1, u4.2.2.2.2.2.2.2.2.1, u4.2.2.2.2.2.2.2.2.2.1, u4.2.2.2.2.2.2.2.2.2.2, u5.1, u5.2.1, u5.2.2.1, u5.2.2.2.1, u5.2.2.2.2.1, u5.2.2.2.2.2.1, u5.2.2.2.2.2.2.1, u5.2.2.2.2.2.2.2.1, u5.2.2.2.2.2.2.2.2, (0 : Int32), (0 : Int32))))) else (some (((-100 : Int32) - u4.1), t_heardIsCurrent, (0 : Int32), u4.2.1, u4.2.2.1, u4.2.2.2.1, u4.2.2.2.2.1, u4.2.2.2.2.2.1, u4.2.2.2.2.2.2.1, u4.2.2.2.2.2.2.2.1, u4.2.2.2.2.2.2.2.2.1, u4.2.2.2.2.2.2.2.2.2.1, u4.2.2.2.2.2.2.2.2.2.2, t_valley_bells, t_valley_ropes, t_valley_span, t_valley_tied, t_valley_kinds, t_valley_needs, t_valley_from, t_valley_to, t_valley_lasts, t_pulls_count, t_readings_count)))))) else ((M_X6_faulty u3).bind (fun u6 => (some (u6.1, t_heardIsCurrent, u6.2, t_text_state, t_text_told_bells, t_text_told_ropes, t_text_told_span, t_text_told_tied, t_text_told_kinds, t_text_told_needs, t_text_told_to, t_text_told_from, t_text_told_lasts, t_valley_bells, t_valley_ropes, t_valley_span, t_valley_tied, t_valley_kinds, t_valley_needs, t_valley_from, t_valley_to, t_valley_lasts, t_pulls_count, t_readings_count))))))))))))))
set_option maxHeartbeats 4000000 in
set_option maxRecDepth 100000 in
theorem c_X6_valley (l : Launch) (G : GT) (sa : Nat → Nat) (kk : Nat) (h_t : Nat) (h_t_sheets : Nat) (h_t_text : Nat) (h_t_text_told : Nat) (h_E_cells : Nat) (h_t_text_told_kinds : Nat) (h_t_text_told_needs : Nat) (h_t_text_told_to : Nat) (h_t_text_told_from : Nat) (h_t_text_told_lasts : Nat) (h_t_valley : Nat) (h_t_valley_kinds : Nat) (h_t_valley_needs : Nat) (h_t_valley_from : Nat) (h_t_valley_to : Nat) (h_t_valley_lasts : Nat) (h_t_pulls : Nat) (h_t_readings : Nat) (h_t_triedPulls : Nat) (h_t_heard : Nat) (h_t_trial : Nat) (h_t_pulls_bells : Nat) (h_t_pulls_minutes : Nat) (h_t_pulls_times : Nat) (h_t_readings_bells : Nat) (h_t_readings_minutes : Nat) (h_t_readings_rang : Nat) (t_heardIsCurrent : Int32) (t_trace : Int32) (t_fault : Int32) (E_lane : Int32) (E_size : Int32) (t_text_state : Int32) (t_text_told_bells : Int32) (t_text_told_ropes : Int32) (t_text_told_span : Int32) (t_text_told_tied : Int32) (E_cells : (Nat → Int32)) (t_text_told_kinds : (Nat → Int32)) (t_text_told_needs : (Nat → Int32)) (t_text_told_to : (Nat → Int32)) (t_text_told_from : (Nat → Int32)) (t_text_told_lasts : (Nat → Int32)) (t_valley_bells : Int32) (t_valley_ropes : Int32) (t_valley_span : Int32) (t_valley_tied : Int32) (t_valley_kinds : (Nat → Int32)) (t_valley_needs : (Nat → Int32)) (t_valley_from : (Nat → Int32)) (t_valley_to : (Nat → Int32)) (t_valley_lasts : (Nat → Int32)) (t_pulls_count : Int32) (t_readings_count : Int32) (a1 : Int32) (a2 : Int32) (a3 : Int32) (a4 : Int32) (hkk : inb a1 4 = true → Int32.toNatClampNeg a1 = kk) {u : Int32 × Int32 × Int32 × Int32 × Int32 × Int32 × Int32 × Int32 × (Nat → Int32) × (Nat → Int32) × (Nat → Int32) × (Nat → Int32) × (Nat → Int32) × Int32 × Int32 × Int32 × Int32 × (Nat → Int32) × (Nat → Int32) × (Nat → Int32) × (Nat → Int32) × (Nat → Int32) × Int32 × Int32} (hm : M_X6_valley t_heardIsCurrent E_lane E_size t_text_state t_text_told_bells t_text_told_ropes t_text_told_span t_text_told_tied E_cells t_text_told_kinds t_text_told_needs t_text_told_to t_text_told_from t_text_told_lasts t_valley_bells t_valley_ropes t_valley_span t_valley_tied t_valley_kinds t_valley_needs t_valley_from t_valley_to t_valley_lasts t_pulls_count t_readings_count a1 a2 a3 a4 = some u) : CT l yX6_valley cX6_valley 7 (some .int) 4 87 [.ref h_t, .int a1, .int a2, .int a3, .int a4] G (w_X6_valley G sa kk h_t h_t_sheets h_t_text h_t_text_told h_E_cells h_t_text_told_kinds h_t_text_told_needs h_t_text_told_to h_t_text_told_from h_t_text_told_lasts h_t_valley h_t_valley_kinds h_t_valley_needs h_t_valley_from h_t_valley_to h_t_valley_lasts h_t_pulls h_t_readings h_t_triedPulls h_t_heard h_t_trial h_t_pulls_bells h_t_pulls_minutes h_t_pulls_times h_t_readings_bells h_t_readings_minutes h_t_readings_rang t_heardIsCurrent t_trace t_fault E_lane E_size t_text_state t_text_told_bells t_text_told_ropes t_text_told_span t_text_told_tied E_cells t_text_told_kinds t_text_told_needs t_text_told_to t_text_told_from t_text_told_lasts t_valley_bells t_valley_ropes t_valley_span t_valley_tied t_valley_kinds t_valley_needs t_valley_from t_valley_to t_valley_lasts t_pulls_count t_readings_count) (some (.int u.1)) (w_X6_valley G sa kk h_t h_t_sheets h_t_text h_t_text_told h_E_cells h_t_text_told_kinds h_t_text_told_needs h_t_text_told_to h_t_text_told_from h_t_text_told_lasts h_t_valley h_t_valley_kinds h_t_valley_needs h_t_valley_from h_t_valley_to h_t_valley_lasts h_t_pulls h_t_readings h_t_triedPulls h_t_heard h_t_trial h_t_pulls_bells h_t_pulls_minutes h_t_pulls_times h_t_readings_bells h_t_readings_minutes h_t_readings_rang u.2.1 t_trace u.2.2.1 E_lane E_size u.2.2.2.1 u.2.2.2.2.1 u.2.2.2.2.2.1 u.2.2.2.2.2.2.1 u.2.2.2.2.2.2.2.1 E_cells u.2.2.2.2.2.2.2.2.1 u.2.2.2.2.2.2.2.2.2.1 u.2.2.2.2.2.2.2.2.2.2.1 u.2.2.2.2.2.2.2.2.2.2.2.1 u.2.2.2.2.2.2.2.2.2.2.2.2.1 u.2.2.2.2.2.2.2.2.2.2.2.2.2.1 u.2.2.2.2.2.2.2.2.2.2.2.2.2.2.1 u.2.2.2.2.2.2.2.2.2.2.2.2.2.2.2.1 u.2.2.2.2.2.2.2.2.2.2.2.2.2.2.2.2.1 u.2.2.2.2.2.2.2.2.2.2.2.2.2.2.2.2.2.1 u.2.2.2.2.2.2.2.2.2.2.2.2.2.2.2.2.2.2.1 u.2.2.2.2.2.2.2.2.2.2.2.2.2.2.2.2.2.2.2.1 u.2.2.2.2.2.2.2.2.2.2.2.2.2.2.2.2.2.2.2.2.1 u.2.2.2.2.2.2.2.2.2.2.2.2.2.2.2.2.2.2.2.2.2.1 u.2.2.2.2.2.2.2.2.2.2.2.2.2.2.2.2.2.2.2.2.2.2.1 u.2.2.2.2.2.2.2.2.2.2.2.2.2.2.2.2.2.2.2.2.2.2.2) := by
  refine ct_intro RX6 [(0, .ref h_t), (1, .int a1), (2, .int a2), (3, .int a3), (4, .int a4)] (by decide) rfl (Nat.le_of_ble_eq_true rfl) rfl (fun X hX cx => ?_)
  unfold M_X6_valley at hm
  refine k_aload_n 0 cx dX6_valley_0 rfl 0 rfl ?_
  refine k_iconst 1 cx (v := (0 : Int32)) dX6_valley_1 (by decide) ?_
  refine fpX6_61 2 cx dX6_valley_2 0 rfl rfl rfl (by simp) (w1 := (w_X6_valley G sa kk h_t h_t_sheets h_t_text h_t_text_told h_E_cells h_t_text_told_kinds h_t_text_told_needs h_t_text_told_to h_t_text_told_from h_t_text_told_lasts h_t_valley h_t_valley_kinds h_t_valley_needs h_t_valley_from h_t_valley_to h_t_valley_lasts h_t_pulls h_t_readings h_t_triedPulls h_t_heard h_t_trial h_t_pulls_bells h_t_pulls_minutes h_t_pulls_times h_t_readings_bells h_t_readings_minutes h_t_readings_rang t_heardIsCurrent t_trace (0 : Int32) E_lane E_size t_text_state t_text_told_bells t_text_told_ropes t_text_told_span t_text_told_tied E_cells t_text_told_kinds t_text_told_needs t_text_told_to t_text_told_from t_text_told_lasts t_valley_bells t_valley_ropes t_valley_span t_valley_tied t_valley_kinds t_valley_needs t_valley_from t_valley_to t_valley_lasts t_pulls_count t_readings_count)) rfl ?_
  refine k_iload_n 5 cx dX6_valley_5 rfl 1 rfl ?_
  obtain ⟨u1, hu1, hm⟩ := bnd hm
  refine k_callS 6 cx cwX6_65 (c_X6_isSheet X.2.1 G a1 hu1) dX6_valley_6 ⟨by decide, by decide⟩ rfl (rest := []) rfl (Nat.le_of_ble_eq_true rfl) [] (by decide) rfl rfl (w2 := (w_X6_valley G sa kk h_t h_t_sheets h_t_text h_t_text_told h_E_cells h_t_text_told_kinds h_t_text_told_needs h_t_text_told_to h_t_text_told_from h_t_text_told_lasts h_t_valley h_t_valley_kinds h_t_valley_needs h_t_valley_from h_t_valley_to h_t_valley_lasts h_t_pulls h_t_readings h_t_triedPulls h_t_heard h_t_trial h_t_pulls_bells h_t_pulls_minutes h_t_pulls_times h_t_readings_bells h_t_readings_minutes h_t_readings_rang t_heardIsCurrent t_trace (0 : Int32) E_lane E_size t_text_state t_text_told_bells t_text_told_ropes t_text_told_span t_text_told_tied E_cells t_text_told_kinds t_text_told_needs t_text_told_to t_text_told_from t_text_told_lasts t_valley_bells t_valley_ropes t_valley_span t_valley_tied t_valley_kinds t_valley_needs t_valley_from t_valley_to t_valley_lasts t_pulls_count t_readings_count)) [0, 1, 2, 3, 4, 5, 6, 7, 8, 9, 10, 11, 12, 13, 14, 15, 16, 17, 18] 19 rfl [(h_t, .inr (6, [.ref h_t_valley, .ref h_t_text, .ref h_t_pulls, .ref h_t_triedPulls, .ref h_t_readings, .ref h_t_heard, .ref h_t_trial, .ref h_t_sheets, .int t_heardIsCurrent, .int t_trace, .int (0 : Int32)])), (h_t_sheets, .inl (G.2.2.2, 4, .inr (.inr (.inr (.inr (fun j => some (sa j))))))), ((sa kk), .inr (3, [.ref h_E_cells, .int E_lane, .int E_size])), (h_t_text, .inr (4, [.ref h_t_text_told, .int t_text_state])), (h_t_text_told, .inr (5, [.ref h_t_text_told_kinds, .ref h_t_text_told_needs, .ref h_t_text_told_from, .ref h_t_text_told_to, .ref h_t_text_told_lasts, .int t_text_told_bells, .int t_text_told_ropes, .int t_text_told_span, .int t_text_told_tied])), (h_E_cells, .inl (G.2.1, 60, .inl E_cells)), (h_t_text_told_kinds, .inl (G.2.1, 6, .inl t_text_told_kinds)), (h_t_text_told_needs, .inl (G.2.1, 6, .inl t_text_told_needs)), (h_t_text_told_to, .inl (G.2.1, 9, .inl t_text_told_to)), (h_t_text_told_from, .inl (G.2.1, 9, .inl t_text_told_from)), (h_t_text_told_lasts, .inl (G.2.1, 9, .inl t_text_told_lasts)), (h_t_valley, .inr (5, [.ref h_t_valley_kinds, .ref h_t_valley_needs, .ref h_t_valley_from, .ref h_t_valley_to, .ref h_t_valley_lasts, .int t_valley_bells, .int t_valley_ropes, .int t_valley_span, .int t_valley_tied])), (h_t_valley_kinds, .inl (G.2.1, 6, .inl t_valley_kinds)), (h_t_valley_needs, .inl (G.2.1, 6, .inl t_valley_needs)), (h_t_valley_from, .inl (G.2.1, 9, .inl t_valley_from)), (h_t_valley_to, .inl (G.2.1, 9, .inl t_valley_to)), (h_t_valley_lasts, .inl (G.2.1, 9, .inl t_valley_lasts)), (h_t_pulls, .inr (1, [.ref h_t_pulls_bells, .ref h_t_pulls_minutes, .ref h_t_pulls_times, .int t_pulls_count])), (h_t_readings, .inr (2, [.ref h_t_readings_bells, .ref h_t_readings_minutes, .ref h_t_readings_rang, .int t_readings_count]))] rfl rfl rfl (by decide) (st2 := [.int u1]) rfl ?_
  refine k_if_ne 9 cx (tgt := 14) dX6_valley_9 (by decide) hm (fun hc hm => ?_) (fun hc hm => ?_)
  · refine k_iconst 12 cx (v := (-1 : Int32)) dX6_valley_12 (by decide) ?_
    obtain rfl := Option.some.inj hm
    exact k_iret 13 cx dX6_valley_13 rfl rfl
  · refine k_iload_n 14 cx dX6_valley_14 rfl 2 rfl ?_
    obtain ⟨u2, hu2, hm⟩ := bnd hm
    refine k_callS 15 cx cwX6_69 (c_X6_isLane X.2.1 G a2 hu2) dX6_valley_15 ⟨by decide, by decide⟩ rfl (rest := []) rfl (Nat.le_of_ble_eq_true rfl) [] (by decide) rfl rfl (w2 := (w_X6_valley G sa kk h_t h_t_sheets h_t_text h_t_text_told h_E_cells h_t_text_told_kinds h_t_text_told_needs h_t_text_told_to h_t_text_told_from h_t_text_told_lasts h_t_valley h_t_valley_kinds h_t_valley_needs h_t_valley_from h_t_valley_to h_t_valley_lasts h_t_pulls h_t_readings h_t_triedPulls h_t_heard h_t_trial h_t_pulls_bells h_t_pulls_minutes h_t_pulls_times h_t_readings_bells h_t_readings_minutes h_t_readings_rang t_heardIsCurrent t_trace (0 : Int32) E_lane E_size t_text_state t_text_told_bells t_text_told_ropes t_text_told_span t_text_told_tied E_cells t_text_told_kinds t_text_told_needs t_text_told_to t_text_told_from t_text_told_lasts t_valley_bells t_valley_ropes t_valley_span t_valley_tied t_valley_kinds t_valley_needs t_valley_from t_valley_to t_valley_lasts t_pulls_count t_readings_count)) [0, 1, 2, 3, 4, 5, 6, 7, 8, 9, 10, 11, 12, 13, 14, 15, 16, 17, 18] 19 rfl [(h_t, .inr (6, [.ref h_t_valley, .ref h_t_text, .ref h_t_pulls, .ref h_t_triedPulls, .ref h_t_readings, .ref h_t_heard, .ref h_t_trial, .ref h_t_sheets, .int t_heardIsCurrent, .int t_trace, .int (0 : Int32)])), (h_t_sheets, .inl (G.2.2.2, 4, .inr (.inr (.inr (.inr (fun j => some (sa j))))))), ((sa kk), .inr (3, [.ref h_E_cells, .int E_lane, .int E_size])), (h_t_text, .inr (4, [.ref h_t_text_told, .int t_text_state])), (h_t_text_told, .inr (5, [.ref h_t_text_told_kinds, .ref h_t_text_told_needs, .ref h_t_text_told_from, .ref h_t_text_told_to, .ref h_t_text_told_lasts, .int t_text_told_bells, .int t_text_told_ropes, .int t_text_told_span, .int t_text_told_tied])), (h_E_cells, .inl (G.2.1, 60, .inl E_cells)), (h_t_text_told_kinds, .inl (G.2.1, 6, .inl t_text_told_kinds)), (h_t_text_told_needs, .inl (G.2.1, 6, .inl t_text_told_needs)), (h_t_text_told_to, .inl (G.2.1, 9, .inl t_text_told_to)), (h_t_text_told_from, .inl (G.2.1, 9, .inl t_text_told_from)), (h_t_text_told_lasts, .inl (G.2.1, 9, .inl t_text_told_lasts)), (h_t_valley, .inr (5, [.ref h_t_valley_kinds, .ref h_t_valley_needs, .ref h_t_valley_from, .ref h_t_valley_to, .ref h_t_valley_lasts, .int t_valley_bells, .int t_valley_ropes, .int t_valley_span, .int t_valley_tied])), (h_t_valley_kinds, .inl (G.2.1, 6, .inl t_valley_kinds)), (h_t_valley_needs, .inl (G.2.1, 6, .inl t_valley_needs)), (h_t_valley_from, .inl (G.2.1, 9, .inl t_valley_from)), (h_t_valley_to, .inl (G.2.1, 9, .inl t_valley_to)), (h_t_valley_lasts, .inl (G.2.1, 9, .inl t_valley_lasts)), (h_t_pulls, .inr (1, [.ref h_t_pulls_bells, .ref h_t_pulls_minutes, .ref h_t_pulls_times, .int t_pulls_count])), (h_t_readings, .inr (2, [.ref h_t_readings_bells, .ref h_t_readings_minutes, .ref h_t_readings_rang, .int t_readings_count]))] rfl rfl rfl (by decide) (st2 := [.int u2]) rfl ?_
    refine k_if_ne 18 cx (tgt := 24) dX6_valley_18 (by decide) hm (fun hc hm => ?_) (fun hc hm => ?_)
    · refine k_bipush 21 cx (v := (-2 : Int32)) dX6_valley_21 (by decide) ?_
      obtain rfl := Option.some.inj hm
      exact k_iret 23 cx dX6_valley_23 rfl rfl
    · refine k_aload_n 24 cx dX6_valley_24 rfl 0 rfl ?_
      refine fgX6_56 25 cx dX6_valley_25 0 rfl rfl ?_
      refine k_iload_n 28 cx dX6_valley_28 rfl 1 rfl ?_
      refine k_aald 29 cx kk dX6_valley_29 1 rfl hm hkk (fun hm => ?_)
      refine k_iload_n 30 cx dX6_valley_30 rfl 2 rfl ?_
      refine k_iload_n 31 cx dX6_valley_31 rfl 3 rfl ?_
      refine k_iload 32 cx dX6_valley_32 4 rfl ?_
      obtain ⟨u3, hu3, hm⟩ := bnd hm
      refine k_callV 34 cx cwX6_72 (c_X3_faultOfCells X.2.1 G (sa kk) h_E_cells E_lane E_size a2 a3 a4 hu3) dX6_valley_34 ⟨by decide, by decide⟩ rfl rfl (rest := []) rfl (Nat.le_of_ble_eq_true rfl) [2] (by decide) rfl rfl (w2 := (w_X6_valley G sa kk h_t h_t_sheets h_t_text h_t_text_told h_E_cells h_t_text_told_kinds h_t_text_told_needs h_t_text_told_to h_t_text_told_from h_t_text_told_lasts h_t_valley h_t_valley_kinds h_t_valley_needs h_t_valley_from h_t_valley_to h_t_valley_lasts h_t_pulls h_t_readings h_t_triedPulls h_t_heard h_t_trial h_t_pulls_bells h_t_pulls_minutes h_t_pulls_times h_t_readings_bells h_t_readings_minutes h_t_readings_rang t_heardIsCurrent t_trace (0 : Int32) E_lane E_size t_text_state t_text_told_bells t_text_told_ropes t_text_told_span t_text_told_tied E_cells t_text_told_kinds t_text_told_needs t_text_told_to t_text_told_from t_text_told_lasts t_valley_bells t_valley_ropes t_valley_span t_valley_tied t_valley_kinds t_valley_needs t_valley_from t_valley_to t_valley_lasts t_pulls_count t_readings_count)) [0, 1, 3, 4, 5, 6, 7, 8, 9, 10, 11, 12, 13, 14, 15, 16, 17, 18] 19 rfl [(h_t, .inr (6, [.ref h_t_valley, .ref h_t_text, .ref h_t_pulls, .ref h_t_triedPulls, .ref h_t_readings, .ref h_t_heard, .ref h_t_trial, .ref h_t_sheets, .int t_heardIsCurrent, .int t_trace, .int (0 : Int32)])), (h_t_sheets, .inl (G.2.2.2, 4, .inr (.inr (.inr (.inr (fun j => some (sa j))))))), (h_t_text, .inr (4, [.ref h_t_text_told, .int t_text_state])), (h_t_text_told, .inr (5, [.ref h_t_text_told_kinds, .ref h_t_text_told_needs, .ref h_t_text_told_from, .ref h_t_text_told_to, .ref h_t_text_told_lasts, .int t_text_told_bells, .int t_text_told_ropes, .int t_text_told_span, .int t_text_told_tied])), (h_E_cells, .inl (G.2.1, 60, .inl E_cells)), (h_t_text_told_kinds, .inl (G.2.1, 6, .inl t_text_told_kinds)), (h_t_text_told_needs, .inl (G.2.1, 6, .inl t_text_told_needs)), (h_t_text_told_to, .inl (G.2.1, 9, .inl t_text_told_to)), (h_t_text_told_from, .inl (G.2.1, 9, .inl t_text_told_from)), (h_t_text_told_lasts, .inl (G.2.1, 9, .inl t_text_told_lasts)), (h_t_valley, .inr (5, [.ref h_t_valley_kinds, .ref h_t_valley_needs, .ref h_t_valley_from, .ref h_t_valley_to, .ref h_t_valley_lasts, .int t_valley_bells, .int t_valley_ropes, .int t_valley_span, .int t_valley_tied])), (h_t_valley_kinds, .inl (G.2.1, 6, .inl t_valley_kinds)), (h_t_valley_needs, .inl (G.2.1, 6, .inl t_valley_needs)), (h_t_valley_from, .inl (G.2.1, 9, .inl t_valley_from)), (h_t_valley_to, .inl (G.2.1, 9, .inl t_valley_to)), (h_t_valley_lasts, .inl (G.2.1, 9, .inl t_valley_lasts)), (h_t_pulls, .inr (1, [.ref h_t_pulls_bells, .ref h_t_pulls_minutes, .ref h_t_pulls_times, .int t_pulls_count])), (h_t_readings, .inr (2, [.ref h_t_readings_bells, .ref h_t_readings_minutes, .ref h_t_readings_rang, .int t_readings_count]))] rfl rfl rfl (by decide) (st2 := [.int u3]) rfl ?_
      refine k_istore 37 cx dX6_valley_37 (by decide) (lv' := [(5, .int u3), (0, .ref h_t), (1, .int a1), (2, .int a2), (3, .int a3), (4, .int a4)]) rfl ?_
      refine k_iload 39 cx dX6_valley_39 0 rfl ?_
      refine k_if_eq 41 cx (tgt := 51) dX6_valley_41 (by decide) hm (fun hc hm => ?_) (fun hc hm => ?_)
      · refine k_aload_n 51 cx dX6_valley_51 rfl 1 rfl ?_
        refine fgX6_21 52 cx dX6_valley_52 0 rfl rfl ?_
        refine k_aload_n 55 cx dX6_valley_55 rfl 1 rfl ?_
        refine fgX6_56 56 cx dX6_valley_56 0 rfl rfl ?_
        refine k_iload_n 59 cx dX6_valley_59 rfl 2 rfl ?_
        refine k_aald 60 cx kk dX6_valley_60 1 rfl hm hkk (fun hm => ?_)
        refine fgX6_80 61 cx dX6_valley_61 2 rfl rfl ?_
        refine k_iload_n 64 cx dX6_valley_64 rfl 4 rfl ?_
        refine k_iload 65 cx dX6_valley_65 5 rfl ?_
        obtain ⟨u4, hu4, hm⟩ := bnd hm
        refine k_callV 67 cx cwX6_84 (c_X4_firstFault X.2.1 G h_t_text h_t_text_told h_E_cells h_t_text_told_kinds h_t_text_told_needs h_t_text_told_to h_t_text_told_from h_t_text_told_lasts t_text_state t_text_told_bells t_text_told_ropes t_text_told_span t_text_told_tied E_cells t_text_told_kinds t_text_told_needs t_text_told_to t_text_told_from t_text_told_lasts a3 a4 hu4) dX6_valley_67 ⟨by decide, by decide⟩ rfl rfl (rest := []) rfl (Nat.le_of_ble_eq_true rfl) [3, 4, 5, 6, 7, 8, 9, 10] (by decide) rfl rfl (w2 := (w_X6_valley G sa kk h_t h_t_sheets h_t_text h_t_text_told h_E_cells h_t_text_told_kinds h_t_text_told_needs h_t_text_told_to h_t_text_told_from h_t_text_told_lasts h_t_valley h_t_valley_kinds h_t_valley_needs h_t_valley_from h_t_valley_to h_t_valley_lasts h_t_pulls h_t_readings h_t_triedPulls h_t_heard h_t_trial h_t_pulls_bells h_t_pulls_minutes h_t_pulls_times h_t_readings_bells h_t_readings_minutes h_t_readings_rang t_heardIsCurrent t_trace (0 : Int32) E_lane E_size u4.2.1 u4.2.2.1 u4.2.2.2.1 u4.2.2.2.2.1 u4.2.2.2.2.2.1 E_cells u4.2.2.2.2.2.2.1 u4.2.2.2.2.2.2.2.1 u4.2.2.2.2.2.2.2.2.1 u4.2.2.2.2.2.2.2.2.2.1 u4.2.2.2.2.2.2.2.2.2.2 t_valley_bells t_valley_ropes t_valley_span t_valley_tied t_valley_kinds t_valley_needs t_valley_from t_valley_to t_valley_lasts t_pulls_count t_readings_count)) [0, 1, 2, 11, 12, 13, 14, 15, 16, 17, 18] 19 rfl [(h_t, .inr (6, [.ref h_t_valley, .ref h_t_text, .ref h_t_pulls, .ref h_t_triedPulls, .ref h_t_readings, .ref h_t_heard, .ref h_t_trial, .ref h_t_sheets, .int t_heardIsCurrent, .int t_trace, .int (0 : Int32)])), (h_t_sheets, .inl (G.2.2.2, 4, .inr (.inr (.inr (.inr (fun j => some (sa j))))))), ((sa kk), .inr (3, [.ref h_E_cells, .int E_lane, .int E_size])), (h_t_valley, .inr (5, [.ref h_t_valley_kinds, .ref h_t_valley_needs, .ref h_t_valley_from, .ref h_t_valley_to, .ref h_t_valley_lasts, .int t_valley_bells, .int t_valley_ropes, .int t_valley_span, .int t_valley_tied])), (h_t_valley_kinds, .inl (G.2.1, 6, .inl t_valley_kinds)), (h_t_valley_needs, .inl (G.2.1, 6, .inl t_valley_needs)), (h_t_valley_from, .inl (G.2.1, 9, .inl t_valley_from)), (h_t_valley_to, .inl (G.2.1, 9, .inl t_valley_to)), (h_t_valley_lasts, .inl (G.2.1, 9, .inl t_valley_lasts)), (h_t_pulls, .inr (1, [.ref h_t_pulls_bells, .ref h_t_pulls_minutes, .ref h_t_pulls_times, .int t_pulls_count])), (h_t_readings, .inr (2, [.ref h_t_readings_bells, .ref h_t_readings_minutes, .ref h_t_readings_rang, .int t_readings_count]))] rfl rfl rfl (by decide) (st2 := [.int u4.1]) rfl ?_
        refine k_istore 70 cx dX6_valley_70 (by decide) (lv' := [(6, .int u4.1), (5, .int u3), (0, .ref h_t), (1, .int a1), (2, .int a2), (3, .int a3), (4, .int a4)]) rfl ?_
        refine k_iload 72 cx dX6_valley_72 0 rfl ?_
        refine k_bipush 74 cx (v := (-9 : Int32)) dX6_valley_74 (by decide) ?_
        refine k_icmp_eq 76 cx (tgt := 85) dX6_valley_76 (by decide) hm (fun hc hm => ?_) (fun hc hm => ?_)
        · refine k_aload_n 85 cx dX6_valley_85 rfl 2 rfl ?_
          refine fgX6_12 86 cx dX6_valley_86 0 rfl rfl ?_
          refine k_aload_n 89 cx dX6_valley_89 rfl 2 rfl ?_
          refine fgX6_21 90 cx dX6_valley_90 0 rfl rfl ?_
          refine fgX6_88 93 cx dX6_valley_93 3 rfl rfl ?_
          obtain ⟨u5, hu5, hm⟩ := bnd hm
          refine k_callV 96 cx cwX6_91 (c_X5_become X.2.1 G h_t_valley h_t_text_told h_t_text_told_kinds h_t_valley_kinds h_t_text_told_needs h_t_valley_needs h_t_text_told_from h_t_valley_from h_t_text_told_to h_t_valley_to h_t_text_told_lasts h_t_valley_lasts t_valley_bells t_valley_ropes t_valley_span t_valley_tied u4.2.2.1 u4.2.2.2.1 u4.2.2.2.2.1 u4.2.2.2.2.2.1 u4.2.2.2.2.2.2.1 t_valley_kinds u4.2.2.2.2.2.2.2.1 t_valley_needs u4.2.2.2.2.2.2.2.2.2.1 t_valley_from u4.2.2.2.2.2.2.2.2.1 t_valley_to u4.2.2.2.2.2.2.2.2.2.2 t_valley_lasts hu5) dX6_valley_96 ⟨by decide, by decide⟩ rfl rfl (rest := []) rfl (Nat.le_of_ble_eq_true rfl) [11, 4, 6, 12, 7, 13, 9, 14, 8, 15, 10, 16] (by decide) rfl rfl (w2 := (w_X6_valley G sa kk h_t h_t_sheets h_t_text h_t_text_told h_E_cells h_t_text_told_kinds h_t_text_told_needs h_t_text_told_to h_t_text_told_from h_t_text_told_lasts h_t_valley h_t_valley_kinds h_t_valley_needs h_t_valley_from h_t_valley_to h_t_valley_lasts h_t_pulls h_t_readings h_t_triedPulls h_t_heard h_t_trial h_t_pulls_bells h_t_pulls_minutes h_t_pulls_times h_t_readings_bells h_t_readings_minutes h_t_readings_rang t_heardIsCurrent t_trace (0 : Int32) E_lane E_size u4.2.1 u4.2.2.1 u4.2.2.2.1 u4.2.2.2.2.1 u4.2.2.2.2.2.1 E_cells u4.2.2.2.2.2.2.1 u4.2.2.2.2.2.2.2.1 u4.2.2.2.2.2.2.2.2.1 u4.2.2.2.2.2.2.2.2.2.1 u4.2.2.2.2.2.2.2.2.2.2 u5.1 u5.2.1 u5.2.2.1 u5.2.2.2.1 u5.2.2.2.2.1 u5.2.2.2.2.2.1 u5.2.2.2.2.2.2.1 u5.2.2.2.2.2.2.2.1 u5.2.2.2.2.2.2.2.2 t_pulls_count t_readings_count)) [0, 1, 2, 3, 5, 17, 18] 19 rfl [(h_t, .inr (6, [.ref h_t_valley, .ref h_t_text, .ref h_t_pulls, .ref h_t_triedPulls, .ref h_t_readings, .ref h_t_heard, .ref h_t_trial, .ref h_t_sheets, .int t_heardIsCurrent, .int t_trace, .int (0 : Int32)])), (h_t_sheets, .inl (G.2.2.2, 4, .inr (.inr (.inr (.inr (fun j => some (sa j))))))), ((sa kk), .inr (3, [.ref h_E_cells, .int E_lane, .int E_size])), (h_t_text, .inr (4, [.ref h_t_text_told, .int u4.2.1])), (h_E_cells, .inl (G.2.1, 60, .inl E_cells)), (h_t_pulls, .inr (1, [.ref h_t_pulls_bells, .ref h_t_pulls_minutes, .ref h_t_pulls_times, .int t_pulls_count])), (h_t_readings, .inr (2, [.ref h_t_readings_bells, .ref h_t_readings_minutes, .ref h_t_readings_rang, .int t_readings_count]))] rfl rfl rfl (by decide) (st2 := []) rfl ?_
          refine k_aload_n 99 cx dX6_valley_99 rfl 2 rfl ?_
          refine fgX6_28 100 cx dX6_valley_100 0 rfl rfl ?_
          refine k_iconst 103 cx (v := (0 : Int32)) dX6_valley_103 (by decide) ?_
          refine fpX6_94 104 cx dX6_valley_104 17 rfl rfl rfl (by simp) (w1 := (w_X6_valley G sa kk h_t h_t_sheets h_t_text h_t_text_told h_E_cells h_t_text_told_kinds h_t_text_told_needs h_t_text_told_to h_t_text_told_from h_t_text_told_lasts h_t_valley h_t_valley_kinds h_t_valley_needs h_t_valley_from h_t_valley_to h_t_valley_lasts h_t_pulls h_t_readings h_t_triedPulls h_t_heard h_t_trial h_t_pulls_bells h_t_pulls_minutes h_t_pulls_times h_t_readings_bells h_t_readings_minutes h_t_readings_rang t_heardIsCurrent t_trace (0 : Int32) E_lane E_size u4.2.1 u4.2.2.1 u4.2.2.2.1 u4.2.2.2.2.1 u4.2.2.2.2.2.1 E_cells u4.2.2.2.2.2.2.1 u4.2.2.2.2.2.2.2.1 u4.2.2.2.2.2.2.2.2.1 u4.2.2.2.2.2.2.2.2.2.1 u4.2.2.2.2.2.2.2.2.2.2 u5.1 u5.2.1 u5.2.2.1 u5.2.2.2.1 u5.2.2.2.2.1 u5.2.2.2.2.2.1 u5.2.2.2.2.2.2.1 u5.2.2.2.2.2.2.2.1 u5.2.2.2.2.2.2.2.2 (0 : Int32) t_readings_count)) rfl ?_
          refine k_aload_n 107 cx dX6_valley_107 rfl 2 rfl ?_
          refine fgX6_38 108 cx dX6_valley_108 0 rfl rfl ?_
          refine k_iconst 111 cx (v := (0 : Int32)) dX6_valley_111 (by decide) ?_
          refine fpX6_97 112 cx dX6_valley_112 18 rfl rfl rfl (by simp) (w1 := (w_X6_valley G sa kk h_t h_t_sheets h_t_text h_t_text_told h_E_cells h_t_text_told_kinds h_t_text_told_needs h_t_text_told_to h_t_text_told_from h_t_text_told_lasts h_t_valley h_t_valley_kinds h_t_valley_needs h_t_valley_from h_t_valley_to h_t_valley_lasts h_t_pulls h_t_readings h_t_triedPulls h_t_heard h_t_trial h_t_pulls_bells h_t_pulls_minutes h_t_pulls_times h_t_readings_bells h_t_readings_minutes h_t_readings_rang t_heardIsCurrent t_trace (0 : Int32) E_lane E_size u4.2.1 u4.2.2.1 u4.2.2.2.1 u4.2.2.2.2.1 u4.2.2.2.2.2.1 E_cells u4.2.2.2.2.2.2.1 u4.2.2.2.2.2.2.2.1 u4.2.2.2.2.2.2.2.2.1 u4.2.2.2.2.2.2.2.2.2.1 u4.2.2.2.2.2.2.2.2.2.2 u5.1 u5.2.1 u5.2.2.1 u5.2.2.2.1 u5.2.2.2.2.1 u5.2.2.2.2.2.1 u5.2.2.2.2.2.2.1 u5.2.2.2.2.2.2.2.1 u5.2.2.2.2.2.2.2.2 (0 : Int32) (0 : Int32))) rfl ?_
          refine k_aload_n 115 cx dX6_valley_115 rfl 2 rfl ?_
          refine k_iconst 116 cx (v := (0 : Int32)) dX6_valley_116 (by decide) ?_
          refine fpX6_98 117 cx dX6_valley_117 0 rfl rfl rfl (by simp) (w1 := (w_X6_valley G sa kk h_t h_t_sheets h_t_text h_t_text_told h_E_cells h_t_text_told_kinds h_t_text_told_needs h_t_text_told_to h_t_text_told_from h_t_text_told_lasts h_t_valley h_t_valley_kinds h_t_valley_needs h_t_valley_from h_t_valley_to h_t_valley_lasts h_t_pulls h_t_readings h_t_triedPulls h_t_heard h_t_trial h_t_pulls_bells h_t_pulls_minutes h_t_pulls_times h_t_readings_bells h_t_readings_minutes h_t_readings_rang (0 : Int32) t_trace (0 : Int32) E_lane E_size u4.2.1 u4.2.2.1 u4.2.2.2.1 u4.2.2.2.2.1 u4.2.2.2.2.2.1 E_cells u4.2.2.2.2.2.2.1 u4.2.2.2.2.2.2.2.1 u4.2.2.2.2.2.2.2.2.1 u4.2.2.2.2.2.2.2.2.2.1 u4.2.2.2.2.2.2.2.2.2.2 u5.1 u5.2.1 u5.2.2.1 u5.2.2.2.1 u5.2.2.2.2.1 u5.2.2.2.2.2.1 u5.2.2.2.2.2.2.1 u5.2.2.2.2.2.2.2.1 u5.2.2.2.2.2.2.2.2 (0 : Int32) (0 : Int32))) rfl ?_
          refine k_aload_n 120 cx dX6_valley_120 rfl 2 rfl ?_
          refine fgX6_12 121 cx dX6_valley_121 0 rfl rfl ?_
          refine fgX6_102 124 cx dX6_valley_124 11 rfl rfl ?_
          obtain rfl := Option.some.inj hm
          exact k_iret 127 cx dX6_valley_127 rfl rfl
        · refine k_bipush 79 cx (v := (-100 : Int32)) dX6_valley_79 (by decide) ?_
          refine k_iload 81 cx dX6_valley_81 0 rfl ?_
          refine k_isub 83 cx dX6_valley_83 ?_
          obtain rfl := Option.some.inj hm
          exact k_iret 84 cx dX6_valley_84 rfl rfl
      · refine k_aload_n 44 cx dX6_valley_44 rfl 1 rfl ?_
        refine k_iload 45 cx dX6_valley_45 0 rfl ?_
        obtain ⟨u6, hu6, hm⟩ := bnd hm
        refine k_callV 47 cx cwX6_76 (c_X6_faulty X.2.1 G h_t h_t_valley h_t_text h_t_pulls h_t_triedPulls h_t_readings h_t_heard h_t_trial h_t_sheets t_heardIsCurrent t_trace (0 : Int32) u3 hu6) dX6_valley_47 ⟨by decide, by decide⟩ rfl rfl (rest := []) rfl (Nat.le_of_ble_eq_true rfl) [0] (by decide) rfl rfl (w2 := (w_X6_valley G sa kk h_t h_t_sheets h_t_text h_t_text_told h_E_cells h_t_text_told_kinds h_t_text_told_needs h_t_text_told_to h_t_text_told_from h_t_text_told_lasts h_t_valley h_t_valley_kinds h_t_valley_needs h_t_valley_from h_t_valley_to h_t_valley_lasts h_t_pulls h_t_readings h_t_triedPulls h_t_heard h_t_trial h_t_pulls_bells h_t_pulls_minutes h_t_pulls_times h_t_readings_bells h_t_readings_minutes h_t_readings_rang t_heardIsCurrent t_trace u6.2 E_lane E_size t_text_state t_text_told_bells t_text_told_ropes t_text_told_span t_text_told_tied E_cells t_text_told_kinds t_text_told_needs t_text_told_to t_text_told_from t_text_told_lasts t_valley_bells t_valley_ropes t_valley_span t_valley_tied t_valley_kinds t_valley_needs t_valley_from t_valley_to t_valley_lasts t_pulls_count t_readings_count)) [1, 2, 3, 4, 5, 6, 7, 8, 9, 10, 11, 12, 13, 14, 15, 16, 17, 18] 19 rfl [(h_t_sheets, .inl (G.2.2.2, 4, .inr (.inr (.inr (.inr (fun j => some (sa j))))))), ((sa kk), .inr (3, [.ref h_E_cells, .int E_lane, .int E_size])), (h_t_text, .inr (4, [.ref h_t_text_told, .int t_text_state])), (h_t_text_told, .inr (5, [.ref h_t_text_told_kinds, .ref h_t_text_told_needs, .ref h_t_text_told_from, .ref h_t_text_told_to, .ref h_t_text_told_lasts, .int t_text_told_bells, .int t_text_told_ropes, .int t_text_told_span, .int t_text_told_tied])), (h_E_cells, .inl (G.2.1, 60, .inl E_cells)), (h_t_text_told_kinds, .inl (G.2.1, 6, .inl t_text_told_kinds)), (h_t_text_told_needs, .inl (G.2.1, 6, .inl t_text_told_needs)), (h_t_text_told_to, .inl (G.2.1, 9, .inl t_text_told_to)), (h_t_text_told_from, .inl (G.2.1, 9, .inl t_text_told_from)), (h_t_text_told_lasts, .inl (G.2.1, 9, .inl t_text_told_lasts)), (h_t_valley, .inr (5, [.ref h_t_valley_kinds, .ref h_t_valley_needs, .ref h_t_valley_from, .ref h_t_valley_to, .ref h_t_valley_lasts, .int t_valley_bells, .int t_valley_ropes, .int t_valley_span, .int t_valley_tied])), (h_t_valley_kinds, .inl (G.2.1, 6, .inl t_valley_kinds)), (h_t_valley_needs, .inl (G.2.1, 6, .inl t_valley_needs)), (h_t_valley_from, .inl (G.2.1, 9, .inl t_valley_from)), (h_t_valley_to, .inl (G.2.1, 9, .inl t_valley_to)), (h_t_valley_lasts, .inl (G.2.1, 9, .inl t_valley_lasts)), (h_t_pulls, .inr (1, [.ref h_t_pulls_bells, .ref h_t_pulls_minutes, .ref h_t_pulls_times, .int t_pulls_count])), (h_t_readings, .inr (2, [.ref h_t_readings_bells, .ref h_t_readings_minutes, .ref h_t_readings_rang, .int t_readings_count]))] rfl rfl rfl (by decide) (st2 := [.int u6.1]) rfl ?_
        obtain rfl := Option.some.inj hm
        exact k_iret 50 cx dX6_valley_50 rfl rfl
set_option maxRecDepth 100000 in
theorem fgX6_108 {X : XT} {Q : State → Prop} {G : GT} {A : Nat → Prop} {nL : Nat} {lv : List (Nat × Value)} {st : List Value} {ws : va_W} {cc : ByteArray} {fr lo : Nat} {ret : Option FieldType} (pc : Nat) (cx : Cx X cc nL RX6 G fr lo ret) {a : Nat} {fs : List Value} {v : Value} (hd : decode cc pc = .ok (.getfield 108, 3)) (q0 : Nat) (he : ws[q0]? = some (a, .inr (5, fs))) (hv : fs[0]? = some v) (k : KJ X Q G A nL (pc + 3) lv (v :: st) ws) : KJ X Q G A nL pc lv (.ref a :: st) ws :=
  k_get (ref := RX5) (T := TX5) (N := 9) (ci := 5) pc cx inX5 rfl 0 (by decide) (tb_m (i := 78) rfl rfl) rfl hd q0 he hv k
set_option maxRecDepth 100000 in
theorem fgX6_111 {X : XT} {Q : State → Prop} {G : GT} {A : Nat → Prop} {nL : Nat} {lv : List (Nat × Value)} {st : List Value} {ws : va_W} {cc : ByteArray} {fr lo : Nat} {ret : Option FieldType} (pc : Nat) (cx : Cx X cc nL RX6 G fr lo ret) {a : Nat} {fs : List Value} {v : Value} (hd : decode cc pc = .ok (.getfield 111, 3)) (q0 : Nat) (he : ws[q0]? = some (a, .inr (5, fs))) (hv : fs[1]? = some v) (k : KJ X Q G A nL (pc + 3) lv (v :: st) ws) : KJ X Q G A nL pc lv (.ref a :: st) ws :=
  k_get (ref := RX5) (T := TX5) (N := 9) (ci := 5) pc cx inX5 rfl 1 (by decide) (tb_m (i := 82) rfl rfl) rfl hd q0 he hv k
set_option maxRecDepth 100000 in
theorem cwX6_105 : CWV RX6 105 RX5 yX5_hasBell cX5_hasBell 2 (some .boolean) 1 5 TX5 9 := ⟨tb_m (i := 349) rfl rfl, tb_m (i := 335) rfl rfl, tb_m (i := 336) rfl rfl, tb_m (i := 52) rfl rfl, tb_m (i := 337) rfl rfl, ⟨by decide +kernel, by decide +kernel, by decide +kernel⟩, rfl⟩
set_option maxRecDepth 100000 in
theorem cwX6_114 : CWV RX6 114 RX5 yX5_swingsFor cX5_swingsFor 2 (some .int) 1 5 TX5 9 := ⟨tb_m (i := 350) rfl rfl, tb_m (i := 351) rfl rfl, tb_m (i := 352) rfl rfl, tb_m (i := 52) rfl rfl, tb_m (i := 353) rfl rfl, ⟨by decide +kernel, by decide +kernel, by decide +kernel⟩, rfl⟩
set_option maxRecDepth 100000 in
theorem cwX6_117 : CWV RX6 117 RX5 yX5_isTied cX5_isTied 2 (some .boolean) 1 5 TX5 9 := ⟨tb_m (i := 354) rfl rfl, tb_m (i := 355) rfl rfl, tb_m (i := 356) rfl rfl, tb_m (i := 52) rfl rfl, tb_m (i := 357) rfl rfl, ⟨by decide +kernel, by decide +kernel, by decide +kernel⟩, rfl⟩
def w_X6_ofBell (G : GT) (h_t : Nat) (h_t_valley : Nat) (h_t_valley_kinds : Nat) (h_t_valley_needs : Nat) (h_t_text : Nat) (h_t_pulls : Nat) (h_t_triedPulls : Nat) (h_t_readings : Nat) (h_t_heard : Nat) (h_t_trial : Nat) (h_t_sheets : Nat) (h_t_valley_from : Nat) (h_t_valley_to : Nat) (h_t_valley_lasts : Nat) (t_heardIsCurrent : Int32) (t_trace : Int32) (t_fault : Int32) (t_valley_bells : Int32) (t_valley_ropes : Int32) (t_valley_span : Int32) (t_valley_tied : Int32) (t_valley_kinds : (Nat → Int32)) (t_valley_needs : (Nat → Int32)) : va_W := [(h_t, .inr (6, [.ref h_t_valley, .ref h_t_text, .ref h_t_pulls, .ref h_t_triedPulls, .ref h_t_readings, .ref h_t_heard, .ref h_t_trial, .ref h_t_sheets, .int t_heardIsCurrent, .int t_trace, .int t_fault])), (h_t_valley, .inr (5, [.ref h_t_valley_kinds, .ref h_t_valley_needs, .ref h_t_valley_from, .ref h_t_valley_to, .ref h_t_valley_lasts, .int t_valley_bells, .int t_valley_ropes, .int t_valley_span, .int t_valley_tied])), (h_t_valley_kinds, .inl (G.2.1, 6, .inl t_valley_kinds)), (h_t_valley_needs, .inl (G.2.1, 6, .inl t_valley_needs))]
def M_X6_ofBell (t_valley_bells : Int32) (t_valley_tied : Int32) (t_valley_kinds : (Nat → Int32)) (t_valley_needs : (Nat → Int32)) (a1 : Int32) (a2 : Int32) : Option (Int32) := ((M_X5_hasBell t_valley_bells a1).bind (fun u1 => (if u1 = 0 then (some (-1 : Int32)) else (if a2 = (0 : Int32) then (gB (inb a1 6) (some (t_valley_kinds (Int32.toNatClampNeg a1)))) else (if a2 = (1 : Int32) then (gB (inb a1 6) (some (t_valley_needs (Int32.toNatClampNeg a1)))) else (if a2 = (2 : Int32) then ((M_X5_swingsFor t_valley_kinds t_valley_needs a1).bind (fun u2 => (some u2))) else (if a2 = (3 : Int32) then ((M_X5_isTied t_valley_tied a1).bind (fun u3 => (if u3 = 0 then (some (0 : Int32)) else (some (1 : Int32))))) else (some (-2 : Int32)))))))))
set_option maxHeartbeats 4000000 in
set_option maxRecDepth 100000 in
theorem c_X6_ofBell (l : Launch) (G : GT) (h_t : Nat) (h_t_valley : Nat) (h_t_valley_kinds : Nat) (h_t_valley_needs : Nat) (h_t_text : Nat) (h_t_pulls : Nat) (h_t_triedPulls : Nat) (h_t_readings : Nat) (h_t_heard : Nat) (h_t_trial : Nat) (h_t_sheets : Nat) (h_t_valley_from : Nat) (h_t_valley_to : Nat) (h_t_valley_lasts : Nat) (t_heardIsCurrent : Int32) (t_trace : Int32) (t_fault : Int32) (t_valley_bells : Int32) (t_valley_ropes : Int32) (t_valley_span : Int32) (t_valley_tied : Int32) (t_valley_kinds : (Nat → Int32)) (t_valley_needs : (Nat → Int32)) (a1 : Int32) (a2 : Int32) {u : Int32} (hm : M_X6_ofBell t_valley_bells t_valley_tied t_valley_kinds t_valley_needs a1 a2 = some u) : CT l yX6_ofBell cX6_ofBell 3 (some .int) 1 21 [.ref h_t, .int a1, .int a2] G (w_X6_ofBell G h_t h_t_valley h_t_valley_kinds h_t_valley_needs h_t_text h_t_pulls h_t_triedPulls h_t_readings h_t_heard h_t_trial h_t_sheets h_t_valley_from h_t_valley_to h_t_valley_lasts t_heardIsCurrent t_trace t_fault t_valley_bells t_valley_ropes t_valley_span t_valley_tied t_valley_kinds t_valley_needs) (some (.int u)) (w_X6_ofBell G h_t h_t_valley h_t_valley_kinds h_t_valley_needs h_t_text h_t_pulls h_t_triedPulls h_t_readings h_t_heard h_t_trial h_t_sheets h_t_valley_from h_t_valley_to h_t_valley_lasts t_heardIsCurrent t_trace t_fault t_valley_bells t_valley_ropes t_valley_span t_valley_tied t_valley_kinds t_valley_needs) := by
  refine ct_intro RX6 [(0, .ref h_t), (1, .int a1), (2, .int a2)] (by decide) rfl (Nat.le_of_ble_eq_true rfl) rfl (fun X hX cx => ?_)
  unfold M_X6_ofBell at hm
  refine k_aload_n 0 cx dX6_ofBell_0 rfl 0 rfl ?_
  refine fgX6_12 1 cx dX6_ofBell_1 0 rfl rfl ?_
  refine k_iload_n 4 cx dX6_ofBell_4 rfl 1 rfl ?_
  obtain ⟨u1, hu1, hm⟩ := bnd hm
  refine k_callV 5 cx cwX6_105 (c_X5_hasBell X.2.1 G h_t_valley h_t_valley_kinds h_t_valley_needs h_t_valley_from h_t_valley_to h_t_valley_lasts t_valley_bells t_valley_ropes t_valley_span t_valley_tied a1 hu1) dX6_ofBell_5 ⟨by decide, by decide⟩ rfl rfl (rest := []) rfl (Nat.le_of_ble_eq_true rfl) [1] (by decide) rfl rfl (w2 := (w_X6_ofBell G h_t h_t_valley h_t_valley_kinds h_t_valley_needs h_t_text h_t_pulls h_t_triedPulls h_t_readings h_t_heard h_t_trial h_t_sheets h_t_valley_from h_t_valley_to h_t_valley_lasts t_heardIsCurrent t_trace t_fault t_valley_bells t_valley_ropes t_valley_span t_valley_tied t_valley_kinds t_valley_needs)) [0, 2, 3] 4 rfl [(h_t, .inr (6, [.ref h_t_valley, .ref h_t_text, .ref h_t_pulls, .ref h_t_triedPulls, .ref h_t_readings, .ref h_t_heard, .ref h_t_trial, .ref h_t_sheets, .int t_heardIsCurrent, .int t_trace, .int t_fault])), (h_t_valley_kinds, .inl (G.2.1, 6, .inl t_valley_kinds)), (h_t_valley_needs, .inl (G.2.1, 6, .inl t_valley_needs))] rfl rfl rfl (by decide) (st2 := [.int u1]) rfl ?_
  refine k_if_ne 8 cx (tgt := 13) dX6_ofBell_8 (by decide) hm (fun hc hm => ?_) (fun hc hm => ?_)
  · refine k_iconst 11 cx (v := (-1 : Int32)) dX6_ofBell_11 (by decide) ?_
    obtain rfl := Option.some.inj hm
    exact k_iret 12 cx dX6_ofBell_12 rfl rfl
  · refine k_iload_n 13 cx dX6_ofBell_13 rfl 2 rfl ?_
    rcases m_if hm with ⟨hc0, hm⟩ | ⟨hc0, hm⟩
    · refine k_tabIn 14 cx (off := 30) (tgt := 44) (0 : Int32) hc0 dX6_ofBell_14 ⟨by decide, by decide, rfl, by decide⟩ ?_
      refine k_aload_n 44 cx dX6_ofBell_44 rfl 0 rfl ?_
      refine fgX6_12 45 cx dX6_ofBell_45 0 rfl rfl ?_
      refine fgX6_108 48 cx dX6_ofBell_48 1 rfl rfl ?_
      refine k_iload_n 51 cx dX6_ofBell_51 rfl 1 rfl ?_
      refine k_iald 52 cx dX6_ofBell_52 2 rfl hm (fun hm => ?_)
      obtain rfl := Option.some.inj hm
      exact k_iret 53 cx dX6_ofBell_53 rfl rfl
    · rcases m_if hm with ⟨hc1, hm⟩ | ⟨hc1, hm⟩
      · refine k_tabIn 14 cx (off := 40) (tgt := 54) (1 : Int32) hc1 dX6_ofBell_14 ⟨by decide, by decide, rfl, by decide⟩ ?_
        refine k_aload_n 54 cx dX6_ofBell_54 rfl 0 rfl ?_
        refine fgX6_12 55 cx dX6_ofBell_55 0 rfl rfl ?_
        refine fgX6_111 58 cx dX6_ofBell_58 1 rfl rfl ?_
        refine k_iload_n 61 cx dX6_ofBell_61 rfl 1 rfl ?_
        refine k_iald 62 cx dX6_ofBell_62 3 rfl hm (fun hm => ?_)
        obtain rfl := Option.some.inj hm
        exact k_iret 63 cx dX6_ofBell_63 rfl rfl
      · rcases m_if hm with ⟨hc2, hm⟩ | ⟨hc2, hm⟩
        · refine k_tabIn 14 cx (off := 50) (tgt := 64) (2 : Int32) hc2 dX6_ofBell_14 ⟨by decide, by decide, rfl, by decide⟩ ?_
          refine k_aload_n 64 cx dX6_ofBell_64 rfl 0 rfl ?_
          refine fgX6_12 65 cx dX6_ofBell_65 0 rfl rfl ?_
          refine k_iload_n 68 cx dX6_ofBell_68 rfl 1 rfl ?_
          obtain ⟨u2, hu2, hm⟩ := bnd hm
          refine k_callV 69 cx cwX6_114 (c_X5_swingsFor X.2.1 G h_t_valley h_t_valley_kinds h_t_valley_needs h_t_valley_from h_t_valley_to h_t_valley_lasts t_valley_bells t_valley_ropes t_valley_span t_valley_tied t_valley_kinds t_valley_needs a1 hu2) dX6_ofBell_69 ⟨by decide, by decide⟩ rfl rfl (rest := []) rfl (Nat.le_of_ble_eq_true rfl) [1, 2, 3] (by decide) rfl rfl (w2 := (w_X6_ofBell G h_t h_t_valley h_t_valley_kinds h_t_valley_needs h_t_text h_t_pulls h_t_triedPulls h_t_readings h_t_heard h_t_trial h_t_sheets h_t_valley_from h_t_valley_to h_t_valley_lasts t_heardIsCurrent t_trace t_fault t_valley_bells t_valley_ropes t_valley_span t_valley_tied t_valley_kinds t_valley_needs)) [0] 4 rfl [(h_t, .inr (6, [.ref h_t_valley, .ref h_t_text, .ref h_t_pulls, .ref h_t_triedPulls, .ref h_t_readings, .ref h_t_heard, .ref h_t_trial, .ref h_t_sheets, .int t_heardIsCurrent, .int t_trace, .int t_fault]))] rfl rfl rfl (by decide) (st2 := [.int u2]) rfl ?_
          obtain rfl := Option.some.inj hm
          exact k_iret 72 cx dX6_ofBell_72 rfl rfl
        · rcases m_if hm with ⟨hc3, hm⟩ | ⟨hc3, hm⟩
          · refine k_tabIn 14 cx (off := 59) (tgt := 73) (3 : Int32) hc3 dX6_ofBell_14 ⟨by decide, by decide, rfl, by decide⟩ ?_
            refine k_aload_n 73 cx dX6_ofBell_73 rfl 0 rfl ?_
            refine fgX6_12 74 cx dX6_ofBell_74 0 rfl rfl ?_
            refine k_iload_n 77 cx dX6_ofBell_77 rfl 1 rfl ?_
            obtain ⟨u3, hu3, hm⟩ := bnd hm
            refine k_callV 78 cx cwX6_117 (c_X5_isTied X.2.1 G h_t_valley h_t_valley_kinds h_t_valley_needs h_t_valley_from h_t_valley_to h_t_valley_lasts t_valley_bells t_valley_ropes t_valley_span t_valley_tied a1 hu3) dX6_ofBell_78 ⟨by decide, by decide⟩ rfl rfl (rest := []) rfl (Nat.le_of_ble_eq_true rfl) [1] (by decide) rfl rfl (w2 := (w_X6_ofBell G h_t h_t_valley h_t_valley_kinds h_t_valley_needs h_t_text h_t_pulls h_t_triedPulls h_t_readings h_t_heard h_t_trial h_t_sheets h_t_valley_from h_t_valley_to h_t_valley_lasts t_heardIsCurrent t_trace t_fault t_valley_bells t_valley_ropes t_valley_span t_valley_tied t_valley_kinds t_valley_needs)) [0, 2, 3] 4 rfl [(h_t, .inr (6, [.ref h_t_valley, .ref h_t_text, .ref h_t_pulls, .ref h_t_triedPulls, .ref h_t_readings, .ref h_t_heard, .ref h_t_trial, .ref h_t_sheets, .int t_heardIsCurrent, .int t_trace, .int t_fault])), (h_t_valley_kinds, .inl (G.2.1, 6, .inl t_valley_kinds)), (h_t_valley_needs, .inl (G.2.1, 6, .inl t_valley_needs))] rfl rfl rfl (by decide) (st2 := [.int u3]) rfl ?_
            refine k_if_eq 81 cx (tgt := 88) dX6_ofBell_81 (by decide) hm (fun hc hm => ?_) (fun hc hm => ?_)
            · refine k_iconst 88 cx (v := (0 : Int32)) dX6_ofBell_88 (by decide) ?_
              obtain rfl := Option.some.inj hm
              exact k_iret 89 cx dX6_ofBell_89 rfl rfl
            · refine k_iconst 84 cx (v := (1 : Int32)) dX6_ofBell_84 (by decide) ?_
              refine k_goto 85 cx (tgt := 89) dX6_ofBell_85 (by decide) ?_
              obtain rfl := Option.some.inj hm
              exact k_iret 89 cx dX6_ofBell_89 rfl rfl
          · have n0 : a2.toInt ≠ 0 := fun h => hc0 (Int32.toInt_inj.mp (h.trans rfl))
            have n1 : a2.toInt ≠ 1 := fun h => hc1 (Int32.toInt_inj.mp (h.trans rfl))
            have n2 : a2.toInt ≠ 2 := fun h => hc2 (Int32.toInt_inj.mp (h.trans rfl))
            have n3 : a2.toInt ≠ 3 := fun h => hc3 (Int32.toInt_inj.mp (h.trans rfl))
            refine k_tabOut 14 cx (tgt := 90) dX6_ofBell_14 (by omega) (by decide) ?_
            refine k_bipush 90 cx (v := (-2 : Int32)) dX6_ofBell_90 (by decide) ?_
            obtain rfl := Option.some.inj hm
            exact k_iret 92 cx dX6_ofBell_92 rfl rfl
set_option maxRecDepth 100000 in
theorem fgX6_120 {X : XT} {Q : State → Prop} {G : GT} {A : Nat → Prop} {nL : Nat} {lv : List (Nat × Value)} {st : List Value} {ws : va_W} {cc : ByteArray} {fr lo : Nat} {ret : Option FieldType} (pc : Nat) (cx : Cx X cc nL RX6 G fr lo ret) {a : Nat} {fs : List Value} {v : Value} (hd : decode cc pc = .ok (.getfield 120, 3)) (q0 : Nat) (he : ws[q0]? = some (a, .inr (5, fs))) (hv : fs[6]? = some v) (k : KJ X Q G A nL (pc + 3) lv (v :: st) ws) : KJ X Q G A nL pc lv (.ref a :: st) ws :=
  k_get (ref := RX5) (T := TX5) (N := 9) (ci := 5) pc cx inX5 rfl 6 (by decide) (tb_m (i := 101) rfl rfl) rfl hd q0 he hv k
set_option maxRecDepth 100000 in
theorem fgX6_123 {X : XT} {Q : State → Prop} {G : GT} {A : Nat → Prop} {nL : Nat} {lv : List (Nat × Value)} {st : List Value} {ws : va_W} {cc : ByteArray} {fr lo : Nat} {ret : Option FieldType} (pc : Nat) (cx : Cx X cc nL RX6 G fr lo ret) {a : Nat} {fs : List Value} {v : Value} (hd : decode cc pc = .ok (.getfield 123, 3)) (q0 : Nat) (he : ws[q0]? = some (a, .inr (5, fs))) (hv : fs[2]? = some v) (k : KJ X Q G A nL (pc + 3) lv (v :: st) ws) : KJ X Q G A nL pc lv (.ref a :: st) ws :=
  k_get (ref := RX5) (T := TX5) (N := 9) (ci := 5) pc cx inX5 rfl 2 (by decide) (tb_m (i := 85) rfl rfl) rfl hd q0 he hv k
set_option maxRecDepth 100000 in
theorem fgX6_126 {X : XT} {Q : State → Prop} {G : GT} {A : Nat → Prop} {nL : Nat} {lv : List (Nat × Value)} {st : List Value} {ws : va_W} {cc : ByteArray} {fr lo : Nat} {ret : Option FieldType} (pc : Nat) (cx : Cx X cc nL RX6 G fr lo ret) {a : Nat} {fs : List Value} {v : Value} (hd : decode cc pc = .ok (.getfield 126, 3)) (q0 : Nat) (he : ws[q0]? = some (a, .inr (5, fs))) (hv : fs[3]? = some v) (k : KJ X Q G A nL (pc + 3) lv (v :: st) ws) : KJ X Q G A nL pc lv (.ref a :: st) ws :=
  k_get (ref := RX5) (T := TX5) (N := 9) (ci := 5) pc cx inX5 rfl 3 (by decide) (tb_m (i := 89) rfl rfl) rfl hd q0 he hv k
set_option maxRecDepth 100000 in
theorem fgX6_129 {X : XT} {Q : State → Prop} {G : GT} {A : Nat → Prop} {nL : Nat} {lv : List (Nat × Value)} {st : List Value} {ws : va_W} {cc : ByteArray} {fr lo : Nat} {ret : Option FieldType} (pc : Nat) (cx : Cx X cc nL RX6 G fr lo ret) {a : Nat} {fs : List Value} {v : Value} (hd : decode cc pc = .ok (.getfield 129, 3)) (q0 : Nat) (he : ws[q0]? = some (a, .inr (5, fs))) (hv : fs[4]? = some v) (k : KJ X Q G A nL (pc + 3) lv (v :: st) ws) : KJ X Q G A nL pc lv (.ref a :: st) ws :=
  k_get (ref := RX5) (T := TX5) (N := 9) (ci := 5) pc cx inX5 rfl 4 (by decide) (tb_m (i := 93) rfl rfl) rfl hd q0 he hv k
def w_X6_ofRope (G : GT) (h_t : Nat) (h_t_valley : Nat) (h_t_valley_from : Nat) (h_t_valley_to : Nat) (h_t_valley_lasts : Nat) (h_t_text : Nat) (h_t_pulls : Nat) (h_t_triedPulls : Nat) (h_t_readings : Nat) (h_t_heard : Nat) (h_t_trial : Nat) (h_t_sheets : Nat) (h_t_valley_kinds : Nat) (h_t_valley_needs : Nat) (t_heardIsCurrent : Int32) (t_trace : Int32) (t_fault : Int32) (t_valley_bells : Int32) (t_valley_ropes : Int32) (t_valley_span : Int32) (t_valley_tied : Int32) (t_valley_from : (Nat → Int32)) (t_valley_to : (Nat → Int32)) (t_valley_lasts : (Nat → Int32)) : va_W := [(h_t, .inr (6, [.ref h_t_valley, .ref h_t_text, .ref h_t_pulls, .ref h_t_triedPulls, .ref h_t_readings, .ref h_t_heard, .ref h_t_trial, .ref h_t_sheets, .int t_heardIsCurrent, .int t_trace, .int t_fault])), (h_t_valley, .inr (5, [.ref h_t_valley_kinds, .ref h_t_valley_needs, .ref h_t_valley_from, .ref h_t_valley_to, .ref h_t_valley_lasts, .int t_valley_bells, .int t_valley_ropes, .int t_valley_span, .int t_valley_tied])), (h_t_valley_from, .inl (G.2.1, 9, .inl t_valley_from)), (h_t_valley_to, .inl (G.2.1, 9, .inl t_valley_to)), (h_t_valley_lasts, .inl (G.2.1, 9, .inl t_valley_lasts))]
def M_X6_ofRope (t_valley_ropes : Int32) (t_valley_from : (Nat → Int32)) (t_valley_to : (Nat → Int32)) (t_valley_lasts : (Nat → Int32)) (a1 : Int32) (a2 : Int32) : Option (Int32) := (if a1 < 0 then (some (-1 : Int32)) else (if a1 < t_valley_ropes then (if a2 = (0 : Int32) then (gB (inb a1 9) (some (t_valley_from (Int32.toNatClampNeg a1)))) else (if a2 = (1 : Int32) then (gB (inb a1 9) (some (t_valley_to (Int32.toNatClampNeg a1)))) else (if a2 = (2 : Int32) then (gB (inb a1 9) (some (t_valley_lasts (Int32.toNatClampNeg a1)))) else (some (-2 : Int32))))) else (some (-1 : Int32))))
set_option maxHeartbeats 4000000 in
set_option maxRecDepth 100000 in
theorem c_X6_ofRope (l : Launch) (G : GT) (h_t : Nat) (h_t_valley : Nat) (h_t_valley_from : Nat) (h_t_valley_to : Nat) (h_t_valley_lasts : Nat) (h_t_text : Nat) (h_t_pulls : Nat) (h_t_triedPulls : Nat) (h_t_readings : Nat) (h_t_heard : Nat) (h_t_trial : Nat) (h_t_sheets : Nat) (h_t_valley_kinds : Nat) (h_t_valley_needs : Nat) (t_heardIsCurrent : Int32) (t_trace : Int32) (t_fault : Int32) (t_valley_bells : Int32) (t_valley_ropes : Int32) (t_valley_span : Int32) (t_valley_tied : Int32) (t_valley_from : (Nat → Int32)) (t_valley_to : (Nat → Int32)) (t_valley_lasts : (Nat → Int32)) (a1 : Int32) (a2 : Int32) {u : Int32} (hm : M_X6_ofRope t_valley_ropes t_valley_from t_valley_to t_valley_lasts a1 a2 = some u) : CT l yX6_ofRope cX6_ofRope 3 (some .int) 0 0 [.ref h_t, .int a1, .int a2] G (w_X6_ofRope G h_t h_t_valley h_t_valley_from h_t_valley_to h_t_valley_lasts h_t_text h_t_pulls h_t_triedPulls h_t_readings h_t_heard h_t_trial h_t_sheets h_t_valley_kinds h_t_valley_needs t_heardIsCurrent t_trace t_fault t_valley_bells t_valley_ropes t_valley_span t_valley_tied t_valley_from t_valley_to t_valley_lasts) (some (.int u)) (w_X6_ofRope G h_t h_t_valley h_t_valley_from h_t_valley_to h_t_valley_lasts h_t_text h_t_pulls h_t_triedPulls h_t_readings h_t_heard h_t_trial h_t_sheets h_t_valley_kinds h_t_valley_needs t_heardIsCurrent t_trace t_fault t_valley_bells t_valley_ropes t_valley_span t_valley_tied t_valley_from t_valley_to t_valley_lasts) := by
  refine ct_intro RX6 [(0, .ref h_t), (1, .int a1), (2, .int a2)] (by decide) rfl (Nat.le_of_ble_eq_true rfl) rfl (fun X hX cx => ?_)
  unfold M_X6_ofRope at hm
  refine k_iload_n 0 cx dX6_ofRope_0 rfl 1 rfl ?_
  refine k_if_lt 1 cx (tgt := 15) dX6_ofRope_1 (by decide) hm (fun hc hm => ?_) (fun hc hm => ?_)
  · refine k_iconst 15 cx (v := (-1 : Int32)) dX6_ofRope_15 (by decide) ?_
    obtain rfl := Option.some.inj hm
    exact k_iret 16 cx dX6_ofRope_16 rfl rfl
  · refine k_iload_n 4 cx dX6_ofRope_4 rfl 1 rfl ?_
    refine k_aload_n 5 cx dX6_ofRope_5 rfl 0 rfl ?_
    refine fgX6_12 6 cx dX6_ofRope_6 0 rfl rfl ?_
    refine fgX6_120 9 cx dX6_ofRope_9 1 rfl rfl ?_
    refine k_icmp_lt 12 cx (tgt := 17) dX6_ofRope_12 (by decide) hm (fun hc hm => ?_) (fun hc hm => ?_)
    · refine k_iload_n 17 cx dX6_ofRope_17 rfl 2 rfl ?_
      rcases m_if hm with ⟨hc0, hm⟩ | ⟨hc0, hm⟩
      · refine k_tabIn 18 cx (off := 26) (tgt := 44) (0 : Int32) hc0 dX6_ofRope_18 ⟨by decide, by decide, rfl, by decide⟩ ?_
        refine k_aload_n 44 cx dX6_ofRope_44 rfl 0 rfl ?_
        refine fgX6_12 45 cx dX6_ofRope_45 0 rfl rfl ?_
        refine fgX6_123 48 cx dX6_ofRope_48 1 rfl rfl ?_
        refine k_iload_n 51 cx dX6_ofRope_51 rfl 1 rfl ?_
        refine k_iald 52 cx dX6_ofRope_52 2 rfl hm (fun hm => ?_)
        obtain rfl := Option.some.inj hm
        exact k_iret 53 cx dX6_ofRope_53 rfl rfl
      · rcases m_if hm with ⟨hc1, hm⟩ | ⟨hc1, hm⟩
        · refine k_tabIn 18 cx (off := 36) (tgt := 54) (1 : Int32) hc1 dX6_ofRope_18 ⟨by decide, by decide, rfl, by decide⟩ ?_
          refine k_aload_n 54 cx dX6_ofRope_54 rfl 0 rfl ?_
          refine fgX6_12 55 cx dX6_ofRope_55 0 rfl rfl ?_
          refine fgX6_126 58 cx dX6_ofRope_58 1 rfl rfl ?_
          refine k_iload_n 61 cx dX6_ofRope_61 rfl 1 rfl ?_
          refine k_iald 62 cx dX6_ofRope_62 3 rfl hm (fun hm => ?_)
          obtain rfl := Option.some.inj hm
          exact k_iret 63 cx dX6_ofRope_63 rfl rfl
        · rcases m_if hm with ⟨hc2, hm⟩ | ⟨hc2, hm⟩
          · refine k_tabIn 18 cx (off := 46) (tgt := 64) (2 : Int32) hc2 dX6_ofRope_18 ⟨by decide, by decide, rfl, by decide⟩ ?_
            refine k_aload_n 64 cx dX6_ofRope_64 rfl 0 rfl ?_
            refine fgX6_12 65 cx dX6_ofRope_65 0 rfl rfl ?_
            refine fgX6_129 68 cx dX6_ofRope_68 1 rfl rfl ?_
            refine k_iload_n 71 cx dX6_ofRope_71 rfl 1 rfl ?_
            refine k_iald 72 cx dX6_ofRope_72 4 rfl hm (fun hm => ?_)
            obtain rfl := Option.some.inj hm
            exact k_iret 73 cx dX6_ofRope_73 rfl rfl
          · have n0 : a2.toInt ≠ 0 := fun h => hc0 (Int32.toInt_inj.mp (h.trans rfl))
            have n1 : a2.toInt ≠ 1 := fun h => hc1 (Int32.toInt_inj.mp (h.trans rfl))
            have n2 : a2.toInt ≠ 2 := fun h => hc2 (Int32.toInt_inj.mp (h.trans rfl))
            refine k_tabOut 18 cx (tgt := 74) dX6_ofRope_18 (by omega) (by decide) ?_
            refine k_bipush 74 cx (v := (-2 : Int32)) dX6_ofRope_74 (by decide) ?_
            obtain rfl := Option.some.inj hm
            exact k_iret 76 cx dX6_ofRope_76 rfl rfl
    · refine k_iconst 15 cx (v := (-1 : Int32)) dX6_ofRope_15 (by decide) ?_
      obtain rfl := Option.some.inj hm
      exact k_iret 16 cx dX6_ofRope_16 rfl rfl
set_option maxRecDepth 100000 in
theorem fgX6_132 {X : XT} {Q : State → Prop} {G : GT} {A : Nat → Prop} {nL : Nat} {lv : List (Nat × Value)} {st : List Value} {ws : va_W} {cc : ByteArray} {fr lo : Nat} {ret : Option FieldType} (pc : Nat) (cx : Cx X cc nL RX6 G fr lo ret) {a : Nat} {fs : List Value} {v : Value} (hd : decode cc pc = .ok (.getfield 132, 3)) (q0 : Nat) (he : ws[q0]? = some (a, .inr (5, fs))) (hv : fs[8]? = some v) (k : KJ X Q G A nL (pc + 3) lv (v :: st) ws) : KJ X Q G A nL pc lv (.ref a :: st) ws :=
  k_get (ref := RX5) (T := TX5) (N := 9) (ci := 5) pc cx inX5 rfl 8 (by decide) (tb_m (i := 107) rfl rfl) rfl hd q0 he hv k
set_option maxRecDepth 100000 in
theorem fpX6_132 {X : XT} {Q : State → Prop} {G : GT} {A : Nat → Prop} {nL : Nat} {lv : List (Nat × Value)} {st : List Value} {ws : va_W} {cc : ByteArray} {fr lo : Nat} {ret : Option FieldType} (pc : Nat) (cx : Cx X cc nL RX6 G fr lo ret) {a : Nat} {fs : List Value} {v : Value} (hd : decode cc pc = .ok (.putfield 132, 3)) (q0 : Nat) (he : ws[q0]? = some (a, .inr (5, fs))) (hn : narrow .int v = v) (hfit : fits .int v = true) (hlen : 8 < fs.length) (w1 : va_W) (hw : ws.set q0 (a, .inr (5, fs.set 8 v)) = w1) (k : KJ X Q G A nL (pc + 3) lv st w1) : KJ X Q G A nL pc lv (v :: .ref a :: st) ws :=
  k_put (ref := RX5) (T := TX5) (N := 9) (ci := 5) (ty := .int) pc cx inX5 rfl tyX5 tyX5_ok nmX5 8 (by decide) (tb_m (i := 107) rfl rfl) rfl rfl (by decide +kernel) hd q0 he hn hfit hlen w1 hw k
def w_X6_tie (G : GT) (h_t : Nat) (h_t_valley : Nat) (h_t_text : Nat) (h_t_pulls : Nat) (h_t_triedPulls : Nat) (h_t_readings : Nat) (h_t_heard : Nat) (h_t_trial : Nat) (h_t_sheets : Nat) (h_t_valley_kinds : Nat) (h_t_valley_needs : Nat) (h_t_valley_from : Nat) (h_t_valley_to : Nat) (h_t_valley_lasts : Nat) (t_heardIsCurrent : Int32) (t_trace : Int32) (t_fault : Int32) (t_valley_bells : Int32) (t_valley_ropes : Int32) (t_valley_span : Int32) (t_valley_tied : Int32) : va_W := [(h_t, .inr (6, [.ref h_t_valley, .ref h_t_text, .ref h_t_pulls, .ref h_t_triedPulls, .ref h_t_readings, .ref h_t_heard, .ref h_t_trial, .ref h_t_sheets, .int t_heardIsCurrent, .int t_trace, .int t_fault])), (h_t_valley, .inr (5, [.ref h_t_valley_kinds, .ref h_t_valley_needs, .ref h_t_valley_from, .ref h_t_valley_to, .ref h_t_valley_lasts, .int t_valley_bells, .int t_valley_ropes, .int t_valley_span, .int t_valley_tied]))]
def M_X6_tie (t_heardIsCurrent : Int32) (t_valley_bells : Int32) (t_valley_tied : Int32) (a1 : Int32) (a2 : Int32) : Option (Int32 × Int32 × Int32) := ((M_X5_hasBell t_valley_bells a1).bind (fun u1 => (if u1 = 0 then (some ((-1 : Int32), t_heardIsCurrent, t_valley_tied)) else ((M_X5_isTied t_valley_tied a1).bind (fun u2 => (if u2 = a2 then (some ((0 : Int32), t_heardIsCurrent, t_valley_tied)) else (nme (t_valley_tied ^^^ ((1 : Int32) <<< (a1 &&& 31))) (fun v3 => (some ((1 : Int32), (0 : Int32), v3))))))))))
set_option maxHeartbeats 4000000 in
set_option maxRecDepth 100000 in
theorem c_X6_tie (l : Launch) (G : GT) (h_t : Nat) (h_t_valley : Nat) (h_t_text : Nat) (h_t_pulls : Nat) (h_t_triedPulls : Nat) (h_t_readings : Nat) (h_t_heard : Nat) (h_t_trial : Nat) (h_t_sheets : Nat) (h_t_valley_kinds : Nat) (h_t_valley_needs : Nat) (h_t_valley_from : Nat) (h_t_valley_to : Nat) (h_t_valley_lasts : Nat) (t_heardIsCurrent : Int32) (t_trace : Int32) (t_fault : Int32) (t_valley_bells : Int32) (t_valley_ropes : Int32) (t_valley_span : Int32) (t_valley_tied : Int32) (a1 : Int32) (a2 : Int32) {u : Int32 × Int32 × Int32} (hm : M_X6_tie t_heardIsCurrent t_valley_bells t_valley_tied a1 a2 = some u) : CT l yX6_tie cX6_tie 3 (some .int) 1 21 [.ref h_t, .int a1, .int a2] G (w_X6_tie G h_t h_t_valley h_t_text h_t_pulls h_t_triedPulls h_t_readings h_t_heard h_t_trial h_t_sheets h_t_valley_kinds h_t_valley_needs h_t_valley_from h_t_valley_to h_t_valley_lasts t_heardIsCurrent t_trace t_fault t_valley_bells t_valley_ropes t_valley_span t_valley_tied) (some (.int u.1)) (w_X6_tie G h_t h_t_valley h_t_text h_t_pulls h_t_triedPulls h_t_readings h_t_heard h_t_trial h_t_sheets h_t_valley_kinds h_t_valley_needs h_t_valley_from h_t_valley_to h_t_valley_lasts u.2.1 t_trace t_fault t_valley_bells t_valley_ropes t_valley_span u.2.2) := by
  refine ct_intro RX6 [(0, .ref h_t), (1, .int a1), (2, .int a2)] (by decide) rfl (Nat.le_of_ble_eq_true rfl) rfl (fun X hX cx => ?_)
  unfold M_X6_tie at hm
  refine k_aload_n 0 cx dX6_tie_0 rfl 0 rfl ?_
  refine fgX6_12 1 cx dX6_tie_1 0 rfl rfl ?_
  refine k_iload_n 4 cx dX6_tie_4 rfl 1 rfl ?_
  obtain ⟨u1, hu1, hm⟩ := bnd hm
  refine k_callV 5 cx cwX6_105 (c_X5_hasBell X.2.1 G h_t_valley h_t_valley_kinds h_t_valley_needs h_t_valley_from h_t_valley_to h_t_valley_lasts t_valley_bells t_valley_ropes t_valley_span t_valley_tied a1 hu1) dX6_tie_5 ⟨by decide, by decide⟩ rfl rfl (rest := []) rfl (Nat.le_of_ble_eq_true rfl) [1] (by decide) rfl rfl (w2 := (w_X6_tie G h_t h_t_valley h_t_text h_t_pulls h_t_triedPulls h_t_readings h_t_heard h_t_trial h_t_sheets h_t_valley_kinds h_t_valley_needs h_t_valley_from h_t_valley_to h_t_valley_lasts t_heardIsCurrent t_trace t_fault t_valley_bells t_valley_ropes t_valley_span t_valley_tied)) [0] 2 rfl [(h_t, .inr (6, [.ref h_t_valley, .ref h_t_text, .ref h_t_pulls, .ref h_t_triedPulls, .ref h_t_readings, .ref h_t_heard, .ref h_t_trial, .ref h_t_sheets, .int t_heardIsCurrent, .int t_trace, .int t_fault]))] rfl rfl rfl (by decide) (st2 := [.int u1]) rfl ?_
  refine k_if_ne 8 cx (tgt := 13) dX6_tie_8 (by decide) hm (fun hc hm => ?_) (fun hc hm => ?_)
  · refine k_iconst 11 cx (v := (-1 : Int32)) dX6_tie_11 (by decide) ?_
    obtain rfl := Option.some.inj hm
    exact k_iret 12 cx dX6_tie_12 rfl rfl
  · refine k_aload_n 13 cx dX6_tie_13 rfl 0 rfl ?_
    refine fgX6_12 14 cx dX6_tie_14 0 rfl rfl ?_
    refine k_iload_n 17 cx dX6_tie_17 rfl 1 rfl ?_
    obtain ⟨u2, hu2, hm⟩ := bnd hm
    refine k_callV 18 cx cwX6_117 (c_X5_isTied X.2.1 G h_t_valley h_t_valley_kinds h_t_valley_needs h_t_valley_from h_t_valley_to h_t_valley_lasts t_valley_bells t_valley_ropes t_valley_span t_valley_tied a1 hu2) dX6_tie_18 ⟨by decide, by decide⟩ rfl rfl (rest := []) rfl (Nat.le_of_ble_eq_true rfl) [1] (by decide) rfl rfl (w2 := (w_X6_tie G h_t h_t_valley h_t_text h_t_pulls h_t_triedPulls h_t_readings h_t_heard h_t_trial h_t_sheets h_t_valley_kinds h_t_valley_needs h_t_valley_from h_t_valley_to h_t_valley_lasts t_heardIsCurrent t_trace t_fault t_valley_bells t_valley_ropes t_valley_span t_valley_tied)) [0] 2 rfl [(h_t, .inr (6, [.ref h_t_valley, .ref h_t_text, .ref h_t_pulls, .ref h_t_triedPulls, .ref h_t_readings, .ref h_t_heard, .ref h_t_trial, .ref h_t_sheets, .int t_heardIsCurrent, .int t_trace, .int t_fault]))] rfl rfl rfl (by decide) (st2 := [.int u2]) rfl ?_
    refine k_iload_n 21 cx dX6_tie_21 rfl 2 rfl ?_
    refine k_icmp_ne 22 cx (tgt := 27) dX6_tie_22 (by decide) hm (fun hc hm => ?_) (fun hc hm => ?_)
    · refine k_iconst 25 cx (v := (0 : Int32)) dX6_tie_25 (by decide) ?_
      obtain rfl := Option.some.inj hm
      exact k_iret 26 cx dX6_tie_26 rfl rfl
    · refine k_aload_n 27 cx dX6_tie_27 rfl 0 rfl ?_
      refine fgX6_12 28 cx dX6_tie_28 0 rfl rfl ?_
      refine k_dup 31 cx dX6_tie_31 rfl ?_
      refine fgX6_132 32 cx dX6_tie_32 1 rfl rfl ?_
      refine k_iconst 35 cx (v := (1 : Int32)) dX6_tie_35 (by decide) ?_
      refine k_iload_n 36 cx dX6_tie_36 rfl 1 rfl ?_
      refine k_ishl 37 cx dX6_tie_37 ?_
      refine k_ixor 38 cx dX6_tie_38 ?_
      refine k_nm hm (fun v3 hm => ?_)
      refine fpX6_132 39 cx dX6_tie_39 1 rfl rfl rfl (by simp) (w1 := (w_X6_tie G h_t h_t_valley h_t_text h_t_pulls h_t_triedPulls h_t_readings h_t_heard h_t_trial h_t_sheets h_t_valley_kinds h_t_valley_needs h_t_valley_from h_t_valley_to h_t_valley_lasts t_heardIsCurrent t_trace t_fault t_valley_bells t_valley_ropes t_valley_span v3)) rfl ?_
      refine k_aload_n 42 cx dX6_tie_42 rfl 0 rfl ?_
      refine k_iconst 43 cx (v := (0 : Int32)) dX6_tie_43 (by decide) ?_
      refine fpX6_98 44 cx dX6_tie_44 0 rfl rfl rfl (by simp) (w1 := (w_X6_tie G h_t h_t_valley h_t_text h_t_pulls h_t_triedPulls h_t_readings h_t_heard h_t_trial h_t_sheets h_t_valley_kinds h_t_valley_needs h_t_valley_from h_t_valley_to h_t_valley_lasts (0 : Int32) t_trace t_fault t_valley_bells t_valley_ropes t_valley_span v3)) rfl ?_
      refine k_iconst 47 cx (v := (1 : Int32)) dX6_tie_47 (by decide) ?_
      obtain rfl := Option.some.inj hm
      exact k_iret 48 cx dX6_tie_48 rfl rfl
def w_X6_hasNoValley (G : GT) (h_t : Nat) (h_t_valley : Nat) (h_t_text : Nat) (h_t_pulls : Nat) (h_t_triedPulls : Nat) (h_t_readings : Nat) (h_t_heard : Nat) (h_t_trial : Nat) (h_t_sheets : Nat) (h_t_valley_kinds : Nat) (h_t_valley_needs : Nat) (h_t_valley_from : Nat) (h_t_valley_to : Nat) (h_t_valley_lasts : Nat) (t_heardIsCurrent : Int32) (t_trace : Int32) (t_fault : Int32) (t_valley_bells : Int32) (t_valley_ropes : Int32) (t_valley_span : Int32) (t_valley_tied : Int32) : va_W := [(h_t, .inr (6, [.ref h_t_valley, .ref h_t_text, .ref h_t_pulls, .ref h_t_triedPulls, .ref h_t_readings, .ref h_t_heard, .ref h_t_trial, .ref h_t_sheets, .int t_heardIsCurrent, .int t_trace, .int t_fault])), (h_t_valley, .inr (5, [.ref h_t_valley_kinds, .ref h_t_valley_needs, .ref h_t_valley_from, .ref h_t_valley_to, .ref h_t_valley_lasts, .int t_valley_bells, .int t_valley_ropes, .int t_valley_span, .int t_valley_tied]))]
def M_X6_hasNoValley (t_valley_bells : Int32) : Option (Int32) := (if t_valley_bells = 0 then (some (1 : Int32)) else (some (0 : Int32)))
set_option maxHeartbeats 4000000 in
set_option maxRecDepth 100000 in
theorem c_X6_hasNoValley (l : Launch) (G : GT) (h_t : Nat) (h_t_valley : Nat) (h_t_text : Nat) (h_t_pulls : Nat) (h_t_triedPulls : Nat) (h_t_readings : Nat) (h_t_heard : Nat) (h_t_trial : Nat) (h_t_sheets : Nat) (h_t_valley_kinds : Nat) (h_t_valley_needs : Nat) (h_t_valley_from : Nat) (h_t_valley_to : Nat) (h_t_valley_lasts : Nat) (t_heardIsCurrent : Int32) (t_trace : Int32) (t_fault : Int32) (t_valley_bells : Int32) (t_valley_ropes : Int32) (t_valley_span : Int32) (t_valley_tied : Int32) {u : Int32} (hm : M_X6_hasNoValley t_valley_bells = some u) : CT l yX6_hasNoValley cX6_hasNoValley 1 (some .boolean) 0 0 [.ref h_t] G (w_X6_hasNoValley G h_t h_t_valley h_t_text h_t_pulls h_t_triedPulls h_t_readings h_t_heard h_t_trial h_t_sheets h_t_valley_kinds h_t_valley_needs h_t_valley_from h_t_valley_to h_t_valley_lasts t_heardIsCurrent t_trace t_fault t_valley_bells t_valley_ropes t_valley_span t_valley_tied) (some (.int u)) (w_X6_hasNoValley G h_t h_t_valley h_t_text h_t_pulls h_t_triedPulls h_t_readings h_t_heard h_t_trial h_t_sheets h_t_valley_kinds h_t_valley_needs h_t_valley_from h_t_valley_to h_t_valley_lasts t_heardIsCurrent t_trace t_fault t_valley_bells t_valley_ropes t_valley_span t_valley_tied) := by
  refine ct_intro RX6 [(0, .ref h_t)] (by decide) rfl (Nat.le_of_ble_eq_true rfl) rfl (fun X hX cx => ?_)
  unfold M_X6_hasNoValley at hm
  refine k_aload_n 0 cx dX6_hasNoValley_0 rfl 0 rfl ?_
  refine fgX6_12 1 cx dX6_hasNoValley_1 0 rfl rfl ?_
  refine fgX6_102 4 cx dX6_hasNoValley_4 1 rfl rfl ?_
  refine k_if_ne 7 cx (tgt := 14) dX6_hasNoValley_7 (by decide) hm (fun hc hm => ?_) (fun hc hm => ?_)
  · refine k_iconst 10 cx (v := (1 : Int32)) dX6_hasNoValley_10 (by decide) ?_
    refine k_goto 11 cx (tgt := 15) dX6_hasNoValley_11 (by decide) ?_
    obtain rfl := Option.some.inj hm
    exact k_zret 15 cx dX6_hasNoValley_15 (by decide) rfl rfl
  · refine k_iconst 14 cx (v := (0 : Int32)) dX6_hasNoValley_14 (by decide) ?_
    obtain rfl := Option.some.inj hm
    exact k_zret 15 cx dX6_hasNoValley_15 (by decide) rfl rfl
set_option maxRecDepth 100000 in
theorem fgX6_139 {X : XT} {Q : State → Prop} {G : GT} {A : Nat → Prop} {nL : Nat} {lv : List (Nat × Value)} {st : List Value} {ws : va_W} {cc : ByteArray} {fr lo : Nat} {ret : Option FieldType} (pc : Nat) (cx : Cx X cc nL RX6 G fr lo ret) {a : Nat} {fs : List Value} {v : Value} (hd : decode cc pc = .ok (.getfield 139, 3)) (q0 : Nat) (he : ws[q0]? = some (a, .inr (5, fs))) (hv : fs[7]? = some v) (k : KJ X Q G A nL (pc + 3) lv (v :: st) ws) : KJ X Q G A nL pc lv (.ref a :: st) ws :=
  k_get (ref := RX5) (T := TX5) (N := 9) (ci := 5) pc cx inX5 rfl 7 (by decide) (tb_m (i := 104) rfl rfl) rfl hd q0 he hv k
set_option maxRecDepth 100000 in
theorem fpX6_139 {X : XT} {Q : State → Prop} {G : GT} {A : Nat → Prop} {nL : Nat} {lv : List (Nat × Value)} {st : List Value} {ws : va_W} {cc : ByteArray} {fr lo : Nat} {ret : Option FieldType} (pc : Nat) (cx : Cx X cc nL RX6 G fr lo ret) {a : Nat} {fs : List Value} {v : Value} (hd : decode cc pc = .ok (.putfield 139, 3)) (q0 : Nat) (he : ws[q0]? = some (a, .inr (5, fs))) (hn : narrow .int v = v) (hfit : fits .int v = true) (hlen : 7 < fs.length) (w1 : va_W) (hw : ws.set q0 (a, .inr (5, fs.set 7 v)) = w1) (k : KJ X Q G A nL (pc + 3) lv st w1) : KJ X Q G A nL pc lv (v :: .ref a :: st) ws :=
  k_put (ref := RX5) (T := TX5) (N := 9) (ci := 5) (ty := .int) pc cx inX5 rfl tyX5 tyX5_ok nmX5 7 (by decide) (tb_m (i := 104) rfl rfl) rfl rfl (by decide +kernel) hd q0 he hn hfit hlen w1 hw k
set_option maxRecDepth 100000 in
theorem cwX6_135 : CWV RX6 135 RX6 yX6_hasNoValley cX6_hasNoValley 1 (some .boolean) 0 6 TX6 11 := ⟨tb_m (i := 370) rfl rfl, tb_m (i := 372) rfl rfl, tb_m (i := 7) rfl rfl, tb_m (i := 51) rfl rfl, tb_m (i := 373) rfl rfl, ⟨by decide +kernel, by decide +kernel, by decide +kernel⟩, rfl⟩
def w_X6_span (G : GT) (h_t : Nat) (h_t_valley : Nat) (h_t_text : Nat) (h_t_pulls : Nat) (h_t_triedPulls : Nat) (h_t_readings : Nat) (h_t_heard : Nat) (h_t_trial : Nat) (h_t_sheets : Nat) (h_t_valley_kinds : Nat) (h_t_valley_needs : Nat) (h_t_valley_from : Nat) (h_t_valley_to : Nat) (h_t_valley_lasts : Nat) (t_heardIsCurrent : Int32) (t_trace : Int32) (t_fault : Int32) (t_valley_bells : Int32) (t_valley_ropes : Int32) (t_valley_span : Int32) (t_valley_tied : Int32) : va_W := [(h_t, .inr (6, [.ref h_t_valley, .ref h_t_text, .ref h_t_pulls, .ref h_t_triedPulls, .ref h_t_readings, .ref h_t_heard, .ref h_t_trial, .ref h_t_sheets, .int t_heardIsCurrent, .int t_trace, .int t_fault])), (h_t_valley, .inr (5, [.ref h_t_valley_kinds, .ref h_t_valley_needs, .ref h_t_valley_from, .ref h_t_valley_to, .ref h_t_valley_lasts, .int t_valley_bells, .int t_valley_ropes, .int t_valley_span, .int t_valley_tied]))]
def M_X6_span (t_heardIsCurrent : Int32) (t_valley_bells : Int32) (t_valley_span : Int32) (a1 : Int32) : Option (Int32 × Int32 × Int32) := (if a1 < 0 then (some ((-2 : Int32), t_heardIsCurrent, t_valley_span)) else (if a1 ≤ (5 : Int32) then ((M_X6_hasNoValley t_valley_bells).bind (fun u1 => (if u1 = 0 then (some (t_valley_span, (0 : Int32), a1)) else (some ((-3 : Int32), t_heardIsCurrent, t_valley_span))))) else (some ((-2 : Int32), t_heardIsCurrent, t_valley_span))))
set_option maxHeartbeats 4000000 in
set_option maxRecDepth 100000 in
theorem c_X6_span (l : Launch) (G : GT) (h_t : Nat) (h_t_valley : Nat) (h_t_text : Nat) (h_t_pulls : Nat) (h_t_triedPulls : Nat) (h_t_readings : Nat) (h_t_heard : Nat) (h_t_trial : Nat) (h_t_sheets : Nat) (h_t_valley_kinds : Nat) (h_t_valley_needs : Nat) (h_t_valley_from : Nat) (h_t_valley_to : Nat) (h_t_valley_lasts : Nat) (t_heardIsCurrent : Int32) (t_trace : Int32) (t_fault : Int32) (t_valley_bells : Int32) (t_valley_ropes : Int32) (t_valley_span : Int32) (t_valley_tied : Int32) (a1 : Int32) {u : Int32 × Int32 × Int32} (hm : M_X6_span t_heardIsCurrent t_valley_bells t_valley_span a1 = some u) : CT l yX6_span cX6_span 3 (some .int) 1 20 [.ref h_t, .int a1] G (w_X6_span G h_t h_t_valley h_t_text h_t_pulls h_t_triedPulls h_t_readings h_t_heard h_t_trial h_t_sheets h_t_valley_kinds h_t_valley_needs h_t_valley_from h_t_valley_to h_t_valley_lasts t_heardIsCurrent t_trace t_fault t_valley_bells t_valley_ropes t_valley_span t_valley_tied) (some (.int u.1)) (w_X6_span G h_t h_t_valley h_t_text h_t_pulls h_t_triedPulls h_t_readings h_t_heard h_t_trial h_t_sheets h_t_valley_kinds h_t_valley_needs h_t_valley_from h_t_valley_to h_t_valley_lasts u.2.1 t_trace t_fault t_valley_bells t_valley_ropes u.2.2 t_valley_tied) := by
  refine ct_intro RX6 [(0, .ref h_t), (1, .int a1)] (by decide) rfl (Nat.le_of_ble_eq_true rfl) rfl (fun X hX cx => ?_)
  unfold M_X6_span at hm
  refine k_iload_n 0 cx dX6_span_0 rfl 1 rfl ?_
  refine k_if_lt 1 cx (tgt := 9) dX6_span_1 (by decide) hm (fun hc hm => ?_) (fun hc hm => ?_)
  · refine k_bipush 9 cx (v := (-2 : Int32)) dX6_span_9 (by decide) ?_
    obtain rfl := Option.some.inj hm
    exact k_iret 11 cx dX6_span_11 rfl rfl
  · refine k_iload_n 4 cx dX6_span_4 rfl 1 rfl ?_
    refine k_iconst 5 cx (v := (5 : Int32)) dX6_span_5 (by decide) ?_
    refine k_icmp_le 6 cx (tgt := 12) dX6_span_6 (by decide) hm (fun hc hm => ?_) (fun hc hm => ?_)
    · refine k_aload_n 12 cx dX6_span_12 rfl 0 rfl ?_
      obtain ⟨u1, hu1, hm⟩ := bnd hm
      refine k_callV 13 cx cwX6_135 (c_X6_hasNoValley X.2.1 G h_t h_t_valley h_t_text h_t_pulls h_t_triedPulls h_t_readings h_t_heard h_t_trial h_t_sheets h_t_valley_kinds h_t_valley_needs h_t_valley_from h_t_valley_to h_t_valley_lasts t_heardIsCurrent t_trace t_fault t_valley_bells t_valley_ropes t_valley_span t_valley_tied hu1) dX6_span_13 ⟨by decide, by decide⟩ rfl rfl (rest := []) rfl (Nat.le_of_ble_eq_true rfl) [0, 1] (by decide) rfl rfl (w2 := (w_X6_span G h_t h_t_valley h_t_text h_t_pulls h_t_triedPulls h_t_readings h_t_heard h_t_trial h_t_sheets h_t_valley_kinds h_t_valley_needs h_t_valley_from h_t_valley_to h_t_valley_lasts t_heardIsCurrent t_trace t_fault t_valley_bells t_valley_ropes t_valley_span t_valley_tied)) [] 2 rfl [] rfl rfl rfl (by decide) (st2 := [.int u1]) rfl ?_
      refine k_if_eq 16 cx (tgt := 22) dX6_span_16 (by decide) hm (fun hc hm => ?_) (fun hc hm => ?_)
      · refine k_aload_n 22 cx dX6_span_22 rfl 0 rfl ?_
        refine fgX6_12 23 cx dX6_span_23 0 rfl rfl ?_
        refine fgX6_139 26 cx dX6_span_26 1 rfl rfl ?_
        refine k_istore_n 29 cx dX6_span_29 rfl (by decide) (lv' := [(2, .int t_valley_span), (0, .ref h_t), (1, .int a1)]) rfl ?_
        refine k_aload_n 30 cx dX6_span_30 rfl 1 rfl ?_
        refine fgX6_12 31 cx dX6_span_31 0 rfl rfl ?_
        refine k_iload_n 34 cx dX6_span_34 rfl 2 rfl ?_
        refine fpX6_139 35 cx dX6_span_35 1 rfl rfl rfl (by simp) (w1 := (w_X6_span G h_t h_t_valley h_t_text h_t_pulls h_t_triedPulls h_t_readings h_t_heard h_t_trial h_t_sheets h_t_valley_kinds h_t_valley_needs h_t_valley_from h_t_valley_to h_t_valley_lasts t_heardIsCurrent t_trace t_fault t_valley_bells t_valley_ropes a1 t_valley_tied)) rfl ?_
        refine k_aload_n 38 cx dX6_span_38 rfl 1 rfl ?_
        refine k_iconst 39 cx (v := (0 : Int32)) dX6_span_39 (by decide) ?_
        refine fpX6_98 40 cx dX6_span_40 0 rfl rfl rfl (by simp) (w1 := (w_X6_span G h_t h_t_valley h_t_text h_t_pulls h_t_triedPulls h_t_readings h_t_heard h_t_trial h_t_sheets h_t_valley_kinds h_t_valley_needs h_t_valley_from h_t_valley_to h_t_valley_lasts (0 : Int32) t_trace t_fault t_valley_bells t_valley_ropes a1 t_valley_tied)) rfl ?_
        refine k_iload_n 43 cx dX6_span_43 rfl 0 rfl ?_
        obtain rfl := Option.some.inj hm
        exact k_iret 44 cx dX6_span_44 rfl rfl
      · refine k_bipush 19 cx (v := (-3 : Int32)) dX6_span_19 (by decide) ?_
        obtain rfl := Option.some.inj hm
        exact k_iret 21 cx dX6_span_21 rfl rfl
    · refine k_bipush 9 cx (v := (-2 : Int32)) dX6_span_9 (by decide) ?_
      obtain rfl := Option.some.inj hm
      exact k_iret 11 cx dX6_span_11 rfl rfl
set_option maxRecDepth 100000 in
theorem fgX6_94 {X : XT} {Q : State → Prop} {G : GT} {A : Nat → Prop} {nL : Nat} {lv : List (Nat × Value)} {st : List Value} {ws : va_W} {cc : ByteArray} {fr lo : Nat} {ret : Option FieldType} (pc : Nat) (cx : Cx X cc nL RX6 G fr lo ret) {a : Nat} {fs : List Value} {v : Value} (hd : decode cc pc = .ok (.getfield 94, 3)) (q0 : Nat) (he : ws[q0]? = some (a, .inr (1, fs))) (hv : fs[3]? = some v) (k : KJ X Q G A nL (pc + 3) lv (v :: st) ws) : KJ X Q G A nL pc lv (.ref a :: st) ws :=
  k_get (ref := RX1) (T := TX1) (N := 4) (ci := 1) pc cx inX1 rfl 3 (by decide) (tb_m (i := 157) rfl rfl) rfl hd q0 he hv k
set_option maxRecDepth 100000 in
theorem cwX6_142 : CWV RX6 142 RX1 yX1_add cX1_add 4 none 3 1 TX1 4 := ⟨tb_m (i := 378) rfl rfl, tb_m (i := 379) rfl rfl, tb_m (i := 380) rfl rfl, tb_m (i := 54) rfl rfl, tb_m (i := 381) rfl rfl, ⟨by decide +kernel, by decide +kernel, by decide +kernel⟩, rfl⟩
def w_X6_pull (G : GT) (h_t : Nat) (h_t_valley : Nat) (h_t_pulls : Nat) (h_t_pulls_bells : Nat) (h_t_pulls_minutes : Nat) (h_t_pulls_times : Nat) (h_t_text : Nat) (h_t_triedPulls : Nat) (h_t_readings : Nat) (h_t_heard : Nat) (h_t_trial : Nat) (h_t_sheets : Nat) (h_t_valley_kinds : Nat) (h_t_valley_needs : Nat) (h_t_valley_from : Nat) (h_t_valley_to : Nat) (h_t_valley_lasts : Nat) (t_heardIsCurrent : Int32) (t_trace : Int32) (t_fault : Int32) (t_valley_bells : Int32) (t_valley_ropes : Int32) (t_valley_span : Int32) (t_valley_tied : Int32) (t_pulls_count : Int32) (t_pulls_bells : (Nat → Int32)) (t_pulls_minutes : (Nat → Int32)) (t_pulls_times : (Nat → Int32)) : va_W := [(h_t, .inr (6, [.ref h_t_valley, .ref h_t_text, .ref h_t_pulls, .ref h_t_triedPulls, .ref h_t_readings, .ref h_t_heard, .ref h_t_trial, .ref h_t_sheets, .int t_heardIsCurrent, .int t_trace, .int t_fault])), (h_t_valley, .inr (5, [.ref h_t_valley_kinds, .ref h_t_valley_needs, .ref h_t_valley_from, .ref h_t_valley_to, .ref h_t_valley_lasts, .int t_valley_bells, .int t_valley_ropes, .int t_valley_span, .int t_valley_tied])), (h_t_pulls, .inr (1, [.ref h_t_pulls_bells, .ref h_t_pulls_minutes, .ref h_t_pulls_times, .int t_pulls_count])), (h_t_pulls_bells, .inl (G.2.1, 6, .inl t_pulls_bells)), (h_t_pulls_minutes, .inl (G.2.1, 6, .inl t_pulls_minutes)), (h_t_pulls_times, .inl (G.2.1, 6, .inl t_pulls_times))]
def M_X6_pull (t_heardIsCurrent : Int32) (t_valley_bells : Int32) (t_pulls_count : Int32) (t_pulls_bells : (Nat → Int32)) (t_pulls_minutes : (Nat → Int32)) (t_pulls_times : (Nat → Int32)) (a1 : Int32) (a2 : Int32) : Option (Int32 × Int32 × Int32 × (Nat → Int32) × (Nat → Int32) × (Nat → Int32)) := ((M_X5_hasBell t_valley_bells a1).bind (fun u1 => (if u1 = 0 then (some ((-1 : Int32), t_heardIsCurrent, t_pulls_count, t_pulls_bells, t_pulls_minutes, t_pulls_times)) else (if a2 < 0 then (some ((-2 : Int32), t_heardIsCurrent, t_pulls_count, t_pulls_bells, t_pulls_minutes, t_pulls_times)) else (if a2 < (100 : Int32) then (if t_pulls_count < (6 : Int32) then ((M_X1_add t_pulls_count t_pulls_bells t_pulls_minutes t_pulls_times a1 a2 (1 : Int32)).bind (fun u2 => (some ((u2.1 - (1 : Int32)), (0 : Int32), u2.1, u2.2.1, u2.2.2.1, u2.2.2.2)))) else (some ((-4 : Int32), t_heardIsCurrent, t_pulls_count, t_pulls_bells, t_pulls_minutes, t_pulls_times))) else (some ((-2 : Int32), t_heardIsCurrent, t_pulls_count, t_pulls_bells, t_pulls_minutes, t_pulls_times)))))))
set_option maxHeartbeats 4000000 in
set_option maxRecDepth 100000 in
theorem c_X6_pull (l : Launch) (G : GT) (h_t : Nat) (h_t_valley : Nat) (h_t_pulls : Nat) (h_t_pulls_bells : Nat) (h_t_pulls_minutes : Nat) (h_t_pulls_times : Nat) (h_t_text : Nat) (h_t_triedPulls : Nat) (h_t_readings : Nat) (h_t_heard : Nat) (h_t_trial : Nat) (h_t_sheets : Nat) (h_t_valley_kinds : Nat) (h_t_valley_needs : Nat) (h_t_valley_from : Nat) (h_t_valley_to : Nat) (h_t_valley_lasts : Nat) (t_heardIsCurrent : Int32) (t_trace : Int32) (t_fault : Int32) (t_valley_bells : Int32) (t_valley_ropes : Int32) (t_valley_span : Int32) (t_valley_tied : Int32) (t_pulls_count : Int32) (t_pulls_bells : (Nat → Int32)) (t_pulls_minutes : (Nat → Int32)) (t_pulls_times : (Nat → Int32)) (a1 : Int32) (a2 : Int32) {u : Int32 × Int32 × Int32 × (Nat → Int32) × (Nat → Int32) × (Nat → Int32)} (hm : M_X6_pull t_heardIsCurrent t_valley_bells t_pulls_count t_pulls_bells t_pulls_minutes t_pulls_times a1 a2 = some u) : CT l yX6_pull cX6_pull 3 (some .int) 1 23 [.ref h_t, .int a1, .int a2] G (w_X6_pull G h_t h_t_valley h_t_pulls h_t_pulls_bells h_t_pulls_minutes h_t_pulls_times h_t_text h_t_triedPulls h_t_readings h_t_heard h_t_trial h_t_sheets h_t_valley_kinds h_t_valley_needs h_t_valley_from h_t_valley_to h_t_valley_lasts t_heardIsCurrent t_trace t_fault t_valley_bells t_valley_ropes t_valley_span t_valley_tied t_pulls_count t_pulls_bells t_pulls_minutes t_pulls_times) (some (.int u.1)) (w_X6_pull G h_t h_t_valley h_t_pulls h_t_pulls_bells h_t_pulls_minutes h_t_pulls_times h_t_text h_t_triedPulls h_t_readings h_t_heard h_t_trial h_t_sheets h_t_valley_kinds h_t_valley_needs h_t_valley_from h_t_valley_to h_t_valley_lasts u.2.1 t_trace t_fault t_valley_bells t_valley_ropes t_valley_span t_valley_tied u.2.2.1 u.2.2.2.1 u.2.2.2.2.1 u.2.2.2.2.2) := by
  refine ct_intro RX6 [(0, .ref h_t), (1, .int a1), (2, .int a2)] (by decide) rfl (Nat.le_of_ble_eq_true rfl) rfl (fun X hX cx => ?_)
  unfold M_X6_pull at hm
  refine k_aload_n 0 cx dX6_pull_0 rfl 0 rfl ?_
  refine fgX6_12 1 cx dX6_pull_1 0 rfl rfl ?_
  refine k_iload_n 4 cx dX6_pull_4 rfl 1 rfl ?_
  obtain ⟨u1, hu1, hm⟩ := bnd hm
  refine k_callV 5 cx cwX6_105 (c_X5_hasBell X.2.1 G h_t_valley h_t_valley_kinds h_t_valley_needs h_t_valley_from h_t_valley_to h_t_valley_lasts t_valley_bells t_valley_ropes t_valley_span t_valley_tied a1 hu1) dX6_pull_5 ⟨by decide, by decide⟩ rfl rfl (rest := []) rfl (Nat.le_of_ble_eq_true rfl) [1] (by decide) rfl rfl (w2 := (w_X6_pull G h_t h_t_valley h_t_pulls h_t_pulls_bells h_t_pulls_minutes h_t_pulls_times h_t_text h_t_triedPulls h_t_readings h_t_heard h_t_trial h_t_sheets h_t_valley_kinds h_t_valley_needs h_t_valley_from h_t_valley_to h_t_valley_lasts t_heardIsCurrent t_trace t_fault t_valley_bells t_valley_ropes t_valley_span t_valley_tied t_pulls_count t_pulls_bells t_pulls_minutes t_pulls_times)) [0, 2, 3, 4, 5] 6 rfl [(h_t, .inr (6, [.ref h_t_valley, .ref h_t_text, .ref h_t_pulls, .ref h_t_triedPulls, .ref h_t_readings, .ref h_t_heard, .ref h_t_trial, .ref h_t_sheets, .int t_heardIsCurrent, .int t_trace, .int t_fault])), (h_t_pulls, .inr (1, [.ref h_t_pulls_bells, .ref h_t_pulls_minutes, .ref h_t_pulls_times, .int t_pulls_count])), (h_t_pulls_bells, .inl (G.2.1, 6, .inl t_pulls_bells)), (h_t_pulls_minutes, .inl (G.2.1, 6, .inl t_pulls_minutes)), (h_t_pulls_times, .inl (G.2.1, 6, .inl t_pulls_times))] rfl rfl rfl (by decide) (st2 := [.int u1]) rfl ?_
  refine k_if_ne 8 cx (tgt := 13) dX6_pull_8 (by decide) hm (fun hc hm => ?_) (fun hc hm => ?_)
  · refine k_iconst 11 cx (v := (-1 : Int32)) dX6_pull_11 (by decide) ?_
    obtain rfl := Option.some.inj hm
    exact k_iret 12 cx dX6_pull_12 rfl rfl
  · refine k_iload_n 13 cx dX6_pull_13 rfl 2 rfl ?_
    refine k_if_lt 14 cx (tgt := 23) dX6_pull_14 (by decide) hm (fun hc hm => ?_) (fun hc hm => ?_)
    · refine k_bipush 23 cx (v := (-2 : Int32)) dX6_pull_23 (by decide) ?_
      obtain rfl := Option.some.inj hm
      exact k_iret 25 cx dX6_pull_25 rfl rfl
    · refine k_iload_n 17 cx dX6_pull_17 rfl 2 rfl ?_
      refine k_bipush 18 cx (v := (100 : Int32)) dX6_pull_18 (by decide) ?_
      refine k_icmp_lt 20 cx (tgt := 26) dX6_pull_20 (by decide) hm (fun hc hm => ?_) (fun hc hm => ?_)
      · refine k_aload_n 26 cx dX6_pull_26 rfl 0 rfl ?_
        refine fgX6_28 27 cx dX6_pull_27 0 rfl rfl ?_
        refine fgX6_94 30 cx dX6_pull_30 2 rfl rfl ?_
        refine k_bipush 33 cx (v := (6 : Int32)) dX6_pull_33 (by decide) ?_
        refine k_icmp_lt 35 cx (tgt := 41) dX6_pull_35 (by decide) hm (fun hc hm => ?_) (fun hc hm => ?_)
        · refine k_aload_n 41 cx dX6_pull_41 rfl 0 rfl ?_
          refine fgX6_28 42 cx dX6_pull_42 0 rfl rfl ?_
          refine k_iload_n 45 cx dX6_pull_45 rfl 1 rfl ?_
          refine k_iload_n 46 cx dX6_pull_46 rfl 2 rfl ?_
          refine k_iconst 47 cx (v := (1 : Int32)) dX6_pull_47 (by decide) ?_
          obtain ⟨u2, hu2, hm⟩ := bnd hm
          refine k_callV 48 cx cwX6_142 (c_X1_add X.2.1 G h_t_pulls h_t_pulls_bells h_t_pulls_minutes h_t_pulls_times t_pulls_count t_pulls_bells t_pulls_minutes t_pulls_times a1 a2 (1 : Int32) hu2) dX6_pull_48 ⟨by decide, by decide⟩ rfl rfl (rest := []) rfl (Nat.le_of_ble_eq_true rfl) [2, 3, 4, 5] (by decide) rfl rfl (w2 := (w_X6_pull G h_t h_t_valley h_t_pulls h_t_pulls_bells h_t_pulls_minutes h_t_pulls_times h_t_text h_t_triedPulls h_t_readings h_t_heard h_t_trial h_t_sheets h_t_valley_kinds h_t_valley_needs h_t_valley_from h_t_valley_to h_t_valley_lasts t_heardIsCurrent t_trace t_fault t_valley_bells t_valley_ropes t_valley_span t_valley_tied u2.1 u2.2.1 u2.2.2.1 u2.2.2.2)) [0, 1] 6 rfl [(h_t, .inr (6, [.ref h_t_valley, .ref h_t_text, .ref h_t_pulls, .ref h_t_triedPulls, .ref h_t_readings, .ref h_t_heard, .ref h_t_trial, .ref h_t_sheets, .int t_heardIsCurrent, .int t_trace, .int t_fault])), (h_t_valley, .inr (5, [.ref h_t_valley_kinds, .ref h_t_valley_needs, .ref h_t_valley_from, .ref h_t_valley_to, .ref h_t_valley_lasts, .int t_valley_bells, .int t_valley_ropes, .int t_valley_span, .int t_valley_tied]))] rfl rfl rfl (by decide) (st2 := []) rfl ?_
          refine k_aload_n 51 cx dX6_pull_51 rfl 0 rfl ?_
          refine k_iconst 52 cx (v := (0 : Int32)) dX6_pull_52 (by decide) ?_
          refine fpX6_98 53 cx dX6_pull_53 0 rfl rfl rfl (by simp) (w1 := (w_X6_pull G h_t h_t_valley h_t_pulls h_t_pulls_bells h_t_pulls_minutes h_t_pulls_times h_t_text h_t_triedPulls h_t_readings h_t_heard h_t_trial h_t_sheets h_t_valley_kinds h_t_valley_needs h_t_valley_from h_t_valley_to h_t_valley_lasts (0 : Int32) t_trace t_fault t_valley_bells t_valley_ropes t_valley_span t_valley_tied u2.1 u2.2.1 u2.2.2.1 u2.2.2.2)) rfl ?_
          refine k_aload_n 56 cx dX6_pull_56 rfl 0 rfl ?_
          refine fgX6_28 57 cx dX6_pull_57 0 rfl rfl ?_
          refine fgX6_94 60 cx dX6_pull_60 2 rfl rfl ?_
          refine k_iconst 63 cx (v := (1 : Int32)) dX6_pull_63 (by decide) ?_
          refine k_isub 64 cx dX6_pull_64 ?_
          obtain rfl := Option.some.inj hm
          exact k_iret 65 cx dX6_pull_65 rfl rfl
        · refine k_bipush 38 cx (v := (-4 : Int32)) dX6_pull_38 (by decide) ?_
          obtain rfl := Option.some.inj hm
          exact k_iret 40 cx dX6_pull_40 rfl rfl
      · refine k_bipush 23 cx (v := (-2 : Int32)) dX6_pull_23 (by decide) ?_
        obtain rfl := Option.some.inj hm
        exact k_iret 25 cx dX6_pull_25 rfl rfl
def w_X6_undo (G : GT) (h_t : Nat) (h_t_pulls : Nat) (h_t_valley : Nat) (h_t_text : Nat) (h_t_triedPulls : Nat) (h_t_readings : Nat) (h_t_heard : Nat) (h_t_trial : Nat) (h_t_sheets : Nat) (h_t_pulls_bells : Nat) (h_t_pulls_minutes : Nat) (h_t_pulls_times : Nat) (t_heardIsCurrent : Int32) (t_trace : Int32) (t_fault : Int32) (t_pulls_count : Int32) : va_W := [(h_t, .inr (6, [.ref h_t_valley, .ref h_t_text, .ref h_t_pulls, .ref h_t_triedPulls, .ref h_t_readings, .ref h_t_heard, .ref h_t_trial, .ref h_t_sheets, .int t_heardIsCurrent, .int t_trace, .int t_fault])), (h_t_pulls, .inr (1, [.ref h_t_pulls_bells, .ref h_t_pulls_minutes, .ref h_t_pulls_times, .int t_pulls_count]))]
def M_X6_undo (t_heardIsCurrent : Int32) (t_pulls_count : Int32) (a1 : Int32) : Option (Int32 × Int32 × Int32) := (if a1 < 0 then (some ((-2 : Int32), t_heardIsCurrent, t_pulls_count)) else (if a1 ≤ t_pulls_count then (nme (t_pulls_count - a1) (fun v1 => (some (v1, (0 : Int32), v1)))) else (some ((-2 : Int32), t_heardIsCurrent, t_pulls_count))))
set_option maxHeartbeats 4000000 in
set_option maxRecDepth 100000 in
theorem c_X6_undo (l : Launch) (G : GT) (h_t : Nat) (h_t_pulls : Nat) (h_t_valley : Nat) (h_t_text : Nat) (h_t_triedPulls : Nat) (h_t_readings : Nat) (h_t_heard : Nat) (h_t_trial : Nat) (h_t_sheets : Nat) (h_t_pulls_bells : Nat) (h_t_pulls_minutes : Nat) (h_t_pulls_times : Nat) (t_heardIsCurrent : Int32) (t_trace : Int32) (t_fault : Int32) (t_pulls_count : Int32) (a1 : Int32) {u : Int32 × Int32 × Int32} (hm : M_X6_undo t_heardIsCurrent t_pulls_count a1 = some u) : CT l yX6_undo cX6_undo 2 (some .int) 0 0 [.ref h_t, .int a1] G (w_X6_undo G h_t h_t_pulls h_t_valley h_t_text h_t_triedPulls h_t_readings h_t_heard h_t_trial h_t_sheets h_t_pulls_bells h_t_pulls_minutes h_t_pulls_times t_heardIsCurrent t_trace t_fault t_pulls_count) (some (.int u.1)) (w_X6_undo G h_t h_t_pulls h_t_valley h_t_text h_t_triedPulls h_t_readings h_t_heard h_t_trial h_t_sheets h_t_pulls_bells h_t_pulls_minutes h_t_pulls_times u.2.1 t_trace t_fault u.2.2) := by
  refine ct_intro RX6 [(0, .ref h_t), (1, .int a1)] (by decide) rfl (Nat.le_of_ble_eq_true rfl) rfl (fun X hX cx => ?_)
  unfold M_X6_undo at hm
  refine k_iload_n 0 cx dX6_undo_0 rfl 1 rfl ?_
  refine k_if_lt 1 cx (tgt := 15) dX6_undo_1 (by decide) hm (fun hc hm => ?_) (fun hc hm => ?_)
  · refine k_bipush 15 cx (v := (-2 : Int32)) dX6_undo_15 (by decide) ?_
    obtain rfl := Option.some.inj hm
    exact k_iret 17 cx dX6_undo_17 rfl rfl
  · refine k_iload_n 4 cx dX6_undo_4 rfl 1 rfl ?_
    refine k_aload_n 5 cx dX6_undo_5 rfl 0 rfl ?_
    refine fgX6_28 6 cx dX6_undo_6 0 rfl rfl ?_
    refine fgX6_94 9 cx dX6_undo_9 1 rfl rfl ?_
    refine k_icmp_le 12 cx (tgt := 18) dX6_undo_12 (by decide) hm (fun hc hm => ?_) (fun hc hm => ?_)
    · refine k_aload_n 18 cx dX6_undo_18 rfl 0 rfl ?_
      refine fgX6_28 19 cx dX6_undo_19 0 rfl rfl ?_
      refine k_dup 22 cx dX6_undo_22 rfl ?_
      refine fgX6_94 23 cx dX6_undo_23 1 rfl rfl ?_
      refine k_iload_n 26 cx dX6_undo_26 rfl 1 rfl ?_
      refine k_isub 27 cx dX6_undo_27 ?_
      refine k_nm hm (fun v1 hm => ?_)
      refine fpX6_94 28 cx dX6_undo_28 1 rfl rfl rfl (by simp) (w1 := (w_X6_undo G h_t h_t_pulls h_t_valley h_t_text h_t_triedPulls h_t_readings h_t_heard h_t_trial h_t_sheets h_t_pulls_bells h_t_pulls_minutes h_t_pulls_times t_heardIsCurrent t_trace t_fault v1)) rfl ?_
      refine k_aload_n 31 cx dX6_undo_31 rfl 0 rfl ?_
      refine k_iconst 32 cx (v := (0 : Int32)) dX6_undo_32 (by decide) ?_
      refine fpX6_98 33 cx dX6_undo_33 0 rfl rfl rfl (by simp) (w1 := (w_X6_undo G h_t h_t_pulls h_t_valley h_t_text h_t_triedPulls h_t_readings h_t_heard h_t_trial h_t_sheets h_t_pulls_bells h_t_pulls_minutes h_t_pulls_times (0 : Int32) t_trace t_fault v1)) rfl ?_
      refine k_aload_n 36 cx dX6_undo_36 rfl 0 rfl ?_
      refine fgX6_28 37 cx dX6_undo_37 0 rfl rfl ?_
      refine fgX6_94 40 cx dX6_undo_40 1 rfl rfl ?_
      obtain rfl := Option.some.inj hm
      exact k_iret 43 cx dX6_undo_43 rfl rfl
    · refine k_bipush 15 cx (v := (-2 : Int32)) dX6_undo_15 (by decide) ?_
      obtain rfl := Option.some.inj hm
      exact k_iret 17 cx dX6_undo_17 rfl rfl
set_option maxRecDepth 100000 in
theorem fgX6_47 {X : XT} {Q : State → Prop} {G : GT} {A : Nat → Prop} {nL : Nat} {lv : List (Nat × Value)} {st : List Value} {ws : va_W} {cc : ByteArray} {fr lo : Nat} {ret : Option FieldType} (pc : Nat) (cx : Cx X cc nL RX6 G fr lo ret) {a : Nat} {fs : List Value} {v : Value} (hd : decode cc pc = .ok (.getfield 47, 3)) (q0 : Nat) (he : ws[q0]? = some (a, .inr (6, fs))) (hv : fs[5]? = some v) (k : KJ X Q G A nL (pc + 3) lv (v :: st) ws) : KJ X Q G A nL pc lv (.ref a :: st) ws :=
  k_get (ref := RX6) (T := TX6) (N := 11) (ci := 6) pc cx inX6 rfl 5 (by decide) (tb_m (i := 240) rfl rfl) rfl hd q0 he hv k
set_option maxRecDepth 100000 in
theorem fgX6_98 {X : XT} {Q : State → Prop} {G : GT} {A : Nat → Prop} {nL : Nat} {lv : List (Nat × Value)} {st : List Value} {ws : va_W} {cc : ByteArray} {fr lo : Nat} {ret : Option FieldType} (pc : Nat) (cx : Cx X cc nL RX6 G fr lo ret) {a : Nat} {fs : List Value} {v : Value} (hd : decode cc pc = .ok (.getfield 98, 3)) (q0 : Nat) (he : ws[q0]? = some (a, .inr (6, fs))) (hv : fs[8]? = some v) (k : KJ X Q G A nL (pc + 3) lv (v :: st) ws) : KJ X Q G A nL pc lv (.ref a :: st) ws :=
  k_get (ref := RX6) (T := TX6) (N := 11) (ci := 6) pc cx inX6 rfl 8 (by decide) (tb_m (i := 243) rfl rfl) rfl hd q0 he hv k
set_option maxRecDepth 100000 in
theorem cwX6_251 : CWV RX6 251 RX5 yX5_allRopes cX5_allRopes 1 (some .int) 0 5 TX5 9 := ⟨tb_m (i := 394) rfl rfl, tb_m (i := 395) rfl rfl, tb_m (i := 396) rfl rfl, tb_m (i := 52) rfl rfl, tb_m (i := 397) rfl rfl, ⟨by decide +kernel, by decide +kernel, by decide +kernel⟩, rfl⟩
set_option maxRecDepth 100000 in
theorem cwX6_254 : CWV RX6 254 RX0 yX0_play cX0_play 6 none 4 0 TX0 6 := ⟨tb_m (i := 398) rfl rfl, tb_m (i := 399) rfl rfl, tb_m (i := 400) rfl rfl, tb_m (i := 56) rfl rfl, tb_m (i := 401) rfl rfl, ⟨by decide +kernel, by decide +kernel, by decide +kernel⟩, rfl⟩
def w_X6_heardNow (G : GT) (h_t : Nat) (h_t_valley : Nat) (h_t_heard : Nat) (h_t_pulls : Nat) (h_t_heard_rang : Nat) (h_t_heard_underWay : Nat) (h_t_heard_counting : Nat) (h_t_heard_cameByRopes : Nat) (h_t_pulls_minutes : Nat) (h_t_valley_kinds : Nat) (h_t_pulls_bells : Nat) (h_t_pulls_times : Nat) (h_t_valley_needs : Nat) (h_t_valley_from : Nat) (h_t_valley_lasts : Nat) (h_t_valley_to : Nat) (h_t_text : Nat) (h_t_triedPulls : Nat) (h_t_readings : Nat) (h_t_trial : Nat) (h_t_sheets : Nat) (t_heardIsCurrent : Int32) (t_trace : Int32) (t_fault : Int32) (t_valley_bells : Int32) (t_valley_ropes : Int32) (t_valley_span : Int32) (t_valley_tied : Int32) (t_heard_lastDue : Int32) (t_pulls_count : Int32) (t_heard_rang : (Nat → Int32)) (t_heard_underWay : (Nat → Int32)) (t_heard_counting : (Nat → Int32)) (t_heard_cameByRopes : (Nat → Int32)) (t_pulls_minutes : (Nat → Int32)) (t_valley_kinds : (Nat → Int32)) (t_pulls_bells : (Nat → Int32)) (t_pulls_times : (Nat → Int32)) (t_valley_needs : (Nat → Int32)) (t_valley_from : (Nat → Int32)) (t_valley_lasts : (Nat → Int32)) (t_valley_to : (Nat → Int32)) : va_W := [(h_t, .inr (6, [.ref h_t_valley, .ref h_t_text, .ref h_t_pulls, .ref h_t_triedPulls, .ref h_t_readings, .ref h_t_heard, .ref h_t_trial, .ref h_t_sheets, .int t_heardIsCurrent, .int t_trace, .int t_fault])), (h_t_valley, .inr (5, [.ref h_t_valley_kinds, .ref h_t_valley_needs, .ref h_t_valley_from, .ref h_t_valley_to, .ref h_t_valley_lasts, .int t_valley_bells, .int t_valley_ropes, .int t_valley_span, .int t_valley_tied])), (h_t_heard, .inr (0, [.ref h_t_valley, .ref h_t_heard_rang, .ref h_t_heard_underWay, .ref h_t_heard_counting, .ref h_t_heard_cameByRopes, .int t_heard_lastDue])), (h_t_pulls, .inr (1, [.ref h_t_pulls_bells, .ref h_t_pulls_minutes, .ref h_t_pulls_times, .int t_pulls_count])), (h_t_heard_rang, .inl (G.2.1, 400, .inl t_heard_rang)), (h_t_heard_underWay, .inl (G.2.1, 60, .inl t_heard_underWay)), (h_t_heard_counting, .inl (G.2.1, 36, .inl t_heard_counting)), (h_t_heard_cameByRopes, .inl (G.2.1, 6, .inl t_heard_cameByRopes)), (h_t_pulls_minutes, .inl (G.2.1, 6, .inl t_pulls_minutes)), (h_t_valley_kinds, .inl (G.2.1, 6, .inl t_valley_kinds)), (h_t_pulls_bells, .inl (G.2.1, 6, .inl t_pulls_bells)), (h_t_pulls_times, .inl (G.2.1, 6, .inl t_pulls_times)), (h_t_valley_needs, .inl (G.2.1, 6, .inl t_valley_needs)), (h_t_valley_from, .inl (G.2.1, 9, .inl t_valley_from)), (h_t_valley_lasts, .inl (G.2.1, 9, .inl t_valley_lasts)), (h_t_valley_to, .inl (G.2.1, 9, .inl t_valley_to))]
def M_X6_heardNow (t_heardIsCurrent : Int32) (t_valley_bells : Int32) (t_valley_ropes : Int32) (t_valley_span : Int32) (t_valley_tied : Int32) (t_heard_lastDue : Int32) (t_pulls_count : Int32) (t_heard_rang : (Nat → Int32)) (t_heard_underWay : (Nat → Int32)) (t_heard_counting : (Nat → Int32)) (t_heard_cameByRopes : (Nat → Int32)) (t_pulls_minutes : (Nat → Int32)) (t_valley_kinds : (Nat → Int32)) (t_pulls_bells : (Nat → Int32)) (t_pulls_times : (Nat → Int32)) (t_valley_needs : (Nat → Int32)) (t_valley_from : (Nat → Int32)) (t_valley_lasts : (Nat → Int32)) (t_valley_to : (Nat → Int32)) : Option (Int32 × Int32 × (Nat → Int32) × (Nat → Int32) × (Nat → Int32) × (Nat → Int32)) := (if t_heardIsCurrent = 0 then ((M_X5_allRopes t_valley_ropes).bind (fun u1 => ((M_X0_play t_heard_rang t_heard_underWay t_heard_counting t_heard_cameByRopes t_pulls_count t_pulls_minutes t_valley_bells t_valley_span t_valley_kinds t_pulls_bells t_pulls_times t_valley_needs t_valley_from t_valley_lasts t_valley_to t_valley_tied u1 (400 : Int32)).bind (fun u2 => (some ((1 : Int32), u2.1, u2.2.1, u2.2.2.1, u2.2.2.2.1, u2.2.2.2.2)))))) else (some (t_heardIsCurrent, t_heard_lastDue, t_heard_rang, t_heard_underWay, t_heard_counting, t_heard_cameByRopes)))
set_option maxHeartbeats 4000000 in
set_option maxRecDepth 100000 in
theorem c_X6_heardNow (l : Launch) (G : GT) (h_t : Nat) (h_t_valley : Nat) (h_t_heard : Nat) (h_t_pulls : Nat) (h_t_heard_rang : Nat) (h_t_heard_underWay : Nat) (h_t_heard_counting : Nat) (h_t_heard_cameByRopes : Nat) (h_t_pulls_minutes : Nat) (h_t_valley_kinds : Nat) (h_t_pulls_bells : Nat) (h_t_pulls_times : Nat) (h_t_valley_needs : Nat) (h_t_valley_from : Nat) (h_t_valley_lasts : Nat) (h_t_valley_to : Nat) (h_t_text : Nat) (h_t_triedPulls : Nat) (h_t_readings : Nat) (h_t_trial : Nat) (h_t_sheets : Nat) (t_heardIsCurrent : Int32) (t_trace : Int32) (t_fault : Int32) (t_valley_bells : Int32) (t_valley_ropes : Int32) (t_valley_span : Int32) (t_valley_tied : Int32) (t_heard_lastDue : Int32) (t_pulls_count : Int32) (t_heard_rang : (Nat → Int32)) (t_heard_underWay : (Nat → Int32)) (t_heard_counting : (Nat → Int32)) (t_heard_cameByRopes : (Nat → Int32)) (t_pulls_minutes : (Nat → Int32)) (t_valley_kinds : (Nat → Int32)) (t_pulls_bells : (Nat → Int32)) (t_pulls_times : (Nat → Int32)) (t_valley_needs : (Nat → Int32)) (t_valley_from : (Nat → Int32)) (t_valley_lasts : (Nat → Int32)) (t_valley_to : (Nat → Int32)) {u : Int32 × Int32 × (Nat → Int32) × (Nat → Int32) × (Nat → Int32) × (Nat → Int32)} (hm : M_X6_heardNow t_heardIsCurrent t_valley_bells t_valley_ropes t_valley_span t_valley_tied t_heard_lastDue t_pulls_count t_heard_rang t_heard_underWay t_heard_counting t_heard_cameByRopes t_pulls_minutes t_valley_kinds t_pulls_bells t_pulls_times t_valley_needs t_valley_from t_valley_lasts t_valley_to = some u) : CT l yX6_heardNow cX6_heardNow 1 (some (.object "RopedBells$Course")) 3 72 [.ref h_t] G (w_X6_heardNow G h_t h_t_valley h_t_heard h_t_pulls h_t_heard_rang h_t_heard_underWay h_t_heard_counting h_t_heard_cameByRopes h_t_pulls_minutes h_t_valley_kinds h_t_pulls_bells h_t_pulls_times h_t_valley_needs h_t_valley_from h_t_valley_lasts h_t_valley_to h_t_text h_t_triedPulls h_t_readings h_t_trial h_t_sheets t_heardIsCurrent t_trace t_fault t_valley_bells t_valley_ropes t_valley_span t_valley_tied t_heard_lastDue t_pulls_count t_heard_rang t_heard_underWay t_heard_counting t_heard_cameByRopes t_pulls_minutes t_valley_kinds t_pulls_bells t_pulls_times t_valley_needs t_valley_from t_valley_lasts t_valley_to) (some (.ref h_t_heard)) (w_X6_heardNow G h_t h_t_valley h_t_heard h_t_pulls h_t_heard_rang h_t_heard_underWay h_t_heard_counting h_t_heard_cameByRopes h_t_pulls_minutes h_t_valley_kinds h_t_pulls_bells h_t_pulls_times h_t_valley_needs h_t_valley_from h_t_valley_lasts h_t_valley_to h_t_text h_t_triedPulls h_t_readings h_t_trial h_t_sheets u.1 t_trace t_fault t_valley_bells t_valley_ropes t_valley_span t_valley_tied u.2.1 t_pulls_count u.2.2.1 u.2.2.2.1 u.2.2.2.2.1 u.2.2.2.2.2 t_pulls_minutes t_valley_kinds t_pulls_bells t_pulls_times t_valley_needs t_valley_from t_valley_lasts t_valley_to) := by
  refine ct_intro RX6 [(0, .ref h_t)] (by decide) rfl (Nat.le_of_ble_eq_true rfl) rfl (fun X hX cx => ?_)
  unfold M_X6_heardNow at hm
  refine k_aload_n 0 cx dX6_heardNow_0 rfl 0 rfl ?_
  refine fgX6_98 1 cx dX6_heardNow_1 0 rfl rfl ?_
  refine k_if_ne 4 cx (tgt := 40) dX6_heardNow_4 (by decide) hm (fun hc hm => ?_) (fun hc hm => ?_)
  · refine k_aload_n 7 cx dX6_heardNow_7 rfl 0 rfl ?_
    refine fgX6_47 8 cx dX6_heardNow_8 0 rfl rfl ?_
    refine k_aload_n 11 cx dX6_heardNow_11 rfl 0 rfl ?_
    refine fgX6_28 12 cx dX6_heardNow_12 0 rfl rfl ?_
    refine k_aload_n 15 cx dX6_heardNow_15 rfl 0 rfl ?_
    refine fgX6_12 16 cx dX6_heardNow_16 0 rfl rfl ?_
    refine fgX6_132 19 cx dX6_heardNow_19 1 rfl rfl ?_
    refine k_aload_n 22 cx dX6_heardNow_22 rfl 0 rfl ?_
    refine fgX6_12 23 cx dX6_heardNow_23 0 rfl rfl ?_
    obtain ⟨u1, hu1, hm⟩ := bnd hm
    refine k_callV 26 cx cwX6_251 (c_X5_allRopes X.2.1 G h_t_valley h_t_valley_kinds h_t_valley_needs h_t_valley_from h_t_valley_to h_t_valley_lasts t_valley_bells t_valley_ropes t_valley_span t_valley_tied hu1) dX6_heardNow_26 ⟨by decide, by decide⟩ rfl rfl (rest := [.int t_valley_tied, .ref h_t_pulls, .ref h_t_heard]) rfl (Nat.le_of_ble_eq_true rfl) [1] (by decide) rfl rfl (w2 := (w_X6_heardNow G h_t h_t_valley h_t_heard h_t_pulls h_t_heard_rang h_t_heard_underWay h_t_heard_counting h_t_heard_cameByRopes h_t_pulls_minutes h_t_valley_kinds h_t_pulls_bells h_t_pulls_times h_t_valley_needs h_t_valley_from h_t_valley_lasts h_t_valley_to h_t_text h_t_triedPulls h_t_readings h_t_trial h_t_sheets t_heardIsCurrent t_trace t_fault t_valley_bells t_valley_ropes t_valley_span t_valley_tied t_heard_lastDue t_pulls_count t_heard_rang t_heard_underWay t_heard_counting t_heard_cameByRopes t_pulls_minutes t_valley_kinds t_pulls_bells t_pulls_times t_valley_needs t_valley_from t_valley_lasts t_valley_to)) [0, 2, 3, 4, 5, 6, 7, 8, 9, 10, 11, 12, 13, 14, 15] 16 rfl [(h_t, .inr (6, [.ref h_t_valley, .ref h_t_text, .ref h_t_pulls, .ref h_t_triedPulls, .ref h_t_readings, .ref h_t_heard, .ref h_t_trial, .ref h_t_sheets, .int t_heardIsCurrent, .int t_trace, .int t_fault])), (h_t_heard, .inr (0, [.ref h_t_valley, .ref h_t_heard_rang, .ref h_t_heard_underWay, .ref h_t_heard_counting, .ref h_t_heard_cameByRopes, .int t_heard_lastDue])), (h_t_pulls, .inr (1, [.ref h_t_pulls_bells, .ref h_t_pulls_minutes, .ref h_t_pulls_times, .int t_pulls_count])), (h_t_heard_rang, .inl (G.2.1, 400, .inl t_heard_rang)), (h_t_heard_underWay, .inl (G.2.1, 60, .inl t_heard_underWay)), (h_t_heard_counting, .inl (G.2.1, 36, .inl t_heard_counting)), (h_t_heard_cameByRopes, .inl (G.2.1, 6, .inl t_heard_cameByRopes)), (h_t_pulls_minutes, .inl (G.2.1, 6, .inl t_pulls_minutes)), (h_t_valley_kinds, .inl (G.2.1, 6, .inl t_valley_kinds)), (h_t_pulls_bells, .inl (G.2.1, 6, .inl t_pulls_bells)), (h_t_pulls_times, .inl (G.2.1, 6, .inl t_pulls_times)), (h_t_valley_needs, .inl (G.2.1, 6, .inl t_valley_needs)), (h_t_valley_from, .inl (G.2.1, 9, .inl t_valley_from)), (h_t_valley_lasts, .inl (G.2.1, 9, .inl t_valley_lasts)), (h_t_valley_to, .inl (G.2.1, 9, .inl t_valley_to))] rfl rfl rfl (by decide) (st2 := [.int u1, .int t_valley_tied, .ref h_t_pulls, .ref h_t_heard]) rfl ?_
    refine k_sipush 29 cx (v := (400 : Int32)) dX6_heardNow_29 (by decide) ?_
    obtain ⟨u2, hu2, hm⟩ := bnd hm
    refine k_callV 32 cx cwX6_254 (c_X0_play X.2.1 G h_t_heard h_t_heard_rang h_t_heard_underWay h_t_heard_counting h_t_heard_cameByRopes h_t_pulls h_t_pulls_minutes h_t_valley h_t_valley_kinds h_t_pulls_bells h_t_pulls_times h_t_valley_needs h_t_valley_from h_t_valley_lasts h_t_valley_to t_heard_lastDue t_heard_rang t_heard_underWay t_heard_counting t_heard_cameByRopes t_pulls_count t_pulls_minutes t_valley_bells t_valley_ropes t_valley_span t_valley_tied t_valley_kinds t_pulls_bells t_pulls_times t_valley_needs t_valley_from t_valley_lasts t_valley_to t_valley_tied u1 (400 : Int32) hu2) dX6_heardNow_32 ⟨by decide, by decide⟩ rfl rfl (rest := []) rfl (Nat.le_of_ble_eq_true rfl) [2, 4, 5, 6, 7, 3, 8, 1, 9, 10, 11, 12, 13, 14, 15] (by decide) rfl rfl (w2 := (w_X6_heardNow G h_t h_t_valley h_t_heard h_t_pulls h_t_heard_rang h_t_heard_underWay h_t_heard_counting h_t_heard_cameByRopes h_t_pulls_minutes h_t_valley_kinds h_t_pulls_bells h_t_pulls_times h_t_valley_needs h_t_valley_from h_t_valley_lasts h_t_valley_to h_t_text h_t_triedPulls h_t_readings h_t_trial h_t_sheets t_heardIsCurrent t_trace t_fault t_valley_bells t_valley_ropes t_valley_span t_valley_tied u2.1 t_pulls_count u2.2.1 u2.2.2.1 u2.2.2.2.1 u2.2.2.2.2 t_pulls_minutes t_valley_kinds t_pulls_bells t_pulls_times t_valley_needs t_valley_from t_valley_lasts t_valley_to)) [0] 16 rfl [(h_t, .inr (6, [.ref h_t_valley, .ref h_t_text, .ref h_t_pulls, .ref h_t_triedPulls, .ref h_t_readings, .ref h_t_heard, .ref h_t_trial, .ref h_t_sheets, .int t_heardIsCurrent, .int t_trace, .int t_fault]))] rfl rfl rfl (by decide) (st2 := []) rfl ?_
    refine k_aload_n 35 cx dX6_heardNow_35 rfl 0 rfl ?_
    refine k_iconst 36 cx (v := (1 : Int32)) dX6_heardNow_36 (by decide) ?_
    refine fpX6_98 37 cx dX6_heardNow_37 0 rfl rfl rfl (by simp) (w1 := (w_X6_heardNow G h_t h_t_valley h_t_heard h_t_pulls h_t_heard_rang h_t_heard_underWay h_t_heard_counting h_t_heard_cameByRopes h_t_pulls_minutes h_t_valley_kinds h_t_pulls_bells h_t_pulls_times h_t_valley_needs h_t_valley_from h_t_valley_lasts h_t_valley_to h_t_text h_t_triedPulls h_t_readings h_t_trial h_t_sheets (1 : Int32) t_trace t_fault t_valley_bells t_valley_ropes t_valley_span t_valley_tied u2.1 t_pulls_count u2.2.1 u2.2.2.1 u2.2.2.2.1 u2.2.2.2.2 t_pulls_minutes t_valley_kinds t_pulls_bells t_pulls_times t_valley_needs t_valley_from t_valley_lasts t_valley_to)) rfl ?_
    refine k_aload_n 40 cx dX6_heardNow_40 rfl 0 rfl ?_
    refine fgX6_47 41 cx dX6_heardNow_41 0 rfl rfl ?_
    obtain rfl := Option.some.inj hm
    exact k_aret 44 cx dX6_heardNow_44 rfl rfl
  · refine k_aload_n 40 cx dX6_heardNow_40 rfl 0 rfl ?_
    refine fgX6_47 41 cx dX6_heardNow_41 0 rfl rfl ?_
    obtain rfl := Option.some.inj hm
    exact k_aret 44 cx dX6_heardNow_44 rfl rfl
set_option maxRecDepth 100000 in
theorem cwX6_146 : CWV RX6 146 RX6 yX6_heardNow cX6_heardNow 1 (some (.object "RopedBells$Course")) 0 6 TX6 11 := ⟨tb_m (i := 390) rfl rfl, tb_m (i := 392) rfl rfl, tb_m (i := 8) rfl rfl, tb_m (i := 51) rfl rfl, tb_m (i := 393) rfl rfl, ⟨by decide +kernel, by decide +kernel, by decide +kernel⟩, rfl⟩
set_option maxRecDepth 100000 in
theorem cwX6_150 : CWV RX6 150 RX0 yX0_rangAt cX0_rangAt 3 (some .boolean) 2 0 TX0 6 := ⟨tb_m (i := 446) rfl rfl, tb_m (i := 442) rfl rfl, tb_m (i := 443) rfl rfl, tb_m (i := 56) rfl rfl, tb_m (i := 444) rfl rfl, ⟨by decide +kernel, by decide +kernel, by decide +kernel⟩, rfl⟩
def w_X6_rings (G : GT) (h_t : Nat) (h_t_valley : Nat) (h_t_heard : Nat) (h_t_pulls : Nat) (h_t_heard_rang : Nat) (h_t_heard_underWay : Nat) (h_t_heard_counting : Nat) (h_t_heard_cameByRopes : Nat) (h_t_pulls_minutes : Nat) (h_t_valley_kinds : Nat) (h_t_pulls_bells : Nat) (h_t_pulls_times : Nat) (h_t_valley_needs : Nat) (h_t_valley_from : Nat) (h_t_valley_lasts : Nat) (h_t_valley_to : Nat) (h_t_text : Nat) (h_t_triedPulls : Nat) (h_t_readings : Nat) (h_t_trial : Nat) (h_t_sheets : Nat) (t_heardIsCurrent : Int32) (t_trace : Int32) (t_fault : Int32) (t_valley_bells : Int32) (t_valley_ropes : Int32) (t_valley_span : Int32) (t_valley_tied : Int32) (t_heard_lastDue : Int32) (t_pulls_count : Int32) (t_heard_rang : (Nat → Int32)) (t_heard_underWay : (Nat → Int32)) (t_heard_counting : (Nat → Int32)) (t_heard_cameByRopes : (Nat → Int32)) (t_pulls_minutes : (Nat → Int32)) (t_valley_kinds : (Nat → Int32)) (t_pulls_bells : (Nat → Int32)) (t_pulls_times : (Nat → Int32)) (t_valley_needs : (Nat → Int32)) (t_valley_from : (Nat → Int32)) (t_valley_lasts : (Nat → Int32)) (t_valley_to : (Nat → Int32)) : va_W := [(h_t, .inr (6, [.ref h_t_valley, .ref h_t_text, .ref h_t_pulls, .ref h_t_triedPulls, .ref h_t_readings, .ref h_t_heard, .ref h_t_trial, .ref h_t_sheets, .int t_heardIsCurrent, .int t_trace, .int t_fault])), (h_t_valley, .inr (5, [.ref h_t_valley_kinds, .ref h_t_valley_needs, .ref h_t_valley_from, .ref h_t_valley_to, .ref h_t_valley_lasts, .int t_valley_bells, .int t_valley_ropes, .int t_valley_span, .int t_valley_tied])), (h_t_heard, .inr (0, [.ref h_t_valley, .ref h_t_heard_rang, .ref h_t_heard_underWay, .ref h_t_heard_counting, .ref h_t_heard_cameByRopes, .int t_heard_lastDue])), (h_t_pulls, .inr (1, [.ref h_t_pulls_bells, .ref h_t_pulls_minutes, .ref h_t_pulls_times, .int t_pulls_count])), (h_t_heard_rang, .inl (G.2.1, 400, .inl t_heard_rang)), (h_t_heard_underWay, .inl (G.2.1, 60, .inl t_heard_underWay)), (h_t_heard_counting, .inl (G.2.1, 36, .inl t_heard_counting)), (h_t_heard_cameByRopes, .inl (G.2.1, 6, .inl t_heard_cameByRopes)), (h_t_pulls_minutes, .inl (G.2.1, 6, .inl t_pulls_minutes)), (h_t_valley_kinds, .inl (G.2.1, 6, .inl t_valley_kinds)), (h_t_pulls_bells, .inl (G.2.1, 6, .inl t_pulls_bells)), (h_t_pulls_times, .inl (G.2.1, 6, .inl t_pulls_times)), (h_t_valley_needs, .inl (G.2.1, 6, .inl t_valley_needs)), (h_t_valley_from, .inl (G.2.1, 9, .inl t_valley_from)), (h_t_valley_lasts, .inl (G.2.1, 9, .inl t_valley_lasts)), (h_t_valley_to, .inl (G.2.1, 9, .inl t_valley_to))]
def L_X6_rings_23 (x1 : Int32) (t_heard_rang : (Nat → Int32)) : Nat → Int32 → Int32 → Option (Int32 × Int32)
  | 0, _, _ => none
  | n + 1, x3, x4 => (if (400 : Int32) ≤ x4 then (some (x3, x4)) else ((M_X0_rangAt t_heard_rang x1 x4).bind (fun u15 => (if u15 = 0 then (nme (x4 + (1 : Int32)) (fun v16 => (L_X6_rings_23 x1 t_heard_rang n x3 v16))) else (nme (x3 + (1 : Int32)) (fun v17 => (nme (x4 + (1 : Int32)) (fun v18 => (L_X6_rings_23 x1 t_heard_rang n v17 v18)))))))))
def M_X6_rings (t_heardIsCurrent : Int32) (t_valley_bells : Int32) (t_valley_ropes : Int32) (t_valley_span : Int32) (t_valley_tied : Int32) (t_heard_lastDue : Int32) (t_pulls_count : Int32) (t_heard_rang : (Nat → Int32)) (t_heard_underWay : (Nat → Int32)) (t_heard_counting : (Nat → Int32)) (t_heard_cameByRopes : (Nat → Int32)) (t_pulls_minutes : (Nat → Int32)) (t_valley_kinds : (Nat → Int32)) (t_pulls_bells : (Nat → Int32)) (t_pulls_times : (Nat → Int32)) (t_valley_needs : (Nat → Int32)) (t_valley_from : (Nat → Int32)) (t_valley_lasts : (Nat → Int32)) (t_valley_to : (Nat → Int32)) (a1 : Int32) : Option (Int32 × Int32 × Int32 × (Nat → Int32) × (Nat → Int32) × (Nat → Int32) × (Nat → Int32)) := ((M_X5_hasBell t_valley_bells a1).bind (fun u1 => (if u1 = 0 then (some ((-1 : Int32), t_heardIsCurrent, t_heard_lastDue, t_heard_rang, t_heard_underWay, t_heard_counting, t_heard_cameByRopes)) else ((M_X6_heardNow t_heardIsCurrent t_valley_bells t_valley_ropes t_valley_span t_valley_tied t_heard_lastDue t_pulls_count t_heard_rang t_heard_underWay t_heard_counting t_heard_cameByRopes t_pulls_minutes t_valley_kinds t_pulls_bells t_pulls_times t_valley_needs t_valley_from t_valley_lasts t_valley_to).bind (fun u2 => ((L_X6_rings_23 a1 u2.2.2.1 1000 (0 : Int32) (0 : Int32)).bind (fun u19 => (some (u19.1, u2.1, u2.2.1, u2.2.2.1, u2.2.2.2.1, u2.2.2.2.2.1, u2.2.2.2.2.2)))))))))
set_option maxHeartbeats 4000000 in
set_option maxRecDepth 100000 in
theorem c_X6_rings (l : Launch) (G : GT) (h_t : Nat) (h_t_valley : Nat) (h_t_heard : Nat) (h_t_pulls : Nat) (h_t_heard_rang : Nat) (h_t_heard_underWay : Nat) (h_t_heard_counting : Nat) (h_t_heard_cameByRopes : Nat) (h_t_pulls_minutes : Nat) (h_t_valley_kinds : Nat) (h_t_pulls_bells : Nat) (h_t_pulls_times : Nat) (h_t_valley_needs : Nat) (h_t_valley_from : Nat) (h_t_valley_lasts : Nat) (h_t_valley_to : Nat) (h_t_text : Nat) (h_t_triedPulls : Nat) (h_t_readings : Nat) (h_t_trial : Nat) (h_t_sheets : Nat) (t_heardIsCurrent : Int32) (t_trace : Int32) (t_fault : Int32) (t_valley_bells : Int32) (t_valley_ropes : Int32) (t_valley_span : Int32) (t_valley_tied : Int32) (t_heard_lastDue : Int32) (t_pulls_count : Int32) (t_heard_rang : (Nat → Int32)) (t_heard_underWay : (Nat → Int32)) (t_heard_counting : (Nat → Int32)) (t_heard_cameByRopes : (Nat → Int32)) (t_pulls_minutes : (Nat → Int32)) (t_valley_kinds : (Nat → Int32)) (t_pulls_bells : (Nat → Int32)) (t_pulls_times : (Nat → Int32)) (t_valley_needs : (Nat → Int32)) (t_valley_from : (Nat → Int32)) (t_valley_lasts : (Nat → Int32)) (t_valley_to : (Nat → Int32)) (a1 : Int32) {u : Int32 × Int32 × Int32 × (Nat → Int32) × (Nat → Int32) × (Nat → Int32) × (Nat → Int32)} (hm : M_X6_rings t_heardIsCurrent t_valley_bells t_valley_ropes t_valley_span t_valley_tied t_heard_lastDue t_pulls_count t_heard_rang t_heard_underWay t_heard_counting t_heard_cameByRopes t_pulls_minutes t_valley_kinds t_pulls_bells t_pulls_times t_valley_needs t_valley_from t_valley_lasts t_valley_to a1 = some u) : CT l yX6_rings cX6_rings 5 (some .int) 4 92 [.ref h_t, .int a1] G (w_X6_rings G h_t h_t_valley h_t_heard h_t_pulls h_t_heard_rang h_t_heard_underWay h_t_heard_counting h_t_heard_cameByRopes h_t_pulls_minutes h_t_valley_kinds h_t_pulls_bells h_t_pulls_times h_t_valley_needs h_t_valley_from h_t_valley_lasts h_t_valley_to h_t_text h_t_triedPulls h_t_readings h_t_trial h_t_sheets t_heardIsCurrent t_trace t_fault t_valley_bells t_valley_ropes t_valley_span t_valley_tied t_heard_lastDue t_pulls_count t_heard_rang t_heard_underWay t_heard_counting t_heard_cameByRopes t_pulls_minutes t_valley_kinds t_pulls_bells t_pulls_times t_valley_needs t_valley_from t_valley_lasts t_valley_to) (some (.int u.1)) (w_X6_rings G h_t h_t_valley h_t_heard h_t_pulls h_t_heard_rang h_t_heard_underWay h_t_heard_counting h_t_heard_cameByRopes h_t_pulls_minutes h_t_valley_kinds h_t_pulls_bells h_t_pulls_times h_t_valley_needs h_t_valley_from h_t_valley_lasts h_t_valley_to h_t_text h_t_triedPulls h_t_readings h_t_trial h_t_sheets u.2.1 t_trace t_fault t_valley_bells t_valley_ropes t_valley_span t_valley_tied u.2.2.1 t_pulls_count u.2.2.2.1 u.2.2.2.2.1 u.2.2.2.2.2.1 u.2.2.2.2.2.2 t_pulls_minutes t_valley_kinds t_pulls_bells t_pulls_times t_valley_needs t_valley_from t_valley_lasts t_valley_to) := by
  refine ct_intro RX6 [(0, .ref h_t), (1, .int a1)] (by decide) rfl (Nat.le_of_ble_eq_true rfl) rfl (fun X hX cx => ?_)
  have lp23 : ∀ (Q : State → Prop) (A : Nat → Prop) (x1 : Int32) (t_heardIsCurrent : Int32) (t_trace : Int32) (t_fault : Int32) (t_valley_bells : Int32) (t_valley_ropes : Int32) (t_valley_span : Int32) (t_valley_tied : Int32) (t_heard_lastDue : Int32) (t_pulls_count : Int32) (t_heard_rang : (Nat → Int32)) (t_heard_underWay : (Nat → Int32)) (t_heard_counting : (Nat → Int32)) (t_heard_cameByRopes : (Nat → Int32)) (t_pulls_minutes : (Nat → Int32)) (t_valley_kinds : (Nat → Int32)) (t_pulls_bells : (Nat → Int32)) (t_pulls_times : (Nat → Int32)) (t_valley_needs : (Nat → Int32)) (t_valley_from : (Nat → Int32)) (t_valley_lasts : (Nat → Int32)) (t_valley_to : (Nat → Int32)) (n : Nat) (x3 : Int32) (x4 : Int32) (y : Int32 × Int32), L_X6_rings_23 x1 t_heard_rang n x3 x4 = some y → (KJ X Q G A 5 50 [(3, .int y.1)] [] (w_X6_rings G h_t h_t_valley h_t_heard h_t_pulls h_t_heard_rang h_t_heard_underWay h_t_heard_counting h_t_heard_cameByRopes h_t_pulls_minutes h_t_valley_kinds h_t_pulls_bells h_t_pulls_times h_t_valley_needs h_t_valley_from h_t_valley_lasts h_t_valley_to h_t_text h_t_triedPulls h_t_readings h_t_trial h_t_sheets t_heardIsCurrent t_trace t_fault t_valley_bells t_valley_ropes t_valley_span t_valley_tied t_heard_lastDue t_pulls_count t_heard_rang t_heard_underWay t_heard_counting t_heard_cameByRopes t_pulls_minutes t_valley_kinds t_pulls_bells t_pulls_times t_valley_needs t_valley_from t_valley_lasts t_valley_to)) → KJ X Q G A 5 23 [(1, .int x1), (2, .ref h_t_heard), (3, .int x3), (4, .int x4)] [] (w_X6_rings G h_t h_t_valley h_t_heard h_t_pulls h_t_heard_rang h_t_heard_underWay h_t_heard_counting h_t_heard_cameByRopes h_t_pulls_minutes h_t_valley_kinds h_t_pulls_bells h_t_pulls_times h_t_valley_needs h_t_valley_from h_t_valley_lasts h_t_valley_to h_t_text h_t_triedPulls h_t_readings h_t_trial h_t_sheets t_heardIsCurrent t_trace t_fault t_valley_bells t_valley_ropes t_valley_span t_valley_tied t_heard_lastDue t_pulls_count t_heard_rang t_heard_underWay t_heard_counting t_heard_cameByRopes t_pulls_minutes t_valley_kinds t_pulls_bells t_pulls_times t_valley_needs t_valley_from t_valley_lasts t_valley_to) := by
    intro Q A x1 t_heardIsCurrent t_trace t_fault t_valley_bells t_valley_ropes t_valley_span t_valley_tied t_heard_lastDue t_pulls_count t_heard_rang t_heard_underWay t_heard_counting t_heard_cameByRopes t_pulls_minutes t_valley_kinds t_pulls_bells t_pulls_times t_valley_needs t_valley_from t_valley_lasts t_valley_to n
    induction n with
    | zero => intro x3 x4 y hm _; exact noS hm
    | succ n ih =>
      intro x3 x4 y hm k0
      rw [L_X6_rings_23] at hm
      refine k_iload 23 cx dX6_rings_23 3 rfl ?_
      refine k_sipush 25 cx (v := (400 : Int32)) dX6_rings_25 (by decide) ?_
      refine k_icmp_ge 28 cx (tgt := 50) dX6_rings_28 (by decide) hm (fun hc hm => ?_) (fun hc hm => ?_)
      · obtain rfl := Option.some.inj hm
        refine k_lv [2] rfl ?_
        exact k0
      · refine k_aload_n 31 cx dX6_rings_31 rfl 1 rfl ?_
        refine k_iload_n 32 cx dX6_rings_32 rfl 0 rfl ?_
        refine k_iload 33 cx dX6_rings_33 3 rfl ?_
        obtain ⟨u15, hu15, hm⟩ := bnd hm
        refine k_callV 35 cx cwX6_150 (c_X0_rangAt X.2.1 G h_t_heard h_t_heard_rang h_t_valley h_t_heard_underWay h_t_heard_counting h_t_heard_cameByRopes t_heard_lastDue t_heard_rang x1 x4 hu15) dX6_rings_35 ⟨by decide, by decide⟩ rfl rfl (rest := []) rfl (Nat.le_of_ble_eq_true rfl) [2, 4] (by decide) rfl rfl (w2 := (w_X6_rings G h_t h_t_valley h_t_heard h_t_pulls h_t_heard_rang h_t_heard_underWay h_t_heard_counting h_t_heard_cameByRopes h_t_pulls_minutes h_t_valley_kinds h_t_pulls_bells h_t_pulls_times h_t_valley_needs h_t_valley_from h_t_valley_lasts h_t_valley_to h_t_text h_t_triedPulls h_t_readings h_t_trial h_t_sheets t_heardIsCurrent t_trace t_fault t_valley_bells t_valley_ropes t_valley_span t_valley_tied t_heard_lastDue t_pulls_count t_heard_rang t_heard_underWay t_heard_counting t_heard_cameByRopes t_pulls_minutes t_valley_kinds t_pulls_bells t_pulls_times t_valley_needs t_valley_from t_valley_lasts t_valley_to)) [0, 1, 3, 5, 6, 7, 8, 9, 10, 11, 12, 13, 14, 15] 16 rfl [(h_t, .inr (6, [.ref h_t_valley, .ref h_t_text, .ref h_t_pulls, .ref h_t_triedPulls, .ref h_t_readings, .ref h_t_heard, .ref h_t_trial, .ref h_t_sheets, .int t_heardIsCurrent, .int t_trace, .int t_fault])), (h_t_valley, .inr (5, [.ref h_t_valley_kinds, .ref h_t_valley_needs, .ref h_t_valley_from, .ref h_t_valley_to, .ref h_t_valley_lasts, .int t_valley_bells, .int t_valley_ropes, .int t_valley_span, .int t_valley_tied])), (h_t_pulls, .inr (1, [.ref h_t_pulls_bells, .ref h_t_pulls_minutes, .ref h_t_pulls_times, .int t_pulls_count])), (h_t_heard_underWay, .inl (G.2.1, 60, .inl t_heard_underWay)), (h_t_heard_counting, .inl (G.2.1, 36, .inl t_heard_counting)), (h_t_heard_cameByRopes, .inl (G.2.1, 6, .inl t_heard_cameByRopes)), (h_t_pulls_minutes, .inl (G.2.1, 6, .inl t_pulls_minutes)), (h_t_valley_kinds, .inl (G.2.1, 6, .inl t_valley_kinds)), (h_t_pulls_bells, .inl (G.2.1, 6, .inl t_pulls_bells)), (h_t_pulls_times, .inl (G.2.1, 6, .inl t_pulls_times)), (h_t_valley_needs, .inl (G.2.1, 6, .inl t_valley_needs)), (h_t_valley_from, .inl (G.2.1, 9, .inl t_valley_from)), (h_t_valley_lasts, .inl (G.2.1, 9, .inl t_valley_lasts)), (h_t_valley_to, .inl (G.2.1, 9, .inl t_valley_to))] rfl rfl rfl (by decide) (st2 := [.int u15]) rfl ?_
        refine k_if_eq 38 cx (tgt := 44) dX6_rings_38 (by decide) hm (fun hc hm => ?_) (fun hc hm => ?_)
        · refine k_iinc 44 cx dX6_rings_44 3 rfl (by decide) (by decide) (fun v16 => [(4, .int v16), (1, .int x1), (2, .ref h_t_heard), (3, .int x3)]) (fun _ => rfl) hm (fun v16 hm => ?_)
          refine k_goto 47 cx (tgt := 23) dX6_rings_47 (by decide) ?_
          refine k_lv [1, 2, 3, 0] rfl ?_
          exact ih x3 v16 _ hm k0
        · refine k_iinc 41 cx dX6_rings_41 2 rfl (by decide) (by decide) (fun v17 => [(3, .int v17), (1, .int x1), (2, .ref h_t_heard), (4, .int x4)]) (fun _ => rfl) hm (fun v17 hm => ?_)
          refine k_iinc 44 cx dX6_rings_44 3 rfl (by decide) (by decide) (fun v18 => [(4, .int v18), (3, .int v17), (1, .int x1), (2, .ref h_t_heard)]) (fun _ => rfl) hm (fun v18 hm => ?_)
          refine k_goto 47 cx (tgt := 23) dX6_rings_47 (by decide) ?_
          refine k_lv [2, 3, 1, 0] rfl ?_
          exact ih v17 v18 _ hm k0
  unfold M_X6_rings at hm
  refine k_aload_n 0 cx dX6_rings_0 rfl 0 rfl ?_
  refine fgX6_12 1 cx dX6_rings_1 0 rfl rfl ?_
  refine k_iload_n 4 cx dX6_rings_4 rfl 1 rfl ?_
  obtain ⟨u1, hu1, hm⟩ := bnd hm
  refine k_callV 5 cx cwX6_105 (c_X5_hasBell X.2.1 G h_t_valley h_t_valley_kinds h_t_valley_needs h_t_valley_from h_t_valley_to h_t_valley_lasts t_valley_bells t_valley_ropes t_valley_span t_valley_tied a1 hu1) dX6_rings_5 ⟨by decide, by decide⟩ rfl rfl (rest := []) rfl (Nat.le_of_ble_eq_true rfl) [1] (by decide) rfl rfl (w2 := (w_X6_rings G h_t h_t_valley h_t_heard h_t_pulls h_t_heard_rang h_t_heard_underWay h_t_heard_counting h_t_heard_cameByRopes h_t_pulls_minutes h_t_valley_kinds h_t_pulls_bells h_t_pulls_times h_t_valley_needs h_t_valley_from h_t_valley_lasts h_t_valley_to h_t_text h_t_triedPulls h_t_readings h_t_trial h_t_sheets t_heardIsCurrent t_trace t_fault t_valley_bells t_valley_ropes t_valley_span t_valley_tied t_heard_lastDue t_pulls_count t_heard_rang t_heard_underWay t_heard_counting t_heard_cameByRopes t_pulls_minutes t_valley_kinds t_pulls_bells t_pulls_times t_valley_needs t_valley_from t_valley_lasts t_valley_to)) [0, 2, 3, 4, 5, 6, 7, 8, 9, 10, 11, 12, 13, 14, 15] 16 rfl [(h_t, .inr (6, [.ref h_t_valley, .ref h_t_text, .ref h_t_pulls, .ref h_t_triedPulls, .ref h_t_readings, .ref h_t_heard, .ref h_t_trial, .ref h_t_sheets, .int t_heardIsCurrent, .int t_trace, .int t_fault])), (h_t_heard, .inr (0, [.ref h_t_valley, .ref h_t_heard_rang, .ref h_t_heard_underWay, .ref h_t_heard_counting, .ref h_t_heard_cameByRopes, .int t_heard_lastDue])), (h_t_pulls, .inr (1, [.ref h_t_pulls_bells, .ref h_t_pulls_minutes, .ref h_t_pulls_times, .int t_pulls_count])), (h_t_heard_rang, .inl (G.2.1, 400, .inl t_heard_rang)), (h_t_heard_underWay, .inl (G.2.1, 60, .inl t_heard_underWay)), (h_t_heard_counting, .inl (G.2.1, 36, .inl t_heard_counting)), (h_t_heard_cameByRopes, .inl (G.2.1, 6, .inl t_heard_cameByRopes)), (h_t_pulls_minutes, .inl (G.2.1, 6, .inl t_pulls_minutes)), (h_t_valley_kinds, .inl (G.2.1, 6, .inl t_valley_kinds)), (h_t_pulls_bells, .inl (G.2.1, 6, .inl t_pulls_bells)), (h_t_pulls_times, .inl (G.2.1, 6, .inl t_pulls_times)), (h_t_valley_needs, .inl (G.2.1, 6, .inl t_valley_needs)), (h_t_valley_from, .inl (G.2.1, 9, .inl t_valley_from)), (h_t_valley_lasts, .inl (G.2.1, 9, .inl t_valley_lasts)), (h_t_valley_to, .inl (G.2.1, 9, .inl t_valley_to))] rfl rfl rfl (by decide) (st2 := [.int u1]) rfl ?_
  refine k_if_ne 8 cx (tgt := 13) dX6_rings_8 (by decide) hm (fun hc hm => ?_) (fun hc hm => ?_)
  · refine k_iconst 11 cx (v := (-1 : Int32)) dX6_rings_11 (by decide) ?_
    obtain rfl := Option.some.inj hm
    exact k_iret 12 cx dX6_rings_12 rfl rfl
  · refine k_aload_n 13 cx dX6_rings_13 rfl 0 rfl ?_
    obtain ⟨u2, hu2, hm⟩ := bnd hm
    refine k_callV 14 cx cwX6_146 (c_X6_heardNow X.2.1 G h_t h_t_valley h_t_heard h_t_pulls h_t_heard_rang h_t_heard_underWay h_t_heard_counting h_t_heard_cameByRopes h_t_pulls_minutes h_t_valley_kinds h_t_pulls_bells h_t_pulls_times h_t_valley_needs h_t_valley_from h_t_valley_lasts h_t_valley_to h_t_text h_t_triedPulls h_t_readings h_t_trial h_t_sheets t_heardIsCurrent t_trace t_fault t_valley_bells t_valley_ropes t_valley_span t_valley_tied t_heard_lastDue t_pulls_count t_heard_rang t_heard_underWay t_heard_counting t_heard_cameByRopes t_pulls_minutes t_valley_kinds t_pulls_bells t_pulls_times t_valley_needs t_valley_from t_valley_lasts t_valley_to hu2) dX6_rings_14 ⟨by decide, by decide⟩ rfl rfl (rest := []) rfl (Nat.le_of_ble_eq_true rfl) [0, 1, 2, 3, 4, 5, 6, 7, 8, 9, 10, 11, 12, 13, 14, 15] (by decide) rfl rfl (w2 := (w_X6_rings G h_t h_t_valley h_t_heard h_t_pulls h_t_heard_rang h_t_heard_underWay h_t_heard_counting h_t_heard_cameByRopes h_t_pulls_minutes h_t_valley_kinds h_t_pulls_bells h_t_pulls_times h_t_valley_needs h_t_valley_from h_t_valley_lasts h_t_valley_to h_t_text h_t_triedPulls h_t_readings h_t_trial h_t_sheets u2.1 t_trace t_fault t_valley_bells t_valley_ropes t_valley_span t_valley_tied u2.2.1 t_pulls_count u2.2.2.1 u2.2.2.2.1 u2.2.2.2.2.1 u2.2.2.2.2.2 t_pulls_minutes t_valley_kinds t_pulls_bells t_pulls_times t_valley_needs t_valley_from t_valley_lasts t_valley_to)) [] 16 rfl [] rfl rfl rfl (by decide) (st2 := [.ref h_t_heard]) rfl ?_
    refine k_astore_n 17 cx dX6_rings_17 rfl (by decide) (lv' := [(2, .ref h_t_heard), (0, .ref h_t), (1, .int a1)]) rfl ?_
    refine k_iconst 18 cx (v := (0 : Int32)) dX6_rings_18 (by decide) ?_
    refine k_istore_n 19 cx dX6_rings_19 rfl (by decide) (lv' := [(3, .int (0 : Int32)), (2, .ref h_t_heard), (0, .ref h_t), (1, .int a1)]) rfl ?_
    refine k_iconst 20 cx (v := (0 : Int32)) dX6_rings_20 (by decide) ?_
    refine k_istore 21 cx dX6_rings_21 (by decide) (lv' := [(4, .int (0 : Int32)), (3, .int (0 : Int32)), (2, .ref h_t_heard), (0, .ref h_t), (1, .int a1)]) rfl ?_
    refine k_lv [4, 2, 1, 0] rfl ?_
    obtain ⟨u19, hu19, hm⟩ := bnd hm
    refine lp23 _ _ a1 u2.1 t_trace t_fault t_valley_bells t_valley_ropes t_valley_span t_valley_tied u2.2.1 t_pulls_count u2.2.2.1 u2.2.2.2.1 u2.2.2.2.2.1 u2.2.2.2.2.2 t_pulls_minutes t_valley_kinds t_pulls_bells t_pulls_times t_valley_needs t_valley_from t_valley_lasts t_valley_to 1000 (0 : Int32) (0 : Int32) u19 hu19 ?_
    refine k_iload_n 50 cx dX6_rings_50 rfl 0 rfl ?_
    obtain rfl := Option.some.inj hm
    exact k_iret 51 cx dX6_rings_51 rfl rfl
