set_option maxHeartbeats 4000000 in
set_option maxRecDepth 100000 in
theorem zs_case {X : XT} {Q : State → Prop} {G : GT} {ad : Nat → Nat} {b L i : Nat} {xs : Nat → Int32} {A : Nat → Prop} (cx : Cx X code 4 RL G 8 290 ret) (hscr : ScrAt X A b L xs) (hi : i + 6 ≤ L ∧ L ≤ 3072) (ws : va_W) (h : LwS zi_Inv G ad ws) (kk0 : ∀ ws, LwS zi_Inv G ad ws → KJ X Q G A 4 1126 [(0, .ref b), (1, .ref (ad 0)), (2, .ref (ad 45)), (3, .int (nI i))] [] ws) (x : Int32) (j : Nat) (hj : j < 32) (hx : x = nI j) : KJ X Q G A 4 33 [(0, .ref b), (1, .ref (ad 0)), (2, .ref (ad 45)), (3, .int (nI i))] [.int x] ws := by
  match j, hj, hx with
  | 0, _, hx => exact k_tabIn 33 cx (off := 143) (tgt := 176) (0 : Int32) hx dL_law_33 ⟨by decide, by decide, by decide, by decide⟩ (lc_0 cx hscr hi eq_valley ws h kk0)
  | 1, _, hx => exact k_tabIn 33 cx (off := 196) (tgt := 229) (1 : Int32) hx dL_law_33 ⟨by decide, by decide, by decide, by decide⟩ (lc_1 cx hscr hi eq_ofBell ws h kk0)
  | 2, _, hx => exact k_tabIn 33 cx (off := 229) (tgt := 262) (2 : Int32) hx dL_law_33 ⟨by decide, by decide, by decide, by decide⟩ (lc_2 cx hscr hi eq_ofRope ws h kk0)
  | 3, _, hx => exact k_tabIn 33 cx (off := 262) (tgt := 295) (3 : Int32) hx dL_law_33 ⟨by decide, by decide, by decide, by decide⟩ (lc_3 cx hscr hi eq_tie ws h kk0)
  | 4, _, hx => exact k_tabIn 33 cx (off := 311) (tgt := 344) (4 : Int32) hx dL_law_33 ⟨by decide, by decide, by decide, by decide⟩ (lc_4 cx hscr hi eq_span ws h kk0)
  | 5, _, hx => exact k_tabIn 33 cx (off := 334) (tgt := 367) (5 : Int32) hx dL_law_33 ⟨by decide, by decide, by decide, by decide⟩ (lc_5 cx hscr hi eq_pull ws h kk0)
  | 6, _, hx => exact k_tabIn 33 cx (off := 367) (tgt := 400) (6 : Int32) hx dL_law_33 ⟨by decide, by decide, by decide, by decide⟩ (lc_6 cx hscr hi eq_undo ws h kk0)
  | 7, _, hx => exact k_tabIn 33 cx (off := 390) (tgt := 423) (7 : Int32) hx dL_law_33 ⟨by decide, by decide, by decide, by decide⟩ (lc_7 cx hscr hi eq_rings ws h kk0)
  | 8, _, hx => exact k_tabIn 33 cx (off := 413) (tgt := 446) (8 : Int32) hx dL_law_33 ⟨by decide, by decide, by decide, by decide⟩ (lc_8 cx hscr hi eq_ringsAt ws h kk0)
  | 9, _, hx => exact k_tabIn 33 cx (off := 446) (tgt := 479) (9 : Int32) hx dL_law_33 ⟨by decide, by decide, by decide, by decide⟩ (lc_9 cx hscr hi eq_peal ws h kk0)
  | 10, _, hx => exact k_tabIn 33 cx (off := 469) (tgt := 502) (10 : Int32) hx dL_law_33 ⟨by decide, by decide, by decide, by decide⟩ (lc_10 cx hscr hi eq_stops ws h kk0)
  | 11, _, hx => exact k_tabIn 33 cx (off := 482) (tgt := 515) (11 : Int32) hx dL_law_33 ⟨by decide, by decide, by decide, by decide⟩ (lc_11 cx hscr hi eq_fewest ws h kk0)
  | 12, _, hx => exact k_tabIn 33 cx (off := 505) (tgt := 538) (12 : Int32) hx dL_law_33 ⟨by decide, by decide, by decide, by decide⟩ (lc_12 cx hscr hi eq_still ws h kk0)
  | 13, _, hx => exact k_tabIn 33 cx (off := 528) (tgt := 561) (13 : Int32) hx dL_law_33 ⟨by decide, by decide, by decide, by decide⟩ (lc_13 cx hscr hi eq_hung ws h kk0)
  | 14, _, hx => exact k_tabIn 33 cx (off := 551) (tgt := 584) (14 : Int32) hx dL_law_33 ⟨by decide, by decide, by decide, by decide⟩ (lc_14 cx hscr hi eq_cut ws h kk0)
  | 15, _, hx => exact k_tabIn 33 cx (off := 564) (tgt := 597) (15 : Int32) hx dL_law_33 ⟨by decide, by decide, by decide, by decide⟩ (lc_15 cx hscr hi eq_reading ws h kk0)
  | 16, _, hx => exact k_tabIn 33 cx (off := 623) (tgt := 656) (16 : Int32) hx dL_law_33 ⟨by decide, by decide, by decide, by decide⟩ (lc_16 cx hscr hi eq_back ws h kk0)
  | 17, _, hx => exact k_tabIn 33 cx (off := 646) (tgt := 679) (17 : Int32) hx dL_law_33 ⟨by decide, by decide, by decide, by decide⟩ (lc_17 cx hscr hi eq_first ws h kk0)
  | 18, _, hx => exact k_tabIn 33 cx (off := 659) (tgt := 692) (18 : Int32) hx dL_law_33 ⟨by decide, by decide, by decide, by decide⟩ (lc_18 cx hscr hi eq_gone ws h kk0)
  | 19, _, hx => exact k_tabIn 33 cx (off := 672) (tgt := 705) (19 : Int32) hx dL_law_33 ⟨by decide, by decide, by decide, by decide⟩ (lc_19 cx hscr hi eq_sneezes ws h kk0)
  | 20, _, hx => exact k_tabIn 33 cx (off := 696) (tgt := 729) (20 : Int32) hx dL_law_33 ⟨by decide, by decide, by decide, by decide⟩ (lc_20 cx hscr hi eq_tune ws h kk0)
  | 21, _, hx => exact k_tabIn 33 cx (off := 749) (tgt := 782) (21 : Int32) hx dL_law_33 ⟨by decide, by decide, by decide, by decide⟩ (lc_21 cx hscr hi eq_sheet ws h kk0)
  | 22, _, hx => exact k_tabIn 33 cx (off := 792) (tgt := 825) (22 : Int32) hx dL_law_33 ⟨by decide, by decide, by decide, by decide⟩ (lc_22 cx hscr hi eq_lose ws h kk0)
  | 23, _, hx => exact k_tabIn 33 cx (off := 815) (tgt := 848) (23 : Int32) hx dL_law_33 ⟨by decide, by decide, by decide, by decide⟩ (lc_23 cx hscr hi eq_put ws h kk0)
  | 24, _, hx => exact k_tabIn 33 cx (off := 858) (tgt := 891) (24 : Int32) hx dL_law_33 ⟨by decide, by decide, by decide, by decide⟩ (lc_24 cx hscr hi eq_cell ws h kk0)
  | 25, _, hx => exact k_tabIn 33 cx (off := 902) (tgt := 935) (25 : Int32) hx dL_law_33 ⟨by decide, by decide, by decide, by decide⟩ (lc_25 cx hscr hi eq_copy_s eq_copy_d ws h kk0)
  | 26, _, hx => exact k_tabIn 33 cx (off := 965) (tgt := 998) (26 : Int32) hx dL_law_33 ⟨by decide, by decide, by decide, by decide⟩ (lc_26 cx hscr hi eq_tell ws h kk0)
  | 27, _, hx => exact k_tabIn 33 cx (off := 988) (tgt := 1021) (27 : Int32) hx dL_law_33 ⟨by decide, by decide, by decide, by decide⟩ (lc_27 cx hscr hi eq_hail ws h kk0)
  | 28, _, hx => exact k_tabIn 33 cx (off := 1011) (tgt := 1044) (28 : Int32) hx dL_law_33 ⟨by decide, by decide, by decide, by decide⟩ (lc_28 cx hscr hi eq_as ws h kk0)
  | 29, _, hx => exact k_tabIn 33 cx (off := 1044) (tgt := 1077) (29 : Int32) hx dL_law_33 ⟨by decide, by decide, by decide, by decide⟩ (lc_29 cx hscr hi eq_trace ws h kk0)
  | 30, _, hx => exact k_tabIn 33 cx (off := 1057) (tgt := 1090) (30 : Int32) hx dL_law_33 ⟨by decide, by decide, by decide, by decide⟩ (lc_30 cx hscr hi eq_fault ws h kk0)
  | 31, _, hx => exact k_tabIn 33 cx (off := 1070) (tgt := 1103) (31 : Int32) hx dL_law_33 ⟨by decide, by decide, by decide, by decide⟩ (lc_31 cx hscr hi eq_many ws h kk0)
  | j + 32, hj, _ => exact absurd hj (by omega)
set_option maxRecDepth 100000 in
theorem zs_loop {X : XT} {Q : State → Prop} {G : GT} {ad : Nat → Nat} {b L : Nat} {xs : Nat → Int32} {A : Nat → Prop} (cx : Cx X code 4 RL G 8 290 ret) (hscr : ScrAt X A b L xs) (hL : L ≤ 3072) (kend : ∀ i ws, KJ X Q G A 4 1132 [(0, .ref b), (1, .ref (ad 0)), (2, .ref (ad 45)), (3, .int (nI i))] [] ws) : ∀ (n i : Nat), i ≤ L → L ≤ i + n → ∀ ws, LwS zi_Inv G ad ws → KJ X Q G A 4 18 [(0, .ref b), (1, .ref (ad 0)), (2, .ref (ad 45)), (3, .int (nI i))] [] ws := by
  intro n
  induction n with
  | zero =>
    intro i h1 h2 ws hw
    refine k_iload_n 18 cx dL_law_18 rfl 3 rfl ?_
    refine k_aload_n 19 cx dL_law_19 rfl 0 rfl ?_
    refine kl_slen 20 cx hscr dL_law_20 ?_
    refine k_bipush 21 cx (v := 6) dL_law_21 (by decide) ?_
    refine k_isub 23 cx dL_law_23 ?_
    refine k_icmp_gt_T 24 cx (tgt := 1132) dL_law_24 (by decide) ?_ (kend i ws)
    show nI L - nI 6 < nI i
    rw [Int32.lt_iff_toInt_lt, pk_sub_toInt (by omega) (by omega), nI_toInt (by omega)]
    omega
  | succ n ih =>
    intro i h1 h2 ws hw
    refine k_iload_n 18 cx dL_law_18 rfl 3 rfl ?_
    refine k_aload_n 19 cx dL_law_19 rfl 0 rfl ?_
    refine kl_slen 20 cx hscr dL_law_20 ?_
    refine k_bipush 21 cx (v := 6) dL_law_21 (by decide) ?_
    refine k_isub 23 cx dL_law_23 ?_
    by_cases hc : i + 6 ≤ L
    · have hg : ¬ nI L - nI 6 < nI i := by
        rw [Int32.lt_iff_toInt_lt, pk_sub_toInt (by omega) (by omega), nI_toInt (by omega)]
        omega
      refine k_icmp_gt_F 24 cx (tgt := 1132) dL_law_24 (by decide) hg ?_
      refine k_aload_n 27 cx dL_law_27 rfl 0 rfl ?_
      refine k_iload_n 28 cx dL_law_28 rfl 3 rfl ?_
      refine kl_sld 29 cx hscr (vp_in_nI (by omega) (by omega)) dL_law_29 ?_
      refine k_bipush 30 cx (v := 31) dL_law_30 (by decide) ?_
      refine k_iand 32 cx dL_law_32 ?_
      obtain ⟨j, hj, hx⟩ := pk_andE (xs (nI i).toNatClampNeg) (m := 31) 5 (by decide)
      refine zs_case cx hscr ⟨hc, hL⟩ ws hw (fun ws hw => ?_) _ j hj hx
      refine kn_iinc 1126 cx (v := nI (i + 6)) (lv' := [(3, .int (nI (i + 6))), (0, .ref b), (1, .ref (ad 0)), (2, .ref (ad 45))]) dL_law_1126 3 rfl (nI_add i 6) (by decide) rfl ?_
      refine k_goto 1129 cx (tgt := 18) dL_law_1129 (by decide) ?_
      refine k_lv [1, 2, 3, 0] rfl ?_
      exact ih (i + 6) (by omega) (by omega) ws hw
    · refine k_icmp_gt_T 24 cx (tgt := 1132) dL_law_24 (by decide) ?_ (kend i ws)
      show nI L - nI 6 < nI i
      rw [Int32.lt_iff_toInt_lt, pk_sub_toInt (by omega) (by omega), nI_toInt (by omega)]
      omega
