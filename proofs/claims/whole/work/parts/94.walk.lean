set_option maxHeartbeats 4000000 in
set_option maxRecDepth 100000 in
theorem zs_walk {X : XT} {Q : State → Prop} {G : GT} {A : Nat → Prop} {b L sz : Nat} {xs : Nat → Int32} (cn : CxN X code 4 RL G 8 290 ret 600000 7302250 0 0 sz) (hA : ∀ q, sz ≤ q → A q) (hscr : ScrAt X A b L xs) (hL : L ≤ 3072) (kend : ∀ a0 a1 i ws, KJ (bmp (bmp (bmp (bmp X 1 11) 44 1436) 1 34) 23 861) Q G A 4 1132 [(0, .ref b), (1, .ref a0), (2, .ref a1), (3, .int (nI i))] [] ws) : KJ X Q G A 4 0 [(0, .ref b)] [] [] := by
  have cx := cn.cx (Nat.le_of_ble_eq_true rfl) (Nat.le_of_ble_eq_true rfl)
  refine kn_new 0 cn hA (ci := 6) (fs := [.null, .null, .null, .null, .null, .null, .null, .null, .int 0, .int 0, .int 0]) inX6 tyX6 tyX6_ok ⟨tb_m (i := 63) rfl rfl, tb_m (i := 64) rfl rfl, tb_m (i := 51) rfl rfl⟩ rfl (fun j hj => by rcases (show j = 0 ∨ j = 1 ∨ j = 2 ∨ j = 3 ∨ j = 4 ∨ j = 5 ∨ j = 6 ∨ j = 7 ∨ j = 8 ∨ j = 9 ∨ j = 10 by omega) with rfl | rfl | rfl | rfl | rfl | rfl | rfl | rfl | rfl | rfl | rfl <;> rfl) (Nat.le_of_ble_eq_true rfl) (Nat.le_of_ble_eq_true rfl) dL_law_0 (fun q => ?_)
  show KJ (bmp _ 1 11) _ G _ 4 3 [(0, .ref b)] [.ref q] [(q, .inr (6, [.null, .null, .null, .null, .null, .null, .null, .null, .int 0, .int 0, .int 0]))]
  have cn := cn.bmp 1 11
  have hscr := hscr.bmp 1 11
  have cx := cn.cx (Nat.le_of_ble_eq_true rfl) (Nat.le_of_ble_eq_true rfl)
  refine k_dup 3 cx dL_law_3 rfl ?_
  refine kn_callI 4 cn hA (fun z => c_X6_init _ G z q) ⟨tb_m (i := 65) rfl rfl, tb_m (i := 66) rfl rfl, tb_m (i := 51) rfl rfl, tb_m (i := 67) rfl rfl, rfl, ⟨by decide +kernel, by decide +kernel, by decide +kernel⟩⟩ dL_law_4 ⟨by decide, by decide⟩ (Nat.le_of_ble_eq_true rfl) (Nat.le_of_ble_eq_true rfl) rfl (rest := [.ref q]) rfl (Nat.le_of_ble_eq_true rfl) [0] [] (by decide) rfl (wr := []) rfl (by decide) (by decide) (fun u => zs_w6 G q u) (fun _ => rfl) (fun u => ?_)
  have cn := cn.bmp 44 1436
  have hscr := hscr.bmp 44 1436
  have cx := cn.cx (Nat.le_of_ble_eq_true rfl) (Nat.le_of_ble_eq_true rfl)
  refine k_astore_n 7 cx dL_law_7 rfl (by decide) (lv' := [(1, .ref q), (0, .ref b)]) rfl ?_
  refine kn_new 8 cn hA (ci := 7) (fs := [.int 0, .int 0, .null, .null, .int 0, .int 0, .null, .null, .null, .int 0, .int 0, .int 0, .int 0, .null, .null, .null, .null, .null, .int 0, .null, .null, .null, .null, .null, .null, .int 0, .null, .null, .null, .null, .null, .null, .null, .int 0]) inX7 tyX7 tyX7_ok ⟨tb_m (i := 643) rfl rfl, tb_m (i := 644) rfl rfl, tb_m (i := 58) rfl rfl⟩ rfl (fun j hj => by rcases (show j = 0 ∨ j = 1 ∨ j = 2 ∨ j = 3 ∨ j = 4 ∨ j = 5 ∨ j = 6 ∨ j = 7 ∨ j = 8 ∨ j = 9 ∨ j = 10 ∨ j = 11 ∨ j = 12 ∨ j = 13 ∨ j = 14 ∨ j = 15 ∨ j = 16 ∨ j = 17 ∨ j = 18 ∨ j = 19 ∨ j = 20 ∨ j = 21 ∨ j = 22 ∨ j = 23 ∨ j = 24 ∨ j = 25 ∨ j = 26 ∨ j = 27 ∨ j = 28 ∨ j = 29 ∨ j = 30 ∨ j = 31 ∨ j = 32 ∨ j = 33 by omega) with rfl | rfl | rfl | rfl | rfl | rfl | rfl | rfl | rfl | rfl | rfl | rfl | rfl | rfl | rfl | rfl | rfl | rfl | rfl | rfl | rfl | rfl | rfl | rfl | rfl | rfl | rfl | rfl | rfl | rfl | rfl | rfl | rfl | rfl <;> rfl) (Nat.le_of_ble_eq_true rfl) (Nat.le_of_ble_eq_true rfl) dL_law_8 (fun r => ?_)
  have cn := cn.bmp 1 34
  have hscr := hscr.bmp 1 34
  have cx := cn.cx (Nat.le_of_ble_eq_true rfl) (Nat.le_of_ble_eq_true rfl)
  refine k_dup 11 cx dL_law_11 rfl ?_
  refine kn_callI 12 cn hA (fun z => c_X7_init _ G z r) ⟨tb_m (i := 645) rfl rfl, tb_m (i := 646) rfl rfl, tb_m (i := 58) rfl rfl, tb_m (i := 647) rfl rfl, rfl, ⟨by decide +kernel, by decide +kernel, by decide +kernel⟩⟩ dL_law_12 ⟨by decide, by decide⟩ (Nat.le_of_ble_eq_true rfl) (Nat.le_of_ble_eq_true rfl) rfl (rest := [.ref r]) rfl (Nat.le_of_ble_eq_true rfl) [45] [0, 1, 2, 3, 4, 5, 6, 7, 8, 9, 10, 11, 12, 13, 14, 15, 16, 17, 18, 19, 20, 21, 22, 23, 24, 25, 26, 27, 28, 29, 30, 31, 32, 33, 34, 35, 36, 37, 38, 39, 40, 41, 42, 43, 44] (by decide) rfl (wr := zs_w6 G q u) rfl (by decide) (by decide) (fun v => zs_w6 G q u ++ zs_w7 G r v) (fun _ => rfl) (fun v => ?_)
  have cn := cn.bmp 23 861
  have hscr := hscr.bmp 23 861
  have cx := cn.cx (Nat.le_of_ble_eq_true rfl) (Nat.le_of_ble_eq_true rfl)
  refine k_astore_n 15 cx dL_law_15 rfl (by decide) (lv' := [(2, .ref r), (1, .ref q), (0, .ref b)]) rfl ?_
  refine k_iconst 16 cx (v := nI 0) dL_law_16 (by decide) ?_
  refine k_istore_n 17 cx dL_law_17 rfl (by decide) (lv' := [(3, .int (nI 0)), (2, .ref r), (1, .ref q), (0, .ref b)]) rfl ?_
  refine k_lv [3, 2, 1, 0] rfl ?_
  refine k_cellq 36 rfl (zs_row q r u v) (zs_world G q r u v) ?_
  exact zs_loop (ad := zs_ad q r u v) cx hscr hL (kend q r) L 0 (Nat.zero_le L) (by omega) _ ⟨zs_iv, zs_av, rfl, zs_inv⟩
