set_option maxHeartbeats 4000000 in
set_option maxRecDepth 100000 in
theorem lc_1 {X : XT} {Q : State → Prop} {G : GT} {ad : Nat → Nat} {b L i : Nat} {xs : Nat → Int32} {A : Nat → Prop} (cx : Cx X code 4 RL G 8 290 ret) (hscr : ScrAt X A b L xs) (hi : i + 6 ≤ L ∧ L ≤ 3072) (ws : va_W) (h : LwS G ad ws) (kk0 : ∀ ws, LwS G ad ws → KJ X Q G A 4 1126 [(0, .ref b), (1, .ref (ad 0)), (2, .ref (ad 45)), (3, .int (nI i))] [] ws) : KJ X Q G A 4 229 [(0, .ref b), (1, .ref (ad 0)), (2, .ref (ad 45)), (3, .int (nI i))] [] ws := by
  obtain ⟨iv, av, rfl, hI⟩ := h
  obtain ⟨u, v, hu, hv, huv, hI2⟩ := eq_ofBell iv av (xs (i + 1)) (xs (i + 2)) hI
  refine k_aload_n 229 cx dL_law_229 rfl 1 rfl ?_
  refine kl_ld 230 cx hscr (by omega) (j := 1) dL_law_230 dL_law_231 dL_law_232 dL_law_233 dL_law_234 ?_
  refine kl_ld 235 cx hscr (by omega) (j := 2) dL_law_235 dL_law_236 dL_law_237 dL_law_238 dL_law_239 ?_
  refine k_callL 240 cx cwL_18 (c_X6_ofBell X.2.1 G (ad 0) (ad 1) (ad 2) (ad 3) (ad 7) (ad 14) (ad 18) (ad 22) (ad 26) (ad 31) (ad 36) (ad 4) (ad 5) (ad 6) (iv 0 8) (iv 0 9) (iv 0 10) (iv 1 5) (iv 1 6) (iv 1 7) (iv 1 8) (av 2) (av 3) (xs (i + 1)) (xs (i + 2)) hu) dL_law_240 ⟨by decide, by decide⟩ rfl rfl (rest := []) rfl (Nat.le_of_ble_eq_true rfl) [0, 1, 2, 3] (by decide) (by decide) rfl iv av rfl (fun k hk => by simp at hk; simp [va_up, hk]) (st2 := [.int u]) rfl ?_
  refine k_aload_n 243 cx dL_law_243 rfl 2 rfl ?_
  refine kl_ld 244 cx hscr (by omega) (j := 1) dL_law_244 dL_law_245 dL_law_246 dL_law_247 dL_law_248 ?_
  refine kl_ld 249 cx hscr (by omega) (j := 2) dL_law_249 dL_law_250 dL_law_251 dL_law_252 dL_law_253 ?_
  refine k_callL 254 cx cwL_22 (c_X7_ofBell X.2.1 G (ad 45) (ad 46) (ad 47) (ad 48) (ad 49) (ad 50) (ad 51) (ad 52) (ad 53) (ad 54) (ad 55) (ad 56) (ad 57) (ad 58) (ad 59) (ad 60) (ad 61) (ad 62) (ad 63) (ad 64) (ad 65) (ad 66) (ad 67) (ad 68) (iv 45 0) (iv 45 1) (iv 45 4) (iv 45 5) (iv 45 9) (iv 45 10) (iv 45 11) (iv 45 12) (iv 45 18) (iv 45 25) (iv 45 33) (av 46) (av 47) (xs (i + 1)) (xs (i + 2)) hv) dL_law_254 ⟨by decide, by decide⟩ rfl rfl (rest := [.int u]) rfl (Nat.le_of_ble_eq_true rfl) [45, 46, 47] (by decide) (by decide) rfl iv av rfl (fun k hk => by simp at hk; simp [va_up, hk]) (st2 := [.int v, .int u]) rfl ?_
  refine k_icmp_eq_T 257 cx (tgt := 1126) dL_law_257 (by decide) huv ?_
  exact kk0 _ ⟨iv, av, rfl, hI2⟩
