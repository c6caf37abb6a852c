abbrev IvP : Type := (Nat → Nat → Int32) → (Nat → Nat → Int32) → Prop
def shl (G : GT) (ad : Nat → Nat) : List ((Nat → Int32) → (Nat → Int32) → va_E) := [fun f a => .inr (6, [.ref (ad 1), .ref (ad 7), .ref (ad 14), .ref (ad 18), .ref (ad 22), .ref (ad 26), .ref (ad 31), .ref (ad 36), .int (f 8), .int (f 9), .int (f 10)]), fun f a => .inr (5, [.ref (ad 2), .ref (ad 3), .ref (ad 4), .ref (ad 5), .ref (ad 6), .int (f 5), .int (f 6), .int (f 7), .int (f 8)]), fun f a => .inl (G.2.1, 6, .inl a), fun f a => .inl (G.2.1, 6, .inl a), fun f a => .inl (G.2.1, 9, .inl a), fun f a => .inl (G.2.1, 9, .inl a), fun f a => .inl (G.2.1, 9, .inl a), fun f a => .inr (4, [.ref (ad 8), .int (f 1)]), fun f a => .inr (5, [.ref (ad 9), .ref (ad 10), .ref (ad 11), .ref (ad 12), .ref (ad 13), .int (f 5), .int (f 6), .int (f 7), .int (f 8)]), fun f a => .inl (G.2.1, 6, .inl a), fun f a => .inl (G.2.1, 6, .inl a), fun f a => .inl (G.2.1, 9, .inl a), fun f a => .inl (G.2.1, 9, .inl a), fun f a => .inl (G.2.1, 9, .inl a), fun f a => .inr (1, [.ref (ad 15), .ref (ad 16), .ref (ad 17), .int (f 3)]), fun f a => .inl (G.2.1, 6, .inl a), fun f a => .inl (G.2.1, 6, .inl a), fun f a => .inl (G.2.1, 6, .inl a), fun f a => .inr (1, [.ref (ad 19), .ref (ad 20), .ref (ad 21), .int (f 3)]), fun f a => .inl (G.2.1, 6, .inl a), fun f a => .inl (G.2.1, 6, .inl a), fun f a => .inl (G.2.1, 6, .inl a), fun f a => .inr (2, [.ref (ad 23), .ref (ad 24), .ref (ad 25), .int (f 3)]), fun f a => .inl (G.2.1, 6, .inl a), fun f a => .inl (G.2.1, 6, .inl a), fun f a => .inl (G.2.2.1, 6, .inl a), fun f a => .inr (0, [.ref (ad 1), .ref (ad 27), .ref (ad 28), .ref (ad 29), .ref (ad 30), .int (f 5)]), fun f a => .inl (G.2.1, 400, .inl a), fun f a => .inl (G.2.1, 60, .inl a), fun f a => .inl (G.2.1, 36, .inl a), fun f a => .inl (G.2.1, 6, .inl a), fun f a => .inr (0, [.ref (ad 1), .ref (ad 32), .ref (ad 33), .ref (ad 34), .ref (ad 35), .int (f 5)]), fun f a => .inl (G.2.1, 400, .inl a), fun f a => .inl (G.2.1, 60, .inl a), fun f a => .inl (G.2.1, 36, .inl a), fun f a => .inl (G.2.1, 6, .inl a), fun f a => .inl (G.2.2.2, 4, .inr (.inr (.inr (.inr (fun j => some (ad (37 + 2 * j))))))), fun f a => .inr (3, [.ref (ad 38), .int (f 1), .int (f 2)]), fun f a => .inl (G.2.1, 60, .inl a), fun f a => .inr (3, [.ref (ad 40), .int (f 1), .int (f 2)]), fun f a => .inl (G.2.1, 60, .inl a), fun f a => .inr (3, [.ref (ad 42), .int (f 1), .int (f 2)]), fun f a => .inl (G.2.1, 60, .inl a), fun f a => .inr (3, [.ref (ad 44), .int (f 1), .int (f 2)]), fun f a => .inl (G.2.1, 60, .inl a), fun f a => .inr (7, [.int (f 0), .int (f 1), .ref (ad 46), .ref (ad 47), .int (f 4), .int (f 5), .ref (ad 48), .ref (ad 49), .ref (ad 50), .int (f 9), .int (f 10), .int (f 11), .int (f 12), .ref (ad 51), .ref (ad 52), .ref (ad 53), .ref (ad 54), .ref (ad 55), .int (f 18), .ref (ad 56), .ref (ad 57), .ref (ad 58), .ref (ad 59), .ref (ad 60), .ref (ad 61), .int (f 25), .ref (ad 62), .ref (ad 63), .ref (ad 64), .ref (ad 65), .ref (ad 66), .ref (ad 67), .ref (ad 68), .int (f 33)]), fun f a => .inl (G.2.1, 6, .inl a), fun f a => .inl (G.2.1, 6, .inl a), fun f a => .inl (G.2.1, 9, .inl a), fun f a => .inl (G.2.1, 9, .inl a), fun f a => .inl (G.2.1, 9, .inl a), fun f a => .inl (G.2.1, 6, .inl a), fun f a => .inl (G.2.1, 6, .inl a), fun f a => .inl (G.2.1, 8, .inl a), fun f a => .inl (G.2.1, 8, .inl a), fun f a => .inl (G.2.1, 8, .inl a), fun f a => .inl (G.2.1, 6, .inl a), fun f a => .inl (G.2.1, 6, .inl a), fun f a => .inl (G.2.1, 400, .inl a), fun f a => .inl (G.2.1, 36, .inl a), fun f a => .inl (G.2.1, 6, .inl a), fun f a => .inl (G.2.1, 6, .inl a), fun f a => .inl (G.2.1, 6, .inl a), fun f a => .inl (G.2.1, 6, .inl a), fun f a => .inl (G.2.2.1, 6, .inl a), fun f a => .inl (G.2.1, 4, .inl a), fun f a => .inl (G.2.1, 4, .inl a), fun f a => .inl (G.2.1, 240, .inl a), fun f a => .inl (G.2.1, 60, .inl a)]
def shp (G : GT) (ad : Nat → Nat) (k : Nat) (f a : Nat → Int32) : va_E := match (shl G ad)[k]? with
  | some h => h f a
  | none => .inr (0, [])
def LwS (Inv : IvP) (G : GT) (ad : Nat → Nat) (ws : va_W) : Prop := ∃ (iv av : Nat → Nat → Int32), ws = wl ad (shp G ad) 69 iv av ∧ Inv iv av
set_option maxRecDepth 100000 in
theorem cwL_13 : CWV RL 13 RX6 yX6_valley cX6_valley 7 (some .int) 4 6 TX6 11 := ⟨tb_m (i := 269) rfl rfl, tb_m (i := 270) rfl rfl, tb_m (i := 271) rfl rfl, tb_m (i := 51) rfl rfl, tb_m (i := 272) rfl rfl, ⟨by decide +kernel, by decide +kernel, by decide +kernel⟩, rfl⟩
set_option maxRecDepth 100000 in
theorem cwL_17 : CWV RL 17 RX7 yX7_valley cX7_valley 7 (some .int) 4 7 TX7 34 := ⟨tb_m (i := 752) rfl rfl, tb_m (i := 753) rfl rfl, tb_m (i := 754) rfl rfl, tb_m (i := 58) rfl rfl, tb_m (i := 755) rfl rfl, ⟨by decide +kernel, by decide +kernel, by decide +kernel⟩, rfl⟩
set_option maxRecDepth 100000 in
theorem cwL_18 : CWV RL 18 RX6 yX6_ofBell cX6_ofBell 3 (some .int) 2 6 TX6 11 := ⟨tb_m (i := 345) rfl rfl, tb_m (i := 346) rfl rfl, tb_m (i := 347) rfl rfl, tb_m (i := 51) rfl rfl, tb_m (i := 348) rfl rfl, ⟨by decide +kernel, by decide +kernel, by decide +kernel⟩, rfl⟩
set_option maxRecDepth 100000 in
theorem cwL_22 : CWV RL 22 RX7 yX7_ofBell cX7_ofBell 3 (some .int) 2 7 TX7 34 := ⟨tb_m (i := 799) rfl rfl, tb_m (i := 800) rfl rfl, tb_m (i := 801) rfl rfl, tb_m (i := 58) rfl rfl, tb_m (i := 802) rfl rfl, ⟨by decide +kernel, by decide +kernel, by decide +kernel⟩, rfl⟩
set_option maxRecDepth 100000 in
theorem cwL_23 : CWV RL 23 RX6 yX6_ofRope cX6_ofRope 3 (some .int) 2 6 TX6 11 := ⟨tb_m (i := 358) rfl rfl, tb_m (i := 359) rfl rfl, tb_m (i := 360) rfl rfl, tb_m (i := 51) rfl rfl, tb_m (i := 361) rfl rfl, ⟨by decide +kernel, by decide +kernel, by decide +kernel⟩, rfl⟩
set_option maxRecDepth 100000 in
theorem cwL_26 : CWV RL 26 RX7 yX7_ofRope cX7_ofRope 3 (some .int) 2 7 TX7 34 := ⟨tb_m (i := 814) rfl rfl, tb_m (i := 815) rfl rfl, tb_m (i := 816) rfl rfl, tb_m (i := 58) rfl rfl, tb_m (i := 817) rfl rfl, ⟨by decide +kernel, by decide +kernel, by decide +kernel⟩, rfl⟩
set_option maxRecDepth 100000 in
theorem cwL_27 : CWV RL 27 RX6 yX6_tie cX6_tie 3 (some .int) 2 6 TX6 11 := ⟨tb_m (i := 362) rfl rfl, tb_m (i := 363) rfl rfl, tb_m (i := 364) rfl rfl, tb_m (i := 51) rfl rfl, tb_m (i := 365) rfl rfl, ⟨by decide +kernel, by decide +kernel, by decide +kernel⟩, rfl⟩
set_option maxRecDepth 100000 in
theorem cwL_31 : CWV RL 31 RX7 yX7_tie cX7_tie 4 (some .int) 2 7 TX7 34 := ⟨tb_m (i := 818) rfl rfl, tb_m (i := 819) rfl rfl, tb_m (i := 820) rfl rfl, tb_m (i := 58) rfl rfl, tb_m (i := 821) rfl rfl, ⟨by decide +kernel, by decide +kernel, by decide +kernel⟩, rfl⟩
set_option maxRecDepth 100000 in
theorem cwL_32 : CWV RL 32 RX6 yX6_span cX6_span 3 (some .int) 1 6 TX6 11 := ⟨tb_m (i := 366) rfl rfl, tb_m (i := 367) rfl rfl, tb_m (i := 368) rfl rfl, tb_m (i := 51) rfl rfl, tb_m (i := 369) rfl rfl, ⟨by decide +kernel, by decide +kernel, by decide +kernel⟩, rfl⟩
set_option maxRecDepth 100000 in
theorem cwL_36 : CWV RL 36 RX7 yX7_span cX7_span 3 (some .int) 1 7 TX7 34 := ⟨tb_m (i := 822) rfl rfl, tb_m (i := 823) rfl rfl, tb_m (i := 824) rfl rfl, tb_m (i := 58) rfl rfl, tb_m (i := 825) rfl rfl, ⟨by decide +kernel, by decide +kernel, by decide +kernel⟩, rfl⟩
set_option maxRecDepth 100000 in
theorem cwL_37 : CWV RL 37 RX6 yX6_pull cX6_pull 3 (some .int) 2 6 TX6 11 := ⟨tb_m (i := 374) rfl rfl, tb_m (i := 375) rfl rfl, tb_m (i := 376) rfl rfl, tb_m (i := 51) rfl rfl, tb_m (i := 377) rfl rfl, ⟨by decide +kernel, by decide +kernel, by decide +kernel⟩, rfl⟩
set_option maxRecDepth 100000 in
theorem cwL_40 : CWV RL 40 RX7 yX7_pull cX7_pull 3 (some .int) 2 7 TX7 34 := ⟨tb_m (i := 827) rfl rfl, tb_m (i := 828) rfl rfl, tb_m (i := 829) rfl rfl, tb_m (i := 58) rfl rfl, tb_m (i := 830) rfl rfl, ⟨by decide +kernel, by decide +kernel, by decide +kernel⟩, rfl⟩
set_option maxRecDepth 100000 in
theorem cwL_41 : CWV RL 41 RX6 yX6_undo cX6_undo 2 (some .int) 1 6 TX6 11 := ⟨tb_m (i := 382) rfl rfl, tb_m (i := 383) rfl rfl, tb_m (i := 384) rfl rfl, tb_m (i := 51) rfl rfl, tb_m (i := 385) rfl rfl, ⟨by decide +kernel, by decide +kernel, by decide +kernel⟩, rfl⟩
set_option maxRecDepth 100000 in
theorem cwL_44 : CWV RL 44 RX7 yX7_undo cX7_undo 2 (some .int) 1 7 TX7 34 := ⟨tb_m (i := 832) rfl rfl, tb_m (i := 833) rfl rfl, tb_m (i := 834) rfl rfl, tb_m (i := 58) rfl rfl, tb_m (i := 835) rfl rfl, ⟨by decide +kernel, by decide +kernel, by decide +kernel⟩, rfl⟩
set_option maxRecDepth 100000 in
theorem cwL_45 : CWV RL 45 RX6 yX6_rings cX6_rings 5 (some .int) 1 6 TX6 11 := ⟨tb_m (i := 386) rfl rfl, tb_m (i := 387) rfl rfl, tb_m (i := 388) rfl rfl, tb_m (i := 51) rfl rfl, tb_m (i := 389) rfl rfl, ⟨by decide +kernel, by decide +kernel, by decide +kernel⟩, rfl⟩
set_option maxRecDepth 100000 in
theorem cwL_48 : CWV RL 48 RX7 yX7_rings cX7_rings 4 (some .int) 1 7 TX7 34 := ⟨tb_m (i := 836) rfl rfl, tb_m (i := 837) rfl rfl, tb_m (i := 838) rfl rfl, tb_m (i := 58) rfl rfl, tb_m (i := 839) rfl rfl, ⟨by decide +kernel, by decide +kernel, by decide +kernel⟩, rfl⟩
set_option maxRecDepth 100000 in
theorem cwL_49 : CWV RL 49 RX6 yX6_ringsAt cX6_ringsAt 6 (some .int) 2 6 TX6 11 := ⟨tb_m (i := 447) rfl rfl, tb_m (i := 448) rfl rfl, tb_m (i := 449) rfl rfl, tb_m (i := 51) rfl rfl, tb_m (i := 450) rfl rfl, ⟨by decide +kernel, by decide +kernel, by decide +kernel⟩, rfl⟩
set_option maxRecDepth 100000 in
theorem cwL_52 : CWV RL 52 RX7 yX7_ringsAt cX7_ringsAt 5 (some .int) 2 7 TX7 34 := ⟨tb_m (i := 860) rfl rfl, tb_m (i := 861) rfl rfl, tb_m (i := 862) rfl rfl, tb_m (i := 58) rfl rfl, tb_m (i := 863) rfl rfl, ⟨by decide +kernel, by decide +kernel, by decide +kernel⟩, rfl⟩
set_option maxRecDepth 100000 in
theorem cwL_53 : CWV RL 53 RX6 yX6_peal cX6_peal 2 (some .int) 1 6 TX6 11 := ⟨tb_m (i := 451) rfl rfl, tb_m (i := 452) rfl rfl, tb_m (i := 453) rfl rfl, tb_m (i := 51) rfl rfl, tb_m (i := 454) rfl rfl, ⟨by decide +kernel, by decide +kernel, by decide +kernel⟩, rfl⟩
set_option maxRecDepth 100000 in
theorem cwL_56 : CWV RL 56 RX7 yX7_peal cX7_peal 2 (some .int) 1 7 TX7 34 := ⟨tb_m (i := 864) rfl rfl, tb_m (i := 865) rfl rfl, tb_m (i := 866) rfl rfl, tb_m (i := 58) rfl rfl, tb_m (i := 867) rfl rfl, ⟨by decide +kernel, by decide +kernel, by decide +kernel⟩, rfl⟩
set_option maxRecDepth 100000 in
theorem cwL_57 : CWV RL 57 RX6 yX6_stops cX6_stops 1 (some .int) 0 6 TX6 11 := ⟨tb_m (i := 455) rfl rfl, tb_m (i := 456) rfl rfl, tb_m (i := 457) rfl rfl, tb_m (i := 51) rfl rfl, tb_m (i := 458) rfl rfl, ⟨by decide +kernel, by decide +kernel, by decide +kernel⟩, rfl⟩
set_option maxRecDepth 100000 in
theorem cwL_61 : CWV RL 61 RX7 yX7_stops cX7_stops 1 (some .int) 0 7 TX7 34 := ⟨tb_m (i := 869) rfl rfl, tb_m (i := 870) rfl rfl, tb_m (i := 871) rfl rfl, tb_m (i := 58) rfl rfl, tb_m (i := 872) rfl rfl, ⟨by decide +kernel, by decide +kernel, by decide +kernel⟩, rfl⟩
set_option maxRecDepth 100000 in
theorem cwL_62 : CWV RL 62 RX6 yX6_fewest cX6_fewest 4 (some .int) 1 6 TX6 11 := ⟨tb_m (i := 463) rfl rfl, tb_m (i := 464) rfl rfl, tb_m (i := 465) rfl rfl, tb_m (i := 51) rfl rfl, tb_m (i := 466) rfl rfl, ⟨by decide +kernel, by decide +kernel, by decide +kernel⟩, rfl⟩
set_option maxRecDepth 100000 in
theorem cwL_65 : CWV RL 65 RX7 yX7_fewest cX7_fewest 5 (some .int) 1 7 TX7 34 := ⟨tb_m (i := 877) rfl rfl, tb_m (i := 878) rfl rfl, tb_m (i := 879) rfl rfl, tb_m (i := 58) rfl rfl, tb_m (i := 880) rfl rfl, ⟨by decide +kernel, by decide +kernel, by decide +kernel⟩, rfl⟩
set_option maxRecDepth 100000 in
theorem cwL_66 : CWV RL 66 RX6 yX6_still cX6_still 4 (some .int) 1 6 TX6 11 := ⟨tb_m (i := 492) rfl rfl, tb_m (i := 493) rfl rfl, tb_m (i := 494) rfl rfl, tb_m (i := 51) rfl rfl, tb_m (i := 495) rfl rfl, ⟨by decide +kernel, by decide +kernel, by decide +kernel⟩, rfl⟩
set_option maxRecDepth 100000 in
theorem cwL_69 : CWV RL 69 RX7 yX7_still cX7_still 5 (some .int) 1 7 TX7 34 := ⟨tb_m (i := 892) rfl rfl, tb_m (i := 893) rfl rfl, tb_m (i := 894) rfl rfl, tb_m (i := 58) rfl rfl, tb_m (i := 895) rfl rfl, ⟨by decide +kernel, by decide +kernel, by decide +kernel⟩, rfl⟩
set_option maxRecDepth 100000 in
theorem cwL_70 : CWV RL 70 RX6 yX6_hung cX6_hung 9 (some .int) 1 6 TX6 11 := ⟨tb_m (i := 500) rfl rfl, tb_m (i := 501) rfl rfl, tb_m (i := 502) rfl rfl, tb_m (i := 51) rfl rfl, tb_m (i := 503) rfl rfl, ⟨by decide +kernel, by decide +kernel, by decide +kernel⟩, rfl⟩
set_option maxRecDepth 100000 in
theorem cwL_73 : CWV RL 73 RX7 yX7_hung cX7_hung 6 (some .int) 1 7 TX7 34 := ⟨tb_m (i := 897) rfl rfl, tb_m (i := 898) rfl rfl, tb_m (i := 899) rfl rfl, tb_m (i := 58) rfl rfl, tb_m (i := 900) rfl rfl, ⟨by decide +kernel, by decide +kernel, by decide +kernel⟩, rfl⟩
set_option maxRecDepth 100000 in
theorem cwL_74 : CWV RL 74 RX6 yX6_cut cX6_cut 4 (some .int) 0 6 TX6 11 := ⟨tb_m (i := 512) rfl rfl, tb_m (i := 513) rfl rfl, tb_m (i := 514) rfl rfl, tb_m (i := 51) rfl rfl, tb_m (i := 515) rfl rfl, ⟨by decide +kernel, by decide +kernel, by decide +kernel⟩, rfl⟩
set_option maxRecDepth 100000 in
theorem cwL_77 : CWV RL 77 RX7 yX7_cut cX7_cut 4 (some .int) 0 7 TX7 34 := ⟨tb_m (i := 901) rfl rfl, tb_m (i := 902) rfl rfl, tb_m (i := 903) rfl rfl, tb_m (i := 58) rfl rfl, tb_m (i := 904) rfl rfl, ⟨by decide +kernel, by decide +kernel, by decide +kernel⟩, rfl⟩
set_option maxRecDepth 100000 in
theorem cwL_78 : CWV RL 78 RX6 yX6_reading cX6_reading 4 (some .int) 3 6 TX6 11 := ⟨tb_m (i := 520) rfl rfl, tb_m (i := 521) rfl rfl, tb_m (i := 522) rfl rfl, tb_m (i := 51) rfl rfl, tb_m (i := 523) rfl rfl, ⟨by decide +kernel, by decide +kernel, by decide +kernel⟩, rfl⟩
set_option maxRecDepth 100000 in
theorem cwL_82 : CWV RL 82 RX7 yX7_reading cX7_reading 4 (some .int) 3 7 TX7 34 := ⟨tb_m (i := 905) rfl rfl, tb_m (i := 906) rfl rfl, tb_m (i := 907) rfl rfl, tb_m (i := 58) rfl rfl, tb_m (i := 908) rfl rfl, ⟨by decide +kernel, by decide +kernel, by decide +kernel⟩, rfl⟩
set_option maxRecDepth 100000 in
theorem cwL_83 : CWV RL 83 RX6 yX6_back cX6_back 2 (some .int) 1 6 TX6 11 := ⟨tb_m (i := 528) rfl rfl, tb_m (i := 529) rfl rfl, tb_m (i := 530) rfl rfl, tb_m (i := 51) rfl rfl, tb_m (i := 531) rfl rfl, ⟨by decide +kernel, by decide +kernel, by decide +kernel⟩, rfl⟩
set_option maxRecDepth 100000 in
theorem cwL_86 : CWV RL 86 RX7 yX7_back cX7_back 2 (some .int) 1 7 TX7 34 := ⟨tb_m (i := 909) rfl rfl, tb_m (i := 910) rfl rfl, tb_m (i := 911) rfl rfl, tb_m (i := 58) rfl rfl, tb_m (i := 912) rfl rfl, ⟨by decide +kernel, by decide +kernel, by decide +kernel⟩, rfl⟩
set_option maxRecDepth 100000 in
theorem cwL_87 : CWV RL 87 RX6 yX6_first cX6_first 3 (some .int) 0 6 TX6 11 := ⟨tb_m (i := 532) rfl rfl, tb_m (i := 533) rfl rfl, tb_m (i := 534) rfl rfl, tb_m (i := 51) rfl rfl, tb_m (i := 535) rfl rfl, ⟨by decide +kernel, by decide +kernel, by decide +kernel⟩, rfl⟩
set_option maxRecDepth 100000 in
theorem cwL_90 : CWV RL 90 RX7 yX7_first cX7_first 3 (some .int) 0 7 TX7 34 := ⟨tb_m (i := 913) rfl rfl, tb_m (i := 914) rfl rfl, tb_m (i := 915) rfl rfl, tb_m (i := 58) rfl rfl, tb_m (i := 916) rfl rfl, ⟨by decide +kernel, by decide +kernel, by decide +kernel⟩, rfl⟩
set_option maxRecDepth 100000 in
theorem cwL_91 : CWV RL 91 RX6 yX6_gone cX6_gone 3 (some .int) 0 6 TX6 11 := ⟨tb_m (i := 541) rfl rfl, tb_m (i := 542) rfl rfl, tb_m (i := 543) rfl rfl, tb_m (i := 51) rfl rfl, tb_m (i := 544) rfl rfl, ⟨by decide +kernel, by decide +kernel, by decide +kernel⟩, rfl⟩
set_option maxRecDepth 100000 in
theorem cwL_94 : CWV RL 94 RX7 yX7_gone cX7_gone 3 (some .int) 0 7 TX7 34 := ⟨tb_m (i := 921) rfl rfl, tb_m (i := 922) rfl rfl, tb_m (i := 923) rfl rfl, tb_m (i := 58) rfl rfl, tb_m (i := 924) rfl rfl, ⟨by decide +kernel, by decide +kernel, by decide +kernel⟩, rfl⟩
set_option maxRecDepth 100000 in
theorem cwL_95 : CWV RL 95 RX6 yX6_sneezes cX6_sneezes 5 (some .long) 1 6 TX6 11 := ⟨tb_m (i := 545) rfl rfl, tb_m (i := 546) rfl rfl, tb_m (i := 547) rfl rfl, tb_m (i := 51) rfl rfl, tb_m (i := 548) rfl rfl, ⟨by decide +kernel, by decide +kernel, by decide +kernel⟩, rfl⟩
set_option maxRecDepth 100000 in
theorem cwL_99 : CWV RL 99 RX7 yX7_sneezes cX7_sneezes 5 (some .long) 1 7 TX7 34 := ⟨tb_m (i := 925) rfl rfl, tb_m (i := 926) rfl rfl, tb_m (i := 927) rfl rfl, tb_m (i := 58) rfl rfl, tb_m (i := 928) rfl rfl, ⟨by decide +kernel, by decide +kernel, by decide +kernel⟩, rfl⟩
set_option maxRecDepth 100000 in
theorem cwL_100 : CWV RL 100 RX6 yX6_tune cX6_tune 7 (some .int) 4 6 TX6 11 := ⟨tb_m (i := 550) rfl rfl, tb_m (i := 551) rfl rfl, tb_m (i := 552) rfl rfl, tb_m (i := 51) rfl rfl, tb_m (i := 553) rfl rfl, ⟨by decide +kernel, by decide +kernel, by decide +kernel⟩, rfl⟩
set_option maxRecDepth 100000 in
theorem cwL_103 : CWV RL 103 RX7 yX7_tune cX7_tune 8 (some .int) 4 7 TX7 34 := ⟨tb_m (i := 936) rfl rfl, tb_m (i := 937) rfl rfl, tb_m (i := 938) rfl rfl, tb_m (i := 58) rfl rfl, tb_m (i := 939) rfl rfl, ⟨by decide +kernel, by decide +kernel, by decide +kernel⟩, rfl⟩
set_option maxRecDepth 100000 in
theorem cwL_104 : CWV RL 104 RX6 yX6_sheet cX6_sheet 4 (some .int) 3 6 TX6 11 := ⟨tb_m (i := 558) rfl rfl, tb_m (i := 559) rfl rfl, tb_m (i := 560) rfl rfl, tb_m (i := 51) rfl rfl, tb_m (i := 561) rfl rfl, ⟨by decide +kernel, by decide +kernel, by decide +kernel⟩, rfl⟩
set_option maxRecDepth 100000 in
theorem cwL_108 : CWV RL 108 RX7 yX7_sheet cX7_sheet 5 (some .int) 3 7 TX7 34 := ⟨tb_m (i := 941) rfl rfl, tb_m (i := 942) rfl rfl, tb_m (i := 943) rfl rfl, tb_m (i := 58) rfl rfl, tb_m (i := 944) rfl rfl, ⟨by decide +kernel, by decide +kernel, by decide +kernel⟩, rfl⟩
set_option maxRecDepth 100000 in
theorem cwL_109 : CWV RL 109 RX6 yX6_lose cX6_lose 2 (some .int) 1 6 TX6 11 := ⟨tb_m (i := 567) rfl rfl, tb_m (i := 568) rfl rfl, tb_m (i := 569) rfl rfl, tb_m (i := 51) rfl rfl, tb_m (i := 570) rfl rfl, ⟨by decide +kernel, by decide +kernel, by decide +kernel⟩, rfl⟩
set_option maxRecDepth 100000 in
theorem cwL_112 : CWV RL 112 RX7 yX7_lose cX7_lose 3 (some .int) 1 7 TX7 34 := ⟨tb_m (i := 945) rfl rfl, tb_m (i := 946) rfl rfl, tb_m (i := 947) rfl rfl, tb_m (i := 58) rfl rfl, tb_m (i := 948) rfl rfl, ⟨by decide +kernel, by decide +kernel, by decide +kernel⟩, rfl⟩
set_option maxRecDepth 100000 in
theorem cwL_113 : CWV RL 113 RX6 yX6_put cX6_put 4 (some .int) 3 6 TX6 11 := ⟨tb_m (i := 572) rfl rfl, tb_m (i := 573) rfl rfl, tb_m (i := 574) rfl rfl, tb_m (i := 51) rfl rfl, tb_m (i := 575) rfl rfl, ⟨by decide +kernel, by decide +kernel, by decide +kernel⟩, rfl⟩
set_option maxRecDepth 100000 in
theorem cwL_116 : CWV RL 116 RX7 yX7_put cX7_put 4 (some .int) 3 7 TX7 34 := ⟨tb_m (i := 949) rfl rfl, tb_m (i := 950) rfl rfl, tb_m (i := 951) rfl rfl, tb_m (i := 58) rfl rfl, tb_m (i := 952) rfl rfl, ⟨by decide +kernel, by decide +kernel, by decide +kernel⟩, rfl⟩
set_option maxRecDepth 100000 in
theorem cwL_117 : CWV RL 117 RX6 yX6_cell cX6_cell 4 (some .long) 3 6 TX6 11 := ⟨tb_m (i := 584) rfl rfl, tb_m (i := 585) rfl rfl, tb_m (i := 586) rfl rfl, tb_m (i := 51) rfl rfl, tb_m (i := 587) rfl rfl, ⟨by decide +kernel, by decide +kernel, by decide +kernel⟩, rfl⟩
set_option maxRecDepth 100000 in
theorem cwL_121 : CWV RL 121 RX7 yX7_cell cX7_cell 4 (some .long) 3 7 TX7 34 := ⟨tb_m (i := 957) rfl rfl, tb_m (i := 958) rfl rfl, tb_m (i := 959) rfl rfl, tb_m (i := 58) rfl rfl, tb_m (i := 960) rfl rfl, ⟨by decide +kernel, by decide +kernel, by decide +kernel⟩, rfl⟩
set_option maxRecDepth 100000 in
theorem cwL_122 : CWV RL 122 RX6 yX6_copy cX6_copy 8 (some .int) 5 6 TX6 11 := ⟨tb_m (i := 589) rfl rfl, tb_m (i := 590) rfl rfl, tb_m (i := 591) rfl rfl, tb_m (i := 51) rfl rfl, tb_m (i := 592) rfl rfl, ⟨by decide +kernel, by decide +kernel, by decide +kernel⟩, rfl⟩
set_option maxRecDepth 100000 in
theorem cwL_126 : CWV RL 126 RX7 yX7_copy cX7_copy 7 (some .int) 5 7 TX7 34 := ⟨tb_m (i := 965) rfl rfl, tb_m (i := 966) rfl rfl, tb_m (i := 967) rfl rfl, tb_m (i := 58) rfl rfl, tb_m (i := 968) rfl rfl, ⟨by decide +kernel, by decide +kernel, by decide +kernel⟩, rfl⟩
set_option maxRecDepth 100000 in
theorem cwL_127 : CWV RL 127 RX6 yX6_tell cX6_tell 2 (some .int) 1 6 TX6 11 := ⟨tb_m (i := 595) rfl rfl, tb_m (i := 596) rfl rfl, tb_m (i := 597) rfl rfl, tb_m (i := 51) rfl rfl, tb_m (i := 598) rfl rfl, ⟨by decide +kernel, by decide +kernel, by decide +kernel⟩, rfl⟩
set_option maxRecDepth 100000 in
theorem cwL_130 : CWV RL 130 RX7 yX7_tell cX7_tell 4 (some .int) 1 7 TX7 34 := ⟨tb_m (i := 969) rfl rfl, tb_m (i := 970) rfl rfl, tb_m (i := 971) rfl rfl, tb_m (i := 58) rfl rfl, tb_m (i := 972) rfl rfl, ⟨by decide +kernel, by decide +kernel, by decide +kernel⟩, rfl⟩
set_option maxRecDepth 100000 in
theorem cwL_131 : CWV RL 131 RX6 yX6_hail cX6_hail 2 (some .int) 1 6 TX6 11 := ⟨tb_m (i := 615) rfl rfl, tb_m (i := 616) rfl rfl, tb_m (i := 617) rfl rfl, tb_m (i := 51) rfl rfl, tb_m (i := 618) rfl rfl, ⟨by decide +kernel, by decide +kernel, by decide +kernel⟩, rfl⟩
set_option maxRecDepth 100000 in
theorem cwL_134 : CWV RL 134 RX7 yX7_hail cX7_hail 2 (some .int) 1 7 TX7 34 := ⟨tb_m (i := 977) rfl rfl, tb_m (i := 978) rfl rfl, tb_m (i := 979) rfl rfl, tb_m (i := 58) rfl rfl, tb_m (i := 980) rfl rfl, ⟨by decide +kernel, by decide +kernel, by decide +kernel⟩, rfl⟩
set_option maxRecDepth 100000 in
theorem cwL_135 : CWV RL 135 RX6 yX6_as cX6_as 3 (some .int) 2 6 TX6 11 := ⟨tb_m (i := 627) rfl rfl, tb_m (i := 628) rfl rfl, tb_m (i := 629) rfl rfl, tb_m (i := 51) rfl rfl, tb_m (i := 630) rfl rfl, ⟨by decide +kernel, by decide +kernel, by decide +kernel⟩, rfl⟩
set_option maxRecDepth 100000 in
theorem cwL_138 : CWV RL 138 RX7 yX7_as cX7_as 3 (some .int) 2 7 TX7 34 := ⟨tb_m (i := 981) rfl rfl, tb_m (i := 982) rfl rfl, tb_m (i := 983) rfl rfl, tb_m (i := 58) rfl rfl, tb_m (i := 984) rfl rfl, ⟨by decide +kernel, by decide +kernel, by decide +kernel⟩, rfl⟩
set_option maxRecDepth 100000 in
theorem cwL_139 : CWV RL 139 RX6 yX6_trace cX6_trace 1 (some .int) 0 6 TX6 11 := ⟨tb_m (i := 631) rfl rfl, tb_m (i := 632) rfl rfl, tb_m (i := 633) rfl rfl, tb_m (i := 51) rfl rfl, tb_m (i := 634) rfl rfl, ⟨by decide +kernel, by decide +kernel, by decide +kernel⟩, rfl⟩
set_option maxRecDepth 100000 in
theorem cwL_142 : CWV RL 142 RX7 yX7_trace cX7_trace 1 (some .int) 0 7 TX7 34 := ⟨tb_m (i := 985) rfl rfl, tb_m (i := 986) rfl rfl, tb_m (i := 987) rfl rfl, tb_m (i := 58) rfl rfl, tb_m (i := 988) rfl rfl, ⟨by decide +kernel, by decide +kernel, by decide +kernel⟩, rfl⟩
set_option maxRecDepth 100000 in
theorem cwL_143 : CWV RL 143 RX6 yX6_fault cX6_fault 1 (some .int) 0 6 TX6 11 := ⟨tb_m (i := 635) rfl rfl, tb_m (i := 636) rfl rfl, tb_m (i := 637) rfl rfl, tb_m (i := 51) rfl rfl, tb_m (i := 638) rfl rfl, ⟨by decide +kernel, by decide +kernel, by decide +kernel⟩, rfl⟩
set_option maxRecDepth 100000 in
theorem cwL_146 : CWV RL 146 RX7 yX7_fault cX7_fault 1 (some .int) 0 7 TX7 34 := ⟨tb_m (i := 989) rfl rfl, tb_m (i := 990) rfl rfl, tb_m (i := 991) rfl rfl, tb_m (i := 58) rfl rfl, tb_m (i := 992) rfl rfl, ⟨by decide +kernel, by decide +kernel, by decide +kernel⟩, rfl⟩
set_option maxRecDepth 100000 in
theorem cwL_147 : CWV RL 147 RX6 yX6_many cX6_many 2 (some .int) 1 6 TX6 11 := ⟨tb_m (i := 639) rfl rfl, tb_m (i := 640) rfl rfl, tb_m (i := 641) rfl rfl, tb_m (i := 51) rfl rfl, tb_m (i := 642) rfl rfl, ⟨by decide +kernel, by decide +kernel, by decide +kernel⟩, rfl⟩
set_option maxRecDepth 100000 in
theorem cwL_150 : CWV RL 150 RX7 yX7_many cX7_many 2 (some .int) 1 7 TX7 34 := ⟨tb_m (i := 993) rfl rfl, tb_m (i := 994) rfl rfl, tb_m (i := 995) rfl rfl, tb_m (i := 58) rfl rfl, tb_m (i := 996) rfl rfl, ⟨by decide +kernel, by decide +kernel, by decide +kernel⟩, rfl⟩
