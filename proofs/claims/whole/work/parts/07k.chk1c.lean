theorem ts_ck2 {p : Nat × Instr × tm_X → Bool} {ops : List (Nat × Instr × tm_X)} {k : Nat} (h0 : ((ops.drop k).take 25).all p = true) (h1 : (ops.drop (k + 25)).all p = true) : (ops.drop k).all p = true := by
  rw [← List.take_append_drop 25 (ops.drop k), List.all_append, h0, List.drop_drop, h1]
  rfl
theorem lw_c0 : ((op_175.drop 0).take 25).all (fun q => decide (decode cL_law q.1 = .ok (q.2.1, ts_ln q.2.1 q.2.2))) = true := by decide +kernel
theorem lw_c25 : ((op_175.drop 25).take 25).all (fun q => decide (decode cL_law q.1 = .ok (q.2.1, ts_ln q.2.1 q.2.2))) = true := by decide +kernel
theorem lw_c50 : ((op_175.drop 50).take 25).all (fun q => decide (decode cL_law q.1 = .ok (q.2.1, ts_ln q.2.1 q.2.2))) = true := by decide +kernel
theorem lw_c75 : ((op_175.drop 75).take 25).all (fun q => decide (decode cL_law q.1 = .ok (q.2.1, ts_ln q.2.1 q.2.2))) = true := by decide +kernel
theorem lw_c100 : ((op_175.drop 100).take 25).all (fun q => decide (decode cL_law q.1 = .ok (q.2.1, ts_ln q.2.1 q.2.2))) = true := by decide +kernel
theorem lw_c125 : ((op_175.drop 125).take 25).all (fun q => decide (decode cL_law q.1 = .ok (q.2.1, ts_ln q.2.1 q.2.2))) = true := by decide +kernel
theorem lw_c150 : ((op_175.drop 150).take 25).all (fun q => decide (decode cL_law q.1 = .ok (q.2.1, ts_ln q.2.1 q.2.2))) = true := by decide +kernel
theorem lw_c175 : ((op_175.drop 175).take 25).all (fun q => decide (decode cL_law q.1 = .ok (q.2.1, ts_ln q.2.1 q.2.2))) = true := by decide +kernel
theorem lw_c200 : ((op_175.drop 200).take 25).all (fun q => decide (decode cL_law q.1 = .ok (q.2.1, ts_ln q.2.1 q.2.2))) = true := by decide +kernel
theorem lw_c225 : ((op_175.drop 225).take 25).all (fun q => decide (decode cL_law q.1 = .ok (q.2.1, ts_ln q.2.1 q.2.2))) = true := by decide +kernel
theorem lw_c250 : ((op_175.drop 250).take 25).all (fun q => decide (decode cL_law q.1 = .ok (q.2.1, ts_ln q.2.1 q.2.2))) = true := by decide +kernel
theorem lw_c275 : ((op_175.drop 275).take 25).all (fun q => decide (decode cL_law q.1 = .ok (q.2.1, ts_ln q.2.1 q.2.2))) = true := by decide +kernel
theorem lw_c300 : ((op_175.drop 300).take 25).all (fun q => decide (decode cL_law q.1 = .ok (q.2.1, ts_ln q.2.1 q.2.2))) = true := by decide +kernel
theorem lw_c325 : ((op_175.drop 325).take 25).all (fun q => decide (decode cL_law q.1 = .ok (q.2.1, ts_ln q.2.1 q.2.2))) = true := by decide +kernel
theorem lw_c350 : ((op_175.drop 350).take 25).all (fun q => decide (decode cL_law q.1 = .ok (q.2.1, ts_ln q.2.1 q.2.2))) = true := by decide +kernel
theorem lw_c375 : ((op_175.drop 375).take 25).all (fun q => decide (decode cL_law q.1 = .ok (q.2.1, ts_ln q.2.1 q.2.2))) = true := by decide +kernel
theorem lw_c400 : ((op_175.drop 400).take 25).all (fun q => decide (decode cL_law q.1 = .ok (q.2.1, ts_ln q.2.1 q.2.2))) = true := by decide +kernel
theorem lw_c425 : ((op_175.drop 425).take 25).all (fun q => decide (decode cL_law q.1 = .ok (q.2.1, ts_ln q.2.1 q.2.2))) = true := by decide +kernel
theorem lw_c450 : ((op_175.drop 450).take 25).all (fun q => decide (decode cL_law q.1 = .ok (q.2.1, ts_ln q.2.1 q.2.2))) = true := by decide +kernel
theorem lw_c475 : ((op_175.drop 475).take 25).all (fun q => decide (decode cL_law q.1 = .ok (q.2.1, ts_ln q.2.1 q.2.2))) = true := by decide +kernel
theorem lw_c500 : ((op_175.drop 500).take 25).all (fun q => decide (decode cL_law q.1 = .ok (q.2.1, ts_ln q.2.1 q.2.2))) = true := by decide +kernel
theorem lw_c525 : ((op_175.drop 525).take 25).all (fun q => decide (decode cL_law q.1 = .ok (q.2.1, ts_ln q.2.1 q.2.2))) = true := by decide +kernel
theorem lw_c550 : ((op_175.drop 550).take 25).all (fun q => decide (decode cL_law q.1 = .ok (q.2.1, ts_ln q.2.1 q.2.2))) = true := by decide +kernel
theorem lw_c575 : ((op_175.drop 575).take 25).all (fun q => decide (decode cL_law q.1 = .ok (q.2.1, ts_ln q.2.1 q.2.2))) = true := by decide +kernel
theorem lw_c600 : ((op_175.drop 600).take 25).all (fun q => decide (decode cL_law q.1 = .ok (q.2.1, ts_ln q.2.1 q.2.2))) = true := by decide +kernel
theorem lw_d625 : (op_175.drop 625).all (fun q => decide (decode cL_law q.1 = .ok (q.2.1, ts_ln q.2.1 q.2.2))) = true := by decide +kernel
theorem lw_d600 : (op_175.drop 600).all (fun q => decide (decode cL_law q.1 = .ok (q.2.1, ts_ln q.2.1 q.2.2))) = true := ts_ck2 lw_c600 lw_d625
theorem lw_d575 : (op_175.drop 575).all (fun q => decide (decode cL_law q.1 = .ok (q.2.1, ts_ln q.2.1 q.2.2))) = true := ts_ck2 lw_c575 lw_d600
theorem lw_d550 : (op_175.drop 550).all (fun q => decide (decode cL_law q.1 = .ok (q.2.1, ts_ln q.2.1 q.2.2))) = true := ts_ck2 lw_c550 lw_d575
theorem lw_d525 : (op_175.drop 525).all (fun q => decide (decode cL_law q.1 = .ok (q.2.1, ts_ln q.2.1 q.2.2))) = true := ts_ck2 lw_c525 lw_d550
theorem lw_d500 : (op_175.drop 500).all (fun q => decide (decode cL_law q.1 = .ok (q.2.1, ts_ln q.2.1 q.2.2))) = true := ts_ck2 lw_c500 lw_d525
theorem lw_d475 : (op_175.drop 475).all (fun q => decide (decode cL_law q.1 = .ok (q.2.1, ts_ln q.2.1 q.2.2))) = true := ts_ck2 lw_c475 lw_d500
theorem lw_d450 : (op_175.drop 450).all (fun q => decide (decode cL_law q.1 = .ok (q.2.1, ts_ln q.2.1 q.2.2))) = true := ts_ck2 lw_c450 lw_d475
theorem lw_d425 : (op_175.drop 425).all (fun q => decide (decode cL_law q.1 = .ok (q.2.1, ts_ln q.2.1 q.2.2))) = true := ts_ck2 lw_c425 lw_d450
theorem lw_d400 : (op_175.drop 400).all (fun q => decide (decode cL_law q.1 = .ok (q.2.1, ts_ln q.2.1 q.2.2))) = true := ts_ck2 lw_c400 lw_d425
theorem lw_d375 : (op_175.drop 375).all (fun q => decide (decode cL_law q.1 = .ok (q.2.1, ts_ln q.2.1 q.2.2))) = true := ts_ck2 lw_c375 lw_d400
theorem lw_d350 : (op_175.drop 350).all (fun q => decide (decode cL_law q.1 = .ok (q.2.1, ts_ln q.2.1 q.2.2))) = true := ts_ck2 lw_c350 lw_d375
theorem lw_d325 : (op_175.drop 325).all (fun q => decide (decode cL_law q.1 = .ok (q.2.1, ts_ln q.2.1 q.2.2))) = true := ts_ck2 lw_c325 lw_d350
theorem lw_d300 : (op_175.drop 300).all (fun q => decide (decode cL_law q.1 = .ok (q.2.1, ts_ln q.2.1 q.2.2))) = true := ts_ck2 lw_c300 lw_d325
theorem lw_d275 : (op_175.drop 275).all (fun q => decide (decode cL_law q.1 = .ok (q.2.1, ts_ln q.2.1 q.2.2))) = true := ts_ck2 lw_c275 lw_d300
theorem lw_d250 : (op_175.drop 250).all (fun q => decide (decode cL_law q.1 = .ok (q.2.1, ts_ln q.2.1 q.2.2))) = true := ts_ck2 lw_c250 lw_d275
theorem lw_d225 : (op_175.drop 225).all (fun q => decide (decode cL_law q.1 = .ok (q.2.1, ts_ln q.2.1 q.2.2))) = true := ts_ck2 lw_c225 lw_d250
theorem lw_d200 : (op_175.drop 200).all (fun q => decide (decode cL_law q.1 = .ok (q.2.1, ts_ln q.2.1 q.2.2))) = true := ts_ck2 lw_c200 lw_d225
theorem lw_d175 : (op_175.drop 175).all (fun q => decide (decode cL_law q.1 = .ok (q.2.1, ts_ln q.2.1 q.2.2))) = true := ts_ck2 lw_c175 lw_d200
theorem lw_d150 : (op_175.drop 150).all (fun q => decide (decode cL_law q.1 = .ok (q.2.1, ts_ln q.2.1 q.2.2))) = true := ts_ck2 lw_c150 lw_d175
theorem lw_d125 : (op_175.drop 125).all (fun q => decide (decode cL_law q.1 = .ok (q.2.1, ts_ln q.2.1 q.2.2))) = true := ts_ck2 lw_c125 lw_d150
theorem lw_d100 : (op_175.drop 100).all (fun q => decide (decode cL_law q.1 = .ok (q.2.1, ts_ln q.2.1 q.2.2))) = true := ts_ck2 lw_c100 lw_d125
theorem lw_d75 : (op_175.drop 75).all (fun q => decide (decode cL_law q.1 = .ok (q.2.1, ts_ln q.2.1 q.2.2))) = true := ts_ck2 lw_c75 lw_d100
theorem lw_d50 : (op_175.drop 50).all (fun q => decide (decode cL_law q.1 = .ok (q.2.1, ts_ln q.2.1 q.2.2))) = true := ts_ck2 lw_c50 lw_d75
theorem lw_d25 : (op_175.drop 25).all (fun q => decide (decode cL_law q.1 = .ok (q.2.1, ts_ln q.2.1 q.2.2))) = true := ts_ck2 lw_c25 lw_d50
theorem lw_d0 : (op_175.drop 0).all (fun q => decide (decode cL_law q.1 = .ok (q.2.1, ts_ln q.2.1 q.2.2))) = true := ts_ck2 lw_c0 lw_d25
set_option maxRecDepth 20000 in
theorem tj_175 : ts_jok 175 := ts_jok_of (ops := op_175) (own := RL) (y := yL_law) (bytes := cL_law) rfl rfl rfl lw_d0 [69, 70, 55, 71, 55, 72, 761, 762, 64, 763, 64, 764, 274, 55, 275, 276, 885, 64, 886, 887, 278, 55, 279, 280, 892, 64, 893, 894, 296, 55, 297, 298, 899, 64, 900, 901, 304, 55, 305, 306, 903, 64, 904, 905, 381, 55, 382, 383, 940, 64, 941, 942, 431, 55, 432, 433, 949, 64, 950, 951, 447, 55, 448, 449, 957, 64, 958, 959, 455, 55, 456, 457, 981, 64, 982, 983, 467, 55, 468, 469, 985, 64, 986, 987, 471, 55, 472, 473, 989, 64, 990, 991, 475, 55, 476, 477, 961, 64, 962, 963, 513, 55, 514, 515, 973, 64, 974, 975, 525, 55, 526, 527, 977, 64, 978, 979, 538, 55, 539, 540, 993, 64, 994, 995, 575, 55, 576, 577, 1030, 64, 1031, 1032, 645, 55, 646, 647, 1051, 64, 1052, 1053, 653, 55, 654, 655, 1055, 64, 1056, 1057, 662, 55, 663, 664, 1059, 64, 1060, 1061, 687, 55, 688, 689, 1073, 64, 1074, 1075, 691, 55, 692, 693, 1077, 64, 1078, 1079, 700, 55, 701, 702, 1085, 64, 1086, 1087, 741, 55, 742, 743, 1105, 64, 1106, 1107, 749, 55, 750, 751, 1109, 64, 1110, 1111] (by decide +kernel) (by decide +kernel) (by decide +kernel) (by decide +kernel)
