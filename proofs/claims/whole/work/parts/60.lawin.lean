set_option maxRecDepth 20000 in
theorem lwin_r1 : ∀ w ∈ wsL_law_r1, w ∈ lw_tbl := fun w h => (goodIn_p wsL_law_r1 [68, 71] rfl (by decide +kernel) w h).1
set_option maxRecDepth 20000 in
theorem lwin_r2 : ∀ w ∈ wsL_law_r2, w ∈ lw_tbl := fun w h => (goodIn_p wsL_law_r2 [76] rfl (by decide +kernel) w h).1
set_option maxRecDepth 20000 in
theorem lwin_r3 : ∀ w ∈ wsL_law_r3, w ∈ lw_tbl := fun w h => (goodIn_p wsL_law_r3 [82, 89, 93] rfl (by decide +kernel) w h).1
set_option maxRecDepth 20000 in
theorem lwin_r4 : ∀ w ∈ wsL_law_r4, w ∈ lw_tbl := fun w h => (goodIn_p wsL_law_r4 [97, 134, 172, 182] rfl (by decide +kernel) w h).1
set_option maxRecDepth 20000 in
theorem lwin_r5 : ∀ w ∈ wsL_law_r5, w ∈ lw_tbl := fun w h => (goodIn_p wsL_law_r5 [220, 240, 663] rfl (by decide +kernel) w h).1
set_option maxRecDepth 20000 in
theorem lwin_r6 : ∀ w ∈ wsL_law_r6, w ∈ lw_tbl := fun w h => (goodIn_p wsL_law_r6 [670] rfl (by decide +kernel) w h).1
set_option maxRecDepth 20000 in
theorem lwin_r7 : ∀ w ∈ wsL_law_r7, w ∈ lw_tbl := fun w h => (goodIn_p wsL_law_r7 [284, 289, 803] rfl (by decide +kernel) w h).1
set_option maxRecDepth 20000 in
theorem lwin_r8 : ∀ w ∈ wsL_law_r8, w ∈ lw_tbl := fun w h => (goodIn_p wsL_law_r8 [807, 811, 293, 297, 301, 305] rfl (by decide +kernel) w h).1
set_option maxRecDepth 20000 in
theorem lwin_r9 : ∀ w ∈ wsL_law_r9, w ∈ lw_tbl := fun w h => (goodIn_p wsL_law_r9 [309, 313, 815, 819, 823, 829] rfl (by decide +kernel) w h).1
set_option maxRecDepth 20000 in
theorem lwin_r10 : ∀ w ∈ wsL_law_r10, w ∈ lw_tbl := fun w h => (goodIn_p wsL_law_r10 [833, 317, 320, 837, 324] rfl (by decide +kernel) w h).1
set_option maxRecDepth 20000 in
theorem lwin_r11 : ∀ w ∈ wsL_law_r11, w ∈ lw_tbl := fun w h => (goodIn_p wsL_law_r11 [328, 842, 332, 336] rfl (by decide +kernel) w h).1
set_option maxRecDepth 20000 in
theorem lwin_r12 : ∀ w ∈ wsL_law_r12, w ∈ lw_tbl := fun w h => (goodIn_p wsL_law_r12 [340, 344, 348, 352, 355, 359, 363] rfl (by decide +kernel) w h).1
set_option maxRecDepth 20000 in
theorem lwin_r13 : ∀ w ∈ wsL_law_r13, w ∈ lw_tbl := fun w h => (goodIn_p wsL_law_r13 [367, 371, 847, 851, 855] rfl (by decide +kernel) w h).1
set_option maxRecDepth 20000 in
theorem lwin_r14 : ∀ w ∈ wsL_law_r14, w ∈ lw_tbl := fun w h => (goodIn_p wsL_law_r14 [859, 863, 867, 871, 877] rfl (by decide +kernel) w h).1
set_option maxRecDepth 20000 in
theorem lwin_r15 : ∀ w ∈ wsL_law_r15, w ∈ lw_tbl := fun w h => (goodIn_p wsL_law_r15 [375, 380, 941, 897, 901, 384] rfl (by decide +kernel) w h).1
set_option maxRecDepth 20000 in
theorem lwin_r16 : ∀ w ∈ wsL_law_r16, w ∈ lw_tbl := fun w h => (goodIn_p wsL_law_r16 [387, 391, 395, 401, 405] rfl (by decide +kernel) w h).1
set_option maxRecDepth 20000 in
theorem lwin_r17 : ∀ w ∈ wsL_law_r17, w ∈ lw_tbl := fun w h => (goodIn_p wsL_law_r17 [409, 412, 947, 893, 951] rfl (by decide +kernel) w h).1
set_option maxRecDepth 20000 in
theorem lwin_r18 : ∀ w ∈ wsL_law_r18, w ∈ lw_tbl := fun w h => (goodIn_p wsL_law_r18 [955, 958, 419, 423, 962, 966] rfl (by decide +kernel) w h).1
set_option maxRecDepth 20000 in
theorem lwin_r19 : ∀ w ∈ wsL_law_r19, w ∈ lw_tbl := fun w h => (goodIn_p wsL_law_r19 [428, 432, 436, 440, 444, 885] rfl (by decide +kernel) w h).1
set_option maxRecDepth 20000 in
theorem lwin_r20 : ∀ w ∈ wsL_law_r20, w ∈ lw_tbl := fun w h => (goodIn_p wsL_law_r20 [889, 905, 909, 913, 448, 452] rfl (by decide +kernel) w h).1
set_option maxRecDepth 20000 in
theorem lwin_r21 : ∀ w ∈ wsL_law_r21, w ∈ lw_tbl := fun w h => (goodIn_p wsL_law_r21 [458, 462, 466, 917, 921] rfl (by decide +kernel) w h).1
set_option maxRecDepth 20000 in
theorem lwin_r22 : ∀ w ∈ wsL_law_r22, w ∈ lw_tbl := fun w h => (goodIn_p wsL_law_r22 [925, 470, 474, 929, 481] rfl (by decide +kernel) w h).1
set_option maxRecDepth 20000 in
theorem lwin_r23 : ∀ w ∈ wsL_law_r23, w ∈ lw_tbl := fun w h => (goodIn_p wsL_law_r23 [933, 486, 937, 491, 495, 499] rfl (by decide +kernel) w h).1
set_option maxRecDepth 20000 in
theorem lwin_r24 : ∀ w ∈ wsL_law_r24, w ∈ lw_tbl := fun w h => (goodIn_p wsL_law_r24 [503, 508, 512, 516, 520] rfl (by decide +kernel) w h).1
set_option maxRecDepth 20000 in
theorem lwin_r25 : ∀ w ∈ wsL_law_r25, w ∈ lw_tbl := fun w h => (goodIn_p wsL_law_r25 [526, 530, 970, 974, 978] rfl (by decide +kernel) w h).1
set_option maxRecDepth 20000 in
theorem lwin_r26 : ∀ w ∈ wsL_law_r26, w ∈ lw_tbl := fun w h => (goodIn_p wsL_law_r26 [983, 987, 991, 995, 534] rfl (by decide +kernel) w h).1
set_option maxRecDepth 20000 in
theorem lwin_r27 : ∀ w ∈ wsL_law_r27, w ∈ lw_tbl := fun w h => (goodIn_p wsL_law_r27 [881, 538, 542, 999, 546, 550] rfl (by decide +kernel) w h).1
set_option maxRecDepth 20000 in
theorem lwin_r28 : ∀ w ∈ wsL_law_r28, w ∈ lw_tbl := fun w h => (goodIn_p wsL_law_r28 [557, 1003, 1007, 1010, 1014] rfl (by decide +kernel) w h).1
set_option maxRecDepth 20000 in
theorem lwin_r29 : ∀ w ∈ wsL_law_r29, w ∈ lw_tbl := fun w h => (goodIn_p wsL_law_r29 [1018, 1022, 561, 564, 1026, 1030] rfl (by decide +kernel) w h).1
set_option maxRecDepth 20000 in
theorem lwin_r30 : ∀ w ∈ wsL_law_r30, w ∈ lw_tbl := fun w h => (goodIn_p wsL_law_r30 [568, 1034, 572, 1038, 576, 579] rfl (by decide +kernel) w h).1
set_option maxRecDepth 20000 in
theorem lwin_r31 : ∀ w ∈ wsL_law_r31, w ∈ lw_tbl := fun w h => (goodIn_p wsL_law_r31 [1043, 583, 1048, 587, 1053] rfl (by decide +kernel) w h).1
set_option maxRecDepth 20000 in
theorem lwin_r32 : ∀ w ∈ wsL_law_r32, w ∈ lw_tbl := fun w h => (goodIn_p wsL_law_r32 [591, 594, 1057, 1060, 598, 602] rfl (by decide +kernel) w h).1
set_option maxRecDepth 20000 in
theorem lwin_r33 : ∀ w ∈ wsL_law_r33, w ∈ lw_tbl := fun w h => (goodIn_p wsL_law_r33 [607, 610, 783, 787, 791] rfl (by decide +kernel) w h).1
set_option maxRecDepth 20000 in
theorem lwin_r34 : ∀ w ∈ wsL_law_r34, w ∈ lw_tbl := fun w h => (goodIn_p wsL_law_r34 [795, 615, 799, 619, 623] rfl (by decide +kernel) w h).1
set_option maxRecDepth 20000 in
theorem lwin_r35 : ∀ w ∈ wsL_law_r35, w ∈ lw_tbl := fun w h => (goodIn_p wsL_law_r35 [1065, 1069, 629, 633, 1073, 637] rfl (by decide +kernel) w h).1
set_option maxRecDepth 20000 in
theorem lwin_r36 : ∀ w ∈ wsL_law_r36, w ∈ lw_tbl := fun w h => (goodIn_p wsL_law_r36 [641, 645, 1078, 1081, 649, 1085] rfl (by decide +kernel) w h).1
set_option maxRecDepth 20000 in
theorem lwin_r37 : ∀ w ∈ wsL_law_r37, w ∈ lw_tbl := fun w h => (goodIn_p wsL_law_r37 [653, 657, 1089] rfl (by decide +kernel) w h).1
set_option maxRecDepth 20000 in
theorem lwin_wsX70 : ∀ w ∈ wsX70, w ∈ lw_tbl := fun w h => (goodIn_p wsX70 [] rfl (by decide +kernel) w h).1
set_option maxRecDepth 20000 in
theorem lwin_wsX80 : ∀ w ∈ wsX80, w ∈ lw_tbl := fun w h => (goodIn_p wsX80 [] rfl (by decide +kernel) w h).1
set_option maxRecDepth 20000 in
theorem lwin_wsX10 : ∀ w ∈ wsX10, w ∈ lw_tbl := fun w h => (goodIn_p wsX10 [] rfl (by decide +kernel) w h).1
set_option maxRecDepth 20000 in
theorem lwin_wsX20 : ∀ w ∈ wsX20, w ∈ lw_tbl := fun w h => (goodIn_p wsX20 [] rfl (by decide +kernel) w h).1
set_option maxRecDepth 20000 in
theorem lwin_wsX30 : ∀ w ∈ wsX30, w ∈ lw_tbl := fun w h => (goodIn_p wsX30 [] rfl (by decide +kernel) w h).1
set_option maxRecDepth 20000 in
theorem lwin_wsX60 : ∀ w ∈ wsX60, w ∈ lw_tbl := fun w h => (goodIn_p wsX60 [] rfl (by decide +kernel) w h).1
set_option maxRecDepth 20000 in
theorem lwin_wsX00 : ∀ w ∈ wsX00, w ∈ lw_tbl := fun w h => (goodIn_p wsX00 [] rfl (by decide +kernel) w h).1
set_option maxRecDepth 20000 in
theorem lwin_wsX50 : ∀ w ∈ wsX50, w ∈ lw_tbl := fun w h => (goodIn_p wsX50 [] rfl (by decide +kernel) w h).1
set_option maxRecDepth 20000 in
theorem lwin_wsX40 : ∀ w ∈ wsX40, w ∈ lw_tbl := fun w h => (goodIn_p wsX40 [] rfl (by decide +kernel) w h).1
