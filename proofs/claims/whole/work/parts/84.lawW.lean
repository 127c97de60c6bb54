set_option maxRecDepth 20000 in
theorem wsL_r1 : ∀ w ∈ wsL_law_r1, w ∈ lw_tbl := fun w h => (goodIn_p wsL_law_r1 [58, 61] (by decide +kernel) (by decide +kernel) w h).1
set_option maxRecDepth 20000 in
theorem wsL_r2 : ∀ w ∈ wsL_law_r2, w ∈ lw_tbl := fun w h => (goodIn_p wsL_law_r2 [66, 70, 89] (by decide +kernel) (by decide +kernel) w h).1
set_option maxRecDepth 20000 in
theorem wsL_r3 : ∀ w ∈ wsL_law_r3, w ∈ lw_tbl := fun w h => (goodIn_p wsL_law_r3 [118, 164, 566] (by decide +kernel) (by decide +kernel) w h).1
set_option maxRecDepth 20000 in
theorem wsL_r4 : ∀ w ∈ wsL_law_r4, w ∈ lw_tbl := fun w h => (goodIn_p wsL_law_r4 [199] (by decide +kernel) (by decide +kernel) w h).1
set_option maxRecDepth 20000 in
theorem wsL_r5 : ∀ w ∈ wsL_law_r5, w ∈ lw_tbl := fun w h => (goodIn_p wsL_law_r5 [202, 205, 209, 213, 641, 644] (by decide +kernel) (by decide +kernel) w h).1
set_option maxRecDepth 20000 in
theorem wsL_r6 : ∀ w ∈ wsL_law_r6, w ∈ lw_tbl := fun w h => (goodIn_p wsL_law_r6 [647, 651, 655, 659, 217, 221] (by decide +kernel) (by decide +kernel) w h).1
set_option maxRecDepth 20000 in
theorem wsL_r7 : ∀ w ∈ wsL_law_r7, w ∈ lw_tbl := fun w h => (goodIn_p wsL_law_r7 [663, 226, 236, 667, 240] (by decide +kernel) (by decide +kernel) w h).1
set_option maxRecDepth 20000 in
theorem wsL_r8 : ∀ w ∈ wsL_law_r8, w ∈ lw_tbl := fun w h => (goodIn_p wsL_law_r8 [244, 248, 251, 254, 671, 258, 675] (by decide +kernel) (by decide +kernel) w h).1
set_option maxRecDepth 20000 in
theorem wsL_r9 : ∀ w ∈ wsL_law_r9, w ∈ lw_tbl := fun w h => (goodIn_p wsL_law_r9 [262, 268, 273, 679] (by decide +kernel) (by decide +kernel) w h).1
set_option maxRecDepth 20000 in
theorem wsL_r10 : ∀ w ∈ wsL_law_r10, w ∈ lw_tbl := fun w h => (goodIn_p wsL_law_r10 [685, 277, 281, 285, 689] (by decide +kernel) (by decide +kernel) w h).1
set_option maxRecDepth 20000 in
theorem wsL_r11 : ∀ w ∈ wsL_law_r11, w ∈ lw_tbl := fun w h => (goodIn_p wsL_law_r11 [693, 289, 293, 697, 701] (by decide +kernel) (by decide +kernel) w h).1
set_option maxRecDepth 20000 in
theorem wsL_r12 : ∀ w ∈ wsL_law_r12, w ∈ lw_tbl := fun w h => (goodIn_p wsL_law_r12 [301, 705, 305, 309, 709] (by decide +kernel) (by decide +kernel) w h).1
set_option maxRecDepth 20000 in
theorem wsL_r13 : ∀ w ∈ wsL_law_r13, w ∈ lw_tbl := fun w h => (goodIn_p wsL_law_r13 [315, 319, 714, 718, 323] (by decide +kernel) (by decide +kernel) w h).1
set_option maxRecDepth 20000 in
theorem wsL_r14 : ∀ w ∈ wsL_law_r14, w ∈ lw_tbl := fun w h => (goodIn_p wsL_law_r14 [328, 332, 337, 722, 341, 345] (by decide +kernel) (by decide +kernel) w h).1
set_option maxRecDepth 20000 in
theorem wsL_r15 : ∀ w ∈ wsL_law_r15, w ∈ lw_tbl := fun w h => (goodIn_p wsL_law_r15 [348, 351, 727, 355, 359, 363] (by decide +kernel) (by decide +kernel) w h).1
set_option maxRecDepth 20000 in
theorem wsL_r16 : ∀ w ∈ wsL_law_r16, w ∈ lw_tbl := fun w h => (goodIn_p wsL_law_r16 [368, 371, 380, 383] (by decide +kernel) (by decide +kernel) w h).1
set_option maxRecDepth 20000 in
theorem wsL_r17 : ∀ w ∈ wsL_law_r17, w ∈ lw_tbl := fun w h => (goodIn_p wsL_law_r17 [388, 393, 396, 400, 404, 408] (by decide +kernel) (by decide +kernel) w h).1
set_option maxRecDepth 20000 in
theorem wsL_r18 : ∀ w ∈ wsL_law_r18, w ∈ lw_tbl := fun w h => (goodIn_p wsL_law_r18 [412, 416, 420, 424, 731, 735] (by decide +kernel) (by decide +kernel) w h).1
set_option maxRecDepth 20000 in
theorem wsL_r19 : ∀ w ∈ wsL_law_r19, w ∈ lw_tbl := fun w h => (goodIn_p wsL_law_r19 [740, 744, 748, 752, 756, 760] (by decide +kernel) (by decide +kernel) w h).1
set_option maxRecDepth 20000 in
theorem wsL_r20 : ∀ w ∈ wsL_law_r20, w ∈ lw_tbl := fun w h => (goodIn_p wsL_law_r20 [764, 767, 771, 775, 779, 783] (by decide +kernel) (by decide +kernel) w h).1
set_option maxRecDepth 20000 in
theorem wsL_r21 : ∀ w ∈ wsL_law_r21, w ∈ lw_tbl := fun w h => (goodIn_p wsL_law_r21 [428, 432, 787, 436, 440, 444] (by decide +kernel) (by decide +kernel) w h).1
set_option maxRecDepth 20000 in
theorem wsL_r22 : ∀ w ∈ wsL_law_r22, w ∈ lw_tbl := fun w h => (goodIn_p wsL_law_r22 [448, 452, 456, 791, 795, 799] (by decide +kernel) (by decide +kernel) w h).1
set_option maxRecDepth 20000 in
theorem wsL_r23 : ∀ w ∈ wsL_law_r23, w ∈ lw_tbl := fun w h => (goodIn_p wsL_law_r23 [803, 460, 464, 807, 468, 472] (by decide +kernel) (by decide +kernel) w h).1
set_option maxRecDepth 20000 in
theorem wsL_r24 : ∀ w ∈ wsL_law_r24, w ∈ lw_tbl := fun w h => (goodIn_p wsL_law_r24 [479, 476, 483, 811, 815, 487] (by decide +kernel) (by decide +kernel) w h).1
set_option maxRecDepth 20000 in
theorem wsL_r25 : ∀ w ∈ wsL_law_r25, w ∈ lw_tbl := fun w h => (goodIn_p wsL_law_r25 [492, 495, 499, 504] (by decide +kernel) (by decide +kernel) w h).1
set_option maxRecDepth 20000 in
theorem wsL_r26 : ∀ w ∈ wsL_law_r26, w ∈ lw_tbl := fun w h => (goodIn_p wsL_law_r26 [513, 819, 824, 827, 517, 831] (by decide +kernel) (by decide +kernel) w h).1
set_option maxRecDepth 20000 in
theorem wsL_r27 : ∀ w ∈ wsL_law_r27, w ∈ lw_tbl := fun w h => (goodIn_p wsL_law_r27 [521, 835, 525, 529, 839, 533] (by decide +kernel) (by decide +kernel) w h).1
set_option maxRecDepth 20000 in
theorem wsL_r28 : ∀ w ∈ wsL_law_r28, w ∈ lw_tbl := fun w h => (goodIn_p wsL_law_r28 [537, 545, 549, 843, 847] (by decide +kernel) (by decide +kernel) w h).1
set_option maxRecDepth 20000 in
theorem wsL_r29 : ∀ w ∈ wsL_law_r29, w ∈ lw_tbl := fun w h => (goodIn_p wsL_law_r29 [850, 553, 557, 854, 857, 561] (by decide +kernel) (by decide +kernel) w h).1
set_option maxRecDepth 20000 in
theorem wsL_r30 : ∀ w ∈ wsL_law_r30, w ∈ lw_tbl := fun w h => (goodIn_p wsL_law_r30 [861] (by decide +kernel) (by decide +kernel) w h).1
set_option maxRecDepth 20000 in
theorem inX6 : ∀ w ∈ wsX60, w ∈ lw_tbl := fun w h => (goodIn_p wsX60 [] (by decide +kernel) (by decide +kernel) w h).1
set_option maxRecDepth 20000 in
theorem inX7 : ∀ w ∈ wsX70, w ∈ lw_tbl := fun w h => (goodIn_p wsX70 [] (by decide +kernel) (by decide +kernel) w h).1
set_option maxRecDepth 20000 in
theorem inX4 : ∀ w ∈ wsX40, w ∈ lw_tbl := fun w h => (goodIn_p wsX40 [] (by decide +kernel) (by decide +kernel) w h).1
set_option maxRecDepth 20000 in
theorem inX2 : ∀ w ∈ wsX20, w ∈ lw_tbl := fun w h => (goodIn_p wsX20 [] (by decide +kernel) (by decide +kernel) w h).1
set_option maxRecDepth 20000 in
theorem inX3 : ∀ w ∈ wsX30, w ∈ lw_tbl := fun w h => (goodIn_p wsX30 [] (by decide +kernel) (by decide +kernel) w h).1
set_option maxRecDepth 20000 in
theorem inX0 : ∀ w ∈ wsX00, w ∈ lw_tbl := fun w h => (goodIn_p wsX00 [] (by decide +kernel) (by decide +kernel) w h).1
theorem ap_in {a b T : List Cond} (ha : ∀ w ∈ a, w ∈ T) (hb : ∀ w ∈ b, w ∈ T) : ∀ w ∈ a ++ b, w ∈ T := fun w h => (List.mem_append.mp h).elim (ha w) (hb w)
theorem wsL_law_in : ∀ w ∈ wsL_law, w ∈ lw_tbl := ap_in (ap_in (ap_in (ap_in (ap_in (ap_in (ap_in (ap_in wsL_r1 (ap_in wsL_r2 (ap_in wsL_r3 (ap_in wsL_r4 (ap_in wsL_r5 (ap_in wsL_r6 (ap_in wsL_r7 (ap_in wsL_r8 (ap_in wsL_r9 (ap_in wsL_r10 (ap_in wsL_r11 (ap_in wsL_r12 (ap_in wsL_r13 (ap_in wsL_r14 (ap_in wsL_r15 (ap_in wsL_r16 (ap_in wsL_r17 (ap_in wsL_r18 (ap_in wsL_r19 (ap_in wsL_r20 (ap_in wsL_r21 (ap_in wsL_r22 (ap_in wsL_r23 (ap_in wsL_r24 (ap_in wsL_r25 (ap_in wsL_r26 (ap_in wsL_r27 (ap_in wsL_r28 (ap_in wsL_r29 wsL_r30))))))))))))))))))))))))))))) inX6) inX7) inX4) inX2) inX3) inX0) (fun _ h => absurd h List.not_mem_nil)
