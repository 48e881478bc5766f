set_option maxRecDepth 100000 in
theorem dX9_init_all0 : ([(0, (.aload_n 0 : Instr), 1), (1, (.invokespecial 1 : Instr), 3), (4, (.aload_n 0 : Instr), 1), (5, (.sipush 530 : Instr), 3), (8, (.newarray .int : Instr), 2), (10, (.putfield 7 : Instr), 3), (13, (.aload_n 0 : Instr), 1), (14, (.sipush 31800 : Instr), 3), (17, (.newarray .int : Instr), 2), (19, (.putfield 13 : Instr), 3), (22, (.aload_n 0 : Instr), 1), (23, (.bipush 8 : Instr), 2), (25, (.newarray .int : Instr), 2), (27, (.putfield 16 : Instr), 3), (30, (.aload_n 0 : Instr), 1), (31, (.bipush 8 : Instr), 2), (33, (.newarray .int : Instr), 2), (35, (.putfield 19 : Instr), 3), (38, (.aload_n 0 : Instr), 1), (39, (.bipush 10 : Instr), 2), (41, (.newarray .int : Instr), 2), (43, (.putfield 22 : Instr), 3), (46, (.aload_n 0 : Instr), 1), (47, (.bipush 10 : Instr), 2), (49, (.newarray .int : Instr), 2), (51, (.putfield 25 : Instr), 3), (54, (.aload_n 0 : Instr), 1), (55, (.bipush 10 : Instr), 2), (57, (.newarray .int : Instr), 2), (59, (.putfield 28 : Instr), 3), (62, (.aload_n 0 : Instr), 1), (63, (.sipush 4096 : Instr), 3), (66, (.newarray .int : Instr), 2), (68, (.putfield 31 : Instr), 3), (71, (.aload_n 0 : Instr), 1), (72, (.sipush 4096 : Instr), 3), (75, (.newarray .int : Instr), 2), (77, (.putfield 34 : Instr), 3), (80, (.aload_n 0 : Instr), 1), (81, (.sipush 4096 : Instr), 3), (84, (.newarray .int : Instr), 2), (86, (.putfield 37 : Instr), 3), (89, (.aload_n 0 : Instr), 1), (90, (.sipush 1024 : Instr), 3), (93, (.newarray .boolean : Instr), 2), (95, (.putfield 40 : Instr), 3), (98, (.aload_n 0 : Instr), 1), (99, (.sipush 1024 : Instr), 3), (102, (.newarray .int : Instr), 2), (104, (.putfield 44 : Instr), 3), (107, (.aload_n 0 : Instr), 1), (108, (.getfield 7 : Instr), 3), (111, (.iconst 0 : Instr), 1), (112, (.sipush 255 : Instr), 3), (115, (.iastore : Instr), 1), (116, (.return_ : Instr), 1)] : List (Nat × Instr × Nat)).all (fun q => decide (decode cX9_init q.1 = .ok (q.2.1, q.2.2))) = true := by decide +kernel
theorem dX9_init_0 : decode cX9_init 0 = .ok (.aload_n 0, 1) := all_d dX9_init_all0 0 rfl
theorem dX9_init_1 : decode cX9_init 1 = .ok (.invokespecial 1, 3) := all_d dX9_init_all0 1 rfl
theorem dX9_init_4 : decode cX9_init 4 = .ok (.aload_n 0, 1) := all_d dX9_init_all0 2 rfl
theorem dX9_init_5 : decode cX9_init 5 = .ok (.sipush 530, 3) := all_d dX9_init_all0 3 rfl
theorem dX9_init_8 : decode cX9_init 8 = .ok (.newarray .int, 2) := all_d dX9_init_all0 4 rfl
theorem dX9_init_10 : decode cX9_init 10 = .ok (.putfield 7, 3) := all_d dX9_init_all0 5 rfl
theorem dX9_init_13 : decode cX9_init 13 = .ok (.aload_n 0, 1) := all_d dX9_init_all0 6 rfl
theorem dX9_init_14 : decode cX9_init 14 = .ok (.sipush 31800, 3) := all_d dX9_init_all0 7 rfl
theorem dX9_init_17 : decode cX9_init 17 = .ok (.newarray .int, 2) := all_d dX9_init_all0 8 rfl
theorem dX9_init_19 : decode cX9_init 19 = .ok (.putfield 13, 3) := all_d dX9_init_all0 9 rfl
theorem dX9_init_22 : decode cX9_init 22 = .ok (.aload_n 0, 1) := all_d dX9_init_all0 10 rfl
theorem dX9_init_23 : decode cX9_init 23 = .ok (.bipush 8, 2) := all_d dX9_init_all0 11 rfl
theorem dX9_init_25 : decode cX9_init 25 = .ok (.newarray .int, 2) := all_d dX9_init_all0 12 rfl
theorem dX9_init_27 : decode cX9_init 27 = .ok (.putfield 16, 3) := all_d dX9_init_all0 13 rfl
theorem dX9_init_30 : decode cX9_init 30 = .ok (.aload_n 0, 1) := all_d dX9_init_all0 14 rfl
theorem dX9_init_31 : decode cX9_init 31 = .ok (.bipush 8, 2) := all_d dX9_init_all0 15 rfl
theorem dX9_init_33 : decode cX9_init 33 = .ok (.newarray .int, 2) := all_d dX9_init_all0 16 rfl
theorem dX9_init_35 : decode cX9_init 35 = .ok (.putfield 19, 3) := all_d dX9_init_all0 17 rfl
theorem dX9_init_38 : decode cX9_init 38 = .ok (.aload_n 0, 1) := all_d dX9_init_all0 18 rfl
theorem dX9_init_39 : decode cX9_init 39 = .ok (.bipush 10, 2) := all_d dX9_init_all0 19 rfl
theorem dX9_init_41 : decode cX9_init 41 = .ok (.newarray .int, 2) := all_d dX9_init_all0 20 rfl
theorem dX9_init_43 : decode cX9_init 43 = .ok (.putfield 22, 3) := all_d dX9_init_all0 21 rfl
theorem dX9_init_46 : decode cX9_init 46 = .ok (.aload_n 0, 1) := all_d dX9_init_all0 22 rfl
theorem dX9_init_47 : decode cX9_init 47 = .ok (.bipush 10, 2) := all_d dX9_init_all0 23 rfl
theorem dX9_init_49 : decode cX9_init 49 = .ok (.newarray .int, 2) := all_d dX9_init_all0 24 rfl
theorem dX9_init_51 : decode cX9_init 51 = .ok (.putfield 25, 3) := all_d dX9_init_all0 25 rfl
theorem dX9_init_54 : decode cX9_init 54 = .ok (.aload_n 0, 1) := all_d dX9_init_all0 26 rfl
theorem dX9_init_55 : decode cX9_init 55 = .ok (.bipush 10, 2) := all_d dX9_init_all0 27 rfl
theorem dX9_init_57 : decode cX9_init 57 = .ok (.newarray .int, 2) := all_d dX9_init_all0 28 rfl
theorem dX9_init_59 : decode cX9_init 59 = .ok (.putfield 28, 3) := all_d dX9_init_all0 29 rfl
theorem dX9_init_62 : decode cX9_init 62 = .ok (.aload_n 0, 1) := all_d dX9_init_all0 30 rfl
theorem dX9_init_63 : decode cX9_init 63 = .ok (.sipush 4096, 3) := all_d dX9_init_all0 31 rfl
theorem dX9_init_66 : decode cX9_init 66 = .ok (.newarray .int, 2) := all_d dX9_init_all0 32 rfl
theorem dX9_init_68 : decode cX9_init 68 = .ok (.putfield 31, 3) := all_d dX9_init_all0 33 rfl
theorem dX9_init_71 : decode cX9_init 71 = .ok (.aload_n 0, 1) := all_d dX9_init_all0 34 rfl
theorem dX9_init_72 : decode cX9_init 72 = .ok (.sipush 4096, 3) := all_d dX9_init_all0 35 rfl
theorem dX9_init_75 : decode cX9_init 75 = .ok (.newarray .int, 2) := all_d dX9_init_all0 36 rfl
theorem dX9_init_77 : decode cX9_init 77 = .ok (.putfield 34, 3) := all_d dX9_init_all0 37 rfl
theorem dX9_init_80 : decode cX9_init 80 = .ok (.aload_n 0, 1) := all_d dX9_init_all0 38 rfl
theorem dX9_init_81 : decode cX9_init 81 = .ok (.sipush 4096, 3) := all_d dX9_init_all0 39 rfl
theorem dX9_init_84 : decode cX9_init 84 = .ok (.newarray .int, 2) := all_d dX9_init_all0 40 rfl
theorem dX9_init_86 : decode cX9_init 86 = .ok (.putfield 37, 3) := all_d dX9_init_all0 41 rfl
theorem dX9_init_89 : decode cX9_init 89 = .ok (.aload_n 0, 1) := all_d dX9_init_all0 42 rfl
theorem dX9_init_90 : decode cX9_init 90 = .ok (.sipush 1024, 3) := all_d dX9_init_all0 43 rfl
theorem dX9_init_93 : decode cX9_init 93 = .ok (.newarray .boolean, 2) := all_d dX9_init_all0 44 rfl
theorem dX9_init_95 : decode cX9_init 95 = .ok (.putfield 40, 3) := all_d dX9_init_all0 45 rfl
theorem dX9_init_98 : decode cX9_init 98 = .ok (.aload_n 0, 1) := all_d dX9_init_all0 46 rfl
theorem dX9_init_99 : decode cX9_init 99 = .ok (.sipush 1024, 3) := all_d dX9_init_all0 47 rfl
theorem dX9_init_102 : decode cX9_init 102 = .ok (.newarray .int, 2) := all_d dX9_init_all0 48 rfl
theorem dX9_init_104 : decode cX9_init 104 = .ok (.putfield 44, 3) := all_d dX9_init_all0 49 rfl
theorem dX9_init_107 : decode cX9_init 107 = .ok (.aload_n 0, 1) := all_d dX9_init_all0 50 rfl
theorem dX9_init_108 : decode cX9_init 108 = .ok (.getfield 7, 3) := all_d dX9_init_all0 51 rfl
theorem dX9_init_111 : decode cX9_init 111 = .ok (.iconst 0, 1) := all_d dX9_init_all0 52 rfl
theorem dX9_init_112 : decode cX9_init 112 = .ok (.sipush 255, 3) := all_d dX9_init_all0 53 rfl
theorem dX9_init_115 : decode cX9_init 115 = .ok (.iastore, 1) := all_d dX9_init_all0 54 rfl
theorem dX9_init_116 : decode cX9_init 116 = .ok (.return_, 1) := all_d dX9_init_all0 55 rfl
set_option maxRecDepth 100000 in
theorem dX9_in_all0 : ([(0, (.iload_n 1 : Instr), 1), (1, (.iload_n 2 : Instr), 1), (2, (.if_icmp .lt 12 : Instr), 3), (5, (.iload_n 1 : Instr), 1), (6, (.iload_n 3 : Instr), 1), (7, (.if_icmp .gt 7 : Instr), 3), (10, (.iconst 1 : Instr), 1), (11, (.goto 4 : Instr), 3), (14, (.iconst 0 : Instr), 1), (15, (.ireturn : Instr), 1)] : List (Nat × Instr × Nat)).all (fun q => decide (decode cX9_in q.1 = .ok (q.2.1, q.2.2))) = true := by decide +kernel
theorem dX9_in_0 : decode cX9_in 0 = .ok (.iload_n 1, 1) := all_d dX9_in_all0 0 rfl
theorem dX9_in_1 : decode cX9_in 1 = .ok (.iload_n 2, 1) := all_d dX9_in_all0 1 rfl
theorem dX9_in_2 : decode cX9_in 2 = .ok (.if_icmp .lt 12, 3) := all_d dX9_in_all0 2 rfl
theorem dX9_in_5 : decode cX9_in 5 = .ok (.iload_n 1, 1) := all_d dX9_in_all0 3 rfl
theorem dX9_in_6 : decode cX9_in 6 = .ok (.iload_n 3, 1) := all_d dX9_in_all0 4 rfl
theorem dX9_in_7 : decode cX9_in 7 = .ok (.if_icmp .gt 7, 3) := all_d dX9_in_all0 5 rfl
theorem dX9_in_10 : decode cX9_in 10 = .ok (.iconst 1, 1) := all_d dX9_in_all0 6 rfl
theorem dX9_in_11 : decode cX9_in 11 = .ok (.goto 4, 3) := all_d dX9_in_all0 7 rfl
theorem dX9_in_14 : decode cX9_in 14 = .ok (.iconst 0, 1) := all_d dX9_in_all0 8 rfl
theorem dX9_in_15 : decode cX9_in 15 = .ok (.ireturn, 1) := all_d dX9_in_all0 9 rfl
set_option maxRecDepth 100000 in
theorem dX9_no_all0 : ([(0, (.aload_n 0 : Instr), 1), (1, (.iload_n 1 : Instr), 1), (2, (.putfield 51 : Instr), 3), (5, (.iconst (-1) : Instr), 1), (6, (.ireturn : Instr), 1)] : List (Nat × Instr × Nat)).all (fun q => decide (decode cX9_no q.1 = .ok (q.2.1, q.2.2))) = true := by decide +kernel
theorem dX9_no_0 : decode cX9_no 0 = .ok (.aload_n 0, 1) := all_d dX9_no_all0 0 rfl
theorem dX9_no_1 : decode cX9_no 1 = .ok (.iload_n 1, 1) := all_d dX9_no_all0 1 rfl
theorem dX9_no_2 : decode cX9_no 2 = .ok (.putfield 51, 3) := all_d dX9_no_all0 2 rfl
theorem dX9_no_5 : decode cX9_no 5 = .ok (.iconst (-1), 1) := all_d dX9_no_all0 3 rfl
theorem dX9_no_6 : decode cX9_no 6 = .ok (.ireturn, 1) := all_d dX9_no_all0 4 rfl
set_option maxRecDepth 100000 in
theorem dX9_not_all0 : ([(0, (.aload_n 0 : Instr), 1), (1, (.iload_n 1 : Instr), 1), (2, (.putfield 51 : Instr), 3), (5, (.iconst 0 : Instr), 1), (6, (.ireturn : Instr), 1)] : List (Nat × Instr × Nat)).all (fun q => decide (decode cX9_not q.1 = .ok (q.2.1, q.2.2))) = true := by decide +kernel
theorem dX9_not_0 : decode cX9_not 0 = .ok (.aload_n 0, 1) := all_d dX9_not_all0 0 rfl
theorem dX9_not_1 : decode cX9_not 1 = .ok (.iload_n 1, 1) := all_d dX9_not_all0 1 rfl
theorem dX9_not_2 : decode cX9_not 2 = .ok (.putfield 51, 3) := all_d dX9_not_all0 2 rfl
theorem dX9_not_5 : decode cX9_not 5 = .ok (.iconst 0, 1) := all_d dX9_not_all0 3 rfl
theorem dX9_not_6 : decode cX9_not 6 = .ok (.ireturn, 1) := all_d dX9_not_all0 4 rfl
set_option maxRecDepth 100000 in
theorem dX9_act_all0 : ([(0, (.aload_n 0 : Instr), 1), (1, (.getfield 54 : Instr), 3), (4, (.bipush 60 : Instr), 2), (6, (.if_icmp .ne 46 : Instr), 3), (9, (.sipush 530 : Instr), 3), (12, (.istore_n 1 : Instr), 1), (13, (.iload_n 1 : Instr), 1), (14, (.sipush 31800 : Instr), 3), (17, (.if_icmp .ge 25 : Instr), 3), (20, (.aload_n 0 : Instr), 1), (21, (.getfield 13 : Instr), 3), (24, (.iload_n 1 : Instr), 1), (25, (.sipush 530 : Instr), 3), (28, (.isub : Instr), 1), (29, (.aload_n 0 : Instr), 1), (30, (.getfield 13 : Instr), 3), (33, (.iload_n 1 : Instr), 1), (34, (.iaload : Instr), 1), (35, (.iastore : Instr), 1), (36, (.iinc 1 1 : Instr), 3), (39, (.goto (-26) : Instr), 3), (42, (.aload_n 0 : Instr), 1), (43, (.dup : Instr), 1), (44, (.getfield 54 : Instr), 3), (47, (.iconst 1 : Instr), 1), (48, (.isub : Instr), 1), (49, (.putfield 54 : Instr), 3), (52, (.iconst 0 : Instr), 1), (53, (.istore_n 1 : Instr), 1), (54, (.iload_n 1 : Instr), 1), (55, (.sipush 530 : Instr), 3), (58, (.if_icmp .ge 30 : Instr), 3), (61, (.aload_n 0 : Instr), 1), (62, (.getfield 13 : Instr), 3), (65, (.sipush 530 : Instr), 3), (68, (.aload_n 0 : Instr), 1), (69, (.getfield 54 : Instr), 3), (72, (.imul : Instr), 1), (73, (.iload_n 1 : Instr), 1), (74, (.iadd : Instr), 1), (75, (.aload_n 0 : Instr), 1), (76, (.getfield 7 : Instr), 3), (79, (.iload_n 1 : Instr), 1), (80, (.iaload : Instr), 1), (81, (.iastore : Instr), 1), (82, (.iinc 1 1 : Instr), 3), (85, (.goto (-31) : Instr), 3), (88, (.aload_n 0 : Instr), 1), (89, (.dup : Instr), 1), (90, (.getfield 54 : Instr), 3), (93, (.iconst 1 : Instr), 1), (94, (.iadd : Instr), 1), (95, (.putfield 54 : Instr), 3), (98, (.aload_n 0 : Instr), 1), (99, (.iconst 0 : Instr), 1), (100, (.putfield 51 : Instr), 3), (103, (.return_ : Instr), 1)] : List (Nat × Instr × Nat)).all (fun q => decide (decode cX9_act q.1 = .ok (q.2.1, q.2.2))) = true := by decide +kernel
theorem dX9_act_0 : decode cX9_act 0 = .ok (.aload_n 0, 1) := all_d dX9_act_all0 0 rfl
theorem dX9_act_1 : decode cX9_act 1 = .ok (.getfield 54, 3) := all_d dX9_act_all0 1 rfl
theorem dX9_act_4 : decode cX9_act 4 = .ok (.bipush 60, 2) := all_d dX9_act_all0 2 rfl
theorem dX9_act_6 : decode cX9_act 6 = .ok (.if_icmp .ne 46, 3) := all_d dX9_act_all0 3 rfl
theorem dX9_act_9 : decode cX9_act 9 = .ok (.sipush 530, 3) := all_d dX9_act_all0 4 rfl
theorem dX9_act_12 : decode cX9_act 12 = .ok (.istore_n 1, 1) := all_d dX9_act_all0 5 rfl
theorem dX9_act_13 : decode cX9_act 13 = .ok (.iload_n 1, 1) := all_d dX9_act_all0 6 rfl
theorem dX9_act_14 : decode cX9_act 14 = .ok (.sipush 31800, 3) := all_d dX9_act_all0 7 rfl
theorem dX9_act_17 : decode cX9_act 17 = .ok (.if_icmp .ge 25, 3) := all_d dX9_act_all0 8 rfl
theorem dX9_act_20 : decode cX9_act 20 = .ok (.aload_n 0, 1) := all_d dX9_act_all0 9 rfl
theorem dX9_act_21 : decode cX9_act 21 = .ok (.getfield 13, 3) := all_d dX9_act_all0 10 rfl
theorem dX9_act_24 : decode cX9_act 24 = .ok (.iload_n 1, 1) := all_d dX9_act_all0 11 rfl
theorem dX9_act_25 : decode cX9_act 25 = .ok (.sipush 530, 3) := all_d dX9_act_all0 12 rfl
theorem dX9_act_28 : decode cX9_act 28 = .ok (.isub, 1) := all_d dX9_act_all0 13 rfl
theorem dX9_act_29 : decode cX9_act 29 = .ok (.aload_n 0, 1) := all_d dX9_act_all0 14 rfl
theorem dX9_act_30 : decode cX9_act 30 = .ok (.getfield 13, 3) := all_d dX9_act_all0 15 rfl
theorem dX9_act_33 : decode cX9_act 33 = .ok (.iload_n 1, 1) := all_d dX9_act_all0 16 rfl
theorem dX9_act_34 : decode cX9_act 34 = .ok (.iaload, 1) := all_d dX9_act_all0 17 rfl
theorem dX9_act_35 : decode cX9_act 35 = .ok (.iastore, 1) := all_d dX9_act_all0 18 rfl
theorem dX9_act_36 : decode cX9_act 36 = .ok (.iinc 1 1, 3) := all_d dX9_act_all0 19 rfl
theorem dX9_act_39 : decode cX9_act 39 = .ok (.goto (-26), 3) := all_d dX9_act_all0 20 rfl
theorem dX9_act_42 : decode cX9_act 42 = .ok (.aload_n 0, 1) := all_d dX9_act_all0 21 rfl
theorem dX9_act_43 : decode cX9_act 43 = .ok (.dup, 1) := all_d dX9_act_all0 22 rfl
theorem dX9_act_44 : decode cX9_act 44 = .ok (.getfield 54, 3) := all_d dX9_act_all0 23 rfl
theorem dX9_act_47 : decode cX9_act 47 = .ok (.iconst 1, 1) := all_d dX9_act_all0 24 rfl
theorem dX9_act_48 : decode cX9_act 48 = .ok (.isub, 1) := all_d dX9_act_all0 25 rfl
theorem dX9_act_49 : decode cX9_act 49 = .ok (.putfield 54, 3) := all_d dX9_act_all0 26 rfl
theorem dX9_act_52 : decode cX9_act 52 = .ok (.iconst 0, 1) := all_d dX9_act_all0 27 rfl
theorem dX9_act_53 : decode cX9_act 53 = .ok (.istore_n 1, 1) := all_d dX9_act_all0 28 rfl
theorem dX9_act_54 : decode cX9_act 54 = .ok (.iload_n 1, 1) := all_d dX9_act_all0 29 rfl
theorem dX9_act_55 : decode cX9_act 55 = .ok (.sipush 530, 3) := all_d dX9_act_all0 30 rfl
theorem dX9_act_58 : decode cX9_act 58 = .ok (.if_icmp .ge 30, 3) := all_d dX9_act_all0 31 rfl
theorem dX9_act_61 : decode cX9_act 61 = .ok (.aload_n 0, 1) := all_d dX9_act_all0 32 rfl
theorem dX9_act_62 : decode cX9_act 62 = .ok (.getfield 13, 3) := all_d dX9_act_all0 33 rfl
theorem dX9_act_65 : decode cX9_act 65 = .ok (.sipush 530, 3) := all_d dX9_act_all0 34 rfl
theorem dX9_act_68 : decode cX9_act 68 = .ok (.aload_n 0, 1) := all_d dX9_act_all0 35 rfl
theorem dX9_act_69 : decode cX9_act 69 = .ok (.getfield 54, 3) := all_d dX9_act_all0 36 rfl
theorem dX9_act_72 : decode cX9_act 72 = .ok (.imul, 1) := all_d dX9_act_all0 37 rfl
theorem dX9_act_73 : decode cX9_act 73 = .ok (.iload_n 1, 1) := all_d dX9_act_all0 38 rfl
theorem dX9_act_74 : decode cX9_act 74 = .ok (.iadd, 1) := all_d dX9_act_all0 39 rfl
theorem dX9_act_75 : decode cX9_act 75 = .ok (.aload_n 0, 1) := all_d dX9_act_all0 40 rfl
theorem dX9_act_76 : decode cX9_act 76 = .ok (.getfield 7, 3) := all_d dX9_act_all0 41 rfl
theorem dX9_act_79 : decode cX9_act 79 = .ok (.iload_n 1, 1) := all_d dX9_act_all0 42 rfl
theorem dX9_act_80 : decode cX9_act 80 = .ok (.iaload, 1) := all_d dX9_act_all0 43 rfl
theorem dX9_act_81 : decode cX9_act 81 = .ok (.iastore, 1) := all_d dX9_act_all0 44 rfl
theorem dX9_act_82 : decode cX9_act 82 = .ok (.iinc 1 1, 3) := all_d dX9_act_all0 45 rfl
theorem dX9_act_85 : decode cX9_act 85 = .ok (.goto (-31), 3) := all_d dX9_act_all0 46 rfl
theorem dX9_act_88 : decode cX9_act 88 = .ok (.aload_n 0, 1) := all_d dX9_act_all0 47 rfl
theorem dX9_act_89 : decode cX9_act 89 = .ok (.dup, 1) := all_d dX9_act_all0 48 rfl
theorem dX9_act_90 : decode cX9_act 90 = .ok (.getfield 54, 3) := all_d dX9_act_all0 49 rfl
theorem dX9_act_93 : decode cX9_act 93 = .ok (.iconst 1, 1) := all_d dX9_act_all0 50 rfl
theorem dX9_act_94 : decode cX9_act 94 = .ok (.iadd, 1) := all_d dX9_act_all0 51 rfl
theorem dX9_act_95 : decode cX9_act 95 = .ok (.putfield 54, 3) := all_d dX9_act_all0 52 rfl
theorem dX9_act_98 : decode cX9_act 98 = .ok (.aload_n 0, 1) := all_d dX9_act_all0 53 rfl
theorem dX9_act_99 : decode cX9_act 99 = .ok (.iconst 0, 1) := all_d dX9_act_all0 54 rfl
theorem dX9_act_100 : decode cX9_act 100 = .ok (.putfield 51, 3) := all_d dX9_act_all0 55 rfl
theorem dX9_act_103 : decode cX9_act 103 = .ok (.return_, 1) := all_d dX9_act_all0 56 rfl
set_option maxRecDepth 100000 in
theorem dX9_undo_all0 : ([(0, (.aload_n 0 : Instr), 1), (1, (.iconst 0 : Instr), 1), (2, (.putfield 47 : Instr), 3), (5, (.aload_n 0 : Instr), 1), (6, (.getfield 54 : Instr), 3), (9, (.ifCond .ne 5 : Instr), 3), (12, (.iconst 0 : Instr), 1), (13, (.ireturn : Instr), 1), (14, (.aload_n 0 : Instr), 1), (15, (.dup : Instr), 1), (16, (.getfield 54 : Instr), 3), (19, (.iconst 1 : Instr), 1), (20, (.isub : Instr), 1), (21, (.putfield 54 : Instr), 3), (24, (.iconst 0 : Instr), 1), (25, (.istore_n 1 : Instr), 1), (26, (.iload_n 1 : Instr), 1), (27, (.sipush 530 : Instr), 3), (30, (.if_icmp .ge 30 : Instr), 3), (33, (.aload_n 0 : Instr), 1), (34, (.getfield 7 : Instr), 3), (37, (.iload_n 1 : Instr), 1), (38, (.aload_n 0 : Instr), 1), (39, (.getfield 13 : Instr), 3), (42, (.sipush 530 : Instr), 3), (45, (.aload_n 0 : Instr), 1), (46, (.getfield 54 : Instr), 3), (49, (.imul : Instr), 1), (50, (.iload_n 1 : Instr), 1), (51, (.iadd : Instr), 1), (52, (.iaload : Instr), 1), (53, (.iastore : Instr), 1), (54, (.iinc 1 1 : Instr), 3), (57, (.goto (-31) : Instr), 3), (60, (.iconst 0 : Instr), 1), (61, (.istore_n 1 : Instr), 1), (62, (.iconst 0 : Instr), 1), (63, (.istore_n 2 : Instr), 1), (64, (.iload_n 2 : Instr), 1), (65, (.aload_n 0 : Instr), 1), (66, (.getfield 57 : Instr), 3), (69, (.if_icmp .ge 70 : Instr), 3), (72, (.aload_n 0 : Instr), 1), (73, (.aload_n 0 : Instr), 1), (74, (.getfield 22 : Instr), 3), (77, (.iload_n 2 : Instr), 1), (78, (.iaload : Instr), 1), (79, (.aload_n 0 : Instr), 1), (80, (.getfield 25 : Instr), 3), (83, (.iload_n 2 : Instr), 1), (84, (.iaload : Instr), 1), (85, (.invokevirtual 60 : Instr), 3), (88, (.ifCond .ne 6 : Instr), 3), (91, (.goto 42 : Instr), 3), (94, (.aload_n 0 : Instr), 1), (95, (.getfield 22 : Instr), 3), (98, (.iload_n 1 : Instr), 1), (99, (.aload_n 0 : Instr), 1), (100, (.getfield 22 : Instr), 3), (103, (.iload_n 2 : Instr), 1), (104, (.iaload : Instr), 1), (105, (.iastore : Instr), 1), (106, (.aload_n 0 : Instr), 1), (107, (.getfield 25 : Instr), 3), (110, (.iload_n 1 : Instr), 1), (111, (.aload_n 0 : Instr), 1), (112, (.getfield 25 : Instr), 3), (115, (.iload_n 2 : Instr), 1), (116, (.iaload : Instr), 1), (117, (.iastore : Instr), 1), (118, (.aload_n 0 : Instr), 1), (119, (.getfield 28 : Instr), 3), (122, (.iload_n 1 : Instr), 1), (123, (.aload_n 0 : Instr), 1), (124, (.getfield 28 : Instr), 3), (127, (.iload_n 2 : Instr), 1), (128, (.iaload : Instr), 1), (129, (.iastore : Instr), 1), (130, (.iinc 1 1 : Instr), 3), (133, (.iinc 2 1 : Instr), 3)] : List (Nat × Instr × Nat)).all (fun q => decide (decode cX9_undo q.1 = .ok (q.2.1, q.2.2))) = true := by decide +kernel
theorem dX9_undo_0 : decode cX9_undo 0 = .ok (.aload_n 0, 1) := all_d dX9_undo_all0 0 rfl
theorem dX9_undo_1 : decode cX9_undo 1 = .ok (.iconst 0, 1) := all_d dX9_undo_all0 1 rfl
theorem dX9_undo_2 : decode cX9_undo 2 = .ok (.putfield 47, 3) := all_d dX9_undo_all0 2 rfl
theorem dX9_undo_5 : decode cX9_undo 5 = .ok (.aload_n 0, 1) := all_d dX9_undo_all0 3 rfl
theorem dX9_undo_6 : decode cX9_undo 6 = .ok (.getfield 54, 3) := all_d dX9_undo_all0 4 rfl
theorem dX9_undo_9 : decode cX9_undo 9 = .ok (.ifCond .ne 5, 3) := all_d dX9_undo_all0 5 rfl
theorem dX9_undo_12 : decode cX9_undo 12 = .ok (.iconst 0, 1) := all_d dX9_undo_all0 6 rfl
theorem dX9_undo_13 : decode cX9_undo 13 = .ok (.ireturn, 1) := all_d dX9_undo_all0 7 rfl
theorem dX9_undo_14 : decode cX9_undo 14 = .ok (.aload_n 0, 1) := all_d dX9_undo_all0 8 rfl
theorem dX9_undo_15 : decode cX9_undo 15 = .ok (.dup, 1) := all_d dX9_undo_all0 9 rfl
theorem dX9_undo_16 : decode cX9_undo 16 = .ok (.getfield 54, 3) := all_d dX9_undo_all0 10 rfl
theorem dX9_undo_19 : decode cX9_undo 19 = .ok (.iconst 1, 1) := all_d dX9_undo_all0 11 rfl
theorem dX9_undo_20 : decode cX9_undo 20 = .ok (.isub, 1) := all_d dX9_undo_all0 12 rfl
theorem dX9_undo_21 : decode cX9_undo 21 = .ok (.putfield 54, 3) := all_d dX9_undo_all0 13 rfl
theorem dX9_undo_24 : decode cX9_undo 24 = .ok (.iconst 0, 1) := all_d dX9_undo_all0 14 rfl
theorem dX9_undo_25 : decode cX9_undo 25 = .ok (.istore_n 1, 1) := all_d dX9_undo_all0 15 rfl
theorem dX9_undo_26 : decode cX9_undo 26 = .ok (.iload_n 1, 1) := all_d dX9_undo_all0 16 rfl
theorem dX9_undo_27 : decode cX9_undo 27 = .ok (.sipush 530, 3) := all_d dX9_undo_all0 17 rfl
theorem dX9_undo_30 : decode cX9_undo 30 = .ok (.if_icmp .ge 30, 3) := all_d dX9_undo_all0 18 rfl
theorem dX9_undo_33 : decode cX9_undo 33 = .ok (.aload_n 0, 1) := all_d dX9_undo_all0 19 rfl
theorem dX9_undo_34 : decode cX9_undo 34 = .ok (.getfield 7, 3) := all_d dX9_undo_all0 20 rfl
theorem dX9_undo_37 : decode cX9_undo 37 = .ok (.iload_n 1, 1) := all_d dX9_undo_all0 21 rfl
theorem dX9_undo_38 : decode cX9_undo 38 = .ok (.aload_n 0, 1) := all_d dX9_undo_all0 22 rfl
theorem dX9_undo_39 : decode cX9_undo 39 = .ok (.getfield 13, 3) := all_d dX9_undo_all0 23 rfl
theorem dX9_undo_42 : decode cX9_undo 42 = .ok (.sipush 530, 3) := all_d dX9_undo_all0 24 rfl
theorem dX9_undo_45 : decode cX9_undo 45 = .ok (.aload_n 0, 1) := all_d dX9_undo_all0 25 rfl
theorem dX9_undo_46 : decode cX9_undo 46 = .ok (.getfield 54, 3) := all_d dX9_undo_all0 26 rfl
theorem dX9_undo_49 : decode cX9_undo 49 = .ok (.imul, 1) := all_d dX9_undo_all0 27 rfl
theorem dX9_undo_50 : decode cX9_undo 50 = .ok (.iload_n 1, 1) := all_d dX9_undo_all0 28 rfl
theorem dX9_undo_51 : decode cX9_undo 51 = .ok (.iadd, 1) := all_d dX9_undo_all0 29 rfl
theorem dX9_undo_52 : decode cX9_undo 52 = .ok (.iaload, 1) := all_d dX9_undo_all0 30 rfl
theorem dX9_undo_53 : decode cX9_undo 53 = .ok (.iastore, 1) := all_d dX9_undo_all0 31 rfl
theorem dX9_undo_54 : decode cX9_undo 54 = .ok (.iinc 1 1, 3) := all_d dX9_undo_all0 32 rfl
theorem dX9_undo_57 : decode cX9_undo 57 = .ok (.goto (-31), 3) := all_d dX9_undo_all0 33 rfl
theorem dX9_undo_60 : decode cX9_undo 60 = .ok (.iconst 0, 1) := all_d dX9_undo_all0 34 rfl
theorem dX9_undo_61 : decode cX9_undo 61 = .ok (.istore_n 1, 1) := all_d dX9_undo_all0 35 rfl
theorem dX9_undo_62 : decode cX9_undo 62 = .ok (.iconst 0, 1) := all_d dX9_undo_all0 36 rfl
theorem dX9_undo_63 : decode cX9_undo 63 = .ok (.istore_n 2, 1) := all_d dX9_undo_all0 37 rfl
theorem dX9_undo_64 : decode cX9_undo 64 = .ok (.iload_n 2, 1) := all_d dX9_undo_all0 38 rfl
theorem dX9_undo_65 : decode cX9_undo 65 = .ok (.aload_n 0, 1) := all_d dX9_undo_all0 39 rfl
theorem dX9_undo_66 : decode cX9_undo 66 = .ok (.getfield 57, 3) := all_d dX9_undo_all0 40 rfl
theorem dX9_undo_69 : decode cX9_undo 69 = .ok (.if_icmp .ge 70, 3) := all_d dX9_undo_all0 41 rfl
theorem dX9_undo_72 : decode cX9_undo 72 = .ok (.aload_n 0, 1) := all_d dX9_undo_all0 42 rfl
theorem dX9_undo_73 : decode cX9_undo 73 = .ok (.aload_n 0, 1) := all_d dX9_undo_all0 43 rfl
theorem dX9_undo_74 : decode cX9_undo 74 = .ok (.getfield 22, 3) := all_d dX9_undo_all0 44 rfl
theorem dX9_undo_77 : decode cX9_undo 77 = .ok (.iload_n 2, 1) := all_d dX9_undo_all0 45 rfl
theorem dX9_undo_78 : decode cX9_undo 78 = .ok (.iaload, 1) := all_d dX9_undo_all0 46 rfl
theorem dX9_undo_79 : decode cX9_undo 79 = .ok (.aload_n 0, 1) := all_d dX9_undo_all0 47 rfl
theorem dX9_undo_80 : decode cX9_undo 80 = .ok (.getfield 25, 3) := all_d dX9_undo_all0 48 rfl
theorem dX9_undo_83 : decode cX9_undo 83 = .ok (.iload_n 2, 1) := all_d dX9_undo_all0 49 rfl
theorem dX9_undo_84 : decode cX9_undo 84 = .ok (.iaload, 1) := all_d dX9_undo_all0 50 rfl
theorem dX9_undo_85 : decode cX9_undo 85 = .ok (.invokevirtual 60, 3) := all_d dX9_undo_all0 51 rfl
theorem dX9_undo_88 : decode cX9_undo 88 = .ok (.ifCond .ne 6, 3) := all_d dX9_undo_all0 52 rfl
theorem dX9_undo_91 : decode cX9_undo 91 = .ok (.goto 42, 3) := all_d dX9_undo_all0 53 rfl
theorem dX9_undo_94 : decode cX9_undo 94 = .ok (.aload_n 0, 1) := all_d dX9_undo_all0 54 rfl
theorem dX9_undo_95 : decode cX9_undo 95 = .ok (.getfield 22, 3) := all_d dX9_undo_all0 55 rfl
theorem dX9_undo_98 : decode cX9_undo 98 = .ok (.iload_n 1, 1) := all_d dX9_undo_all0 56 rfl
theorem dX9_undo_99 : decode cX9_undo 99 = .ok (.aload_n 0, 1) := all_d dX9_undo_all0 57 rfl
theorem dX9_undo_100 : decode cX9_undo 100 = .ok (.getfield 22, 3) := all_d dX9_undo_all0 58 rfl
theorem dX9_undo_103 : decode cX9_undo 103 = .ok (.iload_n 2, 1) := all_d dX9_undo_all0 59 rfl
theorem dX9_undo_104 : decode cX9_undo 104 = .ok (.iaload, 1) := all_d dX9_undo_all0 60 rfl
theorem dX9_undo_105 : decode cX9_undo 105 = .ok (.iastore, 1) := all_d dX9_undo_all0 61 rfl
theorem dX9_undo_106 : decode cX9_undo 106 = .ok (.aload_n 0, 1) := all_d dX9_undo_all0 62 rfl
theorem dX9_undo_107 : decode cX9_undo 107 = .ok (.getfield 25, 3) := all_d dX9_undo_all0 63 rfl
theorem dX9_undo_110 : decode cX9_undo 110 = .ok (.iload_n 1, 1) := all_d dX9_undo_all0 64 rfl
theorem dX9_undo_111 : decode cX9_undo 111 = .ok (.aload_n 0, 1) := all_d dX9_undo_all0 65 rfl
theorem dX9_undo_112 : decode cX9_undo 112 = .ok (.getfield 25, 3) := all_d dX9_undo_all0 66 rfl
theorem dX9_undo_115 : decode cX9_undo 115 = .ok (.iload_n 2, 1) := all_d dX9_undo_all0 67 rfl
theorem dX9_undo_116 : decode cX9_undo 116 = .ok (.iaload, 1) := all_d dX9_undo_all0 68 rfl
theorem dX9_undo_117 : decode cX9_undo 117 = .ok (.iastore, 1) := all_d dX9_undo_all0 69 rfl
theorem dX9_undo_118 : decode cX9_undo 118 = .ok (.aload_n 0, 1) := all_d dX9_undo_all0 70 rfl
theorem dX9_undo_119 : decode cX9_undo 119 = .ok (.getfield 28, 3) := all_d dX9_undo_all0 71 rfl
theorem dX9_undo_122 : decode cX9_undo 122 = .ok (.iload_n 1, 1) := all_d dX9_undo_all0 72 rfl
theorem dX9_undo_123 : decode cX9_undo 123 = .ok (.aload_n 0, 1) := all_d dX9_undo_all0 73 rfl
theorem dX9_undo_124 : decode cX9_undo 124 = .ok (.getfield 28, 3) := all_d dX9_undo_all0 74 rfl
theorem dX9_undo_127 : decode cX9_undo 127 = .ok (.iload_n 2, 1) := all_d dX9_undo_all0 75 rfl
theorem dX9_undo_128 : decode cX9_undo 128 = .ok (.iaload, 1) := all_d dX9_undo_all0 76 rfl
theorem dX9_undo_129 : decode cX9_undo 129 = .ok (.iastore, 1) := all_d dX9_undo_all0 77 rfl
theorem dX9_undo_130 : decode cX9_undo 130 = .ok (.iinc 1 1, 3) := all_d dX9_undo_all0 78 rfl
theorem dX9_undo_133 : decode cX9_undo 133 = .ok (.iinc 2 1, 3) := all_d dX9_undo_all0 79 rfl
set_option maxRecDepth 100000 in
theorem dX9_undo_all1 : ([(136, (.goto (-72) : Instr), 3), (139, (.aload_n 0 : Instr), 1), (140, (.iload_n 1 : Instr), 1), (141, (.putfield 57 : Instr), 3), (144, (.iconst 1 : Instr), 1), (145, (.ireturn : Instr), 1)] : List (Nat × Instr × Nat)).all (fun q => decide (decode cX9_undo q.1 = .ok (q.2.1, q.2.2))) = true := by decide +kernel
theorem dX9_undo_136 : decode cX9_undo 136 = .ok (.goto (-72), 3) := all_d dX9_undo_all1 0 rfl
theorem dX9_undo_139 : decode cX9_undo 139 = .ok (.aload_n 0, 1) := all_d dX9_undo_all1 1 rfl
theorem dX9_undo_140 : decode cX9_undo 140 = .ok (.iload_n 1, 1) := all_d dX9_undo_all1 2 rfl
theorem dX9_undo_141 : decode cX9_undo 141 = .ok (.putfield 57, 3) := all_d dX9_undo_all1 3 rfl
theorem dX9_undo_144 : decode cX9_undo 144 = .ok (.iconst 1, 1) := all_d dX9_undo_all1 4 rfl
theorem dX9_undo_145 : decode cX9_undo 145 = .ok (.ireturn, 1) := all_d dX9_undo_all1 5 rfl
set_option maxRecDepth 100000 in
theorem dX9_isMeter_all0 : ([(0, (.aload_n 0 : Instr), 1), (1, (.iload_n 1 : Instr), 1), (2, (.iconst 0 : Instr), 1), (3, (.aload_n 0 : Instr), 1), (4, (.getfield 7 : Instr), 3), (7, (.iconst 1 : Instr), 1), (8, (.iaload : Instr), 1), (9, (.iconst 1 : Instr), 1), (10, (.isub : Instr), 1), (11, (.invokevirtual 64 : Instr), 3), (14, (.ireturn : Instr), 1)] : List (Nat × Instr × Nat)).all (fun q => decide (decode cX9_isMeter q.1 = .ok (q.2.1, q.2.2))) = true := by decide +kernel
theorem dX9_isMeter_0 : decode cX9_isMeter 0 = .ok (.aload_n 0, 1) := all_d dX9_isMeter_all0 0 rfl
theorem dX9_isMeter_1 : decode cX9_isMeter 1 = .ok (.iload_n 1, 1) := all_d dX9_isMeter_all0 1 rfl
theorem dX9_isMeter_2 : decode cX9_isMeter 2 = .ok (.iconst 0, 1) := all_d dX9_isMeter_all0 2 rfl
theorem dX9_isMeter_3 : decode cX9_isMeter 3 = .ok (.aload_n 0, 1) := all_d dX9_isMeter_all0 3 rfl
theorem dX9_isMeter_4 : decode cX9_isMeter 4 = .ok (.getfield 7, 3) := all_d dX9_isMeter_all0 4 rfl
theorem dX9_isMeter_7 : decode cX9_isMeter 7 = .ok (.iconst 1, 1) := all_d dX9_isMeter_all0 5 rfl
theorem dX9_isMeter_8 : decode cX9_isMeter 8 = .ok (.iaload, 1) := all_d dX9_isMeter_all0 6 rfl
theorem dX9_isMeter_9 : decode cX9_isMeter 9 = .ok (.iconst 1, 1) := all_d dX9_isMeter_all0 7 rfl
theorem dX9_isMeter_10 : decode cX9_isMeter 10 = .ok (.isub, 1) := all_d dX9_isMeter_all0 8 rfl
theorem dX9_isMeter_11 : decode cX9_isMeter 11 = .ok (.invokevirtual 64, 3) := all_d dX9_isMeter_all0 9 rfl
theorem dX9_isMeter_14 : decode cX9_isMeter 14 = .ok (.ireturn, 1) := all_d dX9_isMeter_all0 10 rfl
set_option maxRecDepth 100000 in
theorem dX9_isPart_all0 : ([(0, (.aload_n 0 : Instr), 1), (1, (.iload_n 1 : Instr), 1), (2, (.invokevirtual 68 : Instr), 3), (5, (.ifCond .eq 27 : Instr), 3), (8, (.aload_n 0 : Instr), 1), (9, (.iload_n 2 : Instr), 1), (10, (.iconst 0 : Instr), 1), (11, (.aload_n 0 : Instr), 1), (12, (.getfield 7 : Instr), 3), (15, (.bipush 10 : Instr), 2), (17, (.iload_n 1 : Instr), 1), (18, (.iadd : Instr), 1), (19, (.iaload : Instr), 1), (20, (.iconst 1 : Instr), 1), (21, (.isub : Instr), 1), (22, (.invokevirtual 64 : Instr), 3), (25, (.ifCond .eq 7 : Instr), 3), (28, (.iconst 1 : Instr), 1), (29, (.goto 4 : Instr), 3), (32, (.iconst 0 : Instr), 1), (33, (.ireturn : Instr), 1)] : List (Nat × Instr × Nat)).all (fun q => decide (decode cX9_isPart q.1 = .ok (q.2.1, q.2.2))) = true := by decide +kernel
theorem dX9_isPart_0 : decode cX9_isPart 0 = .ok (.aload_n 0, 1) := all_d dX9_isPart_all0 0 rfl
theorem dX9_isPart_1 : decode cX9_isPart 1 = .ok (.iload_n 1, 1) := all_d dX9_isPart_all0 1 rfl
theorem dX9_isPart_2 : decode cX9_isPart 2 = .ok (.invokevirtual 68, 3) := all_d dX9_isPart_all0 2 rfl
theorem dX9_isPart_5 : decode cX9_isPart 5 = .ok (.ifCond .eq 27, 3) := all_d dX9_isPart_all0 3 rfl
theorem dX9_isPart_8 : decode cX9_isPart 8 = .ok (.aload_n 0, 1) := all_d dX9_isPart_all0 4 rfl
theorem dX9_isPart_9 : decode cX9_isPart 9 = .ok (.iload_n 2, 1) := all_d dX9_isPart_all0 5 rfl
theorem dX9_isPart_10 : decode cX9_isPart 10 = .ok (.iconst 0, 1) := all_d dX9_isPart_all0 6 rfl
theorem dX9_isPart_11 : decode cX9_isPart 11 = .ok (.aload_n 0, 1) := all_d dX9_isPart_all0 7 rfl
theorem dX9_isPart_12 : decode cX9_isPart 12 = .ok (.getfield 7, 3) := all_d dX9_isPart_all0 8 rfl
theorem dX9_isPart_15 : decode cX9_isPart 15 = .ok (.bipush 10, 2) := all_d dX9_isPart_all0 9 rfl
theorem dX9_isPart_17 : decode cX9_isPart 17 = .ok (.iload_n 1, 1) := all_d dX9_isPart_all0 10 rfl
theorem dX9_isPart_18 : decode cX9_isPart 18 = .ok (.iadd, 1) := all_d dX9_isPart_all0 11 rfl
theorem dX9_isPart_19 : decode cX9_isPart 19 = .ok (.iaload, 1) := all_d dX9_isPart_all0 12 rfl
theorem dX9_isPart_20 : decode cX9_isPart 20 = .ok (.iconst 1, 1) := all_d dX9_isPart_all0 13 rfl
theorem dX9_isPart_21 : decode cX9_isPart 21 = .ok (.isub, 1) := all_d dX9_isPart_all0 14 rfl
theorem dX9_isPart_22 : decode cX9_isPart 22 = .ok (.invokevirtual 64, 3) := all_d dX9_isPart_all0 15 rfl
theorem dX9_isPart_25 : decode cX9_isPart 25 = .ok (.ifCond .eq 7, 3) := all_d dX9_isPart_all0 16 rfl
theorem dX9_isPart_28 : decode cX9_isPart 28 = .ok (.iconst 1, 1) := all_d dX9_isPart_all0 17 rfl
theorem dX9_isPart_29 : decode cX9_isPart 29 = .ok (.goto 4, 3) := all_d dX9_isPart_all0 18 rfl
theorem dX9_isPart_32 : decode cX9_isPart 32 = .ok (.iconst 0, 1) := all_d dX9_isPart_all0 19 rfl
theorem dX9_isPart_33 : decode cX9_isPart 33 = .ok (.ireturn, 1) := all_d dX9_isPart_all0 20 rfl
set_option maxRecDepth 100000 in
theorem dX9_isNumber_all0 : ([(0, (.aload_n 0 : Instr), 1), (1, (.iload_n 1 : Instr), 1), (2, (.iconst 0 : Instr), 1), (3, (.aload_n 0 : Instr), 1), (4, (.getfield 7 : Instr), 3), (7, (.iconst 0 : Instr), 1), (8, (.iaload : Instr), 1), (9, (.invokevirtual 64 : Instr), 3), (12, (.ireturn : Instr), 1)] : List (Nat × Instr × Nat)).all (fun q => decide (decode cX9_isNumber q.1 = .ok (q.2.1, q.2.2))) = true := by decide +kernel
theorem dX9_isNumber_0 : decode cX9_isNumber 0 = .ok (.aload_n 0, 1) := all_d dX9_isNumber_all0 0 rfl
theorem dX9_isNumber_1 : decode cX9_isNumber 1 = .ok (.iload_n 1, 1) := all_d dX9_isNumber_all0 1 rfl
theorem dX9_isNumber_2 : decode cX9_isNumber 2 = .ok (.iconst 0, 1) := all_d dX9_isNumber_all0 2 rfl
theorem dX9_isNumber_3 : decode cX9_isNumber 3 = .ok (.aload_n 0, 1) := all_d dX9_isNumber_all0 3 rfl
theorem dX9_isNumber_4 : decode cX9_isNumber 4 = .ok (.getfield 7, 3) := all_d dX9_isNumber_all0 4 rfl
theorem dX9_isNumber_7 : decode cX9_isNumber 7 = .ok (.iconst 0, 1) := all_d dX9_isNumber_all0 5 rfl
theorem dX9_isNumber_8 : decode cX9_isNumber 8 = .ok (.iaload, 1) := all_d dX9_isNumber_all0 6 rfl
theorem dX9_isNumber_9 : decode cX9_isNumber 9 = .ok (.invokevirtual 64, 3) := all_d dX9_isNumber_all0 7 rfl
theorem dX9_isNumber_12 : decode cX9_isNumber 12 = .ok (.ireturn, 1) := all_d dX9_isNumber_all0 8 rfl
set_option maxRecDepth 100000 in
theorem dX9_at_all0 : ([(0, (.bipush 18 : Instr), 2), (2, (.iconst 4 : Instr), 1), (3, (.bipush 16 : Instr), 2), (5, (.iload_n 1 : Instr), 1), (6, (.imul : Instr), 1), (7, (.iload_n 2 : Instr), 1), (8, (.iadd : Instr), 1), (9, (.imul : Instr), 1), (10, (.iadd : Instr), 1), (11, (.ireturn : Instr), 1)] : List (Nat × Instr × Nat)).all (fun q => decide (decode cX9_at q.1 = .ok (q.2.1, q.2.2))) = true := by decide +kernel
theorem dX9_at_0 : decode cX9_at 0 = .ok (.bipush 18, 2) := all_d dX9_at_all0 0 rfl
theorem dX9_at_2 : decode cX9_at 2 = .ok (.iconst 4, 1) := all_d dX9_at_all0 1 rfl
theorem dX9_at_3 : decode cX9_at 3 = .ok (.bipush 16, 2) := all_d dX9_at_all0 2 rfl
theorem dX9_at_5 : decode cX9_at 5 = .ok (.iload_n 1, 1) := all_d dX9_at_all0 3 rfl
theorem dX9_at_6 : decode cX9_at 6 = .ok (.imul, 1) := all_d dX9_at_all0 4 rfl
theorem dX9_at_7 : decode cX9_at 7 = .ok (.iload_n 2, 1) := all_d dX9_at_all0 5 rfl
theorem dX9_at_8 : decode cX9_at 8 = .ok (.iadd, 1) := all_d dX9_at_all0 6 rfl
theorem dX9_at_9 : decode cX9_at 9 = .ok (.imul, 1) := all_d dX9_at_all0 7 rfl
theorem dX9_at_10 : decode cX9_at 10 = .ok (.iadd, 1) := all_d dX9_at_all0 8 rfl
theorem dX9_at_11 : decode cX9_at 11 = .ok (.ireturn, 1) := all_d dX9_at_all0 9 rfl
set_option maxRecDepth 100000 in
theorem dX9_range_all0 : ([(0, (.aload_n 0 : Instr), 1), (1, (.iconst 0 : Instr), 1), (2, (.putfield 47 : Instr), 3), (5, (.aload_n 0 : Instr), 1), (6, (.iload_n 1 : Instr), 1), (7, (.iconst 1 : Instr), 1), (8, (.sipush 4095 : Instr), 3), (11, (.invokevirtual 64 : Instr), 3), (14, (.ifCond .ne 9 : Instr), 3), (17, (.aload_n 0 : Instr), 1), (18, (.iconst 1 : Instr), 1), (19, (.invokevirtual 72 : Instr), 3), (22, (.ireturn : Instr), 1), (23, (.aload_n 0 : Instr), 1), (24, (.invokevirtual 75 : Instr), 3), (27, (.aload_n 0 : Instr), 1), (28, (.getfield 7 : Instr), 3), (31, (.iconst 0 : Instr), 1), (32, (.iload_n 1 : Instr), 1), (33, (.iastore : Instr), 1), (34, (.iconst 1 : Instr), 1), (35, (.ireturn : Instr), 1)] : List (Nat × Instr × Nat)).all (fun q => decide (decode cX9_range q.1 = .ok (q.2.1, q.2.2))) = true := by decide +kernel
theorem dX9_range_0 : decode cX9_range 0 = .ok (.aload_n 0, 1) := all_d dX9_range_all0 0 rfl
theorem dX9_range_1 : decode cX9_range 1 = .ok (.iconst 0, 1) := all_d dX9_range_all0 1 rfl
theorem dX9_range_2 : decode cX9_range 2 = .ok (.putfield 47, 3) := all_d dX9_range_all0 2 rfl
theorem dX9_range_5 : decode cX9_range 5 = .ok (.aload_n 0, 1) := all_d dX9_range_all0 3 rfl
theorem dX9_range_6 : decode cX9_range 6 = .ok (.iload_n 1, 1) := all_d dX9_range_all0 4 rfl
theorem dX9_range_7 : decode cX9_range 7 = .ok (.iconst 1, 1) := all_d dX9_range_all0 5 rfl
theorem dX9_range_8 : decode cX9_range 8 = .ok (.sipush 4095, 3) := all_d dX9_range_all0 6 rfl
theorem dX9_range_11 : decode cX9_range 11 = .ok (.invokevirtual 64, 3) := all_d dX9_range_all0 7 rfl
theorem dX9_range_14 : decode cX9_range 14 = .ok (.ifCond .ne 9, 3) := all_d dX9_range_all0 8 rfl
theorem dX9_range_17 : decode cX9_range 17 = .ok (.aload_n 0, 1) := all_d dX9_range_all0 9 rfl
theorem dX9_range_18 : decode cX9_range 18 = .ok (.iconst 1, 1) := all_d dX9_range_all0 10 rfl
theorem dX9_range_19 : decode cX9_range 19 = .ok (.invokevirtual 72, 3) := all_d dX9_range_all0 11 rfl
theorem dX9_range_22 : decode cX9_range 22 = .ok (.ireturn, 1) := all_d dX9_range_all0 12 rfl
theorem dX9_range_23 : decode cX9_range 23 = .ok (.aload_n 0, 1) := all_d dX9_range_all0 13 rfl
theorem dX9_range_24 : decode cX9_range 24 = .ok (.invokevirtual 75, 3) := all_d dX9_range_all0 14 rfl
theorem dX9_range_27 : decode cX9_range 27 = .ok (.aload_n 0, 1) := all_d dX9_range_all0 15 rfl
theorem dX9_range_28 : decode cX9_range 28 = .ok (.getfield 7, 3) := all_d dX9_range_all0 16 rfl
theorem dX9_range_31 : decode cX9_range 31 = .ok (.iconst 0, 1) := all_d dX9_range_all0 17 rfl
theorem dX9_range_32 : decode cX9_range 32 = .ok (.iload_n 1, 1) := all_d dX9_range_all0 18 rfl
theorem dX9_range_33 : decode cX9_range 33 = .ok (.iastore, 1) := all_d dX9_range_all0 19 rfl
theorem dX9_range_34 : decode cX9_range 34 = .ok (.iconst 1, 1) := all_d dX9_range_all0 20 rfl
theorem dX9_range_35 : decode cX9_range 35 = .ok (.ireturn, 1) := all_d dX9_range_all0 21 rfl
set_option maxRecDepth 100000 in
theorem dX9_meter_all0 : ([(0, (.aload_n 0 : Instr), 1), (1, (.iconst 0 : Instr), 1), (2, (.putfield 47 : Instr), 3), (5, (.aload_n 0 : Instr), 1), (6, (.iload_n 1 : Instr), 1), (7, (.iconst 0 : Instr), 1), (8, (.iconst 4 : Instr), 1), (9, (.invokevirtual 64 : Instr), 3), (12, (.ifCond .ne 9 : Instr), 3), (15, (.aload_n 0 : Instr), 1), (16, (.iconst 1 : Instr), 1), (17, (.invokevirtual 78 : Instr), 3), (20, (.ireturn : Instr), 1), (21, (.aload_n 0 : Instr), 1), (22, (.getfield 7 : Instr), 3), (25, (.iconst 1 : Instr), 1), (26, (.iaload : Instr), 1), (27, (.bipush 8 : Instr), 2), (29, (.if_icmp .ne 9 : Instr), 3), (32, (.aload_n 0 : Instr), 1), (33, (.iconst 3 : Instr), 1), (34, (.invokevirtual 78 : Instr), 3), (37, (.ireturn : Instr), 1), (38, (.aload_n 0 : Instr), 1), (39, (.invokevirtual 75 : Instr), 3), (42, (.aload_n 0 : Instr), 1), (43, (.getfield 7 : Instr), 3), (46, (.iconst 2 : Instr), 1), (47, (.aload_n 0 : Instr), 1), (48, (.getfield 7 : Instr), 3), (51, (.iconst 1 : Instr), 1), (52, (.iaload : Instr), 1), (53, (.iadd : Instr), 1), (54, (.iload_n 1 : Instr), 1), (55, (.iastore : Instr), 1), (56, (.aload_n 0 : Instr), 1), (57, (.getfield 7 : Instr), 3), (60, (.bipush 10 : Instr), 2), (62, (.aload_n 0 : Instr), 1), (63, (.getfield 7 : Instr), 3), (66, (.iconst 1 : Instr), 1), (67, (.iaload : Instr), 1), (68, (.iadd : Instr), 1), (69, (.iconst 0 : Instr), 1), (70, (.iastore : Instr), 1), (71, (.aload_n 0 : Instr), 1), (72, (.getfield 7 : Instr), 3), (75, (.iconst 1 : Instr), 1), (76, (.dup2 : Instr), 1), (77, (.iaload : Instr), 1), (78, (.iconst 1 : Instr), 1), (79, (.iadd : Instr), 1), (80, (.iastore : Instr), 1), (81, (.aload_n 0 : Instr), 1), (82, (.getfield 7 : Instr), 3), (85, (.iconst 1 : Instr), 1), (86, (.iaload : Instr), 1), (87, (.iconst 1 : Instr), 1), (88, (.isub : Instr), 1), (89, (.ireturn : Instr), 1)] : List (Nat × Instr × Nat)).all (fun q => decide (decode cX9_meter q.1 = .ok (q.2.1, q.2.2))) = true := by decide +kernel
theorem dX9_meter_0 : decode cX9_meter 0 = .ok (.aload_n 0, 1) := all_d dX9_meter_all0 0 rfl
theorem dX9_meter_1 : decode cX9_meter 1 = .ok (.iconst 0, 1) := all_d dX9_meter_all0 1 rfl
theorem dX9_meter_2 : decode cX9_meter 2 = .ok (.putfield 47, 3) := all_d dX9_meter_all0 2 rfl
theorem dX9_meter_5 : decode cX9_meter 5 = .ok (.aload_n 0, 1) := all_d dX9_meter_all0 3 rfl
theorem dX9_meter_6 : decode cX9_meter 6 = .ok (.iload_n 1, 1) := all_d dX9_meter_all0 4 rfl
theorem dX9_meter_7 : decode cX9_meter 7 = .ok (.iconst 0, 1) := all_d dX9_meter_all0 5 rfl
theorem dX9_meter_8 : decode cX9_meter 8 = .ok (.iconst 4, 1) := all_d dX9_meter_all0 6 rfl
theorem dX9_meter_9 : decode cX9_meter 9 = .ok (.invokevirtual 64, 3) := all_d dX9_meter_all0 7 rfl
theorem dX9_meter_12 : decode cX9_meter 12 = .ok (.ifCond .ne 9, 3) := all_d dX9_meter_all0 8 rfl
theorem dX9_meter_15 : decode cX9_meter 15 = .ok (.aload_n 0, 1) := all_d dX9_meter_all0 9 rfl
theorem dX9_meter_16 : decode cX9_meter 16 = .ok (.iconst 1, 1) := all_d dX9_meter_all0 10 rfl
theorem dX9_meter_17 : decode cX9_meter 17 = .ok (.invokevirtual 78, 3) := all_d dX9_meter_all0 11 rfl
theorem dX9_meter_20 : decode cX9_meter 20 = .ok (.ireturn, 1) := all_d dX9_meter_all0 12 rfl
theorem dX9_meter_21 : decode cX9_meter 21 = .ok (.aload_n 0, 1) := all_d dX9_meter_all0 13 rfl
theorem dX9_meter_22 : decode cX9_meter 22 = .ok (.getfield 7, 3) := all_d dX9_meter_all0 14 rfl
theorem dX9_meter_25 : decode cX9_meter 25 = .ok (.iconst 1, 1) := all_d dX9_meter_all0 15 rfl
theorem dX9_meter_26 : decode cX9_meter 26 = .ok (.iaload, 1) := all_d dX9_meter_all0 16 rfl
theorem dX9_meter_27 : decode cX9_meter 27 = .ok (.bipush 8, 2) := all_d dX9_meter_all0 17 rfl
theorem dX9_meter_29 : decode cX9_meter 29 = .ok (.if_icmp .ne 9, 3) := all_d dX9_meter_all0 18 rfl
theorem dX9_meter_32 : decode cX9_meter 32 = .ok (.aload_n 0, 1) := all_d dX9_meter_all0 19 rfl
theorem dX9_meter_33 : decode cX9_meter 33 = .ok (.iconst 3, 1) := all_d dX9_meter_all0 20 rfl
theorem dX9_meter_34 : decode cX9_meter 34 = .ok (.invokevirtual 78, 3) := all_d dX9_meter_all0 21 rfl
theorem dX9_meter_37 : decode cX9_meter 37 = .ok (.ireturn, 1) := all_d dX9_meter_all0 22 rfl
theorem dX9_meter_38 : decode cX9_meter 38 = .ok (.aload_n 0, 1) := all_d dX9_meter_all0 23 rfl
theorem dX9_meter_39 : decode cX9_meter 39 = .ok (.invokevirtual 75, 3) := all_d dX9_meter_all0 24 rfl
theorem dX9_meter_42 : decode cX9_meter 42 = .ok (.aload_n 0, 1) := all_d dX9_meter_all0 25 rfl
theorem dX9_meter_43 : decode cX9_meter 43 = .ok (.getfield 7, 3) := all_d dX9_meter_all0 26 rfl
theorem dX9_meter_46 : decode cX9_meter 46 = .ok (.iconst 2, 1) := all_d dX9_meter_all0 27 rfl
theorem dX9_meter_47 : decode cX9_meter 47 = .ok (.aload_n 0, 1) := all_d dX9_meter_all0 28 rfl
theorem dX9_meter_48 : decode cX9_meter 48 = .ok (.getfield 7, 3) := all_d dX9_meter_all0 29 rfl
theorem dX9_meter_51 : decode cX9_meter 51 = .ok (.iconst 1, 1) := all_d dX9_meter_all0 30 rfl
theorem dX9_meter_52 : decode cX9_meter 52 = .ok (.iaload, 1) := all_d dX9_meter_all0 31 rfl
theorem dX9_meter_53 : decode cX9_meter 53 = .ok (.iadd, 1) := all_d dX9_meter_all0 32 rfl
theorem dX9_meter_54 : decode cX9_meter 54 = .ok (.iload_n 1, 1) := all_d dX9_meter_all0 33 rfl
theorem dX9_meter_55 : decode cX9_meter 55 = .ok (.iastore, 1) := all_d dX9_meter_all0 34 rfl
theorem dX9_meter_56 : decode cX9_meter 56 = .ok (.aload_n 0, 1) := all_d dX9_meter_all0 35 rfl
theorem dX9_meter_57 : decode cX9_meter 57 = .ok (.getfield 7, 3) := all_d dX9_meter_all0 36 rfl
theorem dX9_meter_60 : decode cX9_meter 60 = .ok (.bipush 10, 2) := all_d dX9_meter_all0 37 rfl
theorem dX9_meter_62 : decode cX9_meter 62 = .ok (.aload_n 0, 1) := all_d dX9_meter_all0 38 rfl
theorem dX9_meter_63 : decode cX9_meter 63 = .ok (.getfield 7, 3) := all_d dX9_meter_all0 39 rfl
theorem dX9_meter_66 : decode cX9_meter 66 = .ok (.iconst 1, 1) := all_d dX9_meter_all0 40 rfl
theorem dX9_meter_67 : decode cX9_meter 67 = .ok (.iaload, 1) := all_d dX9_meter_all0 41 rfl
theorem dX9_meter_68 : decode cX9_meter 68 = .ok (.iadd, 1) := all_d dX9_meter_all0 42 rfl
theorem dX9_meter_69 : decode cX9_meter 69 = .ok (.iconst 0, 1) := all_d dX9_meter_all0 43 rfl
theorem dX9_meter_70 : decode cX9_meter 70 = .ok (.iastore, 1) := all_d dX9_meter_all0 44 rfl
theorem dX9_meter_71 : decode cX9_meter 71 = .ok (.aload_n 0, 1) := all_d dX9_meter_all0 45 rfl
theorem dX9_meter_72 : decode cX9_meter 72 = .ok (.getfield 7, 3) := all_d dX9_meter_all0 46 rfl
theorem dX9_meter_75 : decode cX9_meter 75 = .ok (.iconst 1, 1) := all_d dX9_meter_all0 47 rfl
theorem dX9_meter_76 : decode cX9_meter 76 = .ok (.dup2, 1) := all_d dX9_meter_all0 48 rfl
theorem dX9_meter_77 : decode cX9_meter 77 = .ok (.iaload, 1) := all_d dX9_meter_all0 49 rfl
theorem dX9_meter_78 : decode cX9_meter 78 = .ok (.iconst 1, 1) := all_d dX9_meter_all0 50 rfl
theorem dX9_meter_79 : decode cX9_meter 79 = .ok (.iadd, 1) := all_d dX9_meter_all0 51 rfl
theorem dX9_meter_80 : decode cX9_meter 80 = .ok (.iastore, 1) := all_d dX9_meter_all0 52 rfl
theorem dX9_meter_81 : decode cX9_meter 81 = .ok (.aload_n 0, 1) := all_d dX9_meter_all0 53 rfl
theorem dX9_meter_82 : decode cX9_meter 82 = .ok (.getfield 7, 3) := all_d dX9_meter_all0 54 rfl
theorem dX9_meter_85 : decode cX9_meter 85 = .ok (.iconst 1, 1) := all_d dX9_meter_all0 55 rfl
theorem dX9_meter_86 : decode cX9_meter 86 = .ok (.iaload, 1) := all_d dX9_meter_all0 56 rfl
theorem dX9_meter_87 : decode cX9_meter 87 = .ok (.iconst 1, 1) := all_d dX9_meter_all0 57 rfl
theorem dX9_meter_88 : decode cX9_meter 88 = .ok (.isub, 1) := all_d dX9_meter_all0 58 rfl
theorem dX9_meter_89 : decode cX9_meter 89 = .ok (.ireturn, 1) := all_d dX9_meter_all0 59 rfl
set_option maxRecDepth 100000 in
theorem dX9_isStaged_all0 : ([(0, (.aload_n 0 : Instr), 1), (1, (.getfield 7 : Instr), 3), (4, (.iconst 2 : Instr), 1), (5, (.iload_n 1 : Instr), 1), (6, (.iadd : Instr), 1), (7, (.iaload : Instr), 1), (8, (.iconst 2 : Instr), 1), (9, (.if_icmp .le 7 : Instr), 3), (12, (.iconst 1 : Instr), 1), (13, (.goto 4 : Instr), 3), (16, (.iconst 0 : Instr), 1), (17, (.ireturn : Instr), 1)] : List (Nat × Instr × Nat)).all (fun q => decide (decode cX9_isStaged q.1 = .ok (q.2.1, q.2.2))) = true := by decide +kernel
theorem dX9_isStaged_0 : decode cX9_isStaged 0 = .ok (.aload_n 0, 1) := all_d dX9_isStaged_all0 0 rfl
theorem dX9_isStaged_1 : decode cX9_isStaged 1 = .ok (.getfield 7, 3) := all_d dX9_isStaged_all0 1 rfl
theorem dX9_isStaged_4 : decode cX9_isStaged 4 = .ok (.iconst 2, 1) := all_d dX9_isStaged_all0 2 rfl
theorem dX9_isStaged_5 : decode cX9_isStaged 5 = .ok (.iload_n 1, 1) := all_d dX9_isStaged_all0 3 rfl
theorem dX9_isStaged_6 : decode cX9_isStaged 6 = .ok (.iadd, 1) := all_d dX9_isStaged_all0 4 rfl
theorem dX9_isStaged_7 : decode cX9_isStaged 7 = .ok (.iaload, 1) := all_d dX9_isStaged_all0 5 rfl
theorem dX9_isStaged_8 : decode cX9_isStaged 8 = .ok (.iconst 2, 1) := all_d dX9_isStaged_all0 6 rfl
theorem dX9_isStaged_9 : decode cX9_isStaged 9 = .ok (.if_icmp .le 7, 3) := all_d dX9_isStaged_all0 7 rfl
theorem dX9_isStaged_12 : decode cX9_isStaged 12 = .ok (.iconst 1, 1) := all_d dX9_isStaged_all0 8 rfl
theorem dX9_isStaged_13 : decode cX9_isStaged 13 = .ok (.goto 4, 3) := all_d dX9_isStaged_all0 9 rfl
theorem dX9_isStaged_16 : decode cX9_isStaged 16 = .ok (.iconst 0, 1) := all_d dX9_isStaged_all0 10 rfl
theorem dX9_isStaged_17 : decode cX9_isStaged 17 = .ok (.ireturn, 1) := all_d dX9_isStaged_all0 11 rfl
set_option maxRecDepth 100000 in
theorem dX9_part_all0 : ([(0, (.aload_n 0 : Instr), 1), (1, (.iconst 0 : Instr), 1), (2, (.putfield 47 : Instr), 3), (5, (.aload_n 0 : Instr), 1), (6, (.iload_n 1 : Instr), 1), (7, (.invokevirtual 68 : Instr), 3), (10, (.ifCond .ne 9 : Instr), 3), (13, (.aload_n 0 : Instr), 1), (14, (.iconst 2 : Instr), 1), (15, (.invokevirtual 78 : Instr), 3), (18, (.ireturn : Instr), 1), (19, (.aload_n 0 : Instr), 1), (20, (.iload_n 2 : Instr), 1), (21, (.sipush (-8000) : Instr), 3), (24, (.sipush 8000 : Instr), 3), (27, (.invokevirtual 64 : Instr), 3), (30, (.ifCond .eq 25 : Instr), 3), (33, (.aload_n 0 : Instr), 1), (34, (.iload_n 1 : Instr), 1), (35, (.invokevirtual 82 : Instr), 3), (38, (.ifCond .eq 23 : Instr), 3), (41, (.aload_n 0 : Instr), 1), (42, (.iload_n 3 : Instr), 1), (43, (.sipush (-8000) : Instr), 3), (46, (.sipush 8000 : Instr), 3), (49, (.invokevirtual 64 : Instr), 3), (52, (.ifCond .ne 9 : Instr), 3), (55, (.aload_n 0 : Instr), 1), (56, (.iconst 1 : Instr), 1), (57, (.invokevirtual 78 : Instr), 3), (60, (.ireturn : Instr), 1), (61, (.aload_n 0 : Instr), 1), (62, (.getfield 7 : Instr), 3), (65, (.bipush 10 : Instr), 2), (67, (.iload_n 1 : Instr), 1), (68, (.iadd : Instr), 1), (69, (.iaload : Instr), 1), (70, (.istore 4 : Instr), 2), (72, (.iload 4 : Instr), 2), (74, (.bipush 16 : Instr), 2), (76, (.if_icmp .ne 9 : Instr), 3), (79, (.aload_n 0 : Instr), 1), (80, (.iconst 3 : Instr), 1), (81, (.invokevirtual 78 : Instr), 3), (84, (.ireturn : Instr), 1), (85, (.aload_n 0 : Instr), 1), (86, (.invokevirtual 75 : Instr), 3), (89, (.aload_n 0 : Instr), 1), (90, (.iload_n 1 : Instr), 1), (91, (.iload 4 : Instr), 2), (93, (.invokevirtual 85 : Instr), 3), (96, (.istore 5 : Instr), 2), (98, (.aload_n 0 : Instr), 1), (99, (.getfield 7 : Instr), 3), (102, (.iload 5 : Instr), 2), (104, (.iload_n 2 : Instr), 1), (105, (.iastore : Instr), 1), (106, (.aload_n 0 : Instr), 1), (107, (.getfield 7 : Instr), 3), (110, (.iload 5 : Instr), 2), (112, (.iconst 1 : Instr), 1), (113, (.iadd : Instr), 1), (114, (.iconst 0 : Instr), 1), (115, (.iastore : Instr), 1), (116, (.aload_n 0 : Instr), 1), (117, (.getfield 7 : Instr), 3), (120, (.iload 5 : Instr), 2), (122, (.iconst 2 : Instr), 1), (123, (.iadd : Instr), 1), (124, (.aload_n 0 : Instr), 1), (125, (.getfield 7 : Instr), 3), (128, (.iconst 2 : Instr), 1), (129, (.iload_n 1 : Instr), 1), (130, (.iadd : Instr), 1), (131, (.iaload : Instr), 1), (132, (.iconst 2 : Instr), 1), (133, (.if_icmp .ne 7 : Instr), 3), (136, (.iload_n 2 : Instr), 1), (137, (.goto 4 : Instr), 3), (140, (.iconst 1 : Instr), 1)] : List (Nat × Instr × Nat)).all (fun q => decide (decode cX9_part q.1 = .ok (q.2.1, q.2.2))) = true := by decide +kernel
theorem dX9_part_0 : decode cX9_part 0 = .ok (.aload_n 0, 1) := all_d dX9_part_all0 0 rfl
theorem dX9_part_1 : decode cX9_part 1 = .ok (.iconst 0, 1) := all_d dX9_part_all0 1 rfl
theorem dX9_part_2 : decode cX9_part 2 = .ok (.putfield 47, 3) := all_d dX9_part_all0 2 rfl
theorem dX9_part_5 : decode cX9_part 5 = .ok (.aload_n 0, 1) := all_d dX9_part_all0 3 rfl
theorem dX9_part_6 : decode cX9_part 6 = .ok (.iload_n 1, 1) := all_d dX9_part_all0 4 rfl
theorem dX9_part_7 : decode cX9_part 7 = .ok (.invokevirtual 68, 3) := all_d dX9_part_all0 5 rfl
theorem dX9_part_10 : decode cX9_part 10 = .ok (.ifCond .ne 9, 3) := all_d dX9_part_all0 6 rfl
theorem dX9_part_13 : decode cX9_part 13 = .ok (.aload_n 0, 1) := all_d dX9_part_all0 7 rfl
theorem dX9_part_14 : decode cX9_part 14 = .ok (.iconst 2, 1) := all_d dX9_part_all0 8 rfl
theorem dX9_part_15 : decode cX9_part 15 = .ok (.invokevirtual 78, 3) := all_d dX9_part_all0 9 rfl
theorem dX9_part_18 : decode cX9_part 18 = .ok (.ireturn, 1) := all_d dX9_part_all0 10 rfl
theorem dX9_part_19 : decode cX9_part 19 = .ok (.aload_n 0, 1) := all_d dX9_part_all0 11 rfl
theorem dX9_part_20 : decode cX9_part 20 = .ok (.iload_n 2, 1) := all_d dX9_part_all0 12 rfl
theorem dX9_part_21 : decode cX9_part 21 = .ok (.sipush (-8000), 3) := all_d dX9_part_all0 13 rfl
theorem dX9_part_24 : decode cX9_part 24 = .ok (.sipush 8000, 3) := all_d dX9_part_all0 14 rfl
theorem dX9_part_27 : decode cX9_part 27 = .ok (.invokevirtual 64, 3) := all_d dX9_part_all0 15 rfl
theorem dX9_part_30 : decode cX9_part 30 = .ok (.ifCond .eq 25, 3) := all_d dX9_part_all0 16 rfl
theorem dX9_part_33 : decode cX9_part 33 = .ok (.aload_n 0, 1) := all_d dX9_part_all0 17 rfl
theorem dX9_part_34 : decode cX9_part 34 = .ok (.iload_n 1, 1) := all_d dX9_part_all0 18 rfl
theorem dX9_part_35 : decode cX9_part 35 = .ok (.invokevirtual 82, 3) := all_d dX9_part_all0 19 rfl
theorem dX9_part_38 : decode cX9_part 38 = .ok (.ifCond .eq 23, 3) := all_d dX9_part_all0 20 rfl
theorem dX9_part_41 : decode cX9_part 41 = .ok (.aload_n 0, 1) := all_d dX9_part_all0 21 rfl
theorem dX9_part_42 : decode cX9_part 42 = .ok (.iload_n 3, 1) := all_d dX9_part_all0 22 rfl
theorem dX9_part_43 : decode cX9_part 43 = .ok (.sipush (-8000), 3) := all_d dX9_part_all0 23 rfl
theorem dX9_part_46 : decode cX9_part 46 = .ok (.sipush 8000, 3) := all_d dX9_part_all0 24 rfl
theorem dX9_part_49 : decode cX9_part 49 = .ok (.invokevirtual 64, 3) := all_d dX9_part_all0 25 rfl
theorem dX9_part_52 : decode cX9_part 52 = .ok (.ifCond .ne 9, 3) := all_d dX9_part_all0 26 rfl
theorem dX9_part_55 : decode cX9_part 55 = .ok (.aload_n 0, 1) := all_d dX9_part_all0 27 rfl
theorem dX9_part_56 : decode cX9_part 56 = .ok (.iconst 1, 1) := all_d dX9_part_all0 28 rfl
theorem dX9_part_57 : decode cX9_part 57 = .ok (.invokevirtual 78, 3) := all_d dX9_part_all0 29 rfl
theorem dX9_part_60 : decode cX9_part 60 = .ok (.ireturn, 1) := all_d dX9_part_all0 30 rfl
theorem dX9_part_61 : decode cX9_part 61 = .ok (.aload_n 0, 1) := all_d dX9_part_all0 31 rfl
theorem dX9_part_62 : decode cX9_part 62 = .ok (.getfield 7, 3) := all_d dX9_part_all0 32 rfl
theorem dX9_part_65 : decode cX9_part 65 = .ok (.bipush 10, 2) := all_d dX9_part_all0 33 rfl
theorem dX9_part_67 : decode cX9_part 67 = .ok (.iload_n 1, 1) := all_d dX9_part_all0 34 rfl
theorem dX9_part_68 : decode cX9_part 68 = .ok (.iadd, 1) := all_d dX9_part_all0 35 rfl
theorem dX9_part_69 : decode cX9_part 69 = .ok (.iaload, 1) := all_d dX9_part_all0 36 rfl
theorem dX9_part_70 : decode cX9_part 70 = .ok (.istore 4, 2) := all_d dX9_part_all0 37 rfl
theorem dX9_part_72 : decode cX9_part 72 = .ok (.iload 4, 2) := all_d dX9_part_all0 38 rfl
theorem dX9_part_74 : decode cX9_part 74 = .ok (.bipush 16, 2) := all_d dX9_part_all0 39 rfl
theorem dX9_part_76 : decode cX9_part 76 = .ok (.if_icmp .ne 9, 3) := all_d dX9_part_all0 40 rfl
theorem dX9_part_79 : decode cX9_part 79 = .ok (.aload_n 0, 1) := all_d dX9_part_all0 41 rfl
theorem dX9_part_80 : decode cX9_part 80 = .ok (.iconst 3, 1) := all_d dX9_part_all0 42 rfl
theorem dX9_part_81 : decode cX9_part 81 = .ok (.invokevirtual 78, 3) := all_d dX9_part_all0 43 rfl
theorem dX9_part_84 : decode cX9_part 84 = .ok (.ireturn, 1) := all_d dX9_part_all0 44 rfl
theorem dX9_part_85 : decode cX9_part 85 = .ok (.aload_n 0, 1) := all_d dX9_part_all0 45 rfl
theorem dX9_part_86 : decode cX9_part 86 = .ok (.invokevirtual 75, 3) := all_d dX9_part_all0 46 rfl
theorem dX9_part_89 : decode cX9_part 89 = .ok (.aload_n 0, 1) := all_d dX9_part_all0 47 rfl
theorem dX9_part_90 : decode cX9_part 90 = .ok (.iload_n 1, 1) := all_d dX9_part_all0 48 rfl
theorem dX9_part_91 : decode cX9_part 91 = .ok (.iload 4, 2) := all_d dX9_part_all0 49 rfl
theorem dX9_part_93 : decode cX9_part 93 = .ok (.invokevirtual 85, 3) := all_d dX9_part_all0 50 rfl
theorem dX9_part_96 : decode cX9_part 96 = .ok (.istore 5, 2) := all_d dX9_part_all0 51 rfl
theorem dX9_part_98 : decode cX9_part 98 = .ok (.aload_n 0, 1) := all_d dX9_part_all0 52 rfl
theorem dX9_part_99 : decode cX9_part 99 = .ok (.getfield 7, 3) := all_d dX9_part_all0 53 rfl
theorem dX9_part_102 : decode cX9_part 102 = .ok (.iload 5, 2) := all_d dX9_part_all0 54 rfl
theorem dX9_part_104 : decode cX9_part 104 = .ok (.iload_n 2, 1) := all_d dX9_part_all0 55 rfl
theorem dX9_part_105 : decode cX9_part 105 = .ok (.iastore, 1) := all_d dX9_part_all0 56 rfl
theorem dX9_part_106 : decode cX9_part 106 = .ok (.aload_n 0, 1) := all_d dX9_part_all0 57 rfl
theorem dX9_part_107 : decode cX9_part 107 = .ok (.getfield 7, 3) := all_d dX9_part_all0 58 rfl
theorem dX9_part_110 : decode cX9_part 110 = .ok (.iload 5, 2) := all_d dX9_part_all0 59 rfl
theorem dX9_part_112 : decode cX9_part 112 = .ok (.iconst 1, 1) := all_d dX9_part_all0 60 rfl
theorem dX9_part_113 : decode cX9_part 113 = .ok (.iadd, 1) := all_d dX9_part_all0 61 rfl
theorem dX9_part_114 : decode cX9_part 114 = .ok (.iconst 0, 1) := all_d dX9_part_all0 62 rfl
theorem dX9_part_115 : decode cX9_part 115 = .ok (.iastore, 1) := all_d dX9_part_all0 63 rfl
theorem dX9_part_116 : decode cX9_part 116 = .ok (.aload_n 0, 1) := all_d dX9_part_all0 64 rfl
theorem dX9_part_117 : decode cX9_part 117 = .ok (.getfield 7, 3) := all_d dX9_part_all0 65 rfl
theorem dX9_part_120 : decode cX9_part 120 = .ok (.iload 5, 2) := all_d dX9_part_all0 66 rfl
theorem dX9_part_122 : decode cX9_part 122 = .ok (.iconst 2, 1) := all_d dX9_part_all0 67 rfl
theorem dX9_part_123 : decode cX9_part 123 = .ok (.iadd, 1) := all_d dX9_part_all0 68 rfl
theorem dX9_part_124 : decode cX9_part 124 = .ok (.aload_n 0, 1) := all_d dX9_part_all0 69 rfl
theorem dX9_part_125 : decode cX9_part 125 = .ok (.getfield 7, 3) := all_d dX9_part_all0 70 rfl
theorem dX9_part_128 : decode cX9_part 128 = .ok (.iconst 2, 1) := all_d dX9_part_all0 71 rfl
theorem dX9_part_129 : decode cX9_part 129 = .ok (.iload_n 1, 1) := all_d dX9_part_all0 72 rfl
theorem dX9_part_130 : decode cX9_part 130 = .ok (.iadd, 1) := all_d dX9_part_all0 73 rfl
theorem dX9_part_131 : decode cX9_part 131 = .ok (.iaload, 1) := all_d dX9_part_all0 74 rfl
theorem dX9_part_132 : decode cX9_part 132 = .ok (.iconst 2, 1) := all_d dX9_part_all0 75 rfl
theorem dX9_part_133 : decode cX9_part 133 = .ok (.if_icmp .ne 7, 3) := all_d dX9_part_all0 76 rfl
theorem dX9_part_136 : decode cX9_part 136 = .ok (.iload_n 2, 1) := all_d dX9_part_all0 77 rfl
theorem dX9_part_137 : decode cX9_part 137 = .ok (.goto 4, 3) := all_d dX9_part_all0 78 rfl
theorem dX9_part_140 : decode cX9_part 140 = .ok (.iconst 1, 1) := all_d dX9_part_all0 79 rfl
set_option maxRecDepth 100000 in
theorem dX9_part_all1 : ([(141, (.iastore : Instr), 1), (142, (.aload_n 0 : Instr), 1), (143, (.getfield 7 : Instr), 3), (146, (.iload 5 : Instr), 2), (148, (.iconst 3 : Instr), 1), (149, (.iadd : Instr), 1), (150, (.aload_n 0 : Instr), 1), (151, (.iload_n 1 : Instr), 1), (152, (.invokevirtual 82 : Instr), 3), (155, (.ifCond .eq 7 : Instr), 3), (158, (.iload_n 3 : Instr), 1), (159, (.goto 4 : Instr), 3), (162, (.iconst 0 : Instr), 1), (163, (.iastore : Instr), 1), (164, (.aload_n 0 : Instr), 1), (165, (.getfield 7 : Instr), 3), (168, (.bipush 10 : Instr), 2), (170, (.iload_n 1 : Instr), 1), (171, (.iadd : Instr), 1), (172, (.dup2 : Instr), 1), (173, (.iaload : Instr), 1), (174, (.iconst 1 : Instr), 1), (175, (.iadd : Instr), 1), (176, (.iastore : Instr), 1), (177, (.aload_n 0 : Instr), 1), (178, (.iload_n 1 : Instr), 1), (179, (.invokevirtual 82 : Instr), 3), (182, (.ifCond .eq 56 : Instr), 3), (185, (.iconst 0 : Instr), 1), (186, (.istore 6 : Instr), 2), (188, (.iload 6 : Instr), 2), (190, (.iload 4 : Instr), 2), (192, (.if_icmp .gt 46 : Instr), 3), (195, (.aload_n 0 : Instr), 1), (196, (.getfield 7 : Instr), 3), (199, (.aload_n 0 : Instr), 1), (200, (.iload_n 1 : Instr), 1), (201, (.iload 6 : Instr), 2), (203, (.invokevirtual 85 : Instr), 3), (206, (.iconst 2 : Instr), 1), (207, (.iadd : Instr), 1), (208, (.iload 4 : Instr), 2), (210, (.iload 6 : Instr), 2), (212, (.isub : Instr), 1), (213, (.bipush 12 : Instr), 2), (215, (.if_icmp .le 9 : Instr), 3), (218, (.sipush 8000 : Instr), 3), (221, (.goto 10 : Instr), 3), (224, (.iconst 1 : Instr), 1), (225, (.iload 4 : Instr), 2), (227, (.iload 6 : Instr), 2), (229, (.isub : Instr), 1), (230, (.ishl : Instr), 1), (231, (.iastore : Instr), 1), (232, (.iinc 6 1 : Instr), 3), (235, (.goto (-47) : Instr), 3), (238, (.iload 4 : Instr), 2), (240, (.iconst 1 : Instr), 1), (241, (.iadd : Instr), 1), (242, (.ireturn : Instr), 1)] : List (Nat × Instr × Nat)).all (fun q => decide (decode cX9_part q.1 = .ok (q.2.1, q.2.2))) = true := by decide +kernel
theorem dX9_part_141 : decode cX9_part 141 = .ok (.iastore, 1) := all_d dX9_part_all1 0 rfl
theorem dX9_part_142 : decode cX9_part 142 = .ok (.aload_n 0, 1) := all_d dX9_part_all1 1 rfl
theorem dX9_part_143 : decode cX9_part 143 = .ok (.getfield 7, 3) := all_d dX9_part_all1 2 rfl
theorem dX9_part_146 : decode cX9_part 146 = .ok (.iload 5, 2) := all_d dX9_part_all1 3 rfl
theorem dX9_part_148 : decode cX9_part 148 = .ok (.iconst 3, 1) := all_d dX9_part_all1 4 rfl
theorem dX9_part_149 : decode cX9_part 149 = .ok (.iadd, 1) := all_d dX9_part_all1 5 rfl
theorem dX9_part_150 : decode cX9_part 150 = .ok (.aload_n 0, 1) := all_d dX9_part_all1 6 rfl
theorem dX9_part_151 : decode cX9_part 151 = .ok (.iload_n 1, 1) := all_d dX9_part_all1 7 rfl
theorem dX9_part_152 : decode cX9_part 152 = .ok (.invokevirtual 82, 3) := all_d dX9_part_all1 8 rfl
theorem dX9_part_155 : decode cX9_part 155 = .ok (.ifCond .eq 7, 3) := all_d dX9_part_all1 9 rfl
theorem dX9_part_158 : decode cX9_part 158 = .ok (.iload_n 3, 1) := all_d dX9_part_all1 10 rfl
theorem dX9_part_159 : decode cX9_part 159 = .ok (.goto 4, 3) := all_d dX9_part_all1 11 rfl
theorem dX9_part_162 : decode cX9_part 162 = .ok (.iconst 0, 1) := all_d dX9_part_all1 12 rfl
theorem dX9_part_163 : decode cX9_part 163 = .ok (.iastore, 1) := all_d dX9_part_all1 13 rfl
theorem dX9_part_164 : decode cX9_part 164 = .ok (.aload_n 0, 1) := all_d dX9_part_all1 14 rfl
theorem dX9_part_165 : decode cX9_part 165 = .ok (.getfield 7, 3) := all_d dX9_part_all1 15 rfl
theorem dX9_part_168 : decode cX9_part 168 = .ok (.bipush 10, 2) := all_d dX9_part_all1 16 rfl
theorem dX9_part_170 : decode cX9_part 170 = .ok (.iload_n 1, 1) := all_d dX9_part_all1 17 rfl
theorem dX9_part_171 : decode cX9_part 171 = .ok (.iadd, 1) := all_d dX9_part_all1 18 rfl
theorem dX9_part_172 : decode cX9_part 172 = .ok (.dup2, 1) := all_d dX9_part_all1 19 rfl
theorem dX9_part_173 : decode cX9_part 173 = .ok (.iaload, 1) := all_d dX9_part_all1 20 rfl
theorem dX9_part_174 : decode cX9_part 174 = .ok (.iconst 1, 1) := all_d dX9_part_all1 21 rfl
theorem dX9_part_175 : decode cX9_part 175 = .ok (.iadd, 1) := all_d dX9_part_all1 22 rfl
theorem dX9_part_176 : decode cX9_part 176 = .ok (.iastore, 1) := all_d dX9_part_all1 23 rfl
theorem dX9_part_177 : decode cX9_part 177 = .ok (.aload_n 0, 1) := all_d dX9_part_all1 24 rfl
theorem dX9_part_178 : decode cX9_part 178 = .ok (.iload_n 1, 1) := all_d dX9_part_all1 25 rfl
theorem dX9_part_179 : decode cX9_part 179 = .ok (.invokevirtual 82, 3) := all_d dX9_part_all1 26 rfl
theorem dX9_part_182 : decode cX9_part 182 = .ok (.ifCond .eq 56, 3) := all_d dX9_part_all1 27 rfl
theorem dX9_part_185 : decode cX9_part 185 = .ok (.iconst 0, 1) := all_d dX9_part_all1 28 rfl
theorem dX9_part_186 : decode cX9_part 186 = .ok (.istore 6, 2) := all_d dX9_part_all1 29 rfl
theorem dX9_part_188 : decode cX9_part 188 = .ok (.iload 6, 2) := all_d dX9_part_all1 30 rfl
theorem dX9_part_190 : decode cX9_part 190 = .ok (.iload 4, 2) := all_d dX9_part_all1 31 rfl
theorem dX9_part_192 : decode cX9_part 192 = .ok (.if_icmp .gt 46, 3) := all_d dX9_part_all1 32 rfl
theorem dX9_part_195 : decode cX9_part 195 = .ok (.aload_n 0, 1) := all_d dX9_part_all1 33 rfl
theorem dX9_part_196 : decode cX9_part 196 = .ok (.getfield 7, 3) := all_d dX9_part_all1 34 rfl
theorem dX9_part_199 : decode cX9_part 199 = .ok (.aload_n 0, 1) := all_d dX9_part_all1 35 rfl
theorem dX9_part_200 : decode cX9_part 200 = .ok (.iload_n 1, 1) := all_d dX9_part_all1 36 rfl
theorem dX9_part_201 : decode cX9_part 201 = .ok (.iload 6, 2) := all_d dX9_part_all1 37 rfl
theorem dX9_part_203 : decode cX9_part 203 = .ok (.invokevirtual 85, 3) := all_d dX9_part_all1 38 rfl
theorem dX9_part_206 : decode cX9_part 206 = .ok (.iconst 2, 1) := all_d dX9_part_all1 39 rfl
theorem dX9_part_207 : decode cX9_part 207 = .ok (.iadd, 1) := all_d dX9_part_all1 40 rfl
theorem dX9_part_208 : decode cX9_part 208 = .ok (.iload 4, 2) := all_d dX9_part_all1 41 rfl
theorem dX9_part_210 : decode cX9_part 210 = .ok (.iload 6, 2) := all_d dX9_part_all1 42 rfl
theorem dX9_part_212 : decode cX9_part 212 = .ok (.isub, 1) := all_d dX9_part_all1 43 rfl
theorem dX9_part_213 : decode cX9_part 213 = .ok (.bipush 12, 2) := all_d dX9_part_all1 44 rfl
theorem dX9_part_215 : decode cX9_part 215 = .ok (.if_icmp .le 9, 3) := all_d dX9_part_all1 45 rfl
theorem dX9_part_218 : decode cX9_part 218 = .ok (.sipush 8000, 3) := all_d dX9_part_all1 46 rfl
theorem dX9_part_221 : decode cX9_part 221 = .ok (.goto 10, 3) := all_d dX9_part_all1 47 rfl
theorem dX9_part_224 : decode cX9_part 224 = .ok (.iconst 1, 1) := all_d dX9_part_all1 48 rfl
theorem dX9_part_225 : decode cX9_part 225 = .ok (.iload 4, 2) := all_d dX9_part_all1 49 rfl
theorem dX9_part_227 : decode cX9_part 227 = .ok (.iload 6, 2) := all_d dX9_part_all1 50 rfl
theorem dX9_part_229 : decode cX9_part 229 = .ok (.isub, 1) := all_d dX9_part_all1 51 rfl
theorem dX9_part_230 : decode cX9_part 230 = .ok (.ishl, 1) := all_d dX9_part_all1 52 rfl
theorem dX9_part_231 : decode cX9_part 231 = .ok (.iastore, 1) := all_d dX9_part_all1 53 rfl
theorem dX9_part_232 : decode cX9_part 232 = .ok (.iinc 6 1, 3) := all_d dX9_part_all1 54 rfl
theorem dX9_part_235 : decode cX9_part 235 = .ok (.goto (-47), 3) := all_d dX9_part_all1 55 rfl
theorem dX9_part_238 : decode cX9_part 238 = .ok (.iload 4, 2) := all_d dX9_part_all1 56 rfl
theorem dX9_part_240 : decode cX9_part 240 = .ok (.iconst 1, 1) := all_d dX9_part_all1 57 rfl
theorem dX9_part_241 : decode cX9_part 241 = .ok (.iadd, 1) := all_d dX9_part_all1 58 rfl
theorem dX9_part_242 : decode cX9_part 242 = .ok (.ireturn, 1) := all_d dX9_part_all1 59 rfl
set_option maxRecDepth 100000 in
theorem dX9_miss_all0 : ([(0, (.aload_n 0 : Instr), 1), (1, (.iconst 0 : Instr), 1), (2, (.putfield 47 : Instr), 3), (5, (.aload_n 0 : Instr), 1), (6, (.iload_n 1 : Instr), 1), (7, (.iload_n 2 : Instr), 1), (8, (.invokevirtual 60 : Instr), 3), (11, (.ifCond .ne 9 : Instr), 3), (14, (.aload_n 0 : Instr), 1), (15, (.iconst 2 : Instr), 1), (16, (.invokevirtual 72 : Instr), 3), (19, (.ireturn : Instr), 1), (20, (.aload_n 0 : Instr), 1), (21, (.iload_n 3 : Instr), 1), (22, (.sipush (-500) : Instr), 3), (25, (.sipush 500 : Instr), 3), (28, (.invokevirtual 64 : Instr), 3), (31, (.ifCond .ne 9 : Instr), 3), (34, (.aload_n 0 : Instr), 1), (35, (.iconst 1 : Instr), 1), (36, (.invokevirtual 72 : Instr), 3), (39, (.ireturn : Instr), 1), (40, (.aload_n 0 : Instr), 1), (41, (.invokevirtual 75 : Instr), 3), (44, (.aload_n 0 : Instr), 1), (45, (.getfield 7 : Instr), 3), (48, (.aload_n 0 : Instr), 1), (49, (.iload_n 1 : Instr), 1), (50, (.iload_n 2 : Instr), 1), (51, (.invokevirtual 85 : Instr), 3), (54, (.iconst 1 : Instr), 1), (55, (.iadd : Instr), 1), (56, (.iload_n 3 : Instr), 1), (57, (.iastore : Instr), 1), (58, (.iconst 1 : Instr), 1), (59, (.ireturn : Instr), 1)] : List (Nat × Instr × Nat)).all (fun q => decide (decode cX9_miss q.1 = .ok (q.2.1, q.2.2))) = true := by decide +kernel
theorem dX9_miss_0 : decode cX9_miss 0 = .ok (.aload_n 0, 1) := all_d dX9_miss_all0 0 rfl
theorem dX9_miss_1 : decode cX9_miss 1 = .ok (.iconst 0, 1) := all_d dX9_miss_all0 1 rfl
theorem dX9_miss_2 : decode cX9_miss 2 = .ok (.putfield 47, 3) := all_d dX9_miss_all0 2 rfl
theorem dX9_miss_5 : decode cX9_miss 5 = .ok (.aload_n 0, 1) := all_d dX9_miss_all0 3 rfl
theorem dX9_miss_6 : decode cX9_miss 6 = .ok (.iload_n 1, 1) := all_d dX9_miss_all0 4 rfl
theorem dX9_miss_7 : decode cX9_miss 7 = .ok (.iload_n 2, 1) := all_d dX9_miss_all0 5 rfl
theorem dX9_miss_8 : decode cX9_miss 8 = .ok (.invokevirtual 60, 3) := all_d dX9_miss_all0 6 rfl
theorem dX9_miss_11 : decode cX9_miss 11 = .ok (.ifCond .ne 9, 3) := all_d dX9_miss_all0 7 rfl
theorem dX9_miss_14 : decode cX9_miss 14 = .ok (.aload_n 0, 1) := all_d dX9_miss_all0 8 rfl
theorem dX9_miss_15 : decode cX9_miss 15 = .ok (.iconst 2, 1) := all_d dX9_miss_all0 9 rfl
theorem dX9_miss_16 : decode cX9_miss 16 = .ok (.invokevirtual 72, 3) := all_d dX9_miss_all0 10 rfl
theorem dX9_miss_19 : decode cX9_miss 19 = .ok (.ireturn, 1) := all_d dX9_miss_all0 11 rfl
theorem dX9_miss_20 : decode cX9_miss 20 = .ok (.aload_n 0, 1) := all_d dX9_miss_all0 12 rfl
theorem dX9_miss_21 : decode cX9_miss 21 = .ok (.iload_n 3, 1) := all_d dX9_miss_all0 13 rfl
theorem dX9_miss_22 : decode cX9_miss 22 = .ok (.sipush (-500), 3) := all_d dX9_miss_all0 14 rfl
theorem dX9_miss_25 : decode cX9_miss 25 = .ok (.sipush 500, 3) := all_d dX9_miss_all0 15 rfl
theorem dX9_miss_28 : decode cX9_miss 28 = .ok (.invokevirtual 64, 3) := all_d dX9_miss_all0 16 rfl
theorem dX9_miss_31 : decode cX9_miss 31 = .ok (.ifCond .ne 9, 3) := all_d dX9_miss_all0 17 rfl
theorem dX9_miss_34 : decode cX9_miss 34 = .ok (.aload_n 0, 1) := all_d dX9_miss_all0 18 rfl
theorem dX9_miss_35 : decode cX9_miss 35 = .ok (.iconst 1, 1) := all_d dX9_miss_all0 19 rfl
theorem dX9_miss_36 : decode cX9_miss 36 = .ok (.invokevirtual 72, 3) := all_d dX9_miss_all0 20 rfl
theorem dX9_miss_39 : decode cX9_miss 39 = .ok (.ireturn, 1) := all_d dX9_miss_all0 21 rfl
theorem dX9_miss_40 : decode cX9_miss 40 = .ok (.aload_n 0, 1) := all_d dX9_miss_all0 22 rfl
theorem dX9_miss_41 : decode cX9_miss 41 = .ok (.invokevirtual 75, 3) := all_d dX9_miss_all0 23 rfl
theorem dX9_miss_44 : decode cX9_miss 44 = .ok (.aload_n 0, 1) := all_d dX9_miss_all0 24 rfl
theorem dX9_miss_45 : decode cX9_miss 45 = .ok (.getfield 7, 3) := all_d dX9_miss_all0 25 rfl
theorem dX9_miss_48 : decode cX9_miss 48 = .ok (.aload_n 0, 1) := all_d dX9_miss_all0 26 rfl
theorem dX9_miss_49 : decode cX9_miss 49 = .ok (.iload_n 1, 1) := all_d dX9_miss_all0 27 rfl
theorem dX9_miss_50 : decode cX9_miss 50 = .ok (.iload_n 2, 1) := all_d dX9_miss_all0 28 rfl
theorem dX9_miss_51 : decode cX9_miss 51 = .ok (.invokevirtual 85, 3) := all_d dX9_miss_all0 29 rfl
theorem dX9_miss_54 : decode cX9_miss 54 = .ok (.iconst 1, 1) := all_d dX9_miss_all0 30 rfl
theorem dX9_miss_55 : decode cX9_miss 55 = .ok (.iadd, 1) := all_d dX9_miss_all0 31 rfl
theorem dX9_miss_56 : decode cX9_miss 56 = .ok (.iload_n 3, 1) := all_d dX9_miss_all0 32 rfl
theorem dX9_miss_57 : decode cX9_miss 57 = .ok (.iastore, 1) := all_d dX9_miss_all0 33 rfl
theorem dX9_miss_58 : decode cX9_miss 58 = .ok (.iconst 1, 1) := all_d dX9_miss_all0 34 rfl
theorem dX9_miss_59 : decode cX9_miss 59 = .ok (.ireturn, 1) := all_d dX9_miss_all0 35 rfl
set_option maxRecDepth 100000 in
theorem dX9_worth_all0 : ([(0, (.aload_n 0 : Instr), 1), (1, (.iconst 0 : Instr), 1), (2, (.putfield 47 : Instr), 3), (5, (.aload_n 0 : Instr), 1), (6, (.iload_n 1 : Instr), 1), (7, (.iload_n 2 : Instr), 1), (8, (.invokevirtual 60 : Instr), 3), (11, (.ifCond .ne 9 : Instr), 3), (14, (.aload_n 0 : Instr), 1), (15, (.iconst 2 : Instr), 1), (16, (.invokevirtual 72 : Instr), 3), (19, (.ireturn : Instr), 1), (20, (.aload_n 0 : Instr), 1), (21, (.getfield 7 : Instr), 3), (24, (.iconst 2 : Instr), 1), (25, (.iload_n 1 : Instr), 1), (26, (.iadd : Instr), 1), (27, (.iaload : Instr), 1), (28, (.iconst 2 : Instr), 1), (29, (.if_icmp .ge 9 : Instr), 3), (32, (.aload_n 0 : Instr), 1), (33, (.iconst 4 : Instr), 1), (34, (.invokevirtual 72 : Instr), 3), (37, (.ireturn : Instr), 1), (38, (.aload_n 0 : Instr), 1), (39, (.iload_n 3 : Instr), 1), (40, (.sipush (-8000) : Instr), 3), (43, (.sipush 8000 : Instr), 3), (46, (.invokevirtual 64 : Instr), 3), (49, (.ifCond .ne 9 : Instr), 3), (52, (.aload_n 0 : Instr), 1), (53, (.iconst 1 : Instr), 1), (54, (.invokevirtual 72 : Instr), 3), (57, (.ireturn : Instr), 1), (58, (.aload_n 0 : Instr), 1), (59, (.invokevirtual 75 : Instr), 3), (62, (.aload_n 0 : Instr), 1), (63, (.getfield 7 : Instr), 3), (66, (.aload_n 0 : Instr), 1), (67, (.iload_n 1 : Instr), 1), (68, (.iload_n 2 : Instr), 1), (69, (.invokevirtual 85 : Instr), 3), (72, (.iconst 2 : Instr), 1), (73, (.iadd : Instr), 1), (74, (.iload_n 3 : Instr), 1), (75, (.iastore : Instr), 1), (76, (.iconst 1 : Instr), 1), (77, (.ireturn : Instr), 1)] : List (Nat × Instr × Nat)).all (fun q => decide (decode cX9_worth q.1 = .ok (q.2.1, q.2.2))) = true := by decide +kernel
theorem dX9_worth_0 : decode cX9_worth 0 = .ok (.aload_n 0, 1) := all_d dX9_worth_all0 0 rfl
theorem dX9_worth_1 : decode cX9_worth 1 = .ok (.iconst 0, 1) := all_d dX9_worth_all0 1 rfl
theorem dX9_worth_2 : decode cX9_worth 2 = .ok (.putfield 47, 3) := all_d dX9_worth_all0 2 rfl
theorem dX9_worth_5 : decode cX9_worth 5 = .ok (.aload_n 0, 1) := all_d dX9_worth_all0 3 rfl
theorem dX9_worth_6 : decode cX9_worth 6 = .ok (.iload_n 1, 1) := all_d dX9_worth_all0 4 rfl
theorem dX9_worth_7 : decode cX9_worth 7 = .ok (.iload_n 2, 1) := all_d dX9_worth_all0 5 rfl
theorem dX9_worth_8 : decode cX9_worth 8 = .ok (.invokevirtual 60, 3) := all_d dX9_worth_all0 6 rfl
theorem dX9_worth_11 : decode cX9_worth 11 = .ok (.ifCond .ne 9, 3) := all_d dX9_worth_all0 7 rfl
theorem dX9_worth_14 : decode cX9_worth 14 = .ok (.aload_n 0, 1) := all_d dX9_worth_all0 8 rfl
theorem dX9_worth_15 : decode cX9_worth 15 = .ok (.iconst 2, 1) := all_d dX9_worth_all0 9 rfl
theorem dX9_worth_16 : decode cX9_worth 16 = .ok (.invokevirtual 72, 3) := all_d dX9_worth_all0 10 rfl
theorem dX9_worth_19 : decode cX9_worth 19 = .ok (.ireturn, 1) := all_d dX9_worth_all0 11 rfl
theorem dX9_worth_20 : decode cX9_worth 20 = .ok (.aload_n 0, 1) := all_d dX9_worth_all0 12 rfl
theorem dX9_worth_21 : decode cX9_worth 21 = .ok (.getfield 7, 3) := all_d dX9_worth_all0 13 rfl
theorem dX9_worth_24 : decode cX9_worth 24 = .ok (.iconst 2, 1) := all_d dX9_worth_all0 14 rfl
theorem dX9_worth_25 : decode cX9_worth 25 = .ok (.iload_n 1, 1) := all_d dX9_worth_all0 15 rfl
theorem dX9_worth_26 : decode cX9_worth 26 = .ok (.iadd, 1) := all_d dX9_worth_all0 16 rfl
theorem dX9_worth_27 : decode cX9_worth 27 = .ok (.iaload, 1) := all_d dX9_worth_all0 17 rfl
theorem dX9_worth_28 : decode cX9_worth 28 = .ok (.iconst 2, 1) := all_d dX9_worth_all0 18 rfl
theorem dX9_worth_29 : decode cX9_worth 29 = .ok (.if_icmp .ge 9, 3) := all_d dX9_worth_all0 19 rfl
theorem dX9_worth_32 : decode cX9_worth 32 = .ok (.aload_n 0, 1) := all_d dX9_worth_all0 20 rfl
theorem dX9_worth_33 : decode cX9_worth 33 = .ok (.iconst 4, 1) := all_d dX9_worth_all0 21 rfl
theorem dX9_worth_34 : decode cX9_worth 34 = .ok (.invokevirtual 72, 3) := all_d dX9_worth_all0 22 rfl
theorem dX9_worth_37 : decode cX9_worth 37 = .ok (.ireturn, 1) := all_d dX9_worth_all0 23 rfl
theorem dX9_worth_38 : decode cX9_worth 38 = .ok (.aload_n 0, 1) := all_d dX9_worth_all0 24 rfl
theorem dX9_worth_39 : decode cX9_worth 39 = .ok (.iload_n 3, 1) := all_d dX9_worth_all0 25 rfl
theorem dX9_worth_40 : decode cX9_worth 40 = .ok (.sipush (-8000), 3) := all_d dX9_worth_all0 26 rfl
theorem dX9_worth_43 : decode cX9_worth 43 = .ok (.sipush 8000, 3) := all_d dX9_worth_all0 27 rfl
theorem dX9_worth_46 : decode cX9_worth 46 = .ok (.invokevirtual 64, 3) := all_d dX9_worth_all0 28 rfl
theorem dX9_worth_49 : decode cX9_worth 49 = .ok (.ifCond .ne 9, 3) := all_d dX9_worth_all0 29 rfl
theorem dX9_worth_52 : decode cX9_worth 52 = .ok (.aload_n 0, 1) := all_d dX9_worth_all0 30 rfl
theorem dX9_worth_53 : decode cX9_worth 53 = .ok (.iconst 1, 1) := all_d dX9_worth_all0 31 rfl
theorem dX9_worth_54 : decode cX9_worth 54 = .ok (.invokevirtual 72, 3) := all_d dX9_worth_all0 32 rfl
theorem dX9_worth_57 : decode cX9_worth 57 = .ok (.ireturn, 1) := all_d dX9_worth_all0 33 rfl
theorem dX9_worth_58 : decode cX9_worth 58 = .ok (.aload_n 0, 1) := all_d dX9_worth_all0 34 rfl
theorem dX9_worth_59 : decode cX9_worth 59 = .ok (.invokevirtual 75, 3) := all_d dX9_worth_all0 35 rfl
theorem dX9_worth_62 : decode cX9_worth 62 = .ok (.aload_n 0, 1) := all_d dX9_worth_all0 36 rfl
theorem dX9_worth_63 : decode cX9_worth 63 = .ok (.getfield 7, 3) := all_d dX9_worth_all0 37 rfl
theorem dX9_worth_66 : decode cX9_worth 66 = .ok (.aload_n 0, 1) := all_d dX9_worth_all0 38 rfl
theorem dX9_worth_67 : decode cX9_worth 67 = .ok (.iload_n 1, 1) := all_d dX9_worth_all0 39 rfl
theorem dX9_worth_68 : decode cX9_worth 68 = .ok (.iload_n 2, 1) := all_d dX9_worth_all0 40 rfl
theorem dX9_worth_69 : decode cX9_worth 69 = .ok (.invokevirtual 85, 3) := all_d dX9_worth_all0 41 rfl
theorem dX9_worth_72 : decode cX9_worth 72 = .ok (.iconst 2, 1) := all_d dX9_worth_all0 42 rfl
theorem dX9_worth_73 : decode cX9_worth 73 = .ok (.iadd, 1) := all_d dX9_worth_all0 43 rfl
theorem dX9_worth_74 : decode cX9_worth 74 = .ok (.iload_n 3, 1) := all_d dX9_worth_all0 44 rfl
theorem dX9_worth_75 : decode cX9_worth 75 = .ok (.iastore, 1) := all_d dX9_worth_all0 45 rfl
theorem dX9_worth_76 : decode cX9_worth 76 = .ok (.iconst 1, 1) := all_d dX9_worth_all0 46 rfl
theorem dX9_worth_77 : decode cX9_worth 77 = .ok (.ireturn, 1) := all_d dX9_worth_all0 47 rfl
set_option maxRecDepth 100000 in
theorem dX9_partOf_all0 : ([(0, (.aload_n 0 : Instr), 1), (1, (.iconst 0 : Instr), 1), (2, (.putfield 47 : Instr), 3), (5, (.aload_n 0 : Instr), 1), (6, (.iload_n 1 : Instr), 1), (7, (.iload_n 2 : Instr), 1), (8, (.invokevirtual 60 : Instr), 3), (11, (.ifCond .eq 29 : Instr), 3), (14, (.aload_n 0 : Instr), 1), (15, (.iload_n 3 : Instr), 1), (16, (.iconst 0 : Instr), 1), (17, (.iconst 3 : Instr), 1), (18, (.invokevirtual 64 : Instr), 3), (21, (.ifCond .eq 19 : Instr), 3), (24, (.aload_n 0 : Instr), 1), (25, (.getfield 7 : Instr), 3), (28, (.aload_n 0 : Instr), 1), (29, (.iload_n 1 : Instr), 1), (30, (.iload_n 2 : Instr), 1), (31, (.invokevirtual 85 : Instr), 3), (34, (.iload_n 3 : Instr), 1), (35, (.iadd : Instr), 1), (36, (.iaload : Instr), 1), (37, (.goto 6 : Instr), 3), (40, (.sipush (-10000) : Instr), 3), (43, (.ireturn : Instr), 1)] : List (Nat × Instr × Nat)).all (fun q => decide (decode cX9_partOf q.1 = .ok (q.2.1, q.2.2))) = true := by decide +kernel
theorem dX9_partOf_0 : decode cX9_partOf 0 = .ok (.aload_n 0, 1) := all_d dX9_partOf_all0 0 rfl
theorem dX9_partOf_1 : decode cX9_partOf 1 = .ok (.iconst 0, 1) := all_d dX9_partOf_all0 1 rfl
theorem dX9_partOf_2 : decode cX9_partOf 2 = .ok (.putfield 47, 3) := all_d dX9_partOf_all0 2 rfl
theorem dX9_partOf_5 : decode cX9_partOf 5 = .ok (.aload_n 0, 1) := all_d dX9_partOf_all0 3 rfl
theorem dX9_partOf_6 : decode cX9_partOf 6 = .ok (.iload_n 1, 1) := all_d dX9_partOf_all0 4 rfl
theorem dX9_partOf_7 : decode cX9_partOf 7 = .ok (.iload_n 2, 1) := all_d dX9_partOf_all0 5 rfl
theorem dX9_partOf_8 : decode cX9_partOf 8 = .ok (.invokevirtual 60, 3) := all_d dX9_partOf_all0 6 rfl
theorem dX9_partOf_11 : decode cX9_partOf 11 = .ok (.ifCond .eq 29, 3) := all_d dX9_partOf_all0 7 rfl
theorem dX9_partOf_14 : decode cX9_partOf 14 = .ok (.aload_n 0, 1) := all_d dX9_partOf_all0 8 rfl
theorem dX9_partOf_15 : decode cX9_partOf 15 = .ok (.iload_n 3, 1) := all_d dX9_partOf_all0 9 rfl
theorem dX9_partOf_16 : decode cX9_partOf 16 = .ok (.iconst 0, 1) := all_d dX9_partOf_all0 10 rfl
theorem dX9_partOf_17 : decode cX9_partOf 17 = .ok (.iconst 3, 1) := all_d dX9_partOf_all0 11 rfl
theorem dX9_partOf_18 : decode cX9_partOf 18 = .ok (.invokevirtual 64, 3) := all_d dX9_partOf_all0 12 rfl
theorem dX9_partOf_21 : decode cX9_partOf 21 = .ok (.ifCond .eq 19, 3) := all_d dX9_partOf_all0 13 rfl
theorem dX9_partOf_24 : decode cX9_partOf 24 = .ok (.aload_n 0, 1) := all_d dX9_partOf_all0 14 rfl
theorem dX9_partOf_25 : decode cX9_partOf 25 = .ok (.getfield 7, 3) := all_d dX9_partOf_all0 15 rfl
theorem dX9_partOf_28 : decode cX9_partOf 28 = .ok (.aload_n 0, 1) := all_d dX9_partOf_all0 16 rfl
theorem dX9_partOf_29 : decode cX9_partOf 29 = .ok (.iload_n 1, 1) := all_d dX9_partOf_all0 17 rfl
theorem dX9_partOf_30 : decode cX9_partOf 30 = .ok (.iload_n 2, 1) := all_d dX9_partOf_all0 18 rfl
theorem dX9_partOf_31 : decode cX9_partOf 31 = .ok (.invokevirtual 85, 3) := all_d dX9_partOf_all0 19 rfl
theorem dX9_partOf_34 : decode cX9_partOf 34 = .ok (.iload_n 3, 1) := all_d dX9_partOf_all0 20 rfl
theorem dX9_partOf_35 : decode cX9_partOf 35 = .ok (.iadd, 1) := all_d dX9_partOf_all0 21 rfl
theorem dX9_partOf_36 : decode cX9_partOf 36 = .ok (.iaload, 1) := all_d dX9_partOf_all0 22 rfl
theorem dX9_partOf_37 : decode cX9_partOf 37 = .ok (.goto 6, 3) := all_d dX9_partOf_all0 23 rfl
theorem dX9_partOf_40 : decode cX9_partOf 40 = .ok (.sipush (-10000), 3) := all_d dX9_partOf_all0 24 rfl
theorem dX9_partOf_43 : decode cX9_partOf 43 = .ok (.ireturn, 1) := all_d dX9_partOf_all0 25 rfl
set_option maxRecDepth 100000 in
theorem dX9_kind_all0 : ([(0, (.aload_n 0 : Instr), 1), (1, (.iconst 0 : Instr), 1), (2, (.putfield 47 : Instr), 3), (5, (.aload_n 0 : Instr), 1), (6, (.iload_n 1 : Instr), 1), (7, (.invokevirtual 68 : Instr), 3), (10, (.ifCond .ne 7 : Instr), 3), (13, (.iconst (-1) : Instr), 1), (14, (.goto 36 : Instr), 3), (17, (.iload_n 2 : Instr), 1), (18, (.ifCond .ne 14 : Instr), 3), (21, (.aload_n 0 : Instr), 1), (22, (.getfield 7 : Instr), 3), (25, (.iconst 2 : Instr), 1), (26, (.iload_n 1 : Instr), 1), (27, (.iadd : Instr), 1), (28, (.iaload : Instr), 1), (29, (.goto 21 : Instr), 3), (32, (.iload_n 2 : Instr), 1), (33, (.iconst 1 : Instr), 1), (34, (.if_icmp .ne 15 : Instr), 3), (37, (.aload_n 0 : Instr), 1), (38, (.getfield 7 : Instr), 3), (41, (.bipush 10 : Instr), 2), (43, (.iload_n 1 : Instr), 1), (44, (.iadd : Instr), 1), (45, (.iaload : Instr), 1), (46, (.goto 4 : Instr), 3), (49, (.iconst (-1) : Instr), 1), (50, (.ireturn : Instr), 1)] : List (Nat × Instr × Nat)).all (fun q => decide (decode cX9_kind q.1 = .ok (q.2.1, q.2.2))) = true := by decide +kernel
theorem dX9_kind_0 : decode cX9_kind 0 = .ok (.aload_n 0, 1) := all_d dX9_kind_all0 0 rfl
theorem dX9_kind_1 : decode cX9_kind 1 = .ok (.iconst 0, 1) := all_d dX9_kind_all0 1 rfl
theorem dX9_kind_2 : decode cX9_kind 2 = .ok (.putfield 47, 3) := all_d dX9_kind_all0 2 rfl
theorem dX9_kind_5 : decode cX9_kind 5 = .ok (.aload_n 0, 1) := all_d dX9_kind_all0 3 rfl
theorem dX9_kind_6 : decode cX9_kind 6 = .ok (.iload_n 1, 1) := all_d dX9_kind_all0 4 rfl
theorem dX9_kind_7 : decode cX9_kind 7 = .ok (.invokevirtual 68, 3) := all_d dX9_kind_all0 5 rfl
theorem dX9_kind_10 : decode cX9_kind 10 = .ok (.ifCond .ne 7, 3) := all_d dX9_kind_all0 6 rfl
theorem dX9_kind_13 : decode cX9_kind 13 = .ok (.iconst (-1), 1) := all_d dX9_kind_all0 7 rfl
theorem dX9_kind_14 : decode cX9_kind 14 = .ok (.goto 36, 3) := all_d dX9_kind_all0 8 rfl
theorem dX9_kind_17 : decode cX9_kind 17 = .ok (.iload_n 2, 1) := all_d dX9_kind_all0 9 rfl
theorem dX9_kind_18 : decode cX9_kind 18 = .ok (.ifCond .ne 14, 3) := all_d dX9_kind_all0 10 rfl
theorem dX9_kind_21 : decode cX9_kind 21 = .ok (.aload_n 0, 1) := all_d dX9_kind_all0 11 rfl
theorem dX9_kind_22 : decode cX9_kind 22 = .ok (.getfield 7, 3) := all_d dX9_kind_all0 12 rfl
theorem dX9_kind_25 : decode cX9_kind 25 = .ok (.iconst 2, 1) := all_d dX9_kind_all0 13 rfl
theorem dX9_kind_26 : decode cX9_kind 26 = .ok (.iload_n 1, 1) := all_d dX9_kind_all0 14 rfl
theorem dX9_kind_27 : decode cX9_kind 27 = .ok (.iadd, 1) := all_d dX9_kind_all0 15 rfl
theorem dX9_kind_28 : decode cX9_kind 28 = .ok (.iaload, 1) := all_d dX9_kind_all0 16 rfl
theorem dX9_kind_29 : decode cX9_kind 29 = .ok (.goto 21, 3) := all_d dX9_kind_all0 17 rfl
theorem dX9_kind_32 : decode cX9_kind 32 = .ok (.iload_n 2, 1) := all_d dX9_kind_all0 18 rfl
theorem dX9_kind_33 : decode cX9_kind 33 = .ok (.iconst 1, 1) := all_d dX9_kind_all0 19 rfl
theorem dX9_kind_34 : decode cX9_kind 34 = .ok (.if_icmp .ne 15, 3) := all_d dX9_kind_all0 20 rfl
theorem dX9_kind_37 : decode cX9_kind 37 = .ok (.aload_n 0, 1) := all_d dX9_kind_all0 21 rfl
theorem dX9_kind_38 : decode cX9_kind 38 = .ok (.getfield 7, 3) := all_d dX9_kind_all0 22 rfl
theorem dX9_kind_41 : decode cX9_kind 41 = .ok (.bipush 10, 2) := all_d dX9_kind_all0 23 rfl
theorem dX9_kind_43 : decode cX9_kind 43 = .ok (.iload_n 1, 1) := all_d dX9_kind_all0 24 rfl
theorem dX9_kind_44 : decode cX9_kind 44 = .ok (.iadd, 1) := all_d dX9_kind_all0 25 rfl
theorem dX9_kind_45 : decode cX9_kind 45 = .ok (.iaload, 1) := all_d dX9_kind_all0 26 rfl
theorem dX9_kind_46 : decode cX9_kind 46 = .ok (.goto 4, 3) := all_d dX9_kind_all0 27 rfl
theorem dX9_kind_49 : decode cX9_kind 49 = .ok (.iconst (-1), 1) := all_d dX9_kind_all0 28 rfl
theorem dX9_kind_50 : decode cX9_kind 50 = .ok (.ireturn, 1) := all_d dX9_kind_all0 29 rfl
set_option maxRecDepth 100000 in
theorem dX9_held_all0 : ([(0, (.iload_n 1 : Instr), 1), (1, (.ldc 89 : Instr), 2), (3, (.if_icmp .le 8 : Instr), 3), (6, (.ldc 89 : Instr), 2), (8, (.goto 15 : Instr), 3), (11, (.iload_n 1 : Instr), 1), (12, (.ldc 90 : Instr), 2), (14, (.if_icmp .ge 8 : Instr), 3), (17, (.ldc 90 : Instr), 2), (19, (.goto 4 : Instr), 3), (22, (.iload_n 1 : Instr), 1), (23, (.ireturn : Instr), 1)] : List (Nat × Instr × Nat)).all (fun q => decide (decode cX9_held q.1 = .ok (q.2.1, q.2.2))) = true := by decide +kernel
theorem dX9_held_0 : decode cX9_held 0 = .ok (.iload_n 1, 1) := all_d dX9_held_all0 0 rfl
theorem dX9_held_1 : decode cX9_held 1 = .ok (.ldc 89, 2) := all_d dX9_held_all0 1 rfl
theorem dX9_held_3 : decode cX9_held 3 = .ok (.if_icmp .le 8, 3) := all_d dX9_held_all0 2 rfl
theorem dX9_held_6 : decode cX9_held 6 = .ok (.ldc 89, 2) := all_d dX9_held_all0 3 rfl
theorem dX9_held_8 : decode cX9_held 8 = .ok (.goto 15, 3) := all_d dX9_held_all0 4 rfl
theorem dX9_held_11 : decode cX9_held 11 = .ok (.iload_n 1, 1) := all_d dX9_held_all0 5 rfl
theorem dX9_held_12 : decode cX9_held 12 = .ok (.ldc 90, 2) := all_d dX9_held_all0 6 rfl
theorem dX9_held_14 : decode cX9_held 14 = .ok (.if_icmp .ge 8, 3) := all_d dX9_held_all0 7 rfl
theorem dX9_held_17 : decode cX9_held 17 = .ok (.ldc 90, 2) := all_d dX9_held_all0 8 rfl
theorem dX9_held_19 : decode cX9_held 19 = .ok (.goto 4, 3) := all_d dX9_held_all0 9 rfl
theorem dX9_held_22 : decode cX9_held 22 = .ok (.iload_n 1, 1) := all_d dX9_held_all0 10 rfl
theorem dX9_held_23 : decode cX9_held 23 = .ok (.ireturn, 1) := all_d dX9_held_all0 11 rfl
set_option maxRecDepth 100000 in
theorem dX9_reads_all0 : ([(0, (.aload_n 0 : Instr), 1), (1, (.getfield 7 : Instr), 3), (4, (.bipush 10 : Instr), 2), (6, (.iload_n 1 : Instr), 1), (7, (.iadd : Instr), 1), (8, (.iaload : Instr), 1), (9, (.istore_n 3 : Instr), 1), (10, (.aload_n 0 : Instr), 1), (11, (.getfield 7 : Instr), 3), (14, (.iconst 2 : Instr), 1), (15, (.iload_n 1 : Instr), 1), (16, (.iadd : Instr), 1), (17, (.iaload : Instr), 1), (18, (.istore 4 : Instr), 2), (20, (.aload_n 0 : Instr), 1), (21, (.iconst 0 : Instr), 1), (22, (.putfield 91 : Instr), 3), (25, (.aload_n 0 : Instr), 1), (26, (.iconst 0 : Instr), 1), (27, (.putfield 94 : Instr), 3), (30, (.aload_n 0 : Instr), 1), (31, (.iload_n 2 : Instr), 1), (32, (.putfield 97 : Instr), 3), (35, (.iconst 0 : Instr), 1), (36, (.istore 5 : Instr), 2), (38, (.iconst 0 : Instr), 1), (39, (.istore 6 : Instr), 2), (41, (.iconst 0 : Instr), 1), (42, (.istore 7 : Instr), 2), (44, (.iload 7 : Instr), 2), (46, (.iload_n 3 : Instr), 1), (47, (.if_icmp .ge 351 : Instr), 3), (50, (.aload_n 0 : Instr), 1), (51, (.iload_n 1 : Instr), 1), (52, (.iload 7 : Instr), 2), (54, (.invokevirtual 85 : Instr), 3), (57, (.istore 8 : Instr), 2), (59, (.aload_n 0 : Instr), 1), (60, (.getfield 7 : Instr), 3), (63, (.iload 8 : Instr), 2), (65, (.iaload : Instr), 1), (66, (.aload_n 0 : Instr), 1), (67, (.getfield 7 : Instr), 3), (70, (.iload 8 : Instr), 2), (72, (.iconst 1 : Instr), 1), (73, (.iadd : Instr), 1), (74, (.iaload : Instr), 1), (75, (.iadd : Instr), 1), (76, (.istore 9 : Instr), 2), (78, (.aload_n 0 : Instr), 1), (79, (.getfield 7 : Instr), 3), (82, (.iload 8 : Instr), 2), (84, (.iconst 2 : Instr), 1), (85, (.iadd : Instr), 1), (86, (.iaload : Instr), 1), (87, (.istore 10 : Instr), 2), (89, (.iconst 0 : Instr), 1), (90, (.istore 11 : Instr), 2), (92, (.iload 4 : Instr), 2), (94, (.tableswitch 159 0 2 #[26, 26, 109] : Instr), 26), (120, (.iload 4 : Instr), 2), (122, (.ifCond .ne 8 : Instr), 3), (125, (.iload 9 : Instr), 2), (127, (.goto 8 : Instr), 3), (130, (.iload 5 : Instr), 2), (132, (.iload 9 : Instr), 2), (134, (.iadd : Instr), 1), (135, (.istore 5 : Instr), 2), (137, (.iload 5 : Instr), 2), (139, (.iload_n 2 : Instr), 1), (140, (.if_icmp .gt 7 : Instr), 3), (143, (.iconst 1 : Instr), 1), (144, (.goto 4 : Instr), 3), (147, (.iconst 0 : Instr), 1), (148, (.istore 11 : Instr), 2), (150, (.aload_n 0 : Instr), 1), (151, (.dup : Instr), 1), (152, (.getfield 91 : Instr), 3), (155, (.iload 11 : Instr), 2), (157, (.ifCond .eq 7 : Instr), 3)] : List (Nat × Instr × Nat)).all (fun q => decide (decode cX9_reads q.1 = .ok (q.2.1, q.2.2))) = true := by decide +kernel
theorem dX9_reads_0 : decode cX9_reads 0 = .ok (.aload_n 0, 1) := all_d dX9_reads_all0 0 rfl
theorem dX9_reads_1 : decode cX9_reads 1 = .ok (.getfield 7, 3) := all_d dX9_reads_all0 1 rfl
theorem dX9_reads_4 : decode cX9_reads 4 = .ok (.bipush 10, 2) := all_d dX9_reads_all0 2 rfl
theorem dX9_reads_6 : decode cX9_reads 6 = .ok (.iload_n 1, 1) := all_d dX9_reads_all0 3 rfl
theorem dX9_reads_7 : decode cX9_reads 7 = .ok (.iadd, 1) := all_d dX9_reads_all0 4 rfl
theorem dX9_reads_8 : decode cX9_reads 8 = .ok (.iaload, 1) := all_d dX9_reads_all0 5 rfl
theorem dX9_reads_9 : decode cX9_reads 9 = .ok (.istore_n 3, 1) := all_d dX9_reads_all0 6 rfl
theorem dX9_reads_10 : decode cX9_reads 10 = .ok (.aload_n 0, 1) := all_d dX9_reads_all0 7 rfl
theorem dX9_reads_11 : decode cX9_reads 11 = .ok (.getfield 7, 3) := all_d dX9_reads_all0 8 rfl
theorem dX9_reads_14 : decode cX9_reads 14 = .ok (.iconst 2, 1) := all_d dX9_reads_all0 9 rfl
theorem dX9_reads_15 : decode cX9_reads 15 = .ok (.iload_n 1, 1) := all_d dX9_reads_all0 10 rfl
theorem dX9_reads_16 : decode cX9_reads 16 = .ok (.iadd, 1) := all_d dX9_reads_all0 11 rfl
theorem dX9_reads_17 : decode cX9_reads 17 = .ok (.iaload, 1) := all_d dX9_reads_all0 12 rfl
theorem dX9_reads_18 : decode cX9_reads 18 = .ok (.istore 4, 2) := all_d dX9_reads_all0 13 rfl
theorem dX9_reads_20 : decode cX9_reads 20 = .ok (.aload_n 0, 1) := all_d dX9_reads_all0 14 rfl
theorem dX9_reads_21 : decode cX9_reads 21 = .ok (.iconst 0, 1) := all_d dX9_reads_all0 15 rfl
theorem dX9_reads_22 : decode cX9_reads 22 = .ok (.putfield 91, 3) := all_d dX9_reads_all0 16 rfl
theorem dX9_reads_25 : decode cX9_reads 25 = .ok (.aload_n 0, 1) := all_d dX9_reads_all0 17 rfl
theorem dX9_reads_26 : decode cX9_reads 26 = .ok (.iconst 0, 1) := all_d dX9_reads_all0 18 rfl
theorem dX9_reads_27 : decode cX9_reads 27 = .ok (.putfield 94, 3) := all_d dX9_reads_all0 19 rfl
theorem dX9_reads_30 : decode cX9_reads 30 = .ok (.aload_n 0, 1) := all_d dX9_reads_all0 20 rfl
theorem dX9_reads_31 : decode cX9_reads 31 = .ok (.iload_n 2, 1) := all_d dX9_reads_all0 21 rfl
theorem dX9_reads_32 : decode cX9_reads 32 = .ok (.putfield 97, 3) := all_d dX9_reads_all0 22 rfl
theorem dX9_reads_35 : decode cX9_reads 35 = .ok (.iconst 0, 1) := all_d dX9_reads_all0 23 rfl
theorem dX9_reads_36 : decode cX9_reads 36 = .ok (.istore 5, 2) := all_d dX9_reads_all0 24 rfl
theorem dX9_reads_38 : decode cX9_reads 38 = .ok (.iconst 0, 1) := all_d dX9_reads_all0 25 rfl
theorem dX9_reads_39 : decode cX9_reads 39 = .ok (.istore 6, 2) := all_d dX9_reads_all0 26 rfl
theorem dX9_reads_41 : decode cX9_reads 41 = .ok (.iconst 0, 1) := all_d dX9_reads_all0 27 rfl
theorem dX9_reads_42 : decode cX9_reads 42 = .ok (.istore 7, 2) := all_d dX9_reads_all0 28 rfl
theorem dX9_reads_44 : decode cX9_reads 44 = .ok (.iload 7, 2) := all_d dX9_reads_all0 29 rfl
theorem dX9_reads_46 : decode cX9_reads 46 = .ok (.iload_n 3, 1) := all_d dX9_reads_all0 30 rfl
theorem dX9_reads_47 : decode cX9_reads 47 = .ok (.if_icmp .ge 351, 3) := all_d dX9_reads_all0 31 rfl
theorem dX9_reads_50 : decode cX9_reads 50 = .ok (.aload_n 0, 1) := all_d dX9_reads_all0 32 rfl
theorem dX9_reads_51 : decode cX9_reads 51 = .ok (.iload_n 1, 1) := all_d dX9_reads_all0 33 rfl
theorem dX9_reads_52 : decode cX9_reads 52 = .ok (.iload 7, 2) := all_d dX9_reads_all0 34 rfl
theorem dX9_reads_54 : decode cX9_reads 54 = .ok (.invokevirtual 85, 3) := all_d dX9_reads_all0 35 rfl
theorem dX9_reads_57 : decode cX9_reads 57 = .ok (.istore 8, 2) := all_d dX9_reads_all0 36 rfl
theorem dX9_reads_59 : decode cX9_reads 59 = .ok (.aload_n 0, 1) := all_d dX9_reads_all0 37 rfl
theorem dX9_reads_60 : decode cX9_reads 60 = .ok (.getfield 7, 3) := all_d dX9_reads_all0 38 rfl
theorem dX9_reads_63 : decode cX9_reads 63 = .ok (.iload 8, 2) := all_d dX9_reads_all0 39 rfl
theorem dX9_reads_65 : decode cX9_reads 65 = .ok (.iaload, 1) := all_d dX9_reads_all0 40 rfl
theorem dX9_reads_66 : decode cX9_reads 66 = .ok (.aload_n 0, 1) := all_d dX9_reads_all0 41 rfl
theorem dX9_reads_67 : decode cX9_reads 67 = .ok (.getfield 7, 3) := all_d dX9_reads_all0 42 rfl
theorem dX9_reads_70 : decode cX9_reads 70 = .ok (.iload 8, 2) := all_d dX9_reads_all0 43 rfl
theorem dX9_reads_72 : decode cX9_reads 72 = .ok (.iconst 1, 1) := all_d dX9_reads_all0 44 rfl
theorem dX9_reads_73 : decode cX9_reads 73 = .ok (.iadd, 1) := all_d dX9_reads_all0 45 rfl
theorem dX9_reads_74 : decode cX9_reads 74 = .ok (.iaload, 1) := all_d dX9_reads_all0 46 rfl
theorem dX9_reads_75 : decode cX9_reads 75 = .ok (.iadd, 1) := all_d dX9_reads_all0 47 rfl
theorem dX9_reads_76 : decode cX9_reads 76 = .ok (.istore 9, 2) := all_d dX9_reads_all0 48 rfl
theorem dX9_reads_78 : decode cX9_reads 78 = .ok (.aload_n 0, 1) := all_d dX9_reads_all0 49 rfl
theorem dX9_reads_79 : decode cX9_reads 79 = .ok (.getfield 7, 3) := all_d dX9_reads_all0 50 rfl
theorem dX9_reads_82 : decode cX9_reads 82 = .ok (.iload 8, 2) := all_d dX9_reads_all0 51 rfl
theorem dX9_reads_84 : decode cX9_reads 84 = .ok (.iconst 2, 1) := all_d dX9_reads_all0 52 rfl
theorem dX9_reads_85 : decode cX9_reads 85 = .ok (.iadd, 1) := all_d dX9_reads_all0 53 rfl
theorem dX9_reads_86 : decode cX9_reads 86 = .ok (.iaload, 1) := all_d dX9_reads_all0 54 rfl
theorem dX9_reads_87 : decode cX9_reads 87 = .ok (.istore 10, 2) := all_d dX9_reads_all0 55 rfl
theorem dX9_reads_89 : decode cX9_reads 89 = .ok (.iconst 0, 1) := all_d dX9_reads_all0 56 rfl
theorem dX9_reads_90 : decode cX9_reads 90 = .ok (.istore 11, 2) := all_d dX9_reads_all0 57 rfl
theorem dX9_reads_92 : decode cX9_reads 92 = .ok (.iload 4, 2) := all_d dX9_reads_all0 58 rfl
theorem dX9_reads_94 : decode cX9_reads 94 = .ok (.tableswitch 159 0 2 #[26, 26, 109], 26) := all_d dX9_reads_all0 59 rfl
theorem dX9_reads_120 : decode cX9_reads 120 = .ok (.iload 4, 2) := all_d dX9_reads_all0 60 rfl
theorem dX9_reads_122 : decode cX9_reads 122 = .ok (.ifCond .ne 8, 3) := all_d dX9_reads_all0 61 rfl
theorem dX9_reads_125 : decode cX9_reads 125 = .ok (.iload 9, 2) := all_d dX9_reads_all0 62 rfl
theorem dX9_reads_127 : decode cX9_reads 127 = .ok (.goto 8, 3) := all_d dX9_reads_all0 63 rfl
theorem dX9_reads_130 : decode cX9_reads 130 = .ok (.iload 5, 2) := all_d dX9_reads_all0 64 rfl
theorem dX9_reads_132 : decode cX9_reads 132 = .ok (.iload 9, 2) := all_d dX9_reads_all0 65 rfl
theorem dX9_reads_134 : decode cX9_reads 134 = .ok (.iadd, 1) := all_d dX9_reads_all0 66 rfl
theorem dX9_reads_135 : decode cX9_reads 135 = .ok (.istore 5, 2) := all_d dX9_reads_all0 67 rfl
theorem dX9_reads_137 : decode cX9_reads 137 = .ok (.iload 5, 2) := all_d dX9_reads_all0 68 rfl
theorem dX9_reads_139 : decode cX9_reads 139 = .ok (.iload_n 2, 1) := all_d dX9_reads_all0 69 rfl
theorem dX9_reads_140 : decode cX9_reads 140 = .ok (.if_icmp .gt 7, 3) := all_d dX9_reads_all0 70 rfl
theorem dX9_reads_143 : decode cX9_reads 143 = .ok (.iconst 1, 1) := all_d dX9_reads_all0 71 rfl
theorem dX9_reads_144 : decode cX9_reads 144 = .ok (.goto 4, 3) := all_d dX9_reads_all0 72 rfl
theorem dX9_reads_147 : decode cX9_reads 147 = .ok (.iconst 0, 1) := all_d dX9_reads_all0 73 rfl
theorem dX9_reads_148 : decode cX9_reads 148 = .ok (.istore 11, 2) := all_d dX9_reads_all0 74 rfl
theorem dX9_reads_150 : decode cX9_reads 150 = .ok (.aload_n 0, 1) := all_d dX9_reads_all0 75 rfl
theorem dX9_reads_151 : decode cX9_reads 151 = .ok (.dup, 1) := all_d dX9_reads_all0 76 rfl
theorem dX9_reads_152 : decode cX9_reads 152 = .ok (.getfield 91, 3) := all_d dX9_reads_all0 77 rfl
theorem dX9_reads_155 : decode cX9_reads 155 = .ok (.iload 11, 2) := all_d dX9_reads_all0 78 rfl
theorem dX9_reads_157 : decode cX9_reads 157 = .ok (.ifCond .eq 7, 3) := all_d dX9_reads_all0 79 rfl
set_option maxRecDepth 100000 in
theorem dX9_reads_all1 : ([(160, (.iconst 1 : Instr), 1), (161, (.goto 4 : Instr), 3), (164, (.iconst 0 : Instr), 1), (165, (.iadd : Instr), 1), (166, (.putfield 91 : Instr), 3), (169, (.iload 11 : Instr), 2), (171, (.ifCond .eq 199 : Instr), 3), (174, (.aload_n 0 : Instr), 1), (175, (.getfield 94 : Instr), 3), (178, (.ifCond .eq 14 : Instr), 3), (181, (.iload_n 2 : Instr), 1), (182, (.iload 5 : Instr), 2), (184, (.isub : Instr), 1), (185, (.aload_n 0 : Instr), 1), (186, (.getfield 97 : Instr), 3), (189, (.if_icmp .ge 181 : Instr), 3), (192, (.aload_n 0 : Instr), 1), (193, (.iload_n 2 : Instr), 1), (194, (.iload 5 : Instr), 2), (196, (.isub : Instr), 1), (197, (.putfield 97 : Instr), 3), (200, (.goto 170 : Instr), 3), (203, (.iload 5 : Instr), 2), (205, (.iload 9 : Instr), 2), (207, (.iadd : Instr), 1), (208, (.iload_n 2 : Instr), 1), (209, (.if_icmp .gt 7 : Instr), 3), (212, (.iconst 1 : Instr), 1), (213, (.goto 4 : Instr), 3), (216, (.iconst 0 : Instr), 1), (217, (.istore 11 : Instr), 2), (219, (.iload 11 : Instr), 2), (221, (.ifCond .eq 149 : Instr), 3), (224, (.iload 5 : Instr), 2), (226, (.iload 9 : Instr), 2), (228, (.iadd : Instr), 1), (229, (.istore 5 : Instr), 2), (231, (.aload_n 0 : Instr), 1), (232, (.dup : Instr), 1), (233, (.getfield 91 : Instr), 3), (236, (.iload 10 : Instr), 2), (238, (.iadd : Instr), 1), (239, (.putfield 91 : Instr), 3), (242, (.aload_n 0 : Instr), 1), (243, (.iload_n 2 : Instr), 1), (244, (.iload 5 : Instr), 2), (246, (.isub : Instr), 1), (247, (.putfield 97 : Instr), 3), (250, (.goto 120 : Instr), 3), (253, (.aload_n 0 : Instr), 1), (254, (.getfield 97 : Instr), 3), (257, (.aload_n 0 : Instr), 1), (258, (.getfield 7 : Instr), 3), (261, (.iload 8 : Instr), 2), (263, (.iconst 3 : Instr), 1), (264, (.iadd : Instr), 1), (265, (.iaload : Instr), 1), (266, (.if_icmp .lt 7 : Instr), 3), (269, (.iconst 1 : Instr), 1), (270, (.goto 4 : Instr), 3), (273, (.iconst 0 : Instr), 1), (274, (.istore 11 : Instr), 2), (276, (.iload 6 : Instr), 2), (278, (.iload 11 : Instr), 2), (280, (.if_icmp .eq 7 : Instr), 3), (283, (.iconst 1 : Instr), 1), (284, (.goto 4 : Instr), 3), (287, (.iconst 0 : Instr), 1), (288, (.istore 6 : Instr), 2), (290, (.iload 11 : Instr), 2), (292, (.ifCond .eq 30 : Instr), 3), (295, (.aload_n 0 : Instr), 1), (296, (.iload 4 : Instr), 2), (298, (.iconst 3 : Instr), 1), (299, (.if_icmp .ne 13 : Instr), 3), (302, (.aload_n 0 : Instr), 1), (303, (.getfield 97 : Instr), 3), (306, (.iload 9 : Instr), 2), (308, (.isub : Instr), 1), (309, (.goto 10 : Instr), 3)] : List (Nat × Instr × Nat)).all (fun q => decide (decode cX9_reads q.1 = .ok (q.2.1, q.2.2))) = true := by decide +kernel
theorem dX9_reads_160 : decode cX9_reads 160 = .ok (.iconst 1, 1) := all_d dX9_reads_all1 0 rfl
theorem dX9_reads_161 : decode cX9_reads 161 = .ok (.goto 4, 3) := all_d dX9_reads_all1 1 rfl
theorem dX9_reads_164 : decode cX9_reads 164 = .ok (.iconst 0, 1) := all_d dX9_reads_all1 2 rfl
theorem dX9_reads_165 : decode cX9_reads 165 = .ok (.iadd, 1) := all_d dX9_reads_all1 3 rfl
theorem dX9_reads_166 : decode cX9_reads 166 = .ok (.putfield 91, 3) := all_d dX9_reads_all1 4 rfl
theorem dX9_reads_169 : decode cX9_reads 169 = .ok (.iload 11, 2) := all_d dX9_reads_all1 5 rfl
theorem dX9_reads_171 : decode cX9_reads 171 = .ok (.ifCond .eq 199, 3) := all_d dX9_reads_all1 6 rfl
theorem dX9_reads_174 : decode cX9_reads 174 = .ok (.aload_n 0, 1) := all_d dX9_reads_all1 7 rfl
theorem dX9_reads_175 : decode cX9_reads 175 = .ok (.getfield 94, 3) := all_d dX9_reads_all1 8 rfl
theorem dX9_reads_178 : decode cX9_reads 178 = .ok (.ifCond .eq 14, 3) := all_d dX9_reads_all1 9 rfl
theorem dX9_reads_181 : decode cX9_reads 181 = .ok (.iload_n 2, 1) := all_d dX9_reads_all1 10 rfl
theorem dX9_reads_182 : decode cX9_reads 182 = .ok (.iload 5, 2) := all_d dX9_reads_all1 11 rfl
theorem dX9_reads_184 : decode cX9_reads 184 = .ok (.isub, 1) := all_d dX9_reads_all1 12 rfl
theorem dX9_reads_185 : decode cX9_reads 185 = .ok (.aload_n 0, 1) := all_d dX9_reads_all1 13 rfl
theorem dX9_reads_186 : decode cX9_reads 186 = .ok (.getfield 97, 3) := all_d dX9_reads_all1 14 rfl
theorem dX9_reads_189 : decode cX9_reads 189 = .ok (.if_icmp .ge 181, 3) := all_d dX9_reads_all1 15 rfl
theorem dX9_reads_192 : decode cX9_reads 192 = .ok (.aload_n 0, 1) := all_d dX9_reads_all1 16 rfl
theorem dX9_reads_193 : decode cX9_reads 193 = .ok (.iload_n 2, 1) := all_d dX9_reads_all1 17 rfl
theorem dX9_reads_194 : decode cX9_reads 194 = .ok (.iload 5, 2) := all_d dX9_reads_all1 18 rfl
theorem dX9_reads_196 : decode cX9_reads 196 = .ok (.isub, 1) := all_d dX9_reads_all1 19 rfl
theorem dX9_reads_197 : decode cX9_reads 197 = .ok (.putfield 97, 3) := all_d dX9_reads_all1 20 rfl
theorem dX9_reads_200 : decode cX9_reads 200 = .ok (.goto 170, 3) := all_d dX9_reads_all1 21 rfl
theorem dX9_reads_203 : decode cX9_reads 203 = .ok (.iload 5, 2) := all_d dX9_reads_all1 22 rfl
theorem dX9_reads_205 : decode cX9_reads 205 = .ok (.iload 9, 2) := all_d dX9_reads_all1 23 rfl
theorem dX9_reads_207 : decode cX9_reads 207 = .ok (.iadd, 1) := all_d dX9_reads_all1 24 rfl
theorem dX9_reads_208 : decode cX9_reads 208 = .ok (.iload_n 2, 1) := all_d dX9_reads_all1 25 rfl
theorem dX9_reads_209 : decode cX9_reads 209 = .ok (.if_icmp .gt 7, 3) := all_d dX9_reads_all1 26 rfl
theorem dX9_reads_212 : decode cX9_reads 212 = .ok (.iconst 1, 1) := all_d dX9_reads_all1 27 rfl
theorem dX9_reads_213 : decode cX9_reads 213 = .ok (.goto 4, 3) := all_d dX9_reads_all1 28 rfl
theorem dX9_reads_216 : decode cX9_reads 216 = .ok (.iconst 0, 1) := all_d dX9_reads_all1 29 rfl
theorem dX9_reads_217 : decode cX9_reads 217 = .ok (.istore 11, 2) := all_d dX9_reads_all1 30 rfl
theorem dX9_reads_219 : decode cX9_reads 219 = .ok (.iload 11, 2) := all_d dX9_reads_all1 31 rfl
theorem dX9_reads_221 : decode cX9_reads 221 = .ok (.ifCond .eq 149, 3) := all_d dX9_reads_all1 32 rfl
theorem dX9_reads_224 : decode cX9_reads 224 = .ok (.iload 5, 2) := all_d dX9_reads_all1 33 rfl
theorem dX9_reads_226 : decode cX9_reads 226 = .ok (.iload 9, 2) := all_d dX9_reads_all1 34 rfl
theorem dX9_reads_228 : decode cX9_reads 228 = .ok (.iadd, 1) := all_d dX9_reads_all1 35 rfl
theorem dX9_reads_229 : decode cX9_reads 229 = .ok (.istore 5, 2) := all_d dX9_reads_all1 36 rfl
theorem dX9_reads_231 : decode cX9_reads 231 = .ok (.aload_n 0, 1) := all_d dX9_reads_all1 37 rfl
theorem dX9_reads_232 : decode cX9_reads 232 = .ok (.dup, 1) := all_d dX9_reads_all1 38 rfl
theorem dX9_reads_233 : decode cX9_reads 233 = .ok (.getfield 91, 3) := all_d dX9_reads_all1 39 rfl
theorem dX9_reads_236 : decode cX9_reads 236 = .ok (.iload 10, 2) := all_d dX9_reads_all1 40 rfl
theorem dX9_reads_238 : decode cX9_reads 238 = .ok (.iadd, 1) := all_d dX9_reads_all1 41 rfl
theorem dX9_reads_239 : decode cX9_reads 239 = .ok (.putfield 91, 3) := all_d dX9_reads_all1 42 rfl
theorem dX9_reads_242 : decode cX9_reads 242 = .ok (.aload_n 0, 1) := all_d dX9_reads_all1 43 rfl
theorem dX9_reads_243 : decode cX9_reads 243 = .ok (.iload_n 2, 1) := all_d dX9_reads_all1 44 rfl
theorem dX9_reads_244 : decode cX9_reads 244 = .ok (.iload 5, 2) := all_d dX9_reads_all1 45 rfl
theorem dX9_reads_246 : decode cX9_reads 246 = .ok (.isub, 1) := all_d dX9_reads_all1 46 rfl
theorem dX9_reads_247 : decode cX9_reads 247 = .ok (.putfield 97, 3) := all_d dX9_reads_all1 47 rfl
theorem dX9_reads_250 : decode cX9_reads 250 = .ok (.goto 120, 3) := all_d dX9_reads_all1 48 rfl
theorem dX9_reads_253 : decode cX9_reads 253 = .ok (.aload_n 0, 1) := all_d dX9_reads_all1 49 rfl
theorem dX9_reads_254 : decode cX9_reads 254 = .ok (.getfield 97, 3) := all_d dX9_reads_all1 50 rfl
theorem dX9_reads_257 : decode cX9_reads 257 = .ok (.aload_n 0, 1) := all_d dX9_reads_all1 51 rfl
theorem dX9_reads_258 : decode cX9_reads 258 = .ok (.getfield 7, 3) := all_d dX9_reads_all1 52 rfl
theorem dX9_reads_261 : decode cX9_reads 261 = .ok (.iload 8, 2) := all_d dX9_reads_all1 53 rfl
theorem dX9_reads_263 : decode cX9_reads 263 = .ok (.iconst 3, 1) := all_d dX9_reads_all1 54 rfl
theorem dX9_reads_264 : decode cX9_reads 264 = .ok (.iadd, 1) := all_d dX9_reads_all1 55 rfl
theorem dX9_reads_265 : decode cX9_reads 265 = .ok (.iaload, 1) := all_d dX9_reads_all1 56 rfl
theorem dX9_reads_266 : decode cX9_reads 266 = .ok (.if_icmp .lt 7, 3) := all_d dX9_reads_all1 57 rfl
theorem dX9_reads_269 : decode cX9_reads 269 = .ok (.iconst 1, 1) := all_d dX9_reads_all1 58 rfl
theorem dX9_reads_270 : decode cX9_reads 270 = .ok (.goto 4, 3) := all_d dX9_reads_all1 59 rfl
theorem dX9_reads_273 : decode cX9_reads 273 = .ok (.iconst 0, 1) := all_d dX9_reads_all1 60 rfl
theorem dX9_reads_274 : decode cX9_reads 274 = .ok (.istore 11, 2) := all_d dX9_reads_all1 61 rfl
theorem dX9_reads_276 : decode cX9_reads 276 = .ok (.iload 6, 2) := all_d dX9_reads_all1 62 rfl
theorem dX9_reads_278 : decode cX9_reads 278 = .ok (.iload 11, 2) := all_d dX9_reads_all1 63 rfl
theorem dX9_reads_280 : decode cX9_reads 280 = .ok (.if_icmp .eq 7, 3) := all_d dX9_reads_all1 64 rfl
theorem dX9_reads_283 : decode cX9_reads 283 = .ok (.iconst 1, 1) := all_d dX9_reads_all1 65 rfl
theorem dX9_reads_284 : decode cX9_reads 284 = .ok (.goto 4, 3) := all_d dX9_reads_all1 66 rfl
theorem dX9_reads_287 : decode cX9_reads 287 = .ok (.iconst 0, 1) := all_d dX9_reads_all1 67 rfl
theorem dX9_reads_288 : decode cX9_reads 288 = .ok (.istore 6, 2) := all_d dX9_reads_all1 68 rfl
theorem dX9_reads_290 : decode cX9_reads 290 = .ok (.iload 11, 2) := all_d dX9_reads_all1 69 rfl
theorem dX9_reads_292 : decode cX9_reads 292 = .ok (.ifCond .eq 30, 3) := all_d dX9_reads_all1 70 rfl
theorem dX9_reads_295 : decode cX9_reads 295 = .ok (.aload_n 0, 1) := all_d dX9_reads_all1 71 rfl
theorem dX9_reads_296 : decode cX9_reads 296 = .ok (.iload 4, 2) := all_d dX9_reads_all1 72 rfl
theorem dX9_reads_298 : decode cX9_reads 298 = .ok (.iconst 3, 1) := all_d dX9_reads_all1 73 rfl
theorem dX9_reads_299 : decode cX9_reads 299 = .ok (.if_icmp .ne 13, 3) := all_d dX9_reads_all1 74 rfl
theorem dX9_reads_302 : decode cX9_reads 302 = .ok (.aload_n 0, 1) := all_d dX9_reads_all1 75 rfl
theorem dX9_reads_303 : decode cX9_reads 303 = .ok (.getfield 97, 3) := all_d dX9_reads_all1 76 rfl
theorem dX9_reads_306 : decode cX9_reads 306 = .ok (.iload 9, 2) := all_d dX9_reads_all1 77 rfl
theorem dX9_reads_308 : decode cX9_reads 308 = .ok (.isub, 1) := all_d dX9_reads_all1 78 rfl
theorem dX9_reads_309 : decode cX9_reads 309 = .ok (.goto 10, 3) := all_d dX9_reads_all1 79 rfl
set_option maxRecDepth 100000 in
theorem dX9_reads_all2 : ([(312, (.iload 9 : Instr), 2), (314, (.aload_n 0 : Instr), 1), (315, (.getfield 97 : Instr), 3), (318, (.isub : Instr), 1), (319, (.putfield 97 : Instr), 3), (322, (.aload_n 0 : Instr), 1), (323, (.aload_n 0 : Instr), 1), (324, (.iconst 2 : Instr), 1), (325, (.aload_n 0 : Instr), 1), (326, (.getfield 97 : Instr), 3), (329, (.imul : Instr), 1), (330, (.invokevirtual 100 : Instr), 3), (333, (.putfield 97 : Instr), 3), (336, (.aload_n 0 : Instr), 1), (337, (.dup : Instr), 1), (338, (.getfield 91 : Instr), 3), (341, (.iload 4 : Instr), 2), (343, (.iconst 3 : Instr), 1), (344, (.if_icmp .ne 11 : Instr), 3), (347, (.iload 11 : Instr), 2), (349, (.ifCond .eq 16 : Instr), 3), (352, (.goto 8 : Instr), 3), (355, (.iload 6 : Instr), 2), (357, (.ifCond .eq 8 : Instr), 3), (360, (.iload 10 : Instr), 2), (362, (.goto 4 : Instr), 3), (365, (.iconst 0 : Instr), 1), (366, (.iadd : Instr), 1), (367, (.putfield 91 : Instr), 3), (370, (.aload_n 0 : Instr), 1), (371, (.dup : Instr), 1), (372, (.getfield 94 : Instr), 3), (375, (.iload 11 : Instr), 2), (377, (.ifCond .eq 10 : Instr), 3), (380, (.iconst 1 : Instr), 1), (381, (.iload 7 : Instr), 2), (383, (.ishl : Instr), 1), (384, (.goto 4 : Instr), 3), (387, (.iconst 0 : Instr), 1), (388, (.ior : Instr), 1), (389, (.putfield 94 : Instr), 3), (392, (.iinc 7 1 : Instr), 3), (395, (.goto (-351) : Instr), 3), (398, (.return_ : Instr), 1)] : List (Nat × Instr × Nat)).all (fun q => decide (decode cX9_reads q.1 = .ok (q.2.1, q.2.2))) = true := by decide +kernel
theorem dX9_reads_312 : decode cX9_reads 312 = .ok (.iload 9, 2) := all_d dX9_reads_all2 0 rfl
theorem dX9_reads_314 : decode cX9_reads 314 = .ok (.aload_n 0, 1) := all_d dX9_reads_all2 1 rfl
theorem dX9_reads_315 : decode cX9_reads 315 = .ok (.getfield 97, 3) := all_d dX9_reads_all2 2 rfl
theorem dX9_reads_318 : decode cX9_reads 318 = .ok (.isub, 1) := all_d dX9_reads_all2 3 rfl
theorem dX9_reads_319 : decode cX9_reads 319 = .ok (.putfield 97, 3) := all_d dX9_reads_all2 4 rfl
theorem dX9_reads_322 : decode cX9_reads 322 = .ok (.aload_n 0, 1) := all_d dX9_reads_all2 5 rfl
theorem dX9_reads_323 : decode cX9_reads 323 = .ok (.aload_n 0, 1) := all_d dX9_reads_all2 6 rfl
theorem dX9_reads_324 : decode cX9_reads 324 = .ok (.iconst 2, 1) := all_d dX9_reads_all2 7 rfl
theorem dX9_reads_325 : decode cX9_reads 325 = .ok (.aload_n 0, 1) := all_d dX9_reads_all2 8 rfl
theorem dX9_reads_326 : decode cX9_reads 326 = .ok (.getfield 97, 3) := all_d dX9_reads_all2 9 rfl
theorem dX9_reads_329 : decode cX9_reads 329 = .ok (.imul, 1) := all_d dX9_reads_all2 10 rfl
theorem dX9_reads_330 : decode cX9_reads 330 = .ok (.invokevirtual 100, 3) := all_d dX9_reads_all2 11 rfl
theorem dX9_reads_333 : decode cX9_reads 333 = .ok (.putfield 97, 3) := all_d dX9_reads_all2 12 rfl
theorem dX9_reads_336 : decode cX9_reads 336 = .ok (.aload_n 0, 1) := all_d dX9_reads_all2 13 rfl
theorem dX9_reads_337 : decode cX9_reads 337 = .ok (.dup, 1) := all_d dX9_reads_all2 14 rfl
theorem dX9_reads_338 : decode cX9_reads 338 = .ok (.getfield 91, 3) := all_d dX9_reads_all2 15 rfl
theorem dX9_reads_341 : decode cX9_reads 341 = .ok (.iload 4, 2) := all_d dX9_reads_all2 16 rfl
theorem dX9_reads_343 : decode cX9_reads 343 = .ok (.iconst 3, 1) := all_d dX9_reads_all2 17 rfl
theorem dX9_reads_344 : decode cX9_reads 344 = .ok (.if_icmp .ne 11, 3) := all_d dX9_reads_all2 18 rfl
theorem dX9_reads_347 : decode cX9_reads 347 = .ok (.iload 11, 2) := all_d dX9_reads_all2 19 rfl
theorem dX9_reads_349 : decode cX9_reads 349 = .ok (.ifCond .eq 16, 3) := all_d dX9_reads_all2 20 rfl
theorem dX9_reads_352 : decode cX9_reads 352 = .ok (.goto 8, 3) := all_d dX9_reads_all2 21 rfl
theorem dX9_reads_355 : decode cX9_reads 355 = .ok (.iload 6, 2) := all_d dX9_reads_all2 22 rfl
theorem dX9_reads_357 : decode cX9_reads 357 = .ok (.ifCond .eq 8, 3) := all_d dX9_reads_all2 23 rfl
theorem dX9_reads_360 : decode cX9_reads 360 = .ok (.iload 10, 2) := all_d dX9_reads_all2 24 rfl
theorem dX9_reads_362 : decode cX9_reads 362 = .ok (.goto 4, 3) := all_d dX9_reads_all2 25 rfl
theorem dX9_reads_365 : decode cX9_reads 365 = .ok (.iconst 0, 1) := all_d dX9_reads_all2 26 rfl
theorem dX9_reads_366 : decode cX9_reads 366 = .ok (.iadd, 1) := all_d dX9_reads_all2 27 rfl
theorem dX9_reads_367 : decode cX9_reads 367 = .ok (.putfield 91, 3) := all_d dX9_reads_all2 28 rfl
theorem dX9_reads_370 : decode cX9_reads 370 = .ok (.aload_n 0, 1) := all_d dX9_reads_all2 29 rfl
theorem dX9_reads_371 : decode cX9_reads 371 = .ok (.dup, 1) := all_d dX9_reads_all2 30 rfl
theorem dX9_reads_372 : decode cX9_reads 372 = .ok (.getfield 94, 3) := all_d dX9_reads_all2 31 rfl
theorem dX9_reads_375 : decode cX9_reads 375 = .ok (.iload 11, 2) := all_d dX9_reads_all2 32 rfl
theorem dX9_reads_377 : decode cX9_reads 377 = .ok (.ifCond .eq 10, 3) := all_d dX9_reads_all2 33 rfl
theorem dX9_reads_380 : decode cX9_reads 380 = .ok (.iconst 1, 1) := all_d dX9_reads_all2 34 rfl
theorem dX9_reads_381 : decode cX9_reads 381 = .ok (.iload 7, 2) := all_d dX9_reads_all2 35 rfl
theorem dX9_reads_383 : decode cX9_reads 383 = .ok (.ishl, 1) := all_d dX9_reads_all2 36 rfl
theorem dX9_reads_384 : decode cX9_reads 384 = .ok (.goto 4, 3) := all_d dX9_reads_all2 37 rfl
theorem dX9_reads_387 : decode cX9_reads 387 = .ok (.iconst 0, 1) := all_d dX9_reads_all2 38 rfl
theorem dX9_reads_388 : decode cX9_reads 388 = .ok (.ior, 1) := all_d dX9_reads_all2 39 rfl
theorem dX9_reads_389 : decode cX9_reads 389 = .ok (.putfield 94, 3) := all_d dX9_reads_all2 40 rfl
theorem dX9_reads_392 : decode cX9_reads 392 = .ok (.iinc 7 1, 3) := all_d dX9_reads_all2 41 rfl
theorem dX9_reads_395 : decode cX9_reads 395 = .ok (.goto (-351), 3) := all_d dX9_reads_all2 42 rfl
theorem dX9_reads_398 : decode cX9_reads 398 = .ok (.return_, 1) := all_d dX9_reads_all2 43 rfl
set_option maxRecDepth 100000 in
theorem dX9_codeOf_all0 : ([(0, (.aload_n 0 : Instr), 1), (1, (.iload_n 1 : Instr), 1), (2, (.iload_n 2 : Instr), 1), (3, (.invokevirtual 103 : Instr), 3), (6, (.aload_n 0 : Instr), 1), (7, (.getfield 91 : Instr), 3), (10, (.ireturn : Instr), 1)] : List (Nat × Instr × Nat)).all (fun q => decide (decode cX9_codeOf q.1 = .ok (q.2.1, q.2.2))) = true := by decide +kernel
theorem dX9_codeOf_0 : decode cX9_codeOf 0 = .ok (.aload_n 0, 1) := all_d dX9_codeOf_all0 0 rfl
theorem dX9_codeOf_1 : decode cX9_codeOf 1 = .ok (.iload_n 1, 1) := all_d dX9_codeOf_all0 1 rfl
theorem dX9_codeOf_2 : decode cX9_codeOf 2 = .ok (.iload_n 2, 1) := all_d dX9_codeOf_all0 2 rfl
theorem dX9_codeOf_3 : decode cX9_codeOf 3 = .ok (.invokevirtual 103, 3) := all_d dX9_codeOf_all0 3 rfl
theorem dX9_codeOf_6 : decode cX9_codeOf 6 = .ok (.aload_n 0, 1) := all_d dX9_codeOf_all0 4 rfl
theorem dX9_codeOf_7 : decode cX9_codeOf 7 = .ok (.getfield 91, 3) := all_d dX9_codeOf_all0 5 rfl
theorem dX9_codeOf_10 : decode cX9_codeOf 10 = .ok (.ireturn, 1) := all_d dX9_codeOf_all0 6 rfl
set_option maxRecDepth 100000 in
theorem dX9_read_all0 : ([(0, (.aload_n 0 : Instr), 1), (1, (.iconst 0 : Instr), 1), (2, (.putfield 47 : Instr), 3), (5, (.aload_n 0 : Instr), 1), (6, (.iload_n 1 : Instr), 1), (7, (.invokevirtual 68 : Instr), 3), (10, (.ifCond .eq 20 : Instr), 3), (13, (.aload_n 0 : Instr), 1), (14, (.iload_n 2 : Instr), 1), (15, (.invokevirtual 107 : Instr), 3), (18, (.ifCond .eq 12 : Instr), 3), (21, (.aload_n 0 : Instr), 1), (22, (.iload_n 1 : Instr), 1), (23, (.iload_n 2 : Instr), 1), (24, (.invokevirtual 110 : Instr), 3), (27, (.goto 5 : Instr), 3), (30, (.ldc 113 : Instr), 2), (32, (.ireturn : Instr), 1)] : List (Nat × Instr × Nat)).all (fun q => decide (decode cX9_read q.1 = .ok (q.2.1, q.2.2))) = true := by decide +kernel
theorem dX9_read_0 : decode cX9_read 0 = .ok (.aload_n 0, 1) := all_d dX9_read_all0 0 rfl
theorem dX9_read_1 : decode cX9_read 1 = .ok (.iconst 0, 1) := all_d dX9_read_all0 1 rfl
theorem dX9_read_2 : decode cX9_read 2 = .ok (.putfield 47, 3) := all_d dX9_read_all0 2 rfl
theorem dX9_read_5 : decode cX9_read 5 = .ok (.aload_n 0, 1) := all_d dX9_read_all0 3 rfl
theorem dX9_read_6 : decode cX9_read 6 = .ok (.iload_n 1, 1) := all_d dX9_read_all0 4 rfl
theorem dX9_read_7 : decode cX9_read 7 = .ok (.invokevirtual 68, 3) := all_d dX9_read_all0 5 rfl
theorem dX9_read_10 : decode cX9_read 10 = .ok (.ifCond .eq 20, 3) := all_d dX9_read_all0 6 rfl
theorem dX9_read_13 : decode cX9_read 13 = .ok (.aload_n 0, 1) := all_d dX9_read_all0 7 rfl
theorem dX9_read_14 : decode cX9_read 14 = .ok (.iload_n 2, 1) := all_d dX9_read_all0 8 rfl
theorem dX9_read_15 : decode cX9_read 15 = .ok (.invokevirtual 107, 3) := all_d dX9_read_all0 9 rfl
theorem dX9_read_18 : decode cX9_read 18 = .ok (.ifCond .eq 12, 3) := all_d dX9_read_all0 10 rfl
theorem dX9_read_21 : decode cX9_read 21 = .ok (.aload_n 0, 1) := all_d dX9_read_all0 11 rfl
theorem dX9_read_22 : decode cX9_read 22 = .ok (.iload_n 1, 1) := all_d dX9_read_all0 12 rfl
theorem dX9_read_23 : decode cX9_read 23 = .ok (.iload_n 2, 1) := all_d dX9_read_all0 13 rfl
theorem dX9_read_24 : decode cX9_read 24 = .ok (.invokevirtual 110, 3) := all_d dX9_read_all0 14 rfl
theorem dX9_read_27 : decode cX9_read 27 = .ok (.goto 5, 3) := all_d dX9_read_all0 15 rfl
theorem dX9_read_30 : decode cX9_read 30 = .ok (.ldc 113, 2) := all_d dX9_read_all0 16 rfl
theorem dX9_read_32 : decode cX9_read 32 = .ok (.ireturn, 1) := all_d dX9_read_all0 17 rfl
set_option maxRecDepth 100000 in
theorem dX9_trail_all0 : ([(0, (.aload_n 0 : Instr), 1), (1, (.iconst 0 : Instr), 1), (2, (.putfield 47 : Instr), 3), (5, (.aload_n 0 : Instr), 1), (6, (.iload_n 1 : Instr), 1), (7, (.invokevirtual 68 : Instr), 3), (10, (.ifCond .eq 11 : Instr), 3), (13, (.aload_n 0 : Instr), 1), (14, (.iload_n 2 : Instr), 1), (15, (.invokevirtual 107 : Instr), 3), (18, (.ifCond .ne 5 : Instr), 3), (21, (.iconst (-1) : Instr), 1), (22, (.ireturn : Instr), 1), (23, (.aload_n 0 : Instr), 1), (24, (.iload_n 1 : Instr), 1), (25, (.iload_n 2 : Instr), 1), (26, (.invokevirtual 103 : Instr), 3), (29, (.aload_n 0 : Instr), 1), (30, (.getfield 94 : Instr), 3), (33, (.ireturn : Instr), 1)] : List (Nat × Instr × Nat)).all (fun q => decide (decode cX9_trail q.1 = .ok (q.2.1, q.2.2))) = true := by decide +kernel
theorem dX9_trail_0 : decode cX9_trail 0 = .ok (.aload_n 0, 1) := all_d dX9_trail_all0 0 rfl
theorem dX9_trail_1 : decode cX9_trail 1 = .ok (.iconst 0, 1) := all_d dX9_trail_all0 1 rfl
theorem dX9_trail_2 : decode cX9_trail 2 = .ok (.putfield 47, 3) := all_d dX9_trail_all0 2 rfl
theorem dX9_trail_5 : decode cX9_trail 5 = .ok (.aload_n 0, 1) := all_d dX9_trail_all0 3 rfl
theorem dX9_trail_6 : decode cX9_trail 6 = .ok (.iload_n 1, 1) := all_d dX9_trail_all0 4 rfl
theorem dX9_trail_7 : decode cX9_trail 7 = .ok (.invokevirtual 68, 3) := all_d dX9_trail_all0 5 rfl
theorem dX9_trail_10 : decode cX9_trail 10 = .ok (.ifCond .eq 11, 3) := all_d dX9_trail_all0 6 rfl
theorem dX9_trail_13 : decode cX9_trail 13 = .ok (.aload_n 0, 1) := all_d dX9_trail_all0 7 rfl
theorem dX9_trail_14 : decode cX9_trail 14 = .ok (.iload_n 2, 1) := all_d dX9_trail_all0 8 rfl
theorem dX9_trail_15 : decode cX9_trail 15 = .ok (.invokevirtual 107, 3) := all_d dX9_trail_all0 9 rfl
theorem dX9_trail_18 : decode cX9_trail 18 = .ok (.ifCond .ne 5, 3) := all_d dX9_trail_all0 10 rfl
theorem dX9_trail_21 : decode cX9_trail 21 = .ok (.iconst (-1), 1) := all_d dX9_trail_all0 11 rfl
theorem dX9_trail_22 : decode cX9_trail 22 = .ok (.ireturn, 1) := all_d dX9_trail_all0 12 rfl
theorem dX9_trail_23 : decode cX9_trail 23 = .ok (.aload_n 0, 1) := all_d dX9_trail_all0 13 rfl
theorem dX9_trail_24 : decode cX9_trail 24 = .ok (.iload_n 1, 1) := all_d dX9_trail_all0 14 rfl
theorem dX9_trail_25 : decode cX9_trail 25 = .ok (.iload_n 2, 1) := all_d dX9_trail_all0 15 rfl
theorem dX9_trail_26 : decode cX9_trail 26 = .ok (.invokevirtual 103, 3) := all_d dX9_trail_all0 16 rfl
theorem dX9_trail_29 : decode cX9_trail 29 = .ok (.aload_n 0, 1) := all_d dX9_trail_all0 17 rfl
theorem dX9_trail_30 : decode cX9_trail 30 = .ok (.getfield 94, 3) := all_d dX9_trail_all0 18 rfl
theorem dX9_trail_33 : decode cX9_trail 33 = .ok (.ireturn, 1) := all_d dX9_trail_all0 19 rfl
set_option maxRecDepth 100000 in
theorem dX9_rest_all0 : ([(0, (.aload_n 0 : Instr), 1), (1, (.iconst 0 : Instr), 1), (2, (.putfield 47 : Instr), 3), (5, (.aload_n 0 : Instr), 1), (6, (.iload_n 1 : Instr), 1), (7, (.invokevirtual 68 : Instr), 3), (10, (.ifCond .eq 11 : Instr), 3), (13, (.aload_n 0 : Instr), 1), (14, (.iload_n 2 : Instr), 1), (15, (.invokevirtual 107 : Instr), 3), (18, (.ifCond .ne 6 : Instr), 3), (21, (.ldc 113 : Instr), 2), (23, (.ireturn : Instr), 1), (24, (.aload_n 0 : Instr), 1), (25, (.iload_n 1 : Instr), 1), (26, (.iload_n 2 : Instr), 1), (27, (.invokevirtual 103 : Instr), 3), (30, (.aload_n 0 : Instr), 1), (31, (.getfield 97 : Instr), 3), (34, (.ireturn : Instr), 1)] : List (Nat × Instr × Nat)).all (fun q => decide (decode cX9_rest q.1 = .ok (q.2.1, q.2.2))) = true := by decide +kernel
theorem dX9_rest_0 : decode cX9_rest 0 = .ok (.aload_n 0, 1) := all_d dX9_rest_all0 0 rfl
theorem dX9_rest_1 : decode cX9_rest 1 = .ok (.iconst 0, 1) := all_d dX9_rest_all0 1 rfl
theorem dX9_rest_2 : decode cX9_rest 2 = .ok (.putfield 47, 3) := all_d dX9_rest_all0 2 rfl
theorem dX9_rest_5 : decode cX9_rest 5 = .ok (.aload_n 0, 1) := all_d dX9_rest_all0 3 rfl
theorem dX9_rest_6 : decode cX9_rest 6 = .ok (.iload_n 1, 1) := all_d dX9_rest_all0 4 rfl
theorem dX9_rest_7 : decode cX9_rest 7 = .ok (.invokevirtual 68, 3) := all_d dX9_rest_all0 5 rfl
theorem dX9_rest_10 : decode cX9_rest 10 = .ok (.ifCond .eq 11, 3) := all_d dX9_rest_all0 6 rfl
theorem dX9_rest_13 : decode cX9_rest 13 = .ok (.aload_n 0, 1) := all_d dX9_rest_all0 7 rfl
theorem dX9_rest_14 : decode cX9_rest 14 = .ok (.iload_n 2, 1) := all_d dX9_rest_all0 8 rfl
theorem dX9_rest_15 : decode cX9_rest 15 = .ok (.invokevirtual 107, 3) := all_d dX9_rest_all0 9 rfl
theorem dX9_rest_18 : decode cX9_rest 18 = .ok (.ifCond .ne 6, 3) := all_d dX9_rest_all0 10 rfl
theorem dX9_rest_21 : decode cX9_rest 21 = .ok (.ldc 113, 2) := all_d dX9_rest_all0 11 rfl
theorem dX9_rest_23 : decode cX9_rest 23 = .ok (.ireturn, 1) := all_d dX9_rest_all0 12 rfl
theorem dX9_rest_24 : decode cX9_rest 24 = .ok (.aload_n 0, 1) := all_d dX9_rest_all0 13 rfl
theorem dX9_rest_25 : decode cX9_rest 25 = .ok (.iload_n 1, 1) := all_d dX9_rest_all0 14 rfl
theorem dX9_rest_26 : decode cX9_rest 26 = .ok (.iload_n 2, 1) := all_d dX9_rest_all0 15 rfl
theorem dX9_rest_27 : decode cX9_rest 27 = .ok (.invokevirtual 103, 3) := all_d dX9_rest_all0 16 rfl
theorem dX9_rest_30 : decode cX9_rest 30 = .ok (.aload_n 0, 1) := all_d dX9_rest_all0 17 rfl
theorem dX9_rest_31 : decode cX9_rest 31 = .ok (.getfield 97, 3) := all_d dX9_rest_all0 18 rfl
theorem dX9_rest_34 : decode cX9_rest 34 = .ok (.ireturn, 1) := all_d dX9_rest_all0 19 rfl
set_option maxRecDepth 100000 in
theorem dX9_readAll_all0 : ([(0, (.iconst 0 : Instr), 1), (1, (.istore_n 2 : Instr), 1), (2, (.iload_n 2 : Instr), 1), (3, (.aload_n 0 : Instr), 1), (4, (.getfield 7 : Instr), 3), (7, (.iconst 0 : Instr), 1), (8, (.iaload : Instr), 1), (9, (.if_icmp .gt 21 : Instr), 3), (12, (.aload_n 0 : Instr), 1), (13, (.getfield 31 : Instr), 3), (16, (.iload_n 2 : Instr), 1), (17, (.aload_n 0 : Instr), 1), (18, (.iload_n 1 : Instr), 1), (19, (.iload_n 2 : Instr), 1), (20, (.invokevirtual 110 : Instr), 3), (23, (.iastore : Instr), 1), (24, (.iinc 2 1 : Instr), 3), (27, (.goto (-25) : Instr), 3), (30, (.return_ : Instr), 1)] : List (Nat × Instr × Nat)).all (fun q => decide (decode cX9_readAll q.1 = .ok (q.2.1, q.2.2))) = true := by decide +kernel
theorem dX9_readAll_0 : decode cX9_readAll 0 = .ok (.iconst 0, 1) := all_d dX9_readAll_all0 0 rfl
theorem dX9_readAll_1 : decode cX9_readAll 1 = .ok (.istore_n 2, 1) := all_d dX9_readAll_all0 1 rfl
theorem dX9_readAll_2 : decode cX9_readAll 2 = .ok (.iload_n 2, 1) := all_d dX9_readAll_all0 2 rfl
theorem dX9_readAll_3 : decode cX9_readAll 3 = .ok (.aload_n 0, 1) := all_d dX9_readAll_all0 3 rfl
theorem dX9_readAll_4 : decode cX9_readAll 4 = .ok (.getfield 7, 3) := all_d dX9_readAll_all0 4 rfl
theorem dX9_readAll_7 : decode cX9_readAll 7 = .ok (.iconst 0, 1) := all_d dX9_readAll_all0 5 rfl
theorem dX9_readAll_8 : decode cX9_readAll 8 = .ok (.iaload, 1) := all_d dX9_readAll_all0 6 rfl
theorem dX9_readAll_9 : decode cX9_readAll 9 = .ok (.if_icmp .gt 21, 3) := all_d dX9_readAll_all0 7 rfl
theorem dX9_readAll_12 : decode cX9_readAll 12 = .ok (.aload_n 0, 1) := all_d dX9_readAll_all0 8 rfl
theorem dX9_readAll_13 : decode cX9_readAll 13 = .ok (.getfield 31, 3) := all_d dX9_readAll_all0 9 rfl
theorem dX9_readAll_16 : decode cX9_readAll 16 = .ok (.iload_n 2, 1) := all_d dX9_readAll_all0 10 rfl
theorem dX9_readAll_17 : decode cX9_readAll 17 = .ok (.aload_n 0, 1) := all_d dX9_readAll_all0 11 rfl
theorem dX9_readAll_18 : decode cX9_readAll 18 = .ok (.iload_n 1, 1) := all_d dX9_readAll_all0 12 rfl
theorem dX9_readAll_19 : decode cX9_readAll 19 = .ok (.iload_n 2, 1) := all_d dX9_readAll_all0 13 rfl
theorem dX9_readAll_20 : decode cX9_readAll 20 = .ok (.invokevirtual 110, 3) := all_d dX9_readAll_all0 14 rfl
theorem dX9_readAll_23 : decode cX9_readAll 23 = .ok (.iastore, 1) := all_d dX9_readAll_all0 15 rfl
theorem dX9_readAll_24 : decode cX9_readAll 24 = .ok (.iinc 2 1, 3) := all_d dX9_readAll_all0 16 rfl
theorem dX9_readAll_27 : decode cX9_readAll 27 = .ok (.goto (-25), 3) := all_d dX9_readAll_all0 17 rfl
theorem dX9_readAll_30 : decode cX9_readAll 30 = .ok (.return_, 1) := all_d dX9_readAll_all0 18 rfl
set_option maxRecDepth 100000 in
theorem dX9_spans_all0 : ([(0, (.aload_n 0 : Instr), 1), (1, (.iconst 0 : Instr), 1), (2, (.putfield 47 : Instr), 3), (5, (.aload_n 0 : Instr), 1), (6, (.iload_n 1 : Instr), 1), (7, (.invokevirtual 68 : Instr), 3), (10, (.ifCond .ne 9 : Instr), 3), (13, (.aload_n 0 : Instr), 1), (14, (.iconst 2 : Instr), 1), (15, (.invokevirtual 78 : Instr), 3), (18, (.ireturn : Instr), 1), (19, (.aload_n 0 : Instr), 1), (20, (.iconst 0 : Instr), 1), (21, (.putfield 51 : Instr), 3), (24, (.aload_n 0 : Instr), 1), (25, (.iload_n 1 : Instr), 1), (26, (.invokevirtual 114 : Instr), 3), (29, (.iconst 1 : Instr), 1), (30, (.istore_n 2 : Instr), 1), (31, (.iconst 1 : Instr), 1), (32, (.istore_n 3 : Instr), 1), (33, (.iload_n 3 : Instr), 1), (34, (.aload_n 0 : Instr), 1), (35, (.getfield 7 : Instr), 3), (38, (.iconst 0 : Instr), 1), (39, (.iaload : Instr), 1), (40, (.if_icmp .gt 34 : Instr), 3), (43, (.iload_n 2 : Instr), 1), (44, (.aload_n 0 : Instr), 1), (45, (.getfield 31 : Instr), 3), (48, (.iload_n 3 : Instr), 1), (49, (.iaload : Instr), 1), (50, (.aload_n 0 : Instr), 1), (51, (.getfield 31 : Instr), 3), (54, (.iload_n 3 : Instr), 1), (55, (.iconst 1 : Instr), 1), (56, (.isub : Instr), 1), (57, (.iaload : Instr), 1), (58, (.if_icmp .eq 7 : Instr), 3), (61, (.iconst 1 : Instr), 1), (62, (.goto 4 : Instr), 3), (65, (.iconst 0 : Instr), 1), (66, (.iadd : Instr), 1), (67, (.istore_n 2 : Instr), 1), (68, (.iinc 3 1 : Instr), 3), (71, (.goto (-38) : Instr), 3), (74, (.iload_n 2 : Instr), 1), (75, (.ireturn : Instr), 1)] : List (Nat × Instr × Nat)).all (fun q => decide (decode cX9_spans q.1 = .ok (q.2.1, q.2.2))) = true := by decide +kernel
theorem dX9_spans_0 : decode cX9_spans 0 = .ok (.aload_n 0, 1) := all_d dX9_spans_all0 0 rfl
theorem dX9_spans_1 : decode cX9_spans 1 = .ok (.iconst 0, 1) := all_d dX9_spans_all0 1 rfl
theorem dX9_spans_2 : decode cX9_spans 2 = .ok (.putfield 47, 3) := all_d dX9_spans_all0 2 rfl
theorem dX9_spans_5 : decode cX9_spans 5 = .ok (.aload_n 0, 1) := all_d dX9_spans_all0 3 rfl
theorem dX9_spans_6 : decode cX9_spans 6 = .ok (.iload_n 1, 1) := all_d dX9_spans_all0 4 rfl
theorem dX9_spans_7 : decode cX9_spans 7 = .ok (.invokevirtual 68, 3) := all_d dX9_spans_all0 5 rfl
theorem dX9_spans_10 : decode cX9_spans 10 = .ok (.ifCond .ne 9, 3) := all_d dX9_spans_all0 6 rfl
theorem dX9_spans_13 : decode cX9_spans 13 = .ok (.aload_n 0, 1) := all_d dX9_spans_all0 7 rfl
theorem dX9_spans_14 : decode cX9_spans 14 = .ok (.iconst 2, 1) := all_d dX9_spans_all0 8 rfl
theorem dX9_spans_15 : decode cX9_spans 15 = .ok (.invokevirtual 78, 3) := all_d dX9_spans_all0 9 rfl
theorem dX9_spans_18 : decode cX9_spans 18 = .ok (.ireturn, 1) := all_d dX9_spans_all0 10 rfl
theorem dX9_spans_19 : decode cX9_spans 19 = .ok (.aload_n 0, 1) := all_d dX9_spans_all0 11 rfl
theorem dX9_spans_20 : decode cX9_spans 20 = .ok (.iconst 0, 1) := all_d dX9_spans_all0 12 rfl
theorem dX9_spans_21 : decode cX9_spans 21 = .ok (.putfield 51, 3) := all_d dX9_spans_all0 13 rfl
theorem dX9_spans_24 : decode cX9_spans 24 = .ok (.aload_n 0, 1) := all_d dX9_spans_all0 14 rfl
theorem dX9_spans_25 : decode cX9_spans 25 = .ok (.iload_n 1, 1) := all_d dX9_spans_all0 15 rfl
theorem dX9_spans_26 : decode cX9_spans 26 = .ok (.invokevirtual 114, 3) := all_d dX9_spans_all0 16 rfl
theorem dX9_spans_29 : decode cX9_spans 29 = .ok (.iconst 1, 1) := all_d dX9_spans_all0 17 rfl
theorem dX9_spans_30 : decode cX9_spans 30 = .ok (.istore_n 2, 1) := all_d dX9_spans_all0 18 rfl
theorem dX9_spans_31 : decode cX9_spans 31 = .ok (.iconst 1, 1) := all_d dX9_spans_all0 19 rfl
theorem dX9_spans_32 : decode cX9_spans 32 = .ok (.istore_n 3, 1) := all_d dX9_spans_all0 20 rfl
theorem dX9_spans_33 : decode cX9_spans 33 = .ok (.iload_n 3, 1) := all_d dX9_spans_all0 21 rfl
theorem dX9_spans_34 : decode cX9_spans 34 = .ok (.aload_n 0, 1) := all_d dX9_spans_all0 22 rfl
theorem dX9_spans_35 : decode cX9_spans 35 = .ok (.getfield 7, 3) := all_d dX9_spans_all0 23 rfl
theorem dX9_spans_38 : decode cX9_spans 38 = .ok (.iconst 0, 1) := all_d dX9_spans_all0 24 rfl
theorem dX9_spans_39 : decode cX9_spans 39 = .ok (.iaload, 1) := all_d dX9_spans_all0 25 rfl
theorem dX9_spans_40 : decode cX9_spans 40 = .ok (.if_icmp .gt 34, 3) := all_d dX9_spans_all0 26 rfl
theorem dX9_spans_43 : decode cX9_spans 43 = .ok (.iload_n 2, 1) := all_d dX9_spans_all0 27 rfl
theorem dX9_spans_44 : decode cX9_spans 44 = .ok (.aload_n 0, 1) := all_d dX9_spans_all0 28 rfl
theorem dX9_spans_45 : decode cX9_spans 45 = .ok (.getfield 31, 3) := all_d dX9_spans_all0 29 rfl
theorem dX9_spans_48 : decode cX9_spans 48 = .ok (.iload_n 3, 1) := all_d dX9_spans_all0 30 rfl
theorem dX9_spans_49 : decode cX9_spans 49 = .ok (.iaload, 1) := all_d dX9_spans_all0 31 rfl
theorem dX9_spans_50 : decode cX9_spans 50 = .ok (.aload_n 0, 1) := all_d dX9_spans_all0 32 rfl
theorem dX9_spans_51 : decode cX9_spans 51 = .ok (.getfield 31, 3) := all_d dX9_spans_all0 33 rfl
theorem dX9_spans_54 : decode cX9_spans 54 = .ok (.iload_n 3, 1) := all_d dX9_spans_all0 34 rfl
theorem dX9_spans_55 : decode cX9_spans 55 = .ok (.iconst 1, 1) := all_d dX9_spans_all0 35 rfl
theorem dX9_spans_56 : decode cX9_spans 56 = .ok (.isub, 1) := all_d dX9_spans_all0 36 rfl
theorem dX9_spans_57 : decode cX9_spans 57 = .ok (.iaload, 1) := all_d dX9_spans_all0 37 rfl
theorem dX9_spans_58 : decode cX9_spans 58 = .ok (.if_icmp .eq 7, 3) := all_d dX9_spans_all0 38 rfl
theorem dX9_spans_61 : decode cX9_spans 61 = .ok (.iconst 1, 1) := all_d dX9_spans_all0 39 rfl
theorem dX9_spans_62 : decode cX9_spans 62 = .ok (.goto 4, 3) := all_d dX9_spans_all0 40 rfl
theorem dX9_spans_65 : decode cX9_spans 65 = .ok (.iconst 0, 1) := all_d dX9_spans_all0 41 rfl
theorem dX9_spans_66 : decode cX9_spans 66 = .ok (.iadd, 1) := all_d dX9_spans_all0 42 rfl
theorem dX9_spans_67 : decode cX9_spans 67 = .ok (.istore_n 2, 1) := all_d dX9_spans_all0 43 rfl
theorem dX9_spans_68 : decode cX9_spans 68 = .ok (.iinc 3 1, 3) := all_d dX9_spans_all0 44 rfl
theorem dX9_spans_71 : decode cX9_spans 71 = .ok (.goto (-38), 3) := all_d dX9_spans_all0 45 rfl
theorem dX9_spans_74 : decode cX9_spans 74 = .ok (.iload_n 2, 1) := all_d dX9_spans_all0 46 rfl
theorem dX9_spans_75 : decode cX9_spans 75 = .ok (.ireturn, 1) := all_d dX9_spans_all0 47 rfl
set_option maxRecDepth 100000 in
theorem dX9_span_all0 : ([(0, (.aload_n 0 : Instr), 1), (1, (.iconst 0 : Instr), 1), (2, (.putfield 47 : Instr), 3), (5, (.aload_n 0 : Instr), 1), (6, (.iload_n 1 : Instr), 1), (7, (.invokevirtual 68 : Instr), 3), (10, (.ifCond .eq 17 : Instr), 3), (13, (.aload_n 0 : Instr), 1), (14, (.iload_n 3 : Instr), 1), (15, (.iconst 0 : Instr), 1), (16, (.iconst 2 : Instr), 1), (17, (.invokevirtual 64 : Instr), 3), (20, (.ifCond .eq 7 : Instr), 3), (23, (.iload_n 2 : Instr), 1), (24, (.ifCond .ge 6 : Instr), 3), (27, (.ldc 113 : Instr), 2), (29, (.ireturn : Instr), 1), (30, (.aload_n 0 : Instr), 1), (31, (.iload_n 1 : Instr), 1), (32, (.invokevirtual 114 : Instr), 3), (35, (.iload_n 2 : Instr), 1), (36, (.istore 4 : Instr), 2), (38, (.iconst 0 : Instr), 1), (39, (.istore 5 : Instr), 2), (41, (.iconst 1 : Instr), 1), (42, (.istore 6 : Instr), 2), (44, (.iload 6 : Instr), 2), (46, (.aload_n 0 : Instr), 1), (47, (.getfield 7 : Instr), 3), (50, (.iconst 0 : Instr), 1), (51, (.iaload : Instr), 1), (52, (.iconst 1 : Instr), 1), (53, (.iadd : Instr), 1), (54, (.if_icmp .gt 83 : Instr), 3), (57, (.iload 6 : Instr), 2), (59, (.aload_n 0 : Instr), 1), (60, (.getfield 7 : Instr), 3), (63, (.iconst 0 : Instr), 1), (64, (.iaload : Instr), 1), (65, (.if_icmp .gt 25 : Instr), 3), (68, (.aload_n 0 : Instr), 1), (69, (.getfield 31 : Instr), 3), (72, (.iload 6 : Instr), 2), (74, (.iaload : Instr), 1), (75, (.aload_n 0 : Instr), 1), (76, (.getfield 31 : Instr), 3), (79, (.iload 6 : Instr), 2), (81, (.iconst 1 : Instr), 1), (82, (.isub : Instr), 1), (83, (.iaload : Instr), 1), (84, (.if_icmp .ne 6 : Instr), 3), (87, (.goto 44 : Instr), 3), (90, (.iload 4 : Instr), 2), (92, (.ifCond .ne 32 : Instr), 3), (95, (.iload_n 3 : Instr), 1), (96, (.ifCond .ne 8 : Instr), 3), (99, (.iload 5 : Instr), 2), (101, (.goto 22 : Instr), 3), (104, (.iload_n 3 : Instr), 1), (105, (.iconst 1 : Instr), 1), (106, (.if_icmp .ne 10 : Instr), 3), (109, (.iload 6 : Instr), 2), (111, (.iconst 1 : Instr), 1), (112, (.isub : Instr), 1), (113, (.goto 10 : Instr), 3), (116, (.aload_n 0 : Instr), 1), (117, (.getfield 31 : Instr), 3), (120, (.iload 5 : Instr), 2), (122, (.iaload : Instr), 1), (123, (.ireturn : Instr), 1), (124, (.iinc 4 (-1) : Instr), 3), (127, (.iload 6 : Instr), 2), (129, (.istore 5 : Instr), 2), (131, (.iinc 6 1 : Instr), 3), (134, (.goto (-90) : Instr), 3), (137, (.ldc 113 : Instr), 2), (139, (.ireturn : Instr), 1)] : List (Nat × Instr × Nat)).all (fun q => decide (decode cX9_span q.1 = .ok (q.2.1, q.2.2))) = true := by decide +kernel
theorem dX9_span_0 : decode cX9_span 0 = .ok (.aload_n 0, 1) := all_d dX9_span_all0 0 rfl
theorem dX9_span_1 : decode cX9_span 1 = .ok (.iconst 0, 1) := all_d dX9_span_all0 1 rfl
theorem dX9_span_2 : decode cX9_span 2 = .ok (.putfield 47, 3) := all_d dX9_span_all0 2 rfl
theorem dX9_span_5 : decode cX9_span 5 = .ok (.aload_n 0, 1) := all_d dX9_span_all0 3 rfl
theorem dX9_span_6 : decode cX9_span 6 = .ok (.iload_n 1, 1) := all_d dX9_span_all0 4 rfl
theorem dX9_span_7 : decode cX9_span 7 = .ok (.invokevirtual 68, 3) := all_d dX9_span_all0 5 rfl
theorem dX9_span_10 : decode cX9_span 10 = .ok (.ifCond .eq 17, 3) := all_d dX9_span_all0 6 rfl
theorem dX9_span_13 : decode cX9_span 13 = .ok (.aload_n 0, 1) := all_d dX9_span_all0 7 rfl
theorem dX9_span_14 : decode cX9_span 14 = .ok (.iload_n 3, 1) := all_d dX9_span_all0 8 rfl
theorem dX9_span_15 : decode cX9_span 15 = .ok (.iconst 0, 1) := all_d dX9_span_all0 9 rfl
theorem dX9_span_16 : decode cX9_span 16 = .ok (.iconst 2, 1) := all_d dX9_span_all0 10 rfl
theorem dX9_span_17 : decode cX9_span 17 = .ok (.invokevirtual 64, 3) := all_d dX9_span_all0 11 rfl
theorem dX9_span_20 : decode cX9_span 20 = .ok (.ifCond .eq 7, 3) := all_d dX9_span_all0 12 rfl
theorem dX9_span_23 : decode cX9_span 23 = .ok (.iload_n 2, 1) := all_d dX9_span_all0 13 rfl
theorem dX9_span_24 : decode cX9_span 24 = .ok (.ifCond .ge 6, 3) := all_d dX9_span_all0 14 rfl
theorem dX9_span_27 : decode cX9_span 27 = .ok (.ldc 113, 2) := all_d dX9_span_all0 15 rfl
theorem dX9_span_29 : decode cX9_span 29 = .ok (.ireturn, 1) := all_d dX9_span_all0 16 rfl
theorem dX9_span_30 : decode cX9_span 30 = .ok (.aload_n 0, 1) := all_d dX9_span_all0 17 rfl
theorem dX9_span_31 : decode cX9_span 31 = .ok (.iload_n 1, 1) := all_d dX9_span_all0 18 rfl
theorem dX9_span_32 : decode cX9_span 32 = .ok (.invokevirtual 114, 3) := all_d dX9_span_all0 19 rfl
theorem dX9_span_35 : decode cX9_span 35 = .ok (.iload_n 2, 1) := all_d dX9_span_all0 20 rfl
theorem dX9_span_36 : decode cX9_span 36 = .ok (.istore 4, 2) := all_d dX9_span_all0 21 rfl
theorem dX9_span_38 : decode cX9_span 38 = .ok (.iconst 0, 1) := all_d dX9_span_all0 22 rfl
theorem dX9_span_39 : decode cX9_span 39 = .ok (.istore 5, 2) := all_d dX9_span_all0 23 rfl
theorem dX9_span_41 : decode cX9_span 41 = .ok (.iconst 1, 1) := all_d dX9_span_all0 24 rfl
theorem dX9_span_42 : decode cX9_span 42 = .ok (.istore 6, 2) := all_d dX9_span_all0 25 rfl
theorem dX9_span_44 : decode cX9_span 44 = .ok (.iload 6, 2) := all_d dX9_span_all0 26 rfl
theorem dX9_span_46 : decode cX9_span 46 = .ok (.aload_n 0, 1) := all_d dX9_span_all0 27 rfl
theorem dX9_span_47 : decode cX9_span 47 = .ok (.getfield 7, 3) := all_d dX9_span_all0 28 rfl
theorem dX9_span_50 : decode cX9_span 50 = .ok (.iconst 0, 1) := all_d dX9_span_all0 29 rfl
theorem dX9_span_51 : decode cX9_span 51 = .ok (.iaload, 1) := all_d dX9_span_all0 30 rfl
theorem dX9_span_52 : decode cX9_span 52 = .ok (.iconst 1, 1) := all_d dX9_span_all0 31 rfl
theorem dX9_span_53 : decode cX9_span 53 = .ok (.iadd, 1) := all_d dX9_span_all0 32 rfl
theorem dX9_span_54 : decode cX9_span 54 = .ok (.if_icmp .gt 83, 3) := all_d dX9_span_all0 33 rfl
theorem dX9_span_57 : decode cX9_span 57 = .ok (.iload 6, 2) := all_d dX9_span_all0 34 rfl
theorem dX9_span_59 : decode cX9_span 59 = .ok (.aload_n 0, 1) := all_d dX9_span_all0 35 rfl
theorem dX9_span_60 : decode cX9_span 60 = .ok (.getfield 7, 3) := all_d dX9_span_all0 36 rfl
theorem dX9_span_63 : decode cX9_span 63 = .ok (.iconst 0, 1) := all_d dX9_span_all0 37 rfl
theorem dX9_span_64 : decode cX9_span 64 = .ok (.iaload, 1) := all_d dX9_span_all0 38 rfl
theorem dX9_span_65 : decode cX9_span 65 = .ok (.if_icmp .gt 25, 3) := all_d dX9_span_all0 39 rfl
theorem dX9_span_68 : decode cX9_span 68 = .ok (.aload_n 0, 1) := all_d dX9_span_all0 40 rfl
theorem dX9_span_69 : decode cX9_span 69 = .ok (.getfield 31, 3) := all_d dX9_span_all0 41 rfl
theorem dX9_span_72 : decode cX9_span 72 = .ok (.iload 6, 2) := all_d dX9_span_all0 42 rfl
theorem dX9_span_74 : decode cX9_span 74 = .ok (.iaload, 1) := all_d dX9_span_all0 43 rfl
theorem dX9_span_75 : decode cX9_span 75 = .ok (.aload_n 0, 1) := all_d dX9_span_all0 44 rfl
theorem dX9_span_76 : decode cX9_span 76 = .ok (.getfield 31, 3) := all_d dX9_span_all0 45 rfl
theorem dX9_span_79 : decode cX9_span 79 = .ok (.iload 6, 2) := all_d dX9_span_all0 46 rfl
theorem dX9_span_81 : decode cX9_span 81 = .ok (.iconst 1, 1) := all_d dX9_span_all0 47 rfl
theorem dX9_span_82 : decode cX9_span 82 = .ok (.isub, 1) := all_d dX9_span_all0 48 rfl
theorem dX9_span_83 : decode cX9_span 83 = .ok (.iaload, 1) := all_d dX9_span_all0 49 rfl
theorem dX9_span_84 : decode cX9_span 84 = .ok (.if_icmp .ne 6, 3) := all_d dX9_span_all0 50 rfl
theorem dX9_span_87 : decode cX9_span 87 = .ok (.goto 44, 3) := all_d dX9_span_all0 51 rfl
theorem dX9_span_90 : decode cX9_span 90 = .ok (.iload 4, 2) := all_d dX9_span_all0 52 rfl
theorem dX9_span_92 : decode cX9_span 92 = .ok (.ifCond .ne 32, 3) := all_d dX9_span_all0 53 rfl
theorem dX9_span_95 : decode cX9_span 95 = .ok (.iload_n 3, 1) := all_d dX9_span_all0 54 rfl
theorem dX9_span_96 : decode cX9_span 96 = .ok (.ifCond .ne 8, 3) := all_d dX9_span_all0 55 rfl
theorem dX9_span_99 : decode cX9_span 99 = .ok (.iload 5, 2) := all_d dX9_span_all0 56 rfl
theorem dX9_span_101 : decode cX9_span 101 = .ok (.goto 22, 3) := all_d dX9_span_all0 57 rfl
theorem dX9_span_104 : decode cX9_span 104 = .ok (.iload_n 3, 1) := all_d dX9_span_all0 58 rfl
theorem dX9_span_105 : decode cX9_span 105 = .ok (.iconst 1, 1) := all_d dX9_span_all0 59 rfl
theorem dX9_span_106 : decode cX9_span 106 = .ok (.if_icmp .ne 10, 3) := all_d dX9_span_all0 60 rfl
theorem dX9_span_109 : decode cX9_span 109 = .ok (.iload 6, 2) := all_d dX9_span_all0 61 rfl
theorem dX9_span_111 : decode cX9_span 111 = .ok (.iconst 1, 1) := all_d dX9_span_all0 62 rfl
theorem dX9_span_112 : decode cX9_span 112 = .ok (.isub, 1) := all_d dX9_span_all0 63 rfl
theorem dX9_span_113 : decode cX9_span 113 = .ok (.goto 10, 3) := all_d dX9_span_all0 64 rfl
theorem dX9_span_116 : decode cX9_span 116 = .ok (.aload_n 0, 1) := all_d dX9_span_all0 65 rfl
theorem dX9_span_117 : decode cX9_span 117 = .ok (.getfield 31, 3) := all_d dX9_span_all0 66 rfl
theorem dX9_span_120 : decode cX9_span 120 = .ok (.iload 5, 2) := all_d dX9_span_all0 67 rfl
theorem dX9_span_122 : decode cX9_span 122 = .ok (.iaload, 1) := all_d dX9_span_all0 68 rfl
theorem dX9_span_123 : decode cX9_span 123 = .ok (.ireturn, 1) := all_d dX9_span_all0 69 rfl
theorem dX9_span_124 : decode cX9_span 124 = .ok (.iinc 4 (-1), 3) := all_d dX9_span_all0 70 rfl
theorem dX9_span_127 : decode cX9_span 127 = .ok (.iload 6, 2) := all_d dX9_span_all0 71 rfl
theorem dX9_span_129 : decode cX9_span 129 = .ok (.istore 5, 2) := all_d dX9_span_all0 72 rfl
theorem dX9_span_131 : decode cX9_span 131 = .ok (.iinc 6 1, 3) := all_d dX9_span_all0 73 rfl
theorem dX9_span_134 : decode cX9_span 134 = .ok (.goto (-90), 3) := all_d dX9_span_all0 74 rfl
theorem dX9_span_137 : decode cX9_span 137 = .ok (.ldc 113, 2) := all_d dX9_span_all0 75 rfl
theorem dX9_span_139 : decode cX9_span 139 = .ok (.ireturn, 1) := all_d dX9_span_all0 76 rfl
set_option maxRecDepth 100000 in
theorem dX9_sortAll_all0 : ([(0, (.aload_n 0 : Instr), 1), (1, (.getfield 7 : Instr), 3), (4, (.iconst 0 : Instr), 1), (5, (.iaload : Instr), 1), (6, (.iconst 1 : Instr), 1), (7, (.iadd : Instr), 1), (8, (.istore_n 1 : Instr), 1), (9, (.iconst 0 : Instr), 1), (10, (.istore_n 2 : Instr), 1), (11, (.iload_n 2 : Instr), 1), (12, (.iload_n 1 : Instr), 1), (13, (.if_icmp .ge 21 : Instr), 3), (16, (.aload_n 0 : Instr), 1), (17, (.getfield 34 : Instr), 3), (20, (.iload_n 2 : Instr), 1), (21, (.aload_n 0 : Instr), 1), (22, (.getfield 31 : Instr), 3), (25, (.iload_n 2 : Instr), 1), (26, (.iaload : Instr), 1), (27, (.iastore : Instr), 1), (28, (.iinc 2 1 : Instr), 3), (31, (.goto (-20) : Instr), 3), (34, (.iconst 1 : Instr), 1), (35, (.istore_n 2 : Instr), 1), (36, (.iload_n 2 : Instr), 1), (37, (.iload_n 1 : Instr), 1), (38, (.if_icmp .ge 190 : Instr), 3), (41, (.iconst 0 : Instr), 1), (42, (.istore_n 3 : Instr), 1), (43, (.iload_n 3 : Instr), 1), (44, (.iload_n 1 : Instr), 1), (45, (.if_icmp .ge 151 : Instr), 3), (48, (.iload_n 3 : Instr), 1), (49, (.istore 4 : Instr), 2), (51, (.iload_n 3 : Instr), 1), (52, (.iload_n 2 : Instr), 1), (53, (.iadd : Instr), 1), (54, (.istore 5 : Instr), 2), (56, (.iload 5 : Instr), 2), (58, (.iload_n 1 : Instr), 1), (59, (.if_icmp .ge 8 : Instr), 3), (62, (.iload 5 : Instr), 2), (64, (.goto 4 : Instr), 3), (67, (.iload_n 1 : Instr), 1), (68, (.istore 6 : Instr), 2), (70, (.iload_n 3 : Instr), 1), (71, (.iconst 2 : Instr), 1), (72, (.iload_n 2 : Instr), 1), (73, (.imul : Instr), 1), (74, (.iadd : Instr), 1), (75, (.iload_n 1 : Instr), 1), (76, (.if_icmp .ge 11 : Instr), 3), (79, (.iload_n 3 : Instr), 1), (80, (.iconst 2 : Instr), 1), (81, (.iload_n 2 : Instr), 1), (82, (.imul : Instr), 1), (83, (.iadd : Instr), 1), (84, (.goto 4 : Instr), 3), (87, (.iload_n 1 : Instr), 1), (88, (.istore 7 : Instr), 2), (90, (.iload_n 3 : Instr), 1), (91, (.istore 8 : Instr), 2), (93, (.iload 8 : Instr), 2), (95, (.iload 7 : Instr), 2), (97, (.if_icmp .ge 90 : Instr), 3), (100, (.iload 4 : Instr), 2), (102, (.iload 6 : Instr), 2), (104, (.if_icmp .ge 31 : Instr), 3), (107, (.iload 5 : Instr), 2), (109, (.iload 7 : Instr), 2), (111, (.if_icmp .ge 20 : Instr), 3), (114, (.aload_n 0 : Instr), 1), (115, (.getfield 34 : Instr), 3), (118, (.iload 4 : Instr), 2), (120, (.iaload : Instr), 1), (121, (.aload_n 0 : Instr), 1), (122, (.getfield 34 : Instr), 3), (125, (.iload 5 : Instr), 2), (127, (.iaload : Instr), 1), (128, (.if_icmp .gt 7 : Instr), 3)] : List (Nat × Instr × Nat)).all (fun q => decide (decode cX9_sortAll q.1 = .ok (q.2.1, q.2.2))) = true := by decide +kernel
theorem dX9_sortAll_0 : decode cX9_sortAll 0 = .ok (.aload_n 0, 1) := all_d dX9_sortAll_all0 0 rfl
theorem dX9_sortAll_1 : decode cX9_sortAll 1 = .ok (.getfield 7, 3) := all_d dX9_sortAll_all0 1 rfl
theorem dX9_sortAll_4 : decode cX9_sortAll 4 = .ok (.iconst 0, 1) := all_d dX9_sortAll_all0 2 rfl
theorem dX9_sortAll_5 : decode cX9_sortAll 5 = .ok (.iaload, 1) := all_d dX9_sortAll_all0 3 rfl
theorem dX9_sortAll_6 : decode cX9_sortAll 6 = .ok (.iconst 1, 1) := all_d dX9_sortAll_all0 4 rfl
theorem dX9_sortAll_7 : decode cX9_sortAll 7 = .ok (.iadd, 1) := all_d dX9_sortAll_all0 5 rfl
theorem dX9_sortAll_8 : decode cX9_sortAll 8 = .ok (.istore_n 1, 1) := all_d dX9_sortAll_all0 6 rfl
theorem dX9_sortAll_9 : decode cX9_sortAll 9 = .ok (.iconst 0, 1) := all_d dX9_sortAll_all0 7 rfl
theorem dX9_sortAll_10 : decode cX9_sortAll 10 = .ok (.istore_n 2, 1) := all_d dX9_sortAll_all0 8 rfl
theorem dX9_sortAll_11 : decode cX9_sortAll 11 = .ok (.iload_n 2, 1) := all_d dX9_sortAll_all0 9 rfl
theorem dX9_sortAll_12 : decode cX9_sortAll 12 = .ok (.iload_n 1, 1) := all_d dX9_sortAll_all0 10 rfl
theorem dX9_sortAll_13 : decode cX9_sortAll 13 = .ok (.if_icmp .ge 21, 3) := all_d dX9_sortAll_all0 11 rfl
theorem dX9_sortAll_16 : decode cX9_sortAll 16 = .ok (.aload_n 0, 1) := all_d dX9_sortAll_all0 12 rfl
theorem dX9_sortAll_17 : decode cX9_sortAll 17 = .ok (.getfield 34, 3) := all_d dX9_sortAll_all0 13 rfl
theorem dX9_sortAll_20 : decode cX9_sortAll 20 = .ok (.iload_n 2, 1) := all_d dX9_sortAll_all0 14 rfl
theorem dX9_sortAll_21 : decode cX9_sortAll 21 = .ok (.aload_n 0, 1) := all_d dX9_sortAll_all0 15 rfl
theorem dX9_sortAll_22 : decode cX9_sortAll 22 = .ok (.getfield 31, 3) := all_d dX9_sortAll_all0 16 rfl
theorem dX9_sortAll_25 : decode cX9_sortAll 25 = .ok (.iload_n 2, 1) := all_d dX9_sortAll_all0 17 rfl
theorem dX9_sortAll_26 : decode cX9_sortAll 26 = .ok (.iaload, 1) := all_d dX9_sortAll_all0 18 rfl
theorem dX9_sortAll_27 : decode cX9_sortAll 27 = .ok (.iastore, 1) := all_d dX9_sortAll_all0 19 rfl
theorem dX9_sortAll_28 : decode cX9_sortAll 28 = .ok (.iinc 2 1, 3) := all_d dX9_sortAll_all0 20 rfl
theorem dX9_sortAll_31 : decode cX9_sortAll 31 = .ok (.goto (-20), 3) := all_d dX9_sortAll_all0 21 rfl
theorem dX9_sortAll_34 : decode cX9_sortAll 34 = .ok (.iconst 1, 1) := all_d dX9_sortAll_all0 22 rfl
theorem dX9_sortAll_35 : decode cX9_sortAll 35 = .ok (.istore_n 2, 1) := all_d dX9_sortAll_all0 23 rfl
theorem dX9_sortAll_36 : decode cX9_sortAll 36 = .ok (.iload_n 2, 1) := all_d dX9_sortAll_all0 24 rfl
theorem dX9_sortAll_37 : decode cX9_sortAll 37 = .ok (.iload_n 1, 1) := all_d dX9_sortAll_all0 25 rfl
theorem dX9_sortAll_38 : decode cX9_sortAll 38 = .ok (.if_icmp .ge 190, 3) := all_d dX9_sortAll_all0 26 rfl
theorem dX9_sortAll_41 : decode cX9_sortAll 41 = .ok (.iconst 0, 1) := all_d dX9_sortAll_all0 27 rfl
theorem dX9_sortAll_42 : decode cX9_sortAll 42 = .ok (.istore_n 3, 1) := all_d dX9_sortAll_all0 28 rfl
theorem dX9_sortAll_43 : decode cX9_sortAll 43 = .ok (.iload_n 3, 1) := all_d dX9_sortAll_all0 29 rfl
theorem dX9_sortAll_44 : decode cX9_sortAll 44 = .ok (.iload_n 1, 1) := all_d dX9_sortAll_all0 30 rfl
theorem dX9_sortAll_45 : decode cX9_sortAll 45 = .ok (.if_icmp .ge 151, 3) := all_d dX9_sortAll_all0 31 rfl
theorem dX9_sortAll_48 : decode cX9_sortAll 48 = .ok (.iload_n 3, 1) := all_d dX9_sortAll_all0 32 rfl
theorem dX9_sortAll_49 : decode cX9_sortAll 49 = .ok (.istore 4, 2) := all_d dX9_sortAll_all0 33 rfl
theorem dX9_sortAll_51 : decode cX9_sortAll 51 = .ok (.iload_n 3, 1) := all_d dX9_sortAll_all0 34 rfl
theorem dX9_sortAll_52 : decode cX9_sortAll 52 = .ok (.iload_n 2, 1) := all_d dX9_sortAll_all0 35 rfl
theorem dX9_sortAll_53 : decode cX9_sortAll 53 = .ok (.iadd, 1) := all_d dX9_sortAll_all0 36 rfl
theorem dX9_sortAll_54 : decode cX9_sortAll 54 = .ok (.istore 5, 2) := all_d dX9_sortAll_all0 37 rfl
theorem dX9_sortAll_56 : decode cX9_sortAll 56 = .ok (.iload 5, 2) := all_d dX9_sortAll_all0 38 rfl
theorem dX9_sortAll_58 : decode cX9_sortAll 58 = .ok (.iload_n 1, 1) := all_d dX9_sortAll_all0 39 rfl
theorem dX9_sortAll_59 : decode cX9_sortAll 59 = .ok (.if_icmp .ge 8, 3) := all_d dX9_sortAll_all0 40 rfl
theorem dX9_sortAll_62 : decode cX9_sortAll 62 = .ok (.iload 5, 2) := all_d dX9_sortAll_all0 41 rfl
theorem dX9_sortAll_64 : decode cX9_sortAll 64 = .ok (.goto 4, 3) := all_d dX9_sortAll_all0 42 rfl
theorem dX9_sortAll_67 : decode cX9_sortAll 67 = .ok (.iload_n 1, 1) := all_d dX9_sortAll_all0 43 rfl
theorem dX9_sortAll_68 : decode cX9_sortAll 68 = .ok (.istore 6, 2) := all_d dX9_sortAll_all0 44 rfl
theorem dX9_sortAll_70 : decode cX9_sortAll 70 = .ok (.iload_n 3, 1) := all_d dX9_sortAll_all0 45 rfl
theorem dX9_sortAll_71 : decode cX9_sortAll 71 = .ok (.iconst 2, 1) := all_d dX9_sortAll_all0 46 rfl
theorem dX9_sortAll_72 : decode cX9_sortAll 72 = .ok (.iload_n 2, 1) := all_d dX9_sortAll_all0 47 rfl
theorem dX9_sortAll_73 : decode cX9_sortAll 73 = .ok (.imul, 1) := all_d dX9_sortAll_all0 48 rfl
theorem dX9_sortAll_74 : decode cX9_sortAll 74 = .ok (.iadd, 1) := all_d dX9_sortAll_all0 49 rfl
theorem dX9_sortAll_75 : decode cX9_sortAll 75 = .ok (.iload_n 1, 1) := all_d dX9_sortAll_all0 50 rfl
theorem dX9_sortAll_76 : decode cX9_sortAll 76 = .ok (.if_icmp .ge 11, 3) := all_d dX9_sortAll_all0 51 rfl
theorem dX9_sortAll_79 : decode cX9_sortAll 79 = .ok (.iload_n 3, 1) := all_d dX9_sortAll_all0 52 rfl
theorem dX9_sortAll_80 : decode cX9_sortAll 80 = .ok (.iconst 2, 1) := all_d dX9_sortAll_all0 53 rfl
theorem dX9_sortAll_81 : decode cX9_sortAll 81 = .ok (.iload_n 2, 1) := all_d dX9_sortAll_all0 54 rfl
theorem dX9_sortAll_82 : decode cX9_sortAll 82 = .ok (.imul, 1) := all_d dX9_sortAll_all0 55 rfl
theorem dX9_sortAll_83 : decode cX9_sortAll 83 = .ok (.iadd, 1) := all_d dX9_sortAll_all0 56 rfl
theorem dX9_sortAll_84 : decode cX9_sortAll 84 = .ok (.goto 4, 3) := all_d dX9_sortAll_all0 57 rfl
theorem dX9_sortAll_87 : decode cX9_sortAll 87 = .ok (.iload_n 1, 1) := all_d dX9_sortAll_all0 58 rfl
theorem dX9_sortAll_88 : decode cX9_sortAll 88 = .ok (.istore 7, 2) := all_d dX9_sortAll_all0 59 rfl
theorem dX9_sortAll_90 : decode cX9_sortAll 90 = .ok (.iload_n 3, 1) := all_d dX9_sortAll_all0 60 rfl
theorem dX9_sortAll_91 : decode cX9_sortAll 91 = .ok (.istore 8, 2) := all_d dX9_sortAll_all0 61 rfl
theorem dX9_sortAll_93 : decode cX9_sortAll 93 = .ok (.iload 8, 2) := all_d dX9_sortAll_all0 62 rfl
theorem dX9_sortAll_95 : decode cX9_sortAll 95 = .ok (.iload 7, 2) := all_d dX9_sortAll_all0 63 rfl
theorem dX9_sortAll_97 : decode cX9_sortAll 97 = .ok (.if_icmp .ge 90, 3) := all_d dX9_sortAll_all0 64 rfl
theorem dX9_sortAll_100 : decode cX9_sortAll 100 = .ok (.iload 4, 2) := all_d dX9_sortAll_all0 65 rfl
theorem dX9_sortAll_102 : decode cX9_sortAll 102 = .ok (.iload 6, 2) := all_d dX9_sortAll_all0 66 rfl
theorem dX9_sortAll_104 : decode cX9_sortAll 104 = .ok (.if_icmp .ge 31, 3) := all_d dX9_sortAll_all0 67 rfl
theorem dX9_sortAll_107 : decode cX9_sortAll 107 = .ok (.iload 5, 2) := all_d dX9_sortAll_all0 68 rfl
theorem dX9_sortAll_109 : decode cX9_sortAll 109 = .ok (.iload 7, 2) := all_d dX9_sortAll_all0 69 rfl
theorem dX9_sortAll_111 : decode cX9_sortAll 111 = .ok (.if_icmp .ge 20, 3) := all_d dX9_sortAll_all0 70 rfl
theorem dX9_sortAll_114 : decode cX9_sortAll 114 = .ok (.aload_n 0, 1) := all_d dX9_sortAll_all0 71 rfl
theorem dX9_sortAll_115 : decode cX9_sortAll 115 = .ok (.getfield 34, 3) := all_d dX9_sortAll_all0 72 rfl
theorem dX9_sortAll_118 : decode cX9_sortAll 118 = .ok (.iload 4, 2) := all_d dX9_sortAll_all0 73 rfl
theorem dX9_sortAll_120 : decode cX9_sortAll 120 = .ok (.iaload, 1) := all_d dX9_sortAll_all0 74 rfl
theorem dX9_sortAll_121 : decode cX9_sortAll 121 = .ok (.aload_n 0, 1) := all_d dX9_sortAll_all0 75 rfl
theorem dX9_sortAll_122 : decode cX9_sortAll 122 = .ok (.getfield 34, 3) := all_d dX9_sortAll_all0 76 rfl
theorem dX9_sortAll_125 : decode cX9_sortAll 125 = .ok (.iload 5, 2) := all_d dX9_sortAll_all0 77 rfl
theorem dX9_sortAll_127 : decode cX9_sortAll 127 = .ok (.iaload, 1) := all_d dX9_sortAll_all0 78 rfl
theorem dX9_sortAll_128 : decode cX9_sortAll 128 = .ok (.if_icmp .gt 7, 3) := all_d dX9_sortAll_all0 79 rfl
set_option maxRecDepth 100000 in
theorem dX9_sortAll_all1 : ([(131, (.iconst 1 : Instr), 1), (132, (.goto 4 : Instr), 3), (135, (.iconst 0 : Instr), 1), (136, (.istore 9 : Instr), 2), (138, (.aload_n 0 : Instr), 1), (139, (.getfield 37 : Instr), 3), (142, (.iload 8 : Instr), 2), (144, (.iload 9 : Instr), 2), (146, (.ifCond .eq 13 : Instr), 3), (149, (.aload_n 0 : Instr), 1), (150, (.getfield 34 : Instr), 3), (153, (.iload 4 : Instr), 2), (155, (.iaload : Instr), 1), (156, (.goto 10 : Instr), 3), (159, (.aload_n 0 : Instr), 1), (160, (.getfield 34 : Instr), 3), (163, (.iload 5 : Instr), 2), (165, (.iaload : Instr), 1), (166, (.iastore : Instr), 1), (167, (.iload 9 : Instr), 2), (169, (.ifCond .eq 9 : Instr), 3), (172, (.iinc 4 1 : Instr), 3), (175, (.goto 6 : Instr), 3), (178, (.iinc 5 1 : Instr), 3), (181, (.iinc 8 1 : Instr), 3), (184, (.goto (-91) : Instr), 3), (187, (.iload_n 3 : Instr), 1), (188, (.iconst 2 : Instr), 1), (189, (.iload_n 2 : Instr), 1), (190, (.imul : Instr), 1), (191, (.iadd : Instr), 1), (192, (.istore_n 3 : Instr), 1), (193, (.goto (-150) : Instr), 3), (196, (.iconst 0 : Instr), 1), (197, (.istore_n 3 : Instr), 1), (198, (.iload_n 3 : Instr), 1), (199, (.iload_n 1 : Instr), 1), (200, (.if_icmp .ge 21 : Instr), 3), (203, (.aload_n 0 : Instr), 1), (204, (.getfield 34 : Instr), 3), (207, (.iload_n 3 : Instr), 1), (208, (.aload_n 0 : Instr), 1), (209, (.getfield 37 : Instr), 3), (212, (.iload_n 3 : Instr), 1), (213, (.iaload : Instr), 1), (214, (.iastore : Instr), 1), (215, (.iinc 3 1 : Instr), 3), (218, (.goto (-20) : Instr), 3), (221, (.iload_n 2 : Instr), 1), (222, (.iconst 2 : Instr), 1), (223, (.imul : Instr), 1), (224, (.istore_n 2 : Instr), 1), (225, (.goto (-189) : Instr), 3), (228, (.return_ : Instr), 1)] : List (Nat × Instr × Nat)).all (fun q => decide (decode cX9_sortAll q.1 = .ok (q.2.1, q.2.2))) = true := by decide +kernel
theorem dX9_sortAll_131 : decode cX9_sortAll 131 = .ok (.iconst 1, 1) := all_d dX9_sortAll_all1 0 rfl
theorem dX9_sortAll_132 : decode cX9_sortAll 132 = .ok (.goto 4, 3) := all_d dX9_sortAll_all1 1 rfl
theorem dX9_sortAll_135 : decode cX9_sortAll 135 = .ok (.iconst 0, 1) := all_d dX9_sortAll_all1 2 rfl
theorem dX9_sortAll_136 : decode cX9_sortAll 136 = .ok (.istore 9, 2) := all_d dX9_sortAll_all1 3 rfl
theorem dX9_sortAll_138 : decode cX9_sortAll 138 = .ok (.aload_n 0, 1) := all_d dX9_sortAll_all1 4 rfl
theorem dX9_sortAll_139 : decode cX9_sortAll 139 = .ok (.getfield 37, 3) := all_d dX9_sortAll_all1 5 rfl
theorem dX9_sortAll_142 : decode cX9_sortAll 142 = .ok (.iload 8, 2) := all_d dX9_sortAll_all1 6 rfl
theorem dX9_sortAll_144 : decode cX9_sortAll 144 = .ok (.iload 9, 2) := all_d dX9_sortAll_all1 7 rfl
theorem dX9_sortAll_146 : decode cX9_sortAll 146 = .ok (.ifCond .eq 13, 3) := all_d dX9_sortAll_all1 8 rfl
theorem dX9_sortAll_149 : decode cX9_sortAll 149 = .ok (.aload_n 0, 1) := all_d dX9_sortAll_all1 9 rfl
theorem dX9_sortAll_150 : decode cX9_sortAll 150 = .ok (.getfield 34, 3) := all_d dX9_sortAll_all1 10 rfl
theorem dX9_sortAll_153 : decode cX9_sortAll 153 = .ok (.iload 4, 2) := all_d dX9_sortAll_all1 11 rfl
theorem dX9_sortAll_155 : decode cX9_sortAll 155 = .ok (.iaload, 1) := all_d dX9_sortAll_all1 12 rfl
theorem dX9_sortAll_156 : decode cX9_sortAll 156 = .ok (.goto 10, 3) := all_d dX9_sortAll_all1 13 rfl
theorem dX9_sortAll_159 : decode cX9_sortAll 159 = .ok (.aload_n 0, 1) := all_d dX9_sortAll_all1 14 rfl
theorem dX9_sortAll_160 : decode cX9_sortAll 160 = .ok (.getfield 34, 3) := all_d dX9_sortAll_all1 15 rfl
theorem dX9_sortAll_163 : decode cX9_sortAll 163 = .ok (.iload 5, 2) := all_d dX9_sortAll_all1 16 rfl
theorem dX9_sortAll_165 : decode cX9_sortAll 165 = .ok (.iaload, 1) := all_d dX9_sortAll_all1 17 rfl
theorem dX9_sortAll_166 : decode cX9_sortAll 166 = .ok (.iastore, 1) := all_d dX9_sortAll_all1 18 rfl
theorem dX9_sortAll_167 : decode cX9_sortAll 167 = .ok (.iload 9, 2) := all_d dX9_sortAll_all1 19 rfl
theorem dX9_sortAll_169 : decode cX9_sortAll 169 = .ok (.ifCond .eq 9, 3) := all_d dX9_sortAll_all1 20 rfl
theorem dX9_sortAll_172 : decode cX9_sortAll 172 = .ok (.iinc 4 1, 3) := all_d dX9_sortAll_all1 21 rfl
theorem dX9_sortAll_175 : decode cX9_sortAll 175 = .ok (.goto 6, 3) := all_d dX9_sortAll_all1 22 rfl
theorem dX9_sortAll_178 : decode cX9_sortAll 178 = .ok (.iinc 5 1, 3) := all_d dX9_sortAll_all1 23 rfl
theorem dX9_sortAll_181 : decode cX9_sortAll 181 = .ok (.iinc 8 1, 3) := all_d dX9_sortAll_all1 24 rfl
theorem dX9_sortAll_184 : decode cX9_sortAll 184 = .ok (.goto (-91), 3) := all_d dX9_sortAll_all1 25 rfl
theorem dX9_sortAll_187 : decode cX9_sortAll 187 = .ok (.iload_n 3, 1) := all_d dX9_sortAll_all1 26 rfl
theorem dX9_sortAll_188 : decode cX9_sortAll 188 = .ok (.iconst 2, 1) := all_d dX9_sortAll_all1 27 rfl
theorem dX9_sortAll_189 : decode cX9_sortAll 189 = .ok (.iload_n 2, 1) := all_d dX9_sortAll_all1 28 rfl
theorem dX9_sortAll_190 : decode cX9_sortAll 190 = .ok (.imul, 1) := all_d dX9_sortAll_all1 29 rfl
theorem dX9_sortAll_191 : decode cX9_sortAll 191 = .ok (.iadd, 1) := all_d dX9_sortAll_all1 30 rfl
theorem dX9_sortAll_192 : decode cX9_sortAll 192 = .ok (.istore_n 3, 1) := all_d dX9_sortAll_all1 31 rfl
theorem dX9_sortAll_193 : decode cX9_sortAll 193 = .ok (.goto (-150), 3) := all_d dX9_sortAll_all1 32 rfl
theorem dX9_sortAll_196 : decode cX9_sortAll 196 = .ok (.iconst 0, 1) := all_d dX9_sortAll_all1 33 rfl
theorem dX9_sortAll_197 : decode cX9_sortAll 197 = .ok (.istore_n 3, 1) := all_d dX9_sortAll_all1 34 rfl
theorem dX9_sortAll_198 : decode cX9_sortAll 198 = .ok (.iload_n 3, 1) := all_d dX9_sortAll_all1 35 rfl
theorem dX9_sortAll_199 : decode cX9_sortAll 199 = .ok (.iload_n 1, 1) := all_d dX9_sortAll_all1 36 rfl
theorem dX9_sortAll_200 : decode cX9_sortAll 200 = .ok (.if_icmp .ge 21, 3) := all_d dX9_sortAll_all1 37 rfl
theorem dX9_sortAll_203 : decode cX9_sortAll 203 = .ok (.aload_n 0, 1) := all_d dX9_sortAll_all1 38 rfl
theorem dX9_sortAll_204 : decode cX9_sortAll 204 = .ok (.getfield 34, 3) := all_d dX9_sortAll_all1 39 rfl
theorem dX9_sortAll_207 : decode cX9_sortAll 207 = .ok (.iload_n 3, 1) := all_d dX9_sortAll_all1 40 rfl
theorem dX9_sortAll_208 : decode cX9_sortAll 208 = .ok (.aload_n 0, 1) := all_d dX9_sortAll_all1 41 rfl
theorem dX9_sortAll_209 : decode cX9_sortAll 209 = .ok (.getfield 37, 3) := all_d dX9_sortAll_all1 42 rfl
theorem dX9_sortAll_212 : decode cX9_sortAll 212 = .ok (.iload_n 3, 1) := all_d dX9_sortAll_all1 43 rfl
theorem dX9_sortAll_213 : decode cX9_sortAll 213 = .ok (.iaload, 1) := all_d dX9_sortAll_all1 44 rfl
theorem dX9_sortAll_214 : decode cX9_sortAll 214 = .ok (.iastore, 1) := all_d dX9_sortAll_all1 45 rfl
theorem dX9_sortAll_215 : decode cX9_sortAll 215 = .ok (.iinc 3 1, 3) := all_d dX9_sortAll_all1 46 rfl
theorem dX9_sortAll_218 : decode cX9_sortAll 218 = .ok (.goto (-20), 3) := all_d dX9_sortAll_all1 47 rfl
theorem dX9_sortAll_221 : decode cX9_sortAll 221 = .ok (.iload_n 2, 1) := all_d dX9_sortAll_all1 48 rfl
theorem dX9_sortAll_222 : decode cX9_sortAll 222 = .ok (.iconst 2, 1) := all_d dX9_sortAll_all1 49 rfl
theorem dX9_sortAll_223 : decode cX9_sortAll 223 = .ok (.imul, 1) := all_d dX9_sortAll_all1 50 rfl
theorem dX9_sortAll_224 : decode cX9_sortAll 224 = .ok (.istore_n 2, 1) := all_d dX9_sortAll_all1 51 rfl
theorem dX9_sortAll_225 : decode cX9_sortAll 225 = .ok (.goto (-189), 3) := all_d dX9_sortAll_all1 52 rfl
theorem dX9_sortAll_228 : decode cX9_sortAll 228 = .ok (.return_, 1) := all_d dX9_sortAll_all1 53 rfl
set_option maxRecDepth 100000 in
theorem dX9_codes_all0 : ([(0, (.aload_n 0 : Instr), 1), (1, (.iconst 0 : Instr), 1), (2, (.putfield 47 : Instr), 3), (5, (.aload_n 0 : Instr), 1), (6, (.iload_n 1 : Instr), 1), (7, (.invokevirtual 68 : Instr), 3), (10, (.ifCond .ne 9 : Instr), 3), (13, (.aload_n 0 : Instr), 1), (14, (.iconst 2 : Instr), 1), (15, (.invokevirtual 78 : Instr), 3), (18, (.ireturn : Instr), 1), (19, (.aload_n 0 : Instr), 1), (20, (.iconst 0 : Instr), 1), (21, (.putfield 51 : Instr), 3), (24, (.aload_n 0 : Instr), 1), (25, (.iload_n 1 : Instr), 1), (26, (.invokevirtual 114 : Instr), 3), (29, (.aload_n 0 : Instr), 1), (30, (.invokevirtual 118 : Instr), 3), (33, (.iconst 1 : Instr), 1), (34, (.istore_n 2 : Instr), 1), (35, (.iconst 1 : Instr), 1), (36, (.istore_n 3 : Instr), 1), (37, (.iload_n 3 : Instr), 1), (38, (.aload_n 0 : Instr), 1), (39, (.getfield 7 : Instr), 3), (42, (.iconst 0 : Instr), 1), (43, (.iaload : Instr), 1), (44, (.if_icmp .gt 34 : Instr), 3), (47, (.iload_n 2 : Instr), 1), (48, (.aload_n 0 : Instr), 1), (49, (.getfield 34 : Instr), 3), (52, (.iload_n 3 : Instr), 1), (53, (.iaload : Instr), 1), (54, (.aload_n 0 : Instr), 1), (55, (.getfield 34 : Instr), 3), (58, (.iload_n 3 : Instr), 1), (59, (.iconst 1 : Instr), 1), (60, (.isub : Instr), 1), (61, (.iaload : Instr), 1), (62, (.if_icmp .eq 7 : Instr), 3), (65, (.iconst 1 : Instr), 1), (66, (.goto 4 : Instr), 3), (69, (.iconst 0 : Instr), 1), (70, (.iadd : Instr), 1), (71, (.istore_n 2 : Instr), 1), (72, (.iinc 3 1 : Instr), 3), (75, (.goto (-38) : Instr), 3), (78, (.iload_n 2 : Instr), 1), (79, (.ireturn : Instr), 1)] : List (Nat × Instr × Nat)).all (fun q => decide (decode cX9_codes q.1 = .ok (q.2.1, q.2.2))) = true := by decide +kernel
theorem dX9_codes_0 : decode cX9_codes 0 = .ok (.aload_n 0, 1) := all_d dX9_codes_all0 0 rfl
theorem dX9_codes_1 : decode cX9_codes 1 = .ok (.iconst 0, 1) := all_d dX9_codes_all0 1 rfl
theorem dX9_codes_2 : decode cX9_codes 2 = .ok (.putfield 47, 3) := all_d dX9_codes_all0 2 rfl
theorem dX9_codes_5 : decode cX9_codes 5 = .ok (.aload_n 0, 1) := all_d dX9_codes_all0 3 rfl
theorem dX9_codes_6 : decode cX9_codes 6 = .ok (.iload_n 1, 1) := all_d dX9_codes_all0 4 rfl
theorem dX9_codes_7 : decode cX9_codes 7 = .ok (.invokevirtual 68, 3) := all_d dX9_codes_all0 5 rfl
theorem dX9_codes_10 : decode cX9_codes 10 = .ok (.ifCond .ne 9, 3) := all_d dX9_codes_all0 6 rfl
theorem dX9_codes_13 : decode cX9_codes 13 = .ok (.aload_n 0, 1) := all_d dX9_codes_all0 7 rfl
theorem dX9_codes_14 : decode cX9_codes 14 = .ok (.iconst 2, 1) := all_d dX9_codes_all0 8 rfl
theorem dX9_codes_15 : decode cX9_codes 15 = .ok (.invokevirtual 78, 3) := all_d dX9_codes_all0 9 rfl
theorem dX9_codes_18 : decode cX9_codes 18 = .ok (.ireturn, 1) := all_d dX9_codes_all0 10 rfl
theorem dX9_codes_19 : decode cX9_codes 19 = .ok (.aload_n 0, 1) := all_d dX9_codes_all0 11 rfl
theorem dX9_codes_20 : decode cX9_codes 20 = .ok (.iconst 0, 1) := all_d dX9_codes_all0 12 rfl
theorem dX9_codes_21 : decode cX9_codes 21 = .ok (.putfield 51, 3) := all_d dX9_codes_all0 13 rfl
theorem dX9_codes_24 : decode cX9_codes 24 = .ok (.aload_n 0, 1) := all_d dX9_codes_all0 14 rfl
theorem dX9_codes_25 : decode cX9_codes 25 = .ok (.iload_n 1, 1) := all_d dX9_codes_all0 15 rfl
theorem dX9_codes_26 : decode cX9_codes 26 = .ok (.invokevirtual 114, 3) := all_d dX9_codes_all0 16 rfl
theorem dX9_codes_29 : decode cX9_codes 29 = .ok (.aload_n 0, 1) := all_d dX9_codes_all0 17 rfl
theorem dX9_codes_30 : decode cX9_codes 30 = .ok (.invokevirtual 118, 3) := all_d dX9_codes_all0 18 rfl
theorem dX9_codes_33 : decode cX9_codes 33 = .ok (.iconst 1, 1) := all_d dX9_codes_all0 19 rfl
theorem dX9_codes_34 : decode cX9_codes 34 = .ok (.istore_n 2, 1) := all_d dX9_codes_all0 20 rfl
theorem dX9_codes_35 : decode cX9_codes 35 = .ok (.iconst 1, 1) := all_d dX9_codes_all0 21 rfl
theorem dX9_codes_36 : decode cX9_codes 36 = .ok (.istore_n 3, 1) := all_d dX9_codes_all0 22 rfl
theorem dX9_codes_37 : decode cX9_codes 37 = .ok (.iload_n 3, 1) := all_d dX9_codes_all0 23 rfl
theorem dX9_codes_38 : decode cX9_codes 38 = .ok (.aload_n 0, 1) := all_d dX9_codes_all0 24 rfl
theorem dX9_codes_39 : decode cX9_codes 39 = .ok (.getfield 7, 3) := all_d dX9_codes_all0 25 rfl
theorem dX9_codes_42 : decode cX9_codes 42 = .ok (.iconst 0, 1) := all_d dX9_codes_all0 26 rfl
theorem dX9_codes_43 : decode cX9_codes 43 = .ok (.iaload, 1) := all_d dX9_codes_all0 27 rfl
theorem dX9_codes_44 : decode cX9_codes 44 = .ok (.if_icmp .gt 34, 3) := all_d dX9_codes_all0 28 rfl
theorem dX9_codes_47 : decode cX9_codes 47 = .ok (.iload_n 2, 1) := all_d dX9_codes_all0 29 rfl
theorem dX9_codes_48 : decode cX9_codes 48 = .ok (.aload_n 0, 1) := all_d dX9_codes_all0 30 rfl
theorem dX9_codes_49 : decode cX9_codes 49 = .ok (.getfield 34, 3) := all_d dX9_codes_all0 31 rfl
theorem dX9_codes_52 : decode cX9_codes 52 = .ok (.iload_n 3, 1) := all_d dX9_codes_all0 32 rfl
theorem dX9_codes_53 : decode cX9_codes 53 = .ok (.iaload, 1) := all_d dX9_codes_all0 33 rfl
theorem dX9_codes_54 : decode cX9_codes 54 = .ok (.aload_n 0, 1) := all_d dX9_codes_all0 34 rfl
theorem dX9_codes_55 : decode cX9_codes 55 = .ok (.getfield 34, 3) := all_d dX9_codes_all0 35 rfl
theorem dX9_codes_58 : decode cX9_codes 58 = .ok (.iload_n 3, 1) := all_d dX9_codes_all0 36 rfl
theorem dX9_codes_59 : decode cX9_codes 59 = .ok (.iconst 1, 1) := all_d dX9_codes_all0 37 rfl
theorem dX9_codes_60 : decode cX9_codes 60 = .ok (.isub, 1) := all_d dX9_codes_all0 38 rfl
theorem dX9_codes_61 : decode cX9_codes 61 = .ok (.iaload, 1) := all_d dX9_codes_all0 39 rfl
theorem dX9_codes_62 : decode cX9_codes 62 = .ok (.if_icmp .eq 7, 3) := all_d dX9_codes_all0 40 rfl
theorem dX9_codes_65 : decode cX9_codes 65 = .ok (.iconst 1, 1) := all_d dX9_codes_all0 41 rfl
theorem dX9_codes_66 : decode cX9_codes 66 = .ok (.goto 4, 3) := all_d dX9_codes_all0 42 rfl
theorem dX9_codes_69 : decode cX9_codes 69 = .ok (.iconst 0, 1) := all_d dX9_codes_all0 43 rfl
theorem dX9_codes_70 : decode cX9_codes 70 = .ok (.iadd, 1) := all_d dX9_codes_all0 44 rfl
theorem dX9_codes_71 : decode cX9_codes 71 = .ok (.istore_n 2, 1) := all_d dX9_codes_all0 45 rfl
theorem dX9_codes_72 : decode cX9_codes 72 = .ok (.iinc 3 1, 3) := all_d dX9_codes_all0 46 rfl
theorem dX9_codes_75 : decode cX9_codes 75 = .ok (.goto (-38), 3) := all_d dX9_codes_all0 47 rfl
theorem dX9_codes_78 : decode cX9_codes 78 = .ok (.iload_n 2, 1) := all_d dX9_codes_all0 48 rfl
theorem dX9_codes_79 : decode cX9_codes 79 = .ok (.ireturn, 1) := all_d dX9_codes_all0 49 rfl
set_option maxRecDepth 100000 in
theorem dX9_lacks_all0 : ([(0, (.aload_n 0 : Instr), 1), (1, (.iconst 0 : Instr), 1), (2, (.putfield 47 : Instr), 3), (5, (.aload_n 0 : Instr), 1), (6, (.iload_n 1 : Instr), 1), (7, (.invokevirtual 68 : Instr), 3), (10, (.ifCond .ne 9 : Instr), 3), (13, (.aload_n 0 : Instr), 1), (14, (.iconst 2 : Instr), 1), (15, (.invokevirtual 78 : Instr), 3), (18, (.ireturn : Instr), 1), (19, (.aload_n 0 : Instr), 1), (20, (.iconst 0 : Instr), 1), (21, (.putfield 51 : Instr), 3), (24, (.aload_n 0 : Instr), 1), (25, (.iload_n 1 : Instr), 1), (26, (.invokevirtual 114 : Instr), 3), (29, (.aload_n 0 : Instr), 1), (30, (.invokevirtual 118 : Instr), 3), (33, (.aload_n 0 : Instr), 1), (34, (.getfield 34 : Instr), 3), (37, (.aload_n 0 : Instr), 1), (38, (.getfield 7 : Instr), 3), (41, (.iconst 0 : Instr), 1), (42, (.iaload : Instr), 1), (43, (.iaload : Instr), 1), (44, (.istore_n 2 : Instr), 1), (45, (.iload_n 2 : Instr), 1), (46, (.ifCond .ge 5 : Instr), 3), (49, (.iconst 0 : Instr), 1), (50, (.ireturn : Instr), 1), (51, (.iconst 0 : Instr), 1), (52, (.istore_n 3 : Instr), 1), (53, (.iconst 0 : Instr), 1), (54, (.istore 4 : Instr), 2), (56, (.iload 4 : Instr), 2), (58, (.aload_n 0 : Instr), 1), (59, (.getfield 7 : Instr), 3), (62, (.iconst 0 : Instr), 1), (63, (.iaload : Instr), 1), (64, (.if_icmp .gt 51 : Instr), 3), (67, (.iload_n 3 : Instr), 1), (68, (.aload_n 0 : Instr), 1), (69, (.getfield 34 : Instr), 3), (72, (.iload 4 : Instr), 2), (74, (.iaload : Instr), 1), (75, (.ifCond .lt 31 : Instr), 3), (78, (.iload 4 : Instr), 2), (80, (.ifCond .eq 22 : Instr), 3), (83, (.aload_n 0 : Instr), 1), (84, (.getfield 34 : Instr), 3), (87, (.iload 4 : Instr), 2), (89, (.iaload : Instr), 1), (90, (.aload_n 0 : Instr), 1), (91, (.getfield 34 : Instr), 3), (94, (.iload 4 : Instr), 2), (96, (.iconst 1 : Instr), 1), (97, (.isub : Instr), 1), (98, (.iaload : Instr), 1), (99, (.if_icmp .eq 7 : Instr), 3), (102, (.iconst 1 : Instr), 1), (103, (.goto 4 : Instr), 3), (106, (.iconst 0 : Instr), 1), (107, (.iadd : Instr), 1), (108, (.istore_n 3 : Instr), 1), (109, (.iinc 4 1 : Instr), 3), (112, (.goto (-56) : Instr), 3), (115, (.iload_n 2 : Instr), 1), (116, (.iconst 1 : Instr), 1), (117, (.iadd : Instr), 1), (118, (.iload_n 3 : Instr), 1), (119, (.isub : Instr), 1), (120, (.ireturn : Instr), 1)] : List (Nat × Instr × Nat)).all (fun q => decide (decode cX9_lacks q.1 = .ok (q.2.1, q.2.2))) = true := by decide +kernel
theorem dX9_lacks_0 : decode cX9_lacks 0 = .ok (.aload_n 0, 1) := all_d dX9_lacks_all0 0 rfl
theorem dX9_lacks_1 : decode cX9_lacks 1 = .ok (.iconst 0, 1) := all_d dX9_lacks_all0 1 rfl
theorem dX9_lacks_2 : decode cX9_lacks 2 = .ok (.putfield 47, 3) := all_d dX9_lacks_all0 2 rfl
theorem dX9_lacks_5 : decode cX9_lacks 5 = .ok (.aload_n 0, 1) := all_d dX9_lacks_all0 3 rfl
theorem dX9_lacks_6 : decode cX9_lacks 6 = .ok (.iload_n 1, 1) := all_d dX9_lacks_all0 4 rfl
theorem dX9_lacks_7 : decode cX9_lacks 7 = .ok (.invokevirtual 68, 3) := all_d dX9_lacks_all0 5 rfl
theorem dX9_lacks_10 : decode cX9_lacks 10 = .ok (.ifCond .ne 9, 3) := all_d dX9_lacks_all0 6 rfl
theorem dX9_lacks_13 : decode cX9_lacks 13 = .ok (.aload_n 0, 1) := all_d dX9_lacks_all0 7 rfl
theorem dX9_lacks_14 : decode cX9_lacks 14 = .ok (.iconst 2, 1) := all_d dX9_lacks_all0 8 rfl
theorem dX9_lacks_15 : decode cX9_lacks 15 = .ok (.invokevirtual 78, 3) := all_d dX9_lacks_all0 9 rfl
theorem dX9_lacks_18 : decode cX9_lacks 18 = .ok (.ireturn, 1) := all_d dX9_lacks_all0 10 rfl
theorem dX9_lacks_19 : decode cX9_lacks 19 = .ok (.aload_n 0, 1) := all_d dX9_lacks_all0 11 rfl
theorem dX9_lacks_20 : decode cX9_lacks 20 = .ok (.iconst 0, 1) := all_d dX9_lacks_all0 12 rfl
theorem dX9_lacks_21 : decode cX9_lacks 21 = .ok (.putfield 51, 3) := all_d dX9_lacks_all0 13 rfl
theorem dX9_lacks_24 : decode cX9_lacks 24 = .ok (.aload_n 0, 1) := all_d dX9_lacks_all0 14 rfl
theorem dX9_lacks_25 : decode cX9_lacks 25 = .ok (.iload_n 1, 1) := all_d dX9_lacks_all0 15 rfl
theorem dX9_lacks_26 : decode cX9_lacks 26 = .ok (.invokevirtual 114, 3) := all_d dX9_lacks_all0 16 rfl
theorem dX9_lacks_29 : decode cX9_lacks 29 = .ok (.aload_n 0, 1) := all_d dX9_lacks_all0 17 rfl
theorem dX9_lacks_30 : decode cX9_lacks 30 = .ok (.invokevirtual 118, 3) := all_d dX9_lacks_all0 18 rfl
theorem dX9_lacks_33 : decode cX9_lacks 33 = .ok (.aload_n 0, 1) := all_d dX9_lacks_all0 19 rfl
theorem dX9_lacks_34 : decode cX9_lacks 34 = .ok (.getfield 34, 3) := all_d dX9_lacks_all0 20 rfl
theorem dX9_lacks_37 : decode cX9_lacks 37 = .ok (.aload_n 0, 1) := all_d dX9_lacks_all0 21 rfl
theorem dX9_lacks_38 : decode cX9_lacks 38 = .ok (.getfield 7, 3) := all_d dX9_lacks_all0 22 rfl
theorem dX9_lacks_41 : decode cX9_lacks 41 = .ok (.iconst 0, 1) := all_d dX9_lacks_all0 23 rfl
theorem dX9_lacks_42 : decode cX9_lacks 42 = .ok (.iaload, 1) := all_d dX9_lacks_all0 24 rfl
theorem dX9_lacks_43 : decode cX9_lacks 43 = .ok (.iaload, 1) := all_d dX9_lacks_all0 25 rfl
theorem dX9_lacks_44 : decode cX9_lacks 44 = .ok (.istore_n 2, 1) := all_d dX9_lacks_all0 26 rfl
theorem dX9_lacks_45 : decode cX9_lacks 45 = .ok (.iload_n 2, 1) := all_d dX9_lacks_all0 27 rfl
theorem dX9_lacks_46 : decode cX9_lacks 46 = .ok (.ifCond .ge 5, 3) := all_d dX9_lacks_all0 28 rfl
theorem dX9_lacks_49 : decode cX9_lacks 49 = .ok (.iconst 0, 1) := all_d dX9_lacks_all0 29 rfl
theorem dX9_lacks_50 : decode cX9_lacks 50 = .ok (.ireturn, 1) := all_d dX9_lacks_all0 30 rfl
theorem dX9_lacks_51 : decode cX9_lacks 51 = .ok (.iconst 0, 1) := all_d dX9_lacks_all0 31 rfl
theorem dX9_lacks_52 : decode cX9_lacks 52 = .ok (.istore_n 3, 1) := all_d dX9_lacks_all0 32 rfl
theorem dX9_lacks_53 : decode cX9_lacks 53 = .ok (.iconst 0, 1) := all_d dX9_lacks_all0 33 rfl
theorem dX9_lacks_54 : decode cX9_lacks 54 = .ok (.istore 4, 2) := all_d dX9_lacks_all0 34 rfl
theorem dX9_lacks_56 : decode cX9_lacks 56 = .ok (.iload 4, 2) := all_d dX9_lacks_all0 35 rfl
theorem dX9_lacks_58 : decode cX9_lacks 58 = .ok (.aload_n 0, 1) := all_d dX9_lacks_all0 36 rfl
theorem dX9_lacks_59 : decode cX9_lacks 59 = .ok (.getfield 7, 3) := all_d dX9_lacks_all0 37 rfl
theorem dX9_lacks_62 : decode cX9_lacks 62 = .ok (.iconst 0, 1) := all_d dX9_lacks_all0 38 rfl
theorem dX9_lacks_63 : decode cX9_lacks 63 = .ok (.iaload, 1) := all_d dX9_lacks_all0 39 rfl
theorem dX9_lacks_64 : decode cX9_lacks 64 = .ok (.if_icmp .gt 51, 3) := all_d dX9_lacks_all0 40 rfl
theorem dX9_lacks_67 : decode cX9_lacks 67 = .ok (.iload_n 3, 1) := all_d dX9_lacks_all0 41 rfl
theorem dX9_lacks_68 : decode cX9_lacks 68 = .ok (.aload_n 0, 1) := all_d dX9_lacks_all0 42 rfl
theorem dX9_lacks_69 : decode cX9_lacks 69 = .ok (.getfield 34, 3) := all_d dX9_lacks_all0 43 rfl
theorem dX9_lacks_72 : decode cX9_lacks 72 = .ok (.iload 4, 2) := all_d dX9_lacks_all0 44 rfl
theorem dX9_lacks_74 : decode cX9_lacks 74 = .ok (.iaload, 1) := all_d dX9_lacks_all0 45 rfl
theorem dX9_lacks_75 : decode cX9_lacks 75 = .ok (.ifCond .lt 31, 3) := all_d dX9_lacks_all0 46 rfl
theorem dX9_lacks_78 : decode cX9_lacks 78 = .ok (.iload 4, 2) := all_d dX9_lacks_all0 47 rfl
theorem dX9_lacks_80 : decode cX9_lacks 80 = .ok (.ifCond .eq 22, 3) := all_d dX9_lacks_all0 48 rfl
theorem dX9_lacks_83 : decode cX9_lacks 83 = .ok (.aload_n 0, 1) := all_d dX9_lacks_all0 49 rfl
theorem dX9_lacks_84 : decode cX9_lacks 84 = .ok (.getfield 34, 3) := all_d dX9_lacks_all0 50 rfl
theorem dX9_lacks_87 : decode cX9_lacks 87 = .ok (.iload 4, 2) := all_d dX9_lacks_all0 51 rfl
theorem dX9_lacks_89 : decode cX9_lacks 89 = .ok (.iaload, 1) := all_d dX9_lacks_all0 52 rfl
theorem dX9_lacks_90 : decode cX9_lacks 90 = .ok (.aload_n 0, 1) := all_d dX9_lacks_all0 53 rfl
theorem dX9_lacks_91 : decode cX9_lacks 91 = .ok (.getfield 34, 3) := all_d dX9_lacks_all0 54 rfl
theorem dX9_lacks_94 : decode cX9_lacks 94 = .ok (.iload 4, 2) := all_d dX9_lacks_all0 55 rfl
theorem dX9_lacks_96 : decode cX9_lacks 96 = .ok (.iconst 1, 1) := all_d dX9_lacks_all0 56 rfl
theorem dX9_lacks_97 : decode cX9_lacks 97 = .ok (.isub, 1) := all_d dX9_lacks_all0 57 rfl
theorem dX9_lacks_98 : decode cX9_lacks 98 = .ok (.iaload, 1) := all_d dX9_lacks_all0 58 rfl
theorem dX9_lacks_99 : decode cX9_lacks 99 = .ok (.if_icmp .eq 7, 3) := all_d dX9_lacks_all0 59 rfl
theorem dX9_lacks_102 : decode cX9_lacks 102 = .ok (.iconst 1, 1) := all_d dX9_lacks_all0 60 rfl
theorem dX9_lacks_103 : decode cX9_lacks 103 = .ok (.goto 4, 3) := all_d dX9_lacks_all0 61 rfl
theorem dX9_lacks_106 : decode cX9_lacks 106 = .ok (.iconst 0, 1) := all_d dX9_lacks_all0 62 rfl
theorem dX9_lacks_107 : decode cX9_lacks 107 = .ok (.iadd, 1) := all_d dX9_lacks_all0 63 rfl
theorem dX9_lacks_108 : decode cX9_lacks 108 = .ok (.istore_n 3, 1) := all_d dX9_lacks_all0 64 rfl
theorem dX9_lacks_109 : decode cX9_lacks 109 = .ok (.iinc 4 1, 3) := all_d dX9_lacks_all0 65 rfl
theorem dX9_lacks_112 : decode cX9_lacks 112 = .ok (.goto (-56), 3) := all_d dX9_lacks_all0 66 rfl
theorem dX9_lacks_115 : decode cX9_lacks 115 = .ok (.iload_n 2, 1) := all_d dX9_lacks_all0 67 rfl
theorem dX9_lacks_116 : decode cX9_lacks 116 = .ok (.iconst 1, 1) := all_d dX9_lacks_all0 68 rfl
theorem dX9_lacks_117 : decode cX9_lacks 117 = .ok (.iadd, 1) := all_d dX9_lacks_all0 69 rfl
theorem dX9_lacks_118 : decode cX9_lacks 118 = .ok (.iload_n 3, 1) := all_d dX9_lacks_all0 70 rfl
theorem dX9_lacks_119 : decode cX9_lacks 119 = .ok (.isub, 1) := all_d dX9_lacks_all0 71 rfl
theorem dX9_lacks_120 : decode cX9_lacks 120 = .ok (.ireturn, 1) := all_d dX9_lacks_all0 72 rfl
set_option maxRecDepth 100000 in
theorem dX9_backOf_all0 : ([(0, (.iconst 1 : Instr), 1), (1, (.istore_n 1 : Instr), 1), (2, (.iload_n 1 : Instr), 1), (3, (.aload_n 0 : Instr), 1), (4, (.getfield 7 : Instr), 3), (7, (.iconst 0 : Instr), 1), (8, (.iaload : Instr), 1), (9, (.if_icmp .gt 28 : Instr), 3), (12, (.aload_n 0 : Instr), 1), (13, (.getfield 31 : Instr), 3), (16, (.iload_n 1 : Instr), 1), (17, (.iaload : Instr), 1), (18, (.aload_n 0 : Instr), 1), (19, (.getfield 31 : Instr), 3), (22, (.iload_n 1 : Instr), 1), (23, (.iconst 1 : Instr), 1), (24, (.isub : Instr), 1), (25, (.iaload : Instr), 1), (26, (.if_icmp .ge 5 : Instr), 3), (29, (.iload_n 1 : Instr), 1), (30, (.ireturn : Instr), 1), (31, (.iinc 1 1 : Instr), 3), (34, (.goto (-32) : Instr), 3), (37, (.bipush (-2) : Instr), 2), (39, (.ireturn : Instr), 1)] : List (Nat × Instr × Nat)).all (fun q => decide (decode cX9_backOf q.1 = .ok (q.2.1, q.2.2))) = true := by decide +kernel
theorem dX9_backOf_0 : decode cX9_backOf 0 = .ok (.iconst 1, 1) := all_d dX9_backOf_all0 0 rfl
theorem dX9_backOf_1 : decode cX9_backOf 1 = .ok (.istore_n 1, 1) := all_d dX9_backOf_all0 1 rfl
theorem dX9_backOf_2 : decode cX9_backOf 2 = .ok (.iload_n 1, 1) := all_d dX9_backOf_all0 2 rfl
theorem dX9_backOf_3 : decode cX9_backOf 3 = .ok (.aload_n 0, 1) := all_d dX9_backOf_all0 3 rfl
theorem dX9_backOf_4 : decode cX9_backOf 4 = .ok (.getfield 7, 3) := all_d dX9_backOf_all0 4 rfl
theorem dX9_backOf_7 : decode cX9_backOf 7 = .ok (.iconst 0, 1) := all_d dX9_backOf_all0 5 rfl
theorem dX9_backOf_8 : decode cX9_backOf 8 = .ok (.iaload, 1) := all_d dX9_backOf_all0 6 rfl
theorem dX9_backOf_9 : decode cX9_backOf 9 = .ok (.if_icmp .gt 28, 3) := all_d dX9_backOf_all0 7 rfl
theorem dX9_backOf_12 : decode cX9_backOf 12 = .ok (.aload_n 0, 1) := all_d dX9_backOf_all0 8 rfl
theorem dX9_backOf_13 : decode cX9_backOf 13 = .ok (.getfield 31, 3) := all_d dX9_backOf_all0 9 rfl
theorem dX9_backOf_16 : decode cX9_backOf 16 = .ok (.iload_n 1, 1) := all_d dX9_backOf_all0 10 rfl
theorem dX9_backOf_17 : decode cX9_backOf 17 = .ok (.iaload, 1) := all_d dX9_backOf_all0 11 rfl
theorem dX9_backOf_18 : decode cX9_backOf 18 = .ok (.aload_n 0, 1) := all_d dX9_backOf_all0 12 rfl
theorem dX9_backOf_19 : decode cX9_backOf 19 = .ok (.getfield 31, 3) := all_d dX9_backOf_all0 13 rfl
theorem dX9_backOf_22 : decode cX9_backOf 22 = .ok (.iload_n 1, 1) := all_d dX9_backOf_all0 14 rfl
theorem dX9_backOf_23 : decode cX9_backOf 23 = .ok (.iconst 1, 1) := all_d dX9_backOf_all0 15 rfl
theorem dX9_backOf_24 : decode cX9_backOf 24 = .ok (.isub, 1) := all_d dX9_backOf_all0 16 rfl
theorem dX9_backOf_25 : decode cX9_backOf 25 = .ok (.iaload, 1) := all_d dX9_backOf_all0 17 rfl
theorem dX9_backOf_26 : decode cX9_backOf 26 = .ok (.if_icmp .ge 5, 3) := all_d dX9_backOf_all0 18 rfl
theorem dX9_backOf_29 : decode cX9_backOf 29 = .ok (.iload_n 1, 1) := all_d dX9_backOf_all0 19 rfl
theorem dX9_backOf_30 : decode cX9_backOf 30 = .ok (.ireturn, 1) := all_d dX9_backOf_all0 20 rfl
theorem dX9_backOf_31 : decode cX9_backOf 31 = .ok (.iinc 1 1, 3) := all_d dX9_backOf_all0 21 rfl
theorem dX9_backOf_34 : decode cX9_backOf 34 = .ok (.goto (-32), 3) := all_d dX9_backOf_all0 22 rfl
theorem dX9_backOf_37 : decode cX9_backOf 37 = .ok (.bipush (-2), 2) := all_d dX9_backOf_all0 23 rfl
theorem dX9_backOf_39 : decode cX9_backOf 39 = .ok (.ireturn, 1) := all_d dX9_backOf_all0 24 rfl
set_option maxRecDepth 100000 in
theorem dX9_back_all0 : ([(0, (.aload_n 0 : Instr), 1), (1, (.iconst 0 : Instr), 1), (2, (.putfield 47 : Instr), 3), (5, (.aload_n 0 : Instr), 1), (6, (.iload_n 1 : Instr), 1), (7, (.invokevirtual 68 : Instr), 3), (10, (.ifCond .ne 9 : Instr), 3), (13, (.aload_n 0 : Instr), 1), (14, (.iconst 2 : Instr), 1), (15, (.invokevirtual 78 : Instr), 3), (18, (.ireturn : Instr), 1), (19, (.aload_n 0 : Instr), 1), (20, (.iconst 0 : Instr), 1), (21, (.putfield 51 : Instr), 3), (24, (.aload_n 0 : Instr), 1), (25, (.iload_n 1 : Instr), 1), (26, (.invokevirtual 114 : Instr), 3), (29, (.aload_n 0 : Instr), 1), (30, (.invokevirtual 121 : Instr), 3), (33, (.ireturn : Instr), 1)] : List (Nat × Instr × Nat)).all (fun q => decide (decode cX9_back q.1 = .ok (q.2.1, q.2.2))) = true := by decide +kernel
theorem dX9_back_0 : decode cX9_back 0 = .ok (.aload_n 0, 1) := all_d dX9_back_all0 0 rfl
theorem dX9_back_1 : decode cX9_back 1 = .ok (.iconst 0, 1) := all_d dX9_back_all0 1 rfl
theorem dX9_back_2 : decode cX9_back 2 = .ok (.putfield 47, 3) := all_d dX9_back_all0 2 rfl
theorem dX9_back_5 : decode cX9_back 5 = .ok (.aload_n 0, 1) := all_d dX9_back_all0 3 rfl
theorem dX9_back_6 : decode cX9_back 6 = .ok (.iload_n 1, 1) := all_d dX9_back_all0 4 rfl
theorem dX9_back_7 : decode cX9_back 7 = .ok (.invokevirtual 68, 3) := all_d dX9_back_all0 5 rfl
theorem dX9_back_10 : decode cX9_back 10 = .ok (.ifCond .ne 9, 3) := all_d dX9_back_all0 6 rfl
theorem dX9_back_13 : decode cX9_back 13 = .ok (.aload_n 0, 1) := all_d dX9_back_all0 7 rfl
theorem dX9_back_14 : decode cX9_back 14 = .ok (.iconst 2, 1) := all_d dX9_back_all0 8 rfl
theorem dX9_back_15 : decode cX9_back 15 = .ok (.invokevirtual 78, 3) := all_d dX9_back_all0 9 rfl
theorem dX9_back_18 : decode cX9_back 18 = .ok (.ireturn, 1) := all_d dX9_back_all0 10 rfl
theorem dX9_back_19 : decode cX9_back 19 = .ok (.aload_n 0, 1) := all_d dX9_back_all0 11 rfl
theorem dX9_back_20 : decode cX9_back 20 = .ok (.iconst 0, 1) := all_d dX9_back_all0 12 rfl
theorem dX9_back_21 : decode cX9_back 21 = .ok (.putfield 51, 3) := all_d dX9_back_all0 13 rfl
theorem dX9_back_24 : decode cX9_back 24 = .ok (.aload_n 0, 1) := all_d dX9_back_all0 14 rfl
theorem dX9_back_25 : decode cX9_back 25 = .ok (.iload_n 1, 1) := all_d dX9_back_all0 15 rfl
theorem dX9_back_26 : decode cX9_back 26 = .ok (.invokevirtual 114, 3) := all_d dX9_back_all0 16 rfl
theorem dX9_back_29 : decode cX9_back 29 = .ok (.aload_n 0, 1) := all_d dX9_back_all0 17 rfl
theorem dX9_back_30 : decode cX9_back 30 = .ok (.invokevirtual 121, 3) := all_d dX9_back_all0 18 rfl
theorem dX9_back_33 : decode cX9_back 33 = .ok (.ireturn, 1) := all_d dX9_back_all0 19 rfl
set_option maxRecDepth 100000 in
theorem dX9_widest_all0 : ([(0, (.aload_n 0 : Instr), 1), (1, (.iconst 0 : Instr), 1), (2, (.putfield 47 : Instr), 3), (5, (.aload_n 0 : Instr), 1), (6, (.iload_n 1 : Instr), 1), (7, (.invokevirtual 68 : Instr), 3), (10, (.ifCond .ne 9 : Instr), 3), (13, (.aload_n 0 : Instr), 1), (14, (.iconst 2 : Instr), 1), (15, (.invokevirtual 78 : Instr), 3), (18, (.ireturn : Instr), 1), (19, (.aload_n 0 : Instr), 1), (20, (.iconst 0 : Instr), 1), (21, (.putfield 51 : Instr), 3), (24, (.aload_n 0 : Instr), 1), (25, (.iload_n 1 : Instr), 1), (26, (.invokevirtual 114 : Instr), 3), (29, (.iconst 0 : Instr), 1), (30, (.istore_n 2 : Instr), 1), (31, (.iconst 0 : Instr), 1), (32, (.istore_n 3 : Instr), 1), (33, (.iconst 0 : Instr), 1), (34, (.istore 4 : Instr), 2), (36, (.iconst 0 : Instr), 1), (37, (.istore 5 : Instr), 2), (39, (.iconst 1 : Instr), 1), (40, (.istore 6 : Instr), 2), (42, (.iload 6 : Instr), 2), (44, (.aload_n 0 : Instr), 1), (45, (.getfield 7 : Instr), 3), (48, (.iconst 0 : Instr), 1), (49, (.iaload : Instr), 1), (50, (.iconst 1 : Instr), 1), (51, (.iadd : Instr), 1), (52, (.if_icmp .gt 67 : Instr), 3), (55, (.iload 6 : Instr), 2), (57, (.aload_n 0 : Instr), 1), (58, (.getfield 7 : Instr), 3), (61, (.iconst 0 : Instr), 1), (62, (.iaload : Instr), 1), (63, (.if_icmp .gt 25 : Instr), 3), (66, (.aload_n 0 : Instr), 1), (67, (.getfield 31 : Instr), 3), (70, (.iload 6 : Instr), 2), (72, (.iaload : Instr), 1), (73, (.aload_n 0 : Instr), 1), (74, (.getfield 31 : Instr), 3), (77, (.iload 6 : Instr), 2), (79, (.iconst 1 : Instr), 1), (80, (.isub : Instr), 1), (81, (.iaload : Instr), 1), (82, (.if_icmp .ne 6 : Instr), 3), (85, (.goto 28 : Instr), 3), (88, (.iload 6 : Instr), 2), (90, (.iload 5 : Instr), 2), (92, (.isub : Instr), 1), (93, (.iload_n 2 : Instr), 1), (94, (.if_icmp .le 12 : Instr), 3), (97, (.iload 6 : Instr), 2), (99, (.iload 5 : Instr), 2), (101, (.isub : Instr), 1), (102, (.istore_n 2 : Instr), 1), (103, (.iload 4 : Instr), 2), (105, (.istore_n 3 : Instr), 1), (106, (.iinc 4 1 : Instr), 3), (109, (.iload 6 : Instr), 2), (111, (.istore 5 : Instr), 2), (113, (.iinc 6 1 : Instr), 3), (116, (.goto (-74) : Instr), 3), (119, (.sipush 10000 : Instr), 3), (122, (.iload_n 2 : Instr), 1), (123, (.imul : Instr), 1), (124, (.iload_n 3 : Instr), 1), (125, (.iadd : Instr), 1), (126, (.ireturn : Instr), 1)] : List (Nat × Instr × Nat)).all (fun q => decide (decode cX9_widest q.1 = .ok (q.2.1, q.2.2))) = true := by decide +kernel
theorem dX9_widest_0 : decode cX9_widest 0 = .ok (.aload_n 0, 1) := all_d dX9_widest_all0 0 rfl
theorem dX9_widest_1 : decode cX9_widest 1 = .ok (.iconst 0, 1) := all_d dX9_widest_all0 1 rfl
theorem dX9_widest_2 : decode cX9_widest 2 = .ok (.putfield 47, 3) := all_d dX9_widest_all0 2 rfl
theorem dX9_widest_5 : decode cX9_widest 5 = .ok (.aload_n 0, 1) := all_d dX9_widest_all0 3 rfl
theorem dX9_widest_6 : decode cX9_widest 6 = .ok (.iload_n 1, 1) := all_d dX9_widest_all0 4 rfl
theorem dX9_widest_7 : decode cX9_widest 7 = .ok (.invokevirtual 68, 3) := all_d dX9_widest_all0 5 rfl
theorem dX9_widest_10 : decode cX9_widest 10 = .ok (.ifCond .ne 9, 3) := all_d dX9_widest_all0 6 rfl
theorem dX9_widest_13 : decode cX9_widest 13 = .ok (.aload_n 0, 1) := all_d dX9_widest_all0 7 rfl
theorem dX9_widest_14 : decode cX9_widest 14 = .ok (.iconst 2, 1) := all_d dX9_widest_all0 8 rfl
theorem dX9_widest_15 : decode cX9_widest 15 = .ok (.invokevirtual 78, 3) := all_d dX9_widest_all0 9 rfl
theorem dX9_widest_18 : decode cX9_widest 18 = .ok (.ireturn, 1) := all_d dX9_widest_all0 10 rfl
theorem dX9_widest_19 : decode cX9_widest 19 = .ok (.aload_n 0, 1) := all_d dX9_widest_all0 11 rfl
theorem dX9_widest_20 : decode cX9_widest 20 = .ok (.iconst 0, 1) := all_d dX9_widest_all0 12 rfl
theorem dX9_widest_21 : decode cX9_widest 21 = .ok (.putfield 51, 3) := all_d dX9_widest_all0 13 rfl
theorem dX9_widest_24 : decode cX9_widest 24 = .ok (.aload_n 0, 1) := all_d dX9_widest_all0 14 rfl
theorem dX9_widest_25 : decode cX9_widest 25 = .ok (.iload_n 1, 1) := all_d dX9_widest_all0 15 rfl
theorem dX9_widest_26 : decode cX9_widest 26 = .ok (.invokevirtual 114, 3) := all_d dX9_widest_all0 16 rfl
theorem dX9_widest_29 : decode cX9_widest 29 = .ok (.iconst 0, 1) := all_d dX9_widest_all0 17 rfl
theorem dX9_widest_30 : decode cX9_widest 30 = .ok (.istore_n 2, 1) := all_d dX9_widest_all0 18 rfl
theorem dX9_widest_31 : decode cX9_widest 31 = .ok (.iconst 0, 1) := all_d dX9_widest_all0 19 rfl
theorem dX9_widest_32 : decode cX9_widest 32 = .ok (.istore_n 3, 1) := all_d dX9_widest_all0 20 rfl
theorem dX9_widest_33 : decode cX9_widest 33 = .ok (.iconst 0, 1) := all_d dX9_widest_all0 21 rfl
theorem dX9_widest_34 : decode cX9_widest 34 = .ok (.istore 4, 2) := all_d dX9_widest_all0 22 rfl
theorem dX9_widest_36 : decode cX9_widest 36 = .ok (.iconst 0, 1) := all_d dX9_widest_all0 23 rfl
theorem dX9_widest_37 : decode cX9_widest 37 = .ok (.istore 5, 2) := all_d dX9_widest_all0 24 rfl
theorem dX9_widest_39 : decode cX9_widest 39 = .ok (.iconst 1, 1) := all_d dX9_widest_all0 25 rfl
theorem dX9_widest_40 : decode cX9_widest 40 = .ok (.istore 6, 2) := all_d dX9_widest_all0 26 rfl
theorem dX9_widest_42 : decode cX9_widest 42 = .ok (.iload 6, 2) := all_d dX9_widest_all0 27 rfl
theorem dX9_widest_44 : decode cX9_widest 44 = .ok (.aload_n 0, 1) := all_d dX9_widest_all0 28 rfl
theorem dX9_widest_45 : decode cX9_widest 45 = .ok (.getfield 7, 3) := all_d dX9_widest_all0 29 rfl
theorem dX9_widest_48 : decode cX9_widest 48 = .ok (.iconst 0, 1) := all_d dX9_widest_all0 30 rfl
theorem dX9_widest_49 : decode cX9_widest 49 = .ok (.iaload, 1) := all_d dX9_widest_all0 31 rfl
theorem dX9_widest_50 : decode cX9_widest 50 = .ok (.iconst 1, 1) := all_d dX9_widest_all0 32 rfl
theorem dX9_widest_51 : decode cX9_widest 51 = .ok (.iadd, 1) := all_d dX9_widest_all0 33 rfl
theorem dX9_widest_52 : decode cX9_widest 52 = .ok (.if_icmp .gt 67, 3) := all_d dX9_widest_all0 34 rfl
theorem dX9_widest_55 : decode cX9_widest 55 = .ok (.iload 6, 2) := all_d dX9_widest_all0 35 rfl
theorem dX9_widest_57 : decode cX9_widest 57 = .ok (.aload_n 0, 1) := all_d dX9_widest_all0 36 rfl
theorem dX9_widest_58 : decode cX9_widest 58 = .ok (.getfield 7, 3) := all_d dX9_widest_all0 37 rfl
theorem dX9_widest_61 : decode cX9_widest 61 = .ok (.iconst 0, 1) := all_d dX9_widest_all0 38 rfl
theorem dX9_widest_62 : decode cX9_widest 62 = .ok (.iaload, 1) := all_d dX9_widest_all0 39 rfl
theorem dX9_widest_63 : decode cX9_widest 63 = .ok (.if_icmp .gt 25, 3) := all_d dX9_widest_all0 40 rfl
theorem dX9_widest_66 : decode cX9_widest 66 = .ok (.aload_n 0, 1) := all_d dX9_widest_all0 41 rfl
theorem dX9_widest_67 : decode cX9_widest 67 = .ok (.getfield 31, 3) := all_d dX9_widest_all0 42 rfl
theorem dX9_widest_70 : decode cX9_widest 70 = .ok (.iload 6, 2) := all_d dX9_widest_all0 43 rfl
theorem dX9_widest_72 : decode cX9_widest 72 = .ok (.iaload, 1) := all_d dX9_widest_all0 44 rfl
theorem dX9_widest_73 : decode cX9_widest 73 = .ok (.aload_n 0, 1) := all_d dX9_widest_all0 45 rfl
theorem dX9_widest_74 : decode cX9_widest 74 = .ok (.getfield 31, 3) := all_d dX9_widest_all0 46 rfl
theorem dX9_widest_77 : decode cX9_widest 77 = .ok (.iload 6, 2) := all_d dX9_widest_all0 47 rfl
theorem dX9_widest_79 : decode cX9_widest 79 = .ok (.iconst 1, 1) := all_d dX9_widest_all0 48 rfl
theorem dX9_widest_80 : decode cX9_widest 80 = .ok (.isub, 1) := all_d dX9_widest_all0 49 rfl
theorem dX9_widest_81 : decode cX9_widest 81 = .ok (.iaload, 1) := all_d dX9_widest_all0 50 rfl
theorem dX9_widest_82 : decode cX9_widest 82 = .ok (.if_icmp .ne 6, 3) := all_d dX9_widest_all0 51 rfl
theorem dX9_widest_85 : decode cX9_widest 85 = .ok (.goto 28, 3) := all_d dX9_widest_all0 52 rfl
theorem dX9_widest_88 : decode cX9_widest 88 = .ok (.iload 6, 2) := all_d dX9_widest_all0 53 rfl
theorem dX9_widest_90 : decode cX9_widest 90 = .ok (.iload 5, 2) := all_d dX9_widest_all0 54 rfl
theorem dX9_widest_92 : decode cX9_widest 92 = .ok (.isub, 1) := all_d dX9_widest_all0 55 rfl
theorem dX9_widest_93 : decode cX9_widest 93 = .ok (.iload_n 2, 1) := all_d dX9_widest_all0 56 rfl
theorem dX9_widest_94 : decode cX9_widest 94 = .ok (.if_icmp .le 12, 3) := all_d dX9_widest_all0 57 rfl
theorem dX9_widest_97 : decode cX9_widest 97 = .ok (.iload 6, 2) := all_d dX9_widest_all0 58 rfl
theorem dX9_widest_99 : decode cX9_widest 99 = .ok (.iload 5, 2) := all_d dX9_widest_all0 59 rfl
theorem dX9_widest_101 : decode cX9_widest 101 = .ok (.isub, 1) := all_d dX9_widest_all0 60 rfl
theorem dX9_widest_102 : decode cX9_widest 102 = .ok (.istore_n 2, 1) := all_d dX9_widest_all0 61 rfl
theorem dX9_widest_103 : decode cX9_widest 103 = .ok (.iload 4, 2) := all_d dX9_widest_all0 62 rfl
theorem dX9_widest_105 : decode cX9_widest 105 = .ok (.istore_n 3, 1) := all_d dX9_widest_all0 63 rfl
theorem dX9_widest_106 : decode cX9_widest 106 = .ok (.iinc 4 1, 3) := all_d dX9_widest_all0 64 rfl
theorem dX9_widest_109 : decode cX9_widest 109 = .ok (.iload 6, 2) := all_d dX9_widest_all0 65 rfl
theorem dX9_widest_111 : decode cX9_widest 111 = .ok (.istore 5, 2) := all_d dX9_widest_all0 66 rfl
theorem dX9_widest_113 : decode cX9_widest 113 = .ok (.iinc 6 1, 3) := all_d dX9_widest_all0 67 rfl
theorem dX9_widest_116 : decode cX9_widest 116 = .ok (.goto (-74), 3) := all_d dX9_widest_all0 68 rfl
theorem dX9_widest_119 : decode cX9_widest 119 = .ok (.sipush 10000, 3) := all_d dX9_widest_all0 69 rfl
theorem dX9_widest_122 : decode cX9_widest 122 = .ok (.iload_n 2, 1) := all_d dX9_widest_all0 70 rfl
theorem dX9_widest_123 : decode cX9_widest 123 = .ok (.imul, 1) := all_d dX9_widest_all0 71 rfl
theorem dX9_widest_124 : decode cX9_widest 124 = .ok (.iload_n 3, 1) := all_d dX9_widest_all0 72 rfl
theorem dX9_widest_125 : decode cX9_widest 125 = .ok (.iadd, 1) := all_d dX9_widest_all0 73 rfl
theorem dX9_widest_126 : decode cX9_widest 126 = .ok (.ireturn, 1) := all_d dX9_widest_all0 74 rfl
set_option maxRecDepth 100000 in
theorem dX9_edgeOf_all0 : ([(0, (.iconst 0 : Instr), 1), (1, (.istore_n 2 : Instr), 1), (2, (.iload_n 2 : Instr), 1), (3, (.aload_n 0 : Instr), 1), (4, (.getfield 7 : Instr), 3), (7, (.iconst 0 : Instr), 1), (8, (.iaload : Instr), 1), (9, (.if_icmp .gt 19 : Instr), 3), (12, (.aload_n 0 : Instr), 1), (13, (.getfield 31 : Instr), 3), (16, (.iload_n 2 : Instr), 1), (17, (.iaload : Instr), 1), (18, (.iload_n 1 : Instr), 1), (19, (.if_icmp .ge 9 : Instr), 3), (22, (.iinc 2 1 : Instr), 3), (25, (.goto (-23) : Instr), 3), (28, (.iload_n 2 : Instr), 1), (29, (.ireturn : Instr), 1)] : List (Nat × Instr × Nat)).all (fun q => decide (decode cX9_edgeOf q.1 = .ok (q.2.1, q.2.2))) = true := by decide +kernel
theorem dX9_edgeOf_0 : decode cX9_edgeOf 0 = .ok (.iconst 0, 1) := all_d dX9_edgeOf_all0 0 rfl
theorem dX9_edgeOf_1 : decode cX9_edgeOf 1 = .ok (.istore_n 2, 1) := all_d dX9_edgeOf_all0 1 rfl
theorem dX9_edgeOf_2 : decode cX9_edgeOf 2 = .ok (.iload_n 2, 1) := all_d dX9_edgeOf_all0 2 rfl
theorem dX9_edgeOf_3 : decode cX9_edgeOf 3 = .ok (.aload_n 0, 1) := all_d dX9_edgeOf_all0 3 rfl
theorem dX9_edgeOf_4 : decode cX9_edgeOf 4 = .ok (.getfield 7, 3) := all_d dX9_edgeOf_all0 4 rfl
theorem dX9_edgeOf_7 : decode cX9_edgeOf 7 = .ok (.iconst 0, 1) := all_d dX9_edgeOf_all0 5 rfl
theorem dX9_edgeOf_8 : decode cX9_edgeOf 8 = .ok (.iaload, 1) := all_d dX9_edgeOf_all0 6 rfl
theorem dX9_edgeOf_9 : decode cX9_edgeOf 9 = .ok (.if_icmp .gt 19, 3) := all_d dX9_edgeOf_all0 7 rfl
theorem dX9_edgeOf_12 : decode cX9_edgeOf 12 = .ok (.aload_n 0, 1) := all_d dX9_edgeOf_all0 8 rfl
theorem dX9_edgeOf_13 : decode cX9_edgeOf 13 = .ok (.getfield 31, 3) := all_d dX9_edgeOf_all0 9 rfl
theorem dX9_edgeOf_16 : decode cX9_edgeOf 16 = .ok (.iload_n 2, 1) := all_d dX9_edgeOf_all0 10 rfl
theorem dX9_edgeOf_17 : decode cX9_edgeOf 17 = .ok (.iaload, 1) := all_d dX9_edgeOf_all0 11 rfl
theorem dX9_edgeOf_18 : decode cX9_edgeOf 18 = .ok (.iload_n 1, 1) := all_d dX9_edgeOf_all0 12 rfl
theorem dX9_edgeOf_19 : decode cX9_edgeOf 19 = .ok (.if_icmp .ge 9, 3) := all_d dX9_edgeOf_all0 13 rfl
theorem dX9_edgeOf_22 : decode cX9_edgeOf 22 = .ok (.iinc 2 1, 3) := all_d dX9_edgeOf_all0 14 rfl
theorem dX9_edgeOf_25 : decode cX9_edgeOf 25 = .ok (.goto (-23), 3) := all_d dX9_edgeOf_all0 15 rfl
theorem dX9_edgeOf_28 : decode cX9_edgeOf 28 = .ok (.iload_n 2, 1) := all_d dX9_edgeOf_all0 16 rfl
theorem dX9_edgeOf_29 : decode cX9_edgeOf 29 = .ok (.ireturn, 1) := all_d dX9_edgeOf_all0 17 rfl
set_option maxRecDepth 100000 in
theorem dX9_edge_all0 : ([(0, (.aload_n 0 : Instr), 1), (1, (.iconst 0 : Instr), 1), (2, (.putfield 47 : Instr), 3), (5, (.aload_n 0 : Instr), 1), (6, (.iload_n 1 : Instr), 1), (7, (.invokevirtual 68 : Instr), 3), (10, (.ifCond .ne 9 : Instr), 3), (13, (.aload_n 0 : Instr), 1), (14, (.iconst 2 : Instr), 1), (15, (.invokevirtual 78 : Instr), 3), (18, (.ireturn : Instr), 1), (19, (.aload_n 0 : Instr), 1), (20, (.iconst 0 : Instr), 1), (21, (.putfield 51 : Instr), 3), (24, (.aload_n 0 : Instr), 1), (25, (.iload_n 1 : Instr), 1), (26, (.invokevirtual 114 : Instr), 3), (29, (.aload_n 0 : Instr), 1), (30, (.iload_n 2 : Instr), 1), (31, (.invokevirtual 125 : Instr), 3), (34, (.ireturn : Instr), 1)] : List (Nat × Instr × Nat)).all (fun q => decide (decode cX9_edge q.1 = .ok (q.2.1, q.2.2))) = true := by decide +kernel
theorem dX9_edge_0 : decode cX9_edge 0 = .ok (.aload_n 0, 1) := all_d dX9_edge_all0 0 rfl
theorem dX9_edge_1 : decode cX9_edge 1 = .ok (.iconst 0, 1) := all_d dX9_edge_all0 1 rfl
theorem dX9_edge_2 : decode cX9_edge 2 = .ok (.putfield 47, 3) := all_d dX9_edge_all0 2 rfl
theorem dX9_edge_5 : decode cX9_edge 5 = .ok (.aload_n 0, 1) := all_d dX9_edge_all0 3 rfl
theorem dX9_edge_6 : decode cX9_edge 6 = .ok (.iload_n 1, 1) := all_d dX9_edge_all0 4 rfl
theorem dX9_edge_7 : decode cX9_edge 7 = .ok (.invokevirtual 68, 3) := all_d dX9_edge_all0 5 rfl
theorem dX9_edge_10 : decode cX9_edge 10 = .ok (.ifCond .ne 9, 3) := all_d dX9_edge_all0 6 rfl
theorem dX9_edge_13 : decode cX9_edge 13 = .ok (.aload_n 0, 1) := all_d dX9_edge_all0 7 rfl
theorem dX9_edge_14 : decode cX9_edge 14 = .ok (.iconst 2, 1) := all_d dX9_edge_all0 8 rfl
theorem dX9_edge_15 : decode cX9_edge 15 = .ok (.invokevirtual 78, 3) := all_d dX9_edge_all0 9 rfl
theorem dX9_edge_18 : decode cX9_edge 18 = .ok (.ireturn, 1) := all_d dX9_edge_all0 10 rfl
theorem dX9_edge_19 : decode cX9_edge 19 = .ok (.aload_n 0, 1) := all_d dX9_edge_all0 11 rfl
theorem dX9_edge_20 : decode cX9_edge 20 = .ok (.iconst 0, 1) := all_d dX9_edge_all0 12 rfl
theorem dX9_edge_21 : decode cX9_edge 21 = .ok (.putfield 51, 3) := all_d dX9_edge_all0 13 rfl
theorem dX9_edge_24 : decode cX9_edge 24 = .ok (.aload_n 0, 1) := all_d dX9_edge_all0 14 rfl
theorem dX9_edge_25 : decode cX9_edge 25 = .ok (.iload_n 1, 1) := all_d dX9_edge_all0 15 rfl
theorem dX9_edge_26 : decode cX9_edge 26 = .ok (.invokevirtual 114, 3) := all_d dX9_edge_all0 16 rfl
theorem dX9_edge_29 : decode cX9_edge 29 = .ok (.aload_n 0, 1) := all_d dX9_edge_all0 17 rfl
theorem dX9_edge_30 : decode cX9_edge 30 = .ok (.iload_n 2, 1) := all_d dX9_edge_all0 18 rfl
theorem dX9_edge_31 : decode cX9_edge 31 = .ok (.invokevirtual 125, 3) := all_d dX9_edge_all0 19 rfl
theorem dX9_edge_34 : decode cX9_edge 34 = .ok (.ireturn, 1) := all_d dX9_edge_all0 20 rfl
set_option maxRecDepth 100000 in
theorem dX9_line_all0 : ([(0, (.aload_n 0 : Instr), 1), (1, (.iconst 0 : Instr), 1), (2, (.putfield 47 : Instr), 3), (5, (.aload_n 0 : Instr), 1), (6, (.iload_n 1 : Instr), 1), (7, (.invokevirtual 68 : Instr), 3), (10, (.ifCond .ne 9 : Instr), 3), (13, (.aload_n 0 : Instr), 1), (14, (.iconst 2 : Instr), 1), (15, (.invokevirtual 78 : Instr), 3), (18, (.ireturn : Instr), 1), (19, (.aload_n 0 : Instr), 1), (20, (.iload_n 2 : Instr), 1), (21, (.iconst 0 : Instr), 1), (22, (.iconst 1 : Instr), 1), (23, (.invokevirtual 64 : Instr), 3), (26, (.ifCond .ne 9 : Instr), 3), (29, (.aload_n 0 : Instr), 1), (30, (.iconst 1 : Instr), 1), (31, (.invokevirtual 78 : Instr), 3), (34, (.ireturn : Instr), 1), (35, (.aload_n 0 : Instr), 1), (36, (.iload_n 1 : Instr), 1), (37, (.invokevirtual 114 : Instr), 3), (40, (.aload_n 0 : Instr), 1), (41, (.getfield 31 : Instr), 3), (44, (.aload_n 0 : Instr), 1), (45, (.getfield 7 : Instr), 3), (48, (.iconst 0 : Instr), 1), (49, (.iaload : Instr), 1), (50, (.iaload : Instr), 1), (51, (.istore_n 3 : Instr), 1), (52, (.aload_n 0 : Instr), 1), (53, (.invokevirtual 121 : Instr), 3), (56, (.bipush (-2) : Instr), 2), (58, (.if_icmp .ne 8 : Instr), 3), (61, (.iload_n 3 : Instr), 1), (62, (.iconst 2 : Instr), 1), (63, (.if_icmp .ge 9 : Instr), 3), (66, (.aload_n 0 : Instr), 1), (67, (.iconst 5 : Instr), 1), (68, (.invokevirtual 78 : Instr), 3), (71, (.ireturn : Instr), 1), (72, (.aload_n 0 : Instr), 1), (73, (.iconst 0 : Instr), 1), (74, (.putfield 51 : Instr), 3), (77, (.aload_n 0 : Instr), 1), (78, (.iconst 1 : Instr), 1), (79, (.invokevirtual 125 : Instr), 3), (82, (.istore 4 : Instr), 2), (84, (.aload_n 0 : Instr), 1), (85, (.iload_n 3 : Instr), 1), (86, (.invokevirtual 125 : Instr), 3), (89, (.istore 5 : Instr), 2), (91, (.iconst 0 : Instr), 1), (92, (.istore 6 : Instr), 2), (94, (.iconst 1 : Instr), 1), (95, (.istore 7 : Instr), 2), (97, (.iconst 0 : Instr), 1), (98, (.istore 8 : Instr), 2), (100, (.iconst 1 : Instr), 1), (101, (.istore 9 : Instr), 2), (103, (.iload 9 : Instr), 2), (105, (.iload_n 3 : Instr), 1), (106, (.if_icmp .gt 82 : Instr), 3), (109, (.aload_n 0 : Instr), 1), (110, (.getfield 31 : Instr), 3), (113, (.iload 8 : Instr), 2), (115, (.iaload : Instr), 1), (116, (.iload 9 : Instr), 2), (118, (.if_icmp .ge 9 : Instr), 3), (121, (.iinc 8 1 : Instr), 3), (124, (.goto (-15) : Instr), 3), (127, (.iload_n 3 : Instr), 1), (128, (.iconst 1 : Instr), 1), (129, (.isub : Instr), 1), (130, (.iload 8 : Instr), 2), (132, (.iload 4 : Instr), 2), (134, (.isub : Instr), 1), (135, (.imul : Instr), 1)] : List (Nat × Instr × Nat)).all (fun q => decide (decode cX9_line q.1 = .ok (q.2.1, q.2.2))) = true := by decide +kernel
theorem dX9_line_0 : decode cX9_line 0 = .ok (.aload_n 0, 1) := all_d dX9_line_all0 0 rfl
theorem dX9_line_1 : decode cX9_line 1 = .ok (.iconst 0, 1) := all_d dX9_line_all0 1 rfl
theorem dX9_line_2 : decode cX9_line 2 = .ok (.putfield 47, 3) := all_d dX9_line_all0 2 rfl
theorem dX9_line_5 : decode cX9_line 5 = .ok (.aload_n 0, 1) := all_d dX9_line_all0 3 rfl
theorem dX9_line_6 : decode cX9_line 6 = .ok (.iload_n 1, 1) := all_d dX9_line_all0 4 rfl
theorem dX9_line_7 : decode cX9_line 7 = .ok (.invokevirtual 68, 3) := all_d dX9_line_all0 5 rfl
theorem dX9_line_10 : decode cX9_line 10 = .ok (.ifCond .ne 9, 3) := all_d dX9_line_all0 6 rfl
theorem dX9_line_13 : decode cX9_line 13 = .ok (.aload_n 0, 1) := all_d dX9_line_all0 7 rfl
theorem dX9_line_14 : decode cX9_line 14 = .ok (.iconst 2, 1) := all_d dX9_line_all0 8 rfl
theorem dX9_line_15 : decode cX9_line 15 = .ok (.invokevirtual 78, 3) := all_d dX9_line_all0 9 rfl
theorem dX9_line_18 : decode cX9_line 18 = .ok (.ireturn, 1) := all_d dX9_line_all0 10 rfl
theorem dX9_line_19 : decode cX9_line 19 = .ok (.aload_n 0, 1) := all_d dX9_line_all0 11 rfl
theorem dX9_line_20 : decode cX9_line 20 = .ok (.iload_n 2, 1) := all_d dX9_line_all0 12 rfl
theorem dX9_line_21 : decode cX9_line 21 = .ok (.iconst 0, 1) := all_d dX9_line_all0 13 rfl
theorem dX9_line_22 : decode cX9_line 22 = .ok (.iconst 1, 1) := all_d dX9_line_all0 14 rfl
theorem dX9_line_23 : decode cX9_line 23 = .ok (.invokevirtual 64, 3) := all_d dX9_line_all0 15 rfl
theorem dX9_line_26 : decode cX9_line 26 = .ok (.ifCond .ne 9, 3) := all_d dX9_line_all0 16 rfl
theorem dX9_line_29 : decode cX9_line 29 = .ok (.aload_n 0, 1) := all_d dX9_line_all0 17 rfl
theorem dX9_line_30 : decode cX9_line 30 = .ok (.iconst 1, 1) := all_d dX9_line_all0 18 rfl
theorem dX9_line_31 : decode cX9_line 31 = .ok (.invokevirtual 78, 3) := all_d dX9_line_all0 19 rfl
theorem dX9_line_34 : decode cX9_line 34 = .ok (.ireturn, 1) := all_d dX9_line_all0 20 rfl
theorem dX9_line_35 : decode cX9_line 35 = .ok (.aload_n 0, 1) := all_d dX9_line_all0 21 rfl
theorem dX9_line_36 : decode cX9_line 36 = .ok (.iload_n 1, 1) := all_d dX9_line_all0 22 rfl
theorem dX9_line_37 : decode cX9_line 37 = .ok (.invokevirtual 114, 3) := all_d dX9_line_all0 23 rfl
theorem dX9_line_40 : decode cX9_line 40 = .ok (.aload_n 0, 1) := all_d dX9_line_all0 24 rfl
theorem dX9_line_41 : decode cX9_line 41 = .ok (.getfield 31, 3) := all_d dX9_line_all0 25 rfl
theorem dX9_line_44 : decode cX9_line 44 = .ok (.aload_n 0, 1) := all_d dX9_line_all0 26 rfl
theorem dX9_line_45 : decode cX9_line 45 = .ok (.getfield 7, 3) := all_d dX9_line_all0 27 rfl
theorem dX9_line_48 : decode cX9_line 48 = .ok (.iconst 0, 1) := all_d dX9_line_all0 28 rfl
theorem dX9_line_49 : decode cX9_line 49 = .ok (.iaload, 1) := all_d dX9_line_all0 29 rfl
theorem dX9_line_50 : decode cX9_line 50 = .ok (.iaload, 1) := all_d dX9_line_all0 30 rfl
theorem dX9_line_51 : decode cX9_line 51 = .ok (.istore_n 3, 1) := all_d dX9_line_all0 31 rfl
theorem dX9_line_52 : decode cX9_line 52 = .ok (.aload_n 0, 1) := all_d dX9_line_all0 32 rfl
theorem dX9_line_53 : decode cX9_line 53 = .ok (.invokevirtual 121, 3) := all_d dX9_line_all0 33 rfl
theorem dX9_line_56 : decode cX9_line 56 = .ok (.bipush (-2), 2) := all_d dX9_line_all0 34 rfl
theorem dX9_line_58 : decode cX9_line 58 = .ok (.if_icmp .ne 8, 3) := all_d dX9_line_all0 35 rfl
theorem dX9_line_61 : decode cX9_line 61 = .ok (.iload_n 3, 1) := all_d dX9_line_all0 36 rfl
theorem dX9_line_62 : decode cX9_line 62 = .ok (.iconst 2, 1) := all_d dX9_line_all0 37 rfl
theorem dX9_line_63 : decode cX9_line 63 = .ok (.if_icmp .ge 9, 3) := all_d dX9_line_all0 38 rfl
theorem dX9_line_66 : decode cX9_line 66 = .ok (.aload_n 0, 1) := all_d dX9_line_all0 39 rfl
theorem dX9_line_67 : decode cX9_line 67 = .ok (.iconst 5, 1) := all_d dX9_line_all0 40 rfl
theorem dX9_line_68 : decode cX9_line 68 = .ok (.invokevirtual 78, 3) := all_d dX9_line_all0 41 rfl
theorem dX9_line_71 : decode cX9_line 71 = .ok (.ireturn, 1) := all_d dX9_line_all0 42 rfl
theorem dX9_line_72 : decode cX9_line 72 = .ok (.aload_n 0, 1) := all_d dX9_line_all0 43 rfl
theorem dX9_line_73 : decode cX9_line 73 = .ok (.iconst 0, 1) := all_d dX9_line_all0 44 rfl
theorem dX9_line_74 : decode cX9_line 74 = .ok (.putfield 51, 3) := all_d dX9_line_all0 45 rfl
theorem dX9_line_77 : decode cX9_line 77 = .ok (.aload_n 0, 1) := all_d dX9_line_all0 46 rfl
theorem dX9_line_78 : decode cX9_line 78 = .ok (.iconst 1, 1) := all_d dX9_line_all0 47 rfl
theorem dX9_line_79 : decode cX9_line 79 = .ok (.invokevirtual 125, 3) := all_d dX9_line_all0 48 rfl
theorem dX9_line_82 : decode cX9_line 82 = .ok (.istore 4, 2) := all_d dX9_line_all0 49 rfl
theorem dX9_line_84 : decode cX9_line 84 = .ok (.aload_n 0, 1) := all_d dX9_line_all0 50 rfl
theorem dX9_line_85 : decode cX9_line 85 = .ok (.iload_n 3, 1) := all_d dX9_line_all0 51 rfl
theorem dX9_line_86 : decode cX9_line 86 = .ok (.invokevirtual 125, 3) := all_d dX9_line_all0 52 rfl
theorem dX9_line_89 : decode cX9_line 89 = .ok (.istore 5, 2) := all_d dX9_line_all0 53 rfl
theorem dX9_line_91 : decode cX9_line 91 = .ok (.iconst 0, 1) := all_d dX9_line_all0 54 rfl
theorem dX9_line_92 : decode cX9_line 92 = .ok (.istore 6, 2) := all_d dX9_line_all0 55 rfl
theorem dX9_line_94 : decode cX9_line 94 = .ok (.iconst 1, 1) := all_d dX9_line_all0 56 rfl
theorem dX9_line_95 : decode cX9_line 95 = .ok (.istore 7, 2) := all_d dX9_line_all0 57 rfl
theorem dX9_line_97 : decode cX9_line 97 = .ok (.iconst 0, 1) := all_d dX9_line_all0 58 rfl
theorem dX9_line_98 : decode cX9_line 98 = .ok (.istore 8, 2) := all_d dX9_line_all0 59 rfl
theorem dX9_line_100 : decode cX9_line 100 = .ok (.iconst 1, 1) := all_d dX9_line_all0 60 rfl
theorem dX9_line_101 : decode cX9_line 101 = .ok (.istore 9, 2) := all_d dX9_line_all0 61 rfl
theorem dX9_line_103 : decode cX9_line 103 = .ok (.iload 9, 2) := all_d dX9_line_all0 62 rfl
theorem dX9_line_105 : decode cX9_line 105 = .ok (.iload_n 3, 1) := all_d dX9_line_all0 63 rfl
theorem dX9_line_106 : decode cX9_line 106 = .ok (.if_icmp .gt 82, 3) := all_d dX9_line_all0 64 rfl
theorem dX9_line_109 : decode cX9_line 109 = .ok (.aload_n 0, 1) := all_d dX9_line_all0 65 rfl
theorem dX9_line_110 : decode cX9_line 110 = .ok (.getfield 31, 3) := all_d dX9_line_all0 66 rfl
theorem dX9_line_113 : decode cX9_line 113 = .ok (.iload 8, 2) := all_d dX9_line_all0 67 rfl
theorem dX9_line_115 : decode cX9_line 115 = .ok (.iaload, 1) := all_d dX9_line_all0 68 rfl
theorem dX9_line_116 : decode cX9_line 116 = .ok (.iload 9, 2) := all_d dX9_line_all0 69 rfl
theorem dX9_line_118 : decode cX9_line 118 = .ok (.if_icmp .ge 9, 3) := all_d dX9_line_all0 70 rfl
theorem dX9_line_121 : decode cX9_line 121 = .ok (.iinc 8 1, 3) := all_d dX9_line_all0 71 rfl
theorem dX9_line_124 : decode cX9_line 124 = .ok (.goto (-15), 3) := all_d dX9_line_all0 72 rfl
theorem dX9_line_127 : decode cX9_line 127 = .ok (.iload_n 3, 1) := all_d dX9_line_all0 73 rfl
theorem dX9_line_128 : decode cX9_line 128 = .ok (.iconst 1, 1) := all_d dX9_line_all0 74 rfl
theorem dX9_line_129 : decode cX9_line 129 = .ok (.isub, 1) := all_d dX9_line_all0 75 rfl
theorem dX9_line_130 : decode cX9_line 130 = .ok (.iload 8, 2) := all_d dX9_line_all0 76 rfl
theorem dX9_line_132 : decode cX9_line 132 = .ok (.iload 4, 2) := all_d dX9_line_all0 77 rfl
theorem dX9_line_134 : decode cX9_line 134 = .ok (.isub, 1) := all_d dX9_line_all0 78 rfl
theorem dX9_line_135 : decode cX9_line 135 = .ok (.imul, 1) := all_d dX9_line_all0 79 rfl
set_option maxRecDepth 100000 in
theorem dX9_line_all1 : ([(136, (.iload 9 : Instr), 2), (138, (.iconst 1 : Instr), 1), (139, (.isub : Instr), 1), (140, (.iload 5 : Instr), 2), (142, (.iload 4 : Instr), 2), (144, (.isub : Instr), 1), (145, (.imul : Instr), 1), (146, (.isub : Instr), 1), (147, (.istore 10 : Instr), 2), (149, (.iload 10 : Instr), 2), (151, (.ifCond .ge 9 : Instr), 3), (154, (.iload 10 : Instr), 2), (156, (.ineg : Instr), 1), (157, (.goto 5 : Instr), 3), (160, (.iload 10 : Instr), 2), (162, (.istore 11 : Instr), 2), (164, (.iload 11 : Instr), 2), (166, (.iload 6 : Instr), 2), (168, (.if_icmp .gt 6 : Instr), 3), (171, (.goto 11 : Instr), 3), (174, (.iload 11 : Instr), 2), (176, (.istore 6 : Instr), 2), (178, (.iload 9 : Instr), 2), (180, (.istore 7 : Instr), 2), (182, (.iinc 9 1 : Instr), 3), (185, (.goto (-82) : Instr), 3), (188, (.iload_n 2 : Instr), 1), (189, (.ifCond .ne 8 : Instr), 3), (192, (.iload 6 : Instr), 2), (194, (.goto 5 : Instr), 3), (197, (.iload 7 : Instr), 2), (199, (.ireturn : Instr), 1)] : List (Nat × Instr × Nat)).all (fun q => decide (decode cX9_line q.1 = .ok (q.2.1, q.2.2))) = true := by decide +kernel
theorem dX9_line_136 : decode cX9_line 136 = .ok (.iload 9, 2) := all_d dX9_line_all1 0 rfl
theorem dX9_line_138 : decode cX9_line 138 = .ok (.iconst 1, 1) := all_d dX9_line_all1 1 rfl
theorem dX9_line_139 : decode cX9_line 139 = .ok (.isub, 1) := all_d dX9_line_all1 2 rfl
theorem dX9_line_140 : decode cX9_line 140 = .ok (.iload 5, 2) := all_d dX9_line_all1 3 rfl
theorem dX9_line_142 : decode cX9_line 142 = .ok (.iload 4, 2) := all_d dX9_line_all1 4 rfl
theorem dX9_line_144 : decode cX9_line 144 = .ok (.isub, 1) := all_d dX9_line_all1 5 rfl
theorem dX9_line_145 : decode cX9_line 145 = .ok (.imul, 1) := all_d dX9_line_all1 6 rfl
theorem dX9_line_146 : decode cX9_line 146 = .ok (.isub, 1) := all_d dX9_line_all1 7 rfl
theorem dX9_line_147 : decode cX9_line 147 = .ok (.istore 10, 2) := all_d dX9_line_all1 8 rfl
theorem dX9_line_149 : decode cX9_line 149 = .ok (.iload 10, 2) := all_d dX9_line_all1 9 rfl
theorem dX9_line_151 : decode cX9_line 151 = .ok (.ifCond .ge 9, 3) := all_d dX9_line_all1 10 rfl
theorem dX9_line_154 : decode cX9_line 154 = .ok (.iload 10, 2) := all_d dX9_line_all1 11 rfl
theorem dX9_line_156 : decode cX9_line 156 = .ok (.ineg, 1) := all_d dX9_line_all1 12 rfl
theorem dX9_line_157 : decode cX9_line 157 = .ok (.goto 5, 3) := all_d dX9_line_all1 13 rfl
theorem dX9_line_160 : decode cX9_line 160 = .ok (.iload 10, 2) := all_d dX9_line_all1 14 rfl
theorem dX9_line_162 : decode cX9_line 162 = .ok (.istore 11, 2) := all_d dX9_line_all1 15 rfl
theorem dX9_line_164 : decode cX9_line 164 = .ok (.iload 11, 2) := all_d dX9_line_all1 16 rfl
theorem dX9_line_166 : decode cX9_line 166 = .ok (.iload 6, 2) := all_d dX9_line_all1 17 rfl
theorem dX9_line_168 : decode cX9_line 168 = .ok (.if_icmp .gt 6, 3) := all_d dX9_line_all1 18 rfl
theorem dX9_line_171 : decode cX9_line 171 = .ok (.goto 11, 3) := all_d dX9_line_all1 19 rfl
theorem dX9_line_174 : decode cX9_line 174 = .ok (.iload 11, 2) := all_d dX9_line_all1 20 rfl
theorem dX9_line_176 : decode cX9_line 176 = .ok (.istore 6, 2) := all_d dX9_line_all1 21 rfl
theorem dX9_line_178 : decode cX9_line 178 = .ok (.iload 9, 2) := all_d dX9_line_all1 22 rfl
theorem dX9_line_180 : decode cX9_line 180 = .ok (.istore 7, 2) := all_d dX9_line_all1 23 rfl
theorem dX9_line_182 : decode cX9_line 182 = .ok (.iinc 9 1, 3) := all_d dX9_line_all1 24 rfl
theorem dX9_line_185 : decode cX9_line 185 = .ok (.goto (-82), 3) := all_d dX9_line_all1 25 rfl
theorem dX9_line_188 : decode cX9_line 188 = .ok (.iload_n 2, 1) := all_d dX9_line_all1 26 rfl
theorem dX9_line_189 : decode cX9_line 189 = .ok (.ifCond .ne 8, 3) := all_d dX9_line_all1 27 rfl
theorem dX9_line_192 : decode cX9_line 192 = .ok (.iload 6, 2) := all_d dX9_line_all1 28 rfl
theorem dX9_line_194 : decode cX9_line 194 = .ok (.goto 5, 3) := all_d dX9_line_all1 29 rfl
theorem dX9_line_197 : decode cX9_line 197 = .ok (.iload 7, 2) := all_d dX9_line_all1 30 rfl
theorem dX9_line_199 : decode cX9_line 199 = .ok (.ireturn, 1) := all_d dX9_line_all1 31 rfl
set_option maxRecDepth 100000 in
theorem dX9_isOf_all0 : ([(0, (.aload_n 0 : Instr), 1), (1, (.getfield 7 : Instr), 3), (4, (.aload_n 0 : Instr), 1), (5, (.iload_n 1 : Instr), 1), (6, (.iload_n 2 : Instr), 1), (7, (.invokevirtual 85 : Instr), 3), (10, (.iaload : Instr), 1), (11, (.aload_n 0 : Instr), 1), (12, (.getfield 7 : Instr), 3), (15, (.aload_n 0 : Instr), 1), (16, (.iload_n 1 : Instr), 1), (17, (.iload_n 2 : Instr), 1), (18, (.invokevirtual 85 : Instr), 3), (21, (.iconst 1 : Instr), 1), (22, (.iadd : Instr), 1), (23, (.iaload : Instr), 1), (24, (.iadd : Instr), 1), (25, (.ireturn : Instr), 1)] : List (Nat × Instr × Nat)).all (fun q => decide (decode cX9_isOf q.1 = .ok (q.2.1, q.2.2))) = true := by decide +kernel
theorem dX9_isOf_0 : decode cX9_isOf 0 = .ok (.aload_n 0, 1) := all_d dX9_isOf_all0 0 rfl
theorem dX9_isOf_1 : decode cX9_isOf 1 = .ok (.getfield 7, 3) := all_d dX9_isOf_all0 1 rfl
theorem dX9_isOf_4 : decode cX9_isOf 4 = .ok (.aload_n 0, 1) := all_d dX9_isOf_all0 2 rfl
theorem dX9_isOf_5 : decode cX9_isOf 5 = .ok (.iload_n 1, 1) := all_d dX9_isOf_all0 3 rfl
theorem dX9_isOf_6 : decode cX9_isOf 6 = .ok (.iload_n 2, 1) := all_d dX9_isOf_all0 4 rfl
theorem dX9_isOf_7 : decode cX9_isOf 7 = .ok (.invokevirtual 85, 3) := all_d dX9_isOf_all0 5 rfl
theorem dX9_isOf_10 : decode cX9_isOf 10 = .ok (.iaload, 1) := all_d dX9_isOf_all0 6 rfl
theorem dX9_isOf_11 : decode cX9_isOf 11 = .ok (.aload_n 0, 1) := all_d dX9_isOf_all0 7 rfl
theorem dX9_isOf_12 : decode cX9_isOf 12 = .ok (.getfield 7, 3) := all_d dX9_isOf_all0 8 rfl
theorem dX9_isOf_15 : decode cX9_isOf 15 = .ok (.aload_n 0, 1) := all_d dX9_isOf_all0 9 rfl
theorem dX9_isOf_16 : decode cX9_isOf 16 = .ok (.iload_n 1, 1) := all_d dX9_isOf_all0 10 rfl
theorem dX9_isOf_17 : decode cX9_isOf 17 = .ok (.iload_n 2, 1) := all_d dX9_isOf_all0 11 rfl
theorem dX9_isOf_18 : decode cX9_isOf 18 = .ok (.invokevirtual 85, 3) := all_d dX9_isOf_all0 12 rfl
theorem dX9_isOf_21 : decode cX9_isOf 21 = .ok (.iconst 1, 1) := all_d dX9_isOf_all0 13 rfl
theorem dX9_isOf_22 : decode cX9_isOf 22 = .ok (.iadd, 1) := all_d dX9_isOf_all0 14 rfl
theorem dX9_isOf_23 : decode cX9_isOf 23 = .ok (.iaload, 1) := all_d dX9_isOf_all0 15 rfl
theorem dX9_isOf_24 : decode cX9_isOf 24 = .ok (.iadd, 1) := all_d dX9_isOf_all0 16 rfl
theorem dX9_isOf_25 : decode cX9_isOf 25 = .ok (.ireturn, 1) := all_d dX9_isOf_all0 17 rfl
set_option maxRecDepth 100000 in
theorem dX9_covered_all0 : ([(0, (.aload_n 0 : Instr), 1), (1, (.iconst 0 : Instr), 1), (2, (.putfield 47 : Instr), 3), (5, (.aload_n 0 : Instr), 1), (6, (.iload_n 1 : Instr), 1), (7, (.invokevirtual 68 : Instr), 3), (10, (.ifCond .ne 9 : Instr), 3), (13, (.aload_n 0 : Instr), 1), (14, (.iconst 2 : Instr), 1), (15, (.invokevirtual 78 : Instr), 3), (18, (.ireturn : Instr), 1), (19, (.aload_n 0 : Instr), 1), (20, (.getfield 7 : Instr), 3), (23, (.iconst 2 : Instr), 1), (24, (.iload_n 1 : Instr), 1), (25, (.iadd : Instr), 1), (26, (.iaload : Instr), 1), (27, (.iconst 2 : Instr), 1), (28, (.if_icmp .eq 9 : Instr), 3), (31, (.aload_n 0 : Instr), 1), (32, (.iconst 4 : Instr), 1), (33, (.invokevirtual 78 : Instr), 3), (36, (.ireturn : Instr), 1), (37, (.aload_n 0 : Instr), 1), (38, (.iconst 0 : Instr), 1), (39, (.putfield 51 : Instr), 3), (42, (.iconst 0 : Instr), 1), (43, (.istore_n 2 : Instr), 1), (44, (.iload_n 2 : Instr), 1), (45, (.aload_n 0 : Instr), 1), (46, (.getfield 7 : Instr), 3), (49, (.bipush 10 : Instr), 2), (51, (.iload_n 1 : Instr), 1), (52, (.iadd : Instr), 1), (53, (.iaload : Instr), 1), (54, (.if_icmp .ge 63 : Instr), 3), (57, (.iconst 1 : Instr), 1), (58, (.istore_n 3 : Instr), 1), (59, (.iload_n 2 : Instr), 1), (60, (.iconst 1 : Instr), 1), (61, (.iadd : Instr), 1), (62, (.istore 4 : Instr), 2), (64, (.iload 4 : Instr), 2), (66, (.aload_n 0 : Instr), 1), (67, (.getfield 7 : Instr), 3), (70, (.bipush 10 : Instr), 2), (72, (.iload_n 1 : Instr), 1), (73, (.iadd : Instr), 1), (74, (.iaload : Instr), 1), (75, (.if_icmp .ge 19 : Instr), 3), (78, (.iload_n 3 : Instr), 1), (79, (.aload_n 0 : Instr), 1), (80, (.iload_n 1 : Instr), 1), (81, (.iload 4 : Instr), 2), (83, (.invokevirtual 128 : Instr), 3), (86, (.iadd : Instr), 1), (87, (.istore_n 3 : Instr), 1), (88, (.iinc 4 1 : Instr), 3), (91, (.goto (-27) : Instr), 3), (94, (.aload_n 0 : Instr), 1), (95, (.aload_n 0 : Instr), 1), (96, (.iload_n 1 : Instr), 1), (97, (.iload_n 2 : Instr), 1), (98, (.invokevirtual 128 : Instr), 3), (101, (.iconst 0 : Instr), 1), (102, (.iload_n 3 : Instr), 1), (103, (.invokevirtual 64 : Instr), 3), (106, (.ifCond .ne 5 : Instr), 3), (109, (.iload_n 2 : Instr), 1), (110, (.ireturn : Instr), 1), (111, (.iinc 2 1 : Instr), 3), (114, (.goto (-70) : Instr), 3), (117, (.bipush (-2) : Instr), 2), (119, (.ireturn : Instr), 1)] : List (Nat × Instr × Nat)).all (fun q => decide (decode cX9_covered q.1 = .ok (q.2.1, q.2.2))) = true := by decide +kernel
theorem dX9_covered_0 : decode cX9_covered 0 = .ok (.aload_n 0, 1) := all_d dX9_covered_all0 0 rfl
theorem dX9_covered_1 : decode cX9_covered 1 = .ok (.iconst 0, 1) := all_d dX9_covered_all0 1 rfl
theorem dX9_covered_2 : decode cX9_covered 2 = .ok (.putfield 47, 3) := all_d dX9_covered_all0 2 rfl
theorem dX9_covered_5 : decode cX9_covered 5 = .ok (.aload_n 0, 1) := all_d dX9_covered_all0 3 rfl
theorem dX9_covered_6 : decode cX9_covered 6 = .ok (.iload_n 1, 1) := all_d dX9_covered_all0 4 rfl
theorem dX9_covered_7 : decode cX9_covered 7 = .ok (.invokevirtual 68, 3) := all_d dX9_covered_all0 5 rfl
theorem dX9_covered_10 : decode cX9_covered 10 = .ok (.ifCond .ne 9, 3) := all_d dX9_covered_all0 6 rfl
theorem dX9_covered_13 : decode cX9_covered 13 = .ok (.aload_n 0, 1) := all_d dX9_covered_all0 7 rfl
theorem dX9_covered_14 : decode cX9_covered 14 = .ok (.iconst 2, 1) := all_d dX9_covered_all0 8 rfl
theorem dX9_covered_15 : decode cX9_covered 15 = .ok (.invokevirtual 78, 3) := all_d dX9_covered_all0 9 rfl
theorem dX9_covered_18 : decode cX9_covered 18 = .ok (.ireturn, 1) := all_d dX9_covered_all0 10 rfl
theorem dX9_covered_19 : decode cX9_covered 19 = .ok (.aload_n 0, 1) := all_d dX9_covered_all0 11 rfl
theorem dX9_covered_20 : decode cX9_covered 20 = .ok (.getfield 7, 3) := all_d dX9_covered_all0 12 rfl
theorem dX9_covered_23 : decode cX9_covered 23 = .ok (.iconst 2, 1) := all_d dX9_covered_all0 13 rfl
theorem dX9_covered_24 : decode cX9_covered 24 = .ok (.iload_n 1, 1) := all_d dX9_covered_all0 14 rfl
theorem dX9_covered_25 : decode cX9_covered 25 = .ok (.iadd, 1) := all_d dX9_covered_all0 15 rfl
theorem dX9_covered_26 : decode cX9_covered 26 = .ok (.iaload, 1) := all_d dX9_covered_all0 16 rfl
theorem dX9_covered_27 : decode cX9_covered 27 = .ok (.iconst 2, 1) := all_d dX9_covered_all0 17 rfl
theorem dX9_covered_28 : decode cX9_covered 28 = .ok (.if_icmp .eq 9, 3) := all_d dX9_covered_all0 18 rfl
theorem dX9_covered_31 : decode cX9_covered 31 = .ok (.aload_n 0, 1) := all_d dX9_covered_all0 19 rfl
theorem dX9_covered_32 : decode cX9_covered 32 = .ok (.iconst 4, 1) := all_d dX9_covered_all0 20 rfl
theorem dX9_covered_33 : decode cX9_covered 33 = .ok (.invokevirtual 78, 3) := all_d dX9_covered_all0 21 rfl
theorem dX9_covered_36 : decode cX9_covered 36 = .ok (.ireturn, 1) := all_d dX9_covered_all0 22 rfl
theorem dX9_covered_37 : decode cX9_covered 37 = .ok (.aload_n 0, 1) := all_d dX9_covered_all0 23 rfl
theorem dX9_covered_38 : decode cX9_covered 38 = .ok (.iconst 0, 1) := all_d dX9_covered_all0 24 rfl
theorem dX9_covered_39 : decode cX9_covered 39 = .ok (.putfield 51, 3) := all_d dX9_covered_all0 25 rfl
theorem dX9_covered_42 : decode cX9_covered 42 = .ok (.iconst 0, 1) := all_d dX9_covered_all0 26 rfl
theorem dX9_covered_43 : decode cX9_covered 43 = .ok (.istore_n 2, 1) := all_d dX9_covered_all0 27 rfl
theorem dX9_covered_44 : decode cX9_covered 44 = .ok (.iload_n 2, 1) := all_d dX9_covered_all0 28 rfl
theorem dX9_covered_45 : decode cX9_covered 45 = .ok (.aload_n 0, 1) := all_d dX9_covered_all0 29 rfl
theorem dX9_covered_46 : decode cX9_covered 46 = .ok (.getfield 7, 3) := all_d dX9_covered_all0 30 rfl
theorem dX9_covered_49 : decode cX9_covered 49 = .ok (.bipush 10, 2) := all_d dX9_covered_all0 31 rfl
theorem dX9_covered_51 : decode cX9_covered 51 = .ok (.iload_n 1, 1) := all_d dX9_covered_all0 32 rfl
theorem dX9_covered_52 : decode cX9_covered 52 = .ok (.iadd, 1) := all_d dX9_covered_all0 33 rfl
theorem dX9_covered_53 : decode cX9_covered 53 = .ok (.iaload, 1) := all_d dX9_covered_all0 34 rfl
theorem dX9_covered_54 : decode cX9_covered 54 = .ok (.if_icmp .ge 63, 3) := all_d dX9_covered_all0 35 rfl
theorem dX9_covered_57 : decode cX9_covered 57 = .ok (.iconst 1, 1) := all_d dX9_covered_all0 36 rfl
theorem dX9_covered_58 : decode cX9_covered 58 = .ok (.istore_n 3, 1) := all_d dX9_covered_all0 37 rfl
theorem dX9_covered_59 : decode cX9_covered 59 = .ok (.iload_n 2, 1) := all_d dX9_covered_all0 38 rfl
theorem dX9_covered_60 : decode cX9_covered 60 = .ok (.iconst 1, 1) := all_d dX9_covered_all0 39 rfl
theorem dX9_covered_61 : decode cX9_covered 61 = .ok (.iadd, 1) := all_d dX9_covered_all0 40 rfl
theorem dX9_covered_62 : decode cX9_covered 62 = .ok (.istore 4, 2) := all_d dX9_covered_all0 41 rfl
theorem dX9_covered_64 : decode cX9_covered 64 = .ok (.iload 4, 2) := all_d dX9_covered_all0 42 rfl
theorem dX9_covered_66 : decode cX9_covered 66 = .ok (.aload_n 0, 1) := all_d dX9_covered_all0 43 rfl
theorem dX9_covered_67 : decode cX9_covered 67 = .ok (.getfield 7, 3) := all_d dX9_covered_all0 44 rfl
theorem dX9_covered_70 : decode cX9_covered 70 = .ok (.bipush 10, 2) := all_d dX9_covered_all0 45 rfl
theorem dX9_covered_72 : decode cX9_covered 72 = .ok (.iload_n 1, 1) := all_d dX9_covered_all0 46 rfl
theorem dX9_covered_73 : decode cX9_covered 73 = .ok (.iadd, 1) := all_d dX9_covered_all0 47 rfl
theorem dX9_covered_74 : decode cX9_covered 74 = .ok (.iaload, 1) := all_d dX9_covered_all0 48 rfl
theorem dX9_covered_75 : decode cX9_covered 75 = .ok (.if_icmp .ge 19, 3) := all_d dX9_covered_all0 49 rfl
theorem dX9_covered_78 : decode cX9_covered 78 = .ok (.iload_n 3, 1) := all_d dX9_covered_all0 50 rfl
theorem dX9_covered_79 : decode cX9_covered 79 = .ok (.aload_n 0, 1) := all_d dX9_covered_all0 51 rfl
theorem dX9_covered_80 : decode cX9_covered 80 = .ok (.iload_n 1, 1) := all_d dX9_covered_all0 52 rfl
theorem dX9_covered_81 : decode cX9_covered 81 = .ok (.iload 4, 2) := all_d dX9_covered_all0 53 rfl
theorem dX9_covered_83 : decode cX9_covered 83 = .ok (.invokevirtual 128, 3) := all_d dX9_covered_all0 54 rfl
theorem dX9_covered_86 : decode cX9_covered 86 = .ok (.iadd, 1) := all_d dX9_covered_all0 55 rfl
theorem dX9_covered_87 : decode cX9_covered 87 = .ok (.istore_n 3, 1) := all_d dX9_covered_all0 56 rfl
theorem dX9_covered_88 : decode cX9_covered 88 = .ok (.iinc 4 1, 3) := all_d dX9_covered_all0 57 rfl
theorem dX9_covered_91 : decode cX9_covered 91 = .ok (.goto (-27), 3) := all_d dX9_covered_all0 58 rfl
theorem dX9_covered_94 : decode cX9_covered 94 = .ok (.aload_n 0, 1) := all_d dX9_covered_all0 59 rfl
theorem dX9_covered_95 : decode cX9_covered 95 = .ok (.aload_n 0, 1) := all_d dX9_covered_all0 60 rfl
theorem dX9_covered_96 : decode cX9_covered 96 = .ok (.iload_n 1, 1) := all_d dX9_covered_all0 61 rfl
theorem dX9_covered_97 : decode cX9_covered 97 = .ok (.iload_n 2, 1) := all_d dX9_covered_all0 62 rfl
theorem dX9_covered_98 : decode cX9_covered 98 = .ok (.invokevirtual 128, 3) := all_d dX9_covered_all0 63 rfl
theorem dX9_covered_101 : decode cX9_covered 101 = .ok (.iconst 0, 1) := all_d dX9_covered_all0 64 rfl
theorem dX9_covered_102 : decode cX9_covered 102 = .ok (.iload_n 3, 1) := all_d dX9_covered_all0 65 rfl
theorem dX9_covered_103 : decode cX9_covered 103 = .ok (.invokevirtual 64, 3) := all_d dX9_covered_all0 66 rfl
theorem dX9_covered_106 : decode cX9_covered 106 = .ok (.ifCond .ne 5, 3) := all_d dX9_covered_all0 67 rfl
theorem dX9_covered_109 : decode cX9_covered 109 = .ok (.iload_n 2, 1) := all_d dX9_covered_all0 68 rfl
theorem dX9_covered_110 : decode cX9_covered 110 = .ok (.ireturn, 1) := all_d dX9_covered_all0 69 rfl
theorem dX9_covered_111 : decode cX9_covered 111 = .ok (.iinc 2 1, 3) := all_d dX9_covered_all0 70 rfl
theorem dX9_covered_114 : decode cX9_covered 114 = .ok (.goto (-70), 3) := all_d dX9_covered_all0 71 rfl
theorem dX9_covered_117 : decode cX9_covered 117 = .ok (.bipush (-2), 2) := all_d dX9_covered_all0 72 rfl
theorem dX9_covered_119 : decode cX9_covered 119 = .ok (.ireturn, 1) := all_d dX9_covered_all0 73 rfl
set_option maxRecDepth 100000 in
theorem dX9_tail_all0 : ([(0, (.aload_n 0 : Instr), 1), (1, (.iconst 0 : Instr), 1), (2, (.putfield 47 : Instr), 3), (5, (.aload_n 0 : Instr), 1), (6, (.iload_n 1 : Instr), 1), (7, (.invokevirtual 68 : Instr), 3), (10, (.ifCond .ne 9 : Instr), 3), (13, (.aload_n 0 : Instr), 1), (14, (.iconst 2 : Instr), 1), (15, (.invokevirtual 78 : Instr), 3), (18, (.ireturn : Instr), 1), (19, (.aload_n 0 : Instr), 1), (20, (.getfield 7 : Instr), 3), (23, (.iconst 2 : Instr), 1), (24, (.iload_n 1 : Instr), 1), (25, (.iadd : Instr), 1), (26, (.iaload : Instr), 1), (27, (.iconst 2 : Instr), 1), (28, (.if_icmp .eq 9 : Instr), 3), (31, (.aload_n 0 : Instr), 1), (32, (.iconst 4 : Instr), 1), (33, (.invokevirtual 78 : Instr), 3), (36, (.ireturn : Instr), 1), (37, (.aload_n 0 : Instr), 1), (38, (.iconst 0 : Instr), 1), (39, (.putfield 51 : Instr), 3), (42, (.iconst 0 : Instr), 1), (43, (.istore_n 2 : Instr), 1), (44, (.iconst 0 : Instr), 1), (45, (.istore_n 3 : Instr), 1), (46, (.iload_n 3 : Instr), 1), (47, (.aload_n 0 : Instr), 1), (48, (.getfield 7 : Instr), 3), (51, (.bipush 10 : Instr), 2), (53, (.iload_n 1 : Instr), 1), (54, (.iadd : Instr), 1), (55, (.iaload : Instr), 1), (56, (.if_icmp .ge 18 : Instr), 3), (59, (.iload_n 2 : Instr), 1), (60, (.aload_n 0 : Instr), 1), (61, (.iload_n 1 : Instr), 1), (62, (.iload_n 3 : Instr), 1), (63, (.invokevirtual 128 : Instr), 3), (66, (.iadd : Instr), 1), (67, (.istore_n 2 : Instr), 1), (68, (.iinc 3 1 : Instr), 3), (71, (.goto (-25) : Instr), 3), (74, (.iload_n 2 : Instr), 1), (75, (.ifCond .ge 7 : Instr), 3), (78, (.iconst 0 : Instr), 1), (79, (.goto 23 : Instr), 3), (82, (.iload_n 2 : Instr), 1), (83, (.aload_n 0 : Instr), 1), (84, (.getfield 7 : Instr), 3), (87, (.iconst 0 : Instr), 1), (88, (.iaload : Instr), 1), (89, (.if_icmp .ge 7 : Instr), 3), (92, (.iload_n 2 : Instr), 1), (93, (.goto 9 : Instr), 3), (96, (.aload_n 0 : Instr), 1), (97, (.getfield 7 : Instr), 3), (100, (.iconst 0 : Instr), 1), (101, (.iaload : Instr), 1), (102, (.istore_n 3 : Instr), 1), (103, (.ldc 113 : Instr), 2), (105, (.istore 4 : Instr), 2), (107, (.iconst 0 : Instr), 1), (108, (.istore 5 : Instr), 2), (110, (.iload 5 : Instr), 2), (112, (.iload_n 3 : Instr), 1), (113, (.if_icmp .gt 37 : Instr), 3), (116, (.iload 5 : Instr), 2), (118, (.aload_n 0 : Instr), 1), (119, (.iload_n 1 : Instr), 1), (120, (.iload 5 : Instr), 2), (122, (.invokevirtual 110 : Instr), 3), (125, (.isub : Instr), 1), (126, (.istore 6 : Instr), 2), (128, (.iload 6 : Instr), 2), (130, (.iload 4 : Instr), 2)] : List (Nat × Instr × Nat)).all (fun q => decide (decode cX9_tail q.1 = .ok (q.2.1, q.2.2))) = true := by decide +kernel
theorem dX9_tail_0 : decode cX9_tail 0 = .ok (.aload_n 0, 1) := all_d dX9_tail_all0 0 rfl
theorem dX9_tail_1 : decode cX9_tail 1 = .ok (.iconst 0, 1) := all_d dX9_tail_all0 1 rfl
theorem dX9_tail_2 : decode cX9_tail 2 = .ok (.putfield 47, 3) := all_d dX9_tail_all0 2 rfl
theorem dX9_tail_5 : decode cX9_tail 5 = .ok (.aload_n 0, 1) := all_d dX9_tail_all0 3 rfl
theorem dX9_tail_6 : decode cX9_tail 6 = .ok (.iload_n 1, 1) := all_d dX9_tail_all0 4 rfl
theorem dX9_tail_7 : decode cX9_tail 7 = .ok (.invokevirtual 68, 3) := all_d dX9_tail_all0 5 rfl
theorem dX9_tail_10 : decode cX9_tail 10 = .ok (.ifCond .ne 9, 3) := all_d dX9_tail_all0 6 rfl
theorem dX9_tail_13 : decode cX9_tail 13 = .ok (.aload_n 0, 1) := all_d dX9_tail_all0 7 rfl
theorem dX9_tail_14 : decode cX9_tail 14 = .ok (.iconst 2, 1) := all_d dX9_tail_all0 8 rfl
theorem dX9_tail_15 : decode cX9_tail 15 = .ok (.invokevirtual 78, 3) := all_d dX9_tail_all0 9 rfl
theorem dX9_tail_18 : decode cX9_tail 18 = .ok (.ireturn, 1) := all_d dX9_tail_all0 10 rfl
theorem dX9_tail_19 : decode cX9_tail 19 = .ok (.aload_n 0, 1) := all_d dX9_tail_all0 11 rfl
theorem dX9_tail_20 : decode cX9_tail 20 = .ok (.getfield 7, 3) := all_d dX9_tail_all0 12 rfl
theorem dX9_tail_23 : decode cX9_tail 23 = .ok (.iconst 2, 1) := all_d dX9_tail_all0 13 rfl
theorem dX9_tail_24 : decode cX9_tail 24 = .ok (.iload_n 1, 1) := all_d dX9_tail_all0 14 rfl
theorem dX9_tail_25 : decode cX9_tail 25 = .ok (.iadd, 1) := all_d dX9_tail_all0 15 rfl
theorem dX9_tail_26 : decode cX9_tail 26 = .ok (.iaload, 1) := all_d dX9_tail_all0 16 rfl
theorem dX9_tail_27 : decode cX9_tail 27 = .ok (.iconst 2, 1) := all_d dX9_tail_all0 17 rfl
theorem dX9_tail_28 : decode cX9_tail 28 = .ok (.if_icmp .eq 9, 3) := all_d dX9_tail_all0 18 rfl
theorem dX9_tail_31 : decode cX9_tail 31 = .ok (.aload_n 0, 1) := all_d dX9_tail_all0 19 rfl
theorem dX9_tail_32 : decode cX9_tail 32 = .ok (.iconst 4, 1) := all_d dX9_tail_all0 20 rfl
theorem dX9_tail_33 : decode cX9_tail 33 = .ok (.invokevirtual 78, 3) := all_d dX9_tail_all0 21 rfl
theorem dX9_tail_36 : decode cX9_tail 36 = .ok (.ireturn, 1) := all_d dX9_tail_all0 22 rfl
theorem dX9_tail_37 : decode cX9_tail 37 = .ok (.aload_n 0, 1) := all_d dX9_tail_all0 23 rfl
theorem dX9_tail_38 : decode cX9_tail 38 = .ok (.iconst 0, 1) := all_d dX9_tail_all0 24 rfl
theorem dX9_tail_39 : decode cX9_tail 39 = .ok (.putfield 51, 3) := all_d dX9_tail_all0 25 rfl
theorem dX9_tail_42 : decode cX9_tail 42 = .ok (.iconst 0, 1) := all_d dX9_tail_all0 26 rfl
theorem dX9_tail_43 : decode cX9_tail 43 = .ok (.istore_n 2, 1) := all_d dX9_tail_all0 27 rfl
theorem dX9_tail_44 : decode cX9_tail 44 = .ok (.iconst 0, 1) := all_d dX9_tail_all0 28 rfl
theorem dX9_tail_45 : decode cX9_tail 45 = .ok (.istore_n 3, 1) := all_d dX9_tail_all0 29 rfl
theorem dX9_tail_46 : decode cX9_tail 46 = .ok (.iload_n 3, 1) := all_d dX9_tail_all0 30 rfl
theorem dX9_tail_47 : decode cX9_tail 47 = .ok (.aload_n 0, 1) := all_d dX9_tail_all0 31 rfl
theorem dX9_tail_48 : decode cX9_tail 48 = .ok (.getfield 7, 3) := all_d dX9_tail_all0 32 rfl
theorem dX9_tail_51 : decode cX9_tail 51 = .ok (.bipush 10, 2) := all_d dX9_tail_all0 33 rfl
theorem dX9_tail_53 : decode cX9_tail 53 = .ok (.iload_n 1, 1) := all_d dX9_tail_all0 34 rfl
theorem dX9_tail_54 : decode cX9_tail 54 = .ok (.iadd, 1) := all_d dX9_tail_all0 35 rfl
theorem dX9_tail_55 : decode cX9_tail 55 = .ok (.iaload, 1) := all_d dX9_tail_all0 36 rfl
theorem dX9_tail_56 : decode cX9_tail 56 = .ok (.if_icmp .ge 18, 3) := all_d dX9_tail_all0 37 rfl
theorem dX9_tail_59 : decode cX9_tail 59 = .ok (.iload_n 2, 1) := all_d dX9_tail_all0 38 rfl
theorem dX9_tail_60 : decode cX9_tail 60 = .ok (.aload_n 0, 1) := all_d dX9_tail_all0 39 rfl
theorem dX9_tail_61 : decode cX9_tail 61 = .ok (.iload_n 1, 1) := all_d dX9_tail_all0 40 rfl
theorem dX9_tail_62 : decode cX9_tail 62 = .ok (.iload_n 3, 1) := all_d dX9_tail_all0 41 rfl
theorem dX9_tail_63 : decode cX9_tail 63 = .ok (.invokevirtual 128, 3) := all_d dX9_tail_all0 42 rfl
theorem dX9_tail_66 : decode cX9_tail 66 = .ok (.iadd, 1) := all_d dX9_tail_all0 43 rfl
theorem dX9_tail_67 : decode cX9_tail 67 = .ok (.istore_n 2, 1) := all_d dX9_tail_all0 44 rfl
theorem dX9_tail_68 : decode cX9_tail 68 = .ok (.iinc 3 1, 3) := all_d dX9_tail_all0 45 rfl
theorem dX9_tail_71 : decode cX9_tail 71 = .ok (.goto (-25), 3) := all_d dX9_tail_all0 46 rfl
theorem dX9_tail_74 : decode cX9_tail 74 = .ok (.iload_n 2, 1) := all_d dX9_tail_all0 47 rfl
theorem dX9_tail_75 : decode cX9_tail 75 = .ok (.ifCond .ge 7, 3) := all_d dX9_tail_all0 48 rfl
theorem dX9_tail_78 : decode cX9_tail 78 = .ok (.iconst 0, 1) := all_d dX9_tail_all0 49 rfl
theorem dX9_tail_79 : decode cX9_tail 79 = .ok (.goto 23, 3) := all_d dX9_tail_all0 50 rfl
theorem dX9_tail_82 : decode cX9_tail 82 = .ok (.iload_n 2, 1) := all_d dX9_tail_all0 51 rfl
theorem dX9_tail_83 : decode cX9_tail 83 = .ok (.aload_n 0, 1) := all_d dX9_tail_all0 52 rfl
theorem dX9_tail_84 : decode cX9_tail 84 = .ok (.getfield 7, 3) := all_d dX9_tail_all0 53 rfl
theorem dX9_tail_87 : decode cX9_tail 87 = .ok (.iconst 0, 1) := all_d dX9_tail_all0 54 rfl
theorem dX9_tail_88 : decode cX9_tail 88 = .ok (.iaload, 1) := all_d dX9_tail_all0 55 rfl
theorem dX9_tail_89 : decode cX9_tail 89 = .ok (.if_icmp .ge 7, 3) := all_d dX9_tail_all0 56 rfl
theorem dX9_tail_92 : decode cX9_tail 92 = .ok (.iload_n 2, 1) := all_d dX9_tail_all0 57 rfl
theorem dX9_tail_93 : decode cX9_tail 93 = .ok (.goto 9, 3) := all_d dX9_tail_all0 58 rfl
theorem dX9_tail_96 : decode cX9_tail 96 = .ok (.aload_n 0, 1) := all_d dX9_tail_all0 59 rfl
theorem dX9_tail_97 : decode cX9_tail 97 = .ok (.getfield 7, 3) := all_d dX9_tail_all0 60 rfl
theorem dX9_tail_100 : decode cX9_tail 100 = .ok (.iconst 0, 1) := all_d dX9_tail_all0 61 rfl
theorem dX9_tail_101 : decode cX9_tail 101 = .ok (.iaload, 1) := all_d dX9_tail_all0 62 rfl
theorem dX9_tail_102 : decode cX9_tail 102 = .ok (.istore_n 3, 1) := all_d dX9_tail_all0 63 rfl
theorem dX9_tail_103 : decode cX9_tail 103 = .ok (.ldc 113, 2) := all_d dX9_tail_all0 64 rfl
theorem dX9_tail_105 : decode cX9_tail 105 = .ok (.istore 4, 2) := all_d dX9_tail_all0 65 rfl
theorem dX9_tail_107 : decode cX9_tail 107 = .ok (.iconst 0, 1) := all_d dX9_tail_all0 66 rfl
theorem dX9_tail_108 : decode cX9_tail 108 = .ok (.istore 5, 2) := all_d dX9_tail_all0 67 rfl
theorem dX9_tail_110 : decode cX9_tail 110 = .ok (.iload 5, 2) := all_d dX9_tail_all0 68 rfl
theorem dX9_tail_112 : decode cX9_tail 112 = .ok (.iload_n 3, 1) := all_d dX9_tail_all0 69 rfl
theorem dX9_tail_113 : decode cX9_tail 113 = .ok (.if_icmp .gt 37, 3) := all_d dX9_tail_all0 70 rfl
theorem dX9_tail_116 : decode cX9_tail 116 = .ok (.iload 5, 2) := all_d dX9_tail_all0 71 rfl
theorem dX9_tail_118 : decode cX9_tail 118 = .ok (.aload_n 0, 1) := all_d dX9_tail_all0 72 rfl
theorem dX9_tail_119 : decode cX9_tail 119 = .ok (.iload_n 1, 1) := all_d dX9_tail_all0 73 rfl
theorem dX9_tail_120 : decode cX9_tail 120 = .ok (.iload 5, 2) := all_d dX9_tail_all0 74 rfl
theorem dX9_tail_122 : decode cX9_tail 122 = .ok (.invokevirtual 110, 3) := all_d dX9_tail_all0 75 rfl
theorem dX9_tail_125 : decode cX9_tail 125 = .ok (.isub, 1) := all_d dX9_tail_all0 76 rfl
theorem dX9_tail_126 : decode cX9_tail 126 = .ok (.istore 6, 2) := all_d dX9_tail_all0 77 rfl
theorem dX9_tail_128 : decode cX9_tail 128 = .ok (.iload 6, 2) := all_d dX9_tail_all0 78 rfl
theorem dX9_tail_130 : decode cX9_tail 130 = .ok (.iload 4, 2) := all_d dX9_tail_all0 79 rfl
set_option maxRecDepth 100000 in
theorem dX9_tail_all1 : ([(132, (.if_icmp .le 8 : Instr), 3), (135, (.iload 6 : Instr), 2), (137, (.goto 5 : Instr), 3), (140, (.iload 4 : Instr), 2), (142, (.istore 4 : Instr), 2), (144, (.iinc 5 1 : Instr), 3), (147, (.goto (-37) : Instr), 3), (150, (.iload 4 : Instr), 2), (152, (.ireturn : Instr), 1)] : List (Nat × Instr × Nat)).all (fun q => decide (decode cX9_tail q.1 = .ok (q.2.1, q.2.2))) = true := by decide +kernel
theorem dX9_tail_132 : decode cX9_tail 132 = .ok (.if_icmp .le 8, 3) := all_d dX9_tail_all1 0 rfl
theorem dX9_tail_135 : decode cX9_tail 135 = .ok (.iload 6, 2) := all_d dX9_tail_all1 1 rfl
theorem dX9_tail_137 : decode cX9_tail 137 = .ok (.goto 5, 3) := all_d dX9_tail_all1 2 rfl
theorem dX9_tail_140 : decode cX9_tail 140 = .ok (.iload 4, 2) := all_d dX9_tail_all1 3 rfl
theorem dX9_tail_142 : decode cX9_tail 142 = .ok (.istore 4, 2) := all_d dX9_tail_all1 4 rfl
theorem dX9_tail_144 : decode cX9_tail 144 = .ok (.iinc 5 1, 3) := all_d dX9_tail_all1 5 rfl
theorem dX9_tail_147 : decode cX9_tail 147 = .ok (.goto (-37), 3) := all_d dX9_tail_all1 6 rfl
theorem dX9_tail_150 : decode cX9_tail 150 = .ok (.iload 4, 2) := all_d dX9_tail_all1 7 rfl
theorem dX9_tail_152 : decode cX9_tail 152 = .ok (.ireturn, 1) := all_d dX9_tail_all1 8 rfl
set_option maxRecDepth 100000 in
theorem dX9_mend_all0 : ([(0, (.aload_n 0 : Instr), 1), (1, (.iconst 0 : Instr), 1), (2, (.putfield 47 : Instr), 3), (5, (.aload_n 0 : Instr), 1), (6, (.iload_n 1 : Instr), 1), (7, (.invokevirtual 68 : Instr), 3), (10, (.ifCond .ne 9 : Instr), 3), (13, (.aload_n 0 : Instr), 1), (14, (.iconst 2 : Instr), 1), (15, (.invokevirtual 72 : Instr), 3), (18, (.ireturn : Instr), 1), (19, (.aload_n 0 : Instr), 1), (20, (.getfield 7 : Instr), 3), (23, (.iconst 2 : Instr), 1), (24, (.iload_n 1 : Instr), 1), (25, (.iadd : Instr), 1), (26, (.iaload : Instr), 1), (27, (.iconst 2 : Instr), 1), (28, (.if_icmp .eq 9 : Instr), 3), (31, (.aload_n 0 : Instr), 1), (32, (.iconst 4 : Instr), 1), (33, (.invokevirtual 72 : Instr), 3), (36, (.ireturn : Instr), 1), (37, (.aload_n 0 : Instr), 1), (38, (.invokevirtual 75 : Instr), 3), (41, (.iconst 0 : Instr), 1), (42, (.istore_n 2 : Instr), 1), (43, (.iload_n 2 : Instr), 1), (44, (.aload_n 0 : Instr), 1), (45, (.getfield 7 : Instr), 3), (48, (.bipush 10 : Instr), 2), (50, (.iload_n 1 : Instr), 1), (51, (.iadd : Instr), 1), (52, (.iaload : Instr), 1), (53, (.if_icmp .ge 28 : Instr), 3), (56, (.aload_n 0 : Instr), 1), (57, (.getfield 7 : Instr), 3), (60, (.aload_n 0 : Instr), 1), (61, (.iload_n 1 : Instr), 1), (62, (.iload_n 2 : Instr), 1), (63, (.invokevirtual 85 : Instr), 3), (66, (.iconst 2 : Instr), 1), (67, (.iadd : Instr), 1), (68, (.aload_n 0 : Instr), 1), (69, (.iload_n 1 : Instr), 1), (70, (.iload_n 2 : Instr), 1), (71, (.invokevirtual 128 : Instr), 3), (74, (.iastore : Instr), 1), (75, (.iinc 2 1 : Instr), 3), (78, (.goto (-35) : Instr), 3), (81, (.iconst 1 : Instr), 1), (82, (.ireturn : Instr), 1)] : List (Nat × Instr × Nat)).all (fun q => decide (decode cX9_mend q.1 = .ok (q.2.1, q.2.2))) = true := by decide +kernel
theorem dX9_mend_0 : decode cX9_mend 0 = .ok (.aload_n 0, 1) := all_d dX9_mend_all0 0 rfl
theorem dX9_mend_1 : decode cX9_mend 1 = .ok (.iconst 0, 1) := all_d dX9_mend_all0 1 rfl
theorem dX9_mend_2 : decode cX9_mend 2 = .ok (.putfield 47, 3) := all_d dX9_mend_all0 2 rfl
theorem dX9_mend_5 : decode cX9_mend 5 = .ok (.aload_n 0, 1) := all_d dX9_mend_all0 3 rfl
theorem dX9_mend_6 : decode cX9_mend 6 = .ok (.iload_n 1, 1) := all_d dX9_mend_all0 4 rfl
theorem dX9_mend_7 : decode cX9_mend 7 = .ok (.invokevirtual 68, 3) := all_d dX9_mend_all0 5 rfl
theorem dX9_mend_10 : decode cX9_mend 10 = .ok (.ifCond .ne 9, 3) := all_d dX9_mend_all0 6 rfl
theorem dX9_mend_13 : decode cX9_mend 13 = .ok (.aload_n 0, 1) := all_d dX9_mend_all0 7 rfl
theorem dX9_mend_14 : decode cX9_mend 14 = .ok (.iconst 2, 1) := all_d dX9_mend_all0 8 rfl
theorem dX9_mend_15 : decode cX9_mend 15 = .ok (.invokevirtual 72, 3) := all_d dX9_mend_all0 9 rfl
theorem dX9_mend_18 : decode cX9_mend 18 = .ok (.ireturn, 1) := all_d dX9_mend_all0 10 rfl
theorem dX9_mend_19 : decode cX9_mend 19 = .ok (.aload_n 0, 1) := all_d dX9_mend_all0 11 rfl
theorem dX9_mend_20 : decode cX9_mend 20 = .ok (.getfield 7, 3) := all_d dX9_mend_all0 12 rfl
theorem dX9_mend_23 : decode cX9_mend 23 = .ok (.iconst 2, 1) := all_d dX9_mend_all0 13 rfl
theorem dX9_mend_24 : decode cX9_mend 24 = .ok (.iload_n 1, 1) := all_d dX9_mend_all0 14 rfl
theorem dX9_mend_25 : decode cX9_mend 25 = .ok (.iadd, 1) := all_d dX9_mend_all0 15 rfl
theorem dX9_mend_26 : decode cX9_mend 26 = .ok (.iaload, 1) := all_d dX9_mend_all0 16 rfl
theorem dX9_mend_27 : decode cX9_mend 27 = .ok (.iconst 2, 1) := all_d dX9_mend_all0 17 rfl
theorem dX9_mend_28 : decode cX9_mend 28 = .ok (.if_icmp .eq 9, 3) := all_d dX9_mend_all0 18 rfl
theorem dX9_mend_31 : decode cX9_mend 31 = .ok (.aload_n 0, 1) := all_d dX9_mend_all0 19 rfl
theorem dX9_mend_32 : decode cX9_mend 32 = .ok (.iconst 4, 1) := all_d dX9_mend_all0 20 rfl
theorem dX9_mend_33 : decode cX9_mend 33 = .ok (.invokevirtual 72, 3) := all_d dX9_mend_all0 21 rfl
theorem dX9_mend_36 : decode cX9_mend 36 = .ok (.ireturn, 1) := all_d dX9_mend_all0 22 rfl
theorem dX9_mend_37 : decode cX9_mend 37 = .ok (.aload_n 0, 1) := all_d dX9_mend_all0 23 rfl
theorem dX9_mend_38 : decode cX9_mend 38 = .ok (.invokevirtual 75, 3) := all_d dX9_mend_all0 24 rfl
theorem dX9_mend_41 : decode cX9_mend 41 = .ok (.iconst 0, 1) := all_d dX9_mend_all0 25 rfl
theorem dX9_mend_42 : decode cX9_mend 42 = .ok (.istore_n 2, 1) := all_d dX9_mend_all0 26 rfl
theorem dX9_mend_43 : decode cX9_mend 43 = .ok (.iload_n 2, 1) := all_d dX9_mend_all0 27 rfl
theorem dX9_mend_44 : decode cX9_mend 44 = .ok (.aload_n 0, 1) := all_d dX9_mend_all0 28 rfl
theorem dX9_mend_45 : decode cX9_mend 45 = .ok (.getfield 7, 3) := all_d dX9_mend_all0 29 rfl
theorem dX9_mend_48 : decode cX9_mend 48 = .ok (.bipush 10, 2) := all_d dX9_mend_all0 30 rfl
theorem dX9_mend_50 : decode cX9_mend 50 = .ok (.iload_n 1, 1) := all_d dX9_mend_all0 31 rfl
theorem dX9_mend_51 : decode cX9_mend 51 = .ok (.iadd, 1) := all_d dX9_mend_all0 32 rfl
theorem dX9_mend_52 : decode cX9_mend 52 = .ok (.iaload, 1) := all_d dX9_mend_all0 33 rfl
theorem dX9_mend_53 : decode cX9_mend 53 = .ok (.if_icmp .ge 28, 3) := all_d dX9_mend_all0 34 rfl
theorem dX9_mend_56 : decode cX9_mend 56 = .ok (.aload_n 0, 1) := all_d dX9_mend_all0 35 rfl
theorem dX9_mend_57 : decode cX9_mend 57 = .ok (.getfield 7, 3) := all_d dX9_mend_all0 36 rfl
theorem dX9_mend_60 : decode cX9_mend 60 = .ok (.aload_n 0, 1) := all_d dX9_mend_all0 37 rfl
theorem dX9_mend_61 : decode cX9_mend 61 = .ok (.iload_n 1, 1) := all_d dX9_mend_all0 38 rfl
theorem dX9_mend_62 : decode cX9_mend 62 = .ok (.iload_n 2, 1) := all_d dX9_mend_all0 39 rfl
theorem dX9_mend_63 : decode cX9_mend 63 = .ok (.invokevirtual 85, 3) := all_d dX9_mend_all0 40 rfl
theorem dX9_mend_66 : decode cX9_mend 66 = .ok (.iconst 2, 1) := all_d dX9_mend_all0 41 rfl
theorem dX9_mend_67 : decode cX9_mend 67 = .ok (.iadd, 1) := all_d dX9_mend_all0 42 rfl
theorem dX9_mend_68 : decode cX9_mend 68 = .ok (.aload_n 0, 1) := all_d dX9_mend_all0 43 rfl
theorem dX9_mend_69 : decode cX9_mend 69 = .ok (.iload_n 1, 1) := all_d dX9_mend_all0 44 rfl
theorem dX9_mend_70 : decode cX9_mend 70 = .ok (.iload_n 2, 1) := all_d dX9_mend_all0 45 rfl
theorem dX9_mend_71 : decode cX9_mend 71 = .ok (.invokevirtual 128, 3) := all_d dX9_mend_all0 46 rfl
theorem dX9_mend_74 : decode cX9_mend 74 = .ok (.iastore, 1) := all_d dX9_mend_all0 47 rfl
theorem dX9_mend_75 : decode cX9_mend 75 = .ok (.iinc 2 1, 3) := all_d dX9_mend_all0 48 rfl
theorem dX9_mend_78 : decode cX9_mend 78 = .ok (.goto (-35), 3) := all_d dX9_mend_all0 49 rfl
theorem dX9_mend_81 : decode cX9_mend 81 = .ok (.iconst 1, 1) := all_d dX9_mend_all0 50 rfl
theorem dX9_mend_82 : decode cX9_mend 82 = .ok (.ireturn, 1) := all_d dX9_mend_all0 51 rfl
set_option maxRecDepth 100000 in
theorem dX9_count_all0 : ([(0, (.aload_n 0 : Instr), 1), (1, (.iconst 0 : Instr), 1), (2, (.putfield 47 : Instr), 3), (5, (.aload_n 0 : Instr), 1), (6, (.iload_n 1 : Instr), 1), (7, (.invokevirtual 68 : Instr), 3), (10, (.ifCond .ne 9 : Instr), 3), (13, (.aload_n 0 : Instr), 1), (14, (.iconst 2 : Instr), 1), (15, (.invokevirtual 78 : Instr), 3), (18, (.ireturn : Instr), 1), (19, (.iload_n 2 : Instr), 1), (20, (.ifCond .lt 24 : Instr), 3), (23, (.iload_n 2 : Instr), 1), (24, (.iload_n 3 : Instr), 1), (25, (.if_icmp .gt 19 : Instr), 3), (28, (.iload_n 3 : Instr), 1), (29, (.aload_n 0 : Instr), 1), (30, (.getfield 7 : Instr), 3), (33, (.iconst 0 : Instr), 1), (34, (.iaload : Instr), 1), (35, (.if_icmp .gt 9 : Instr), 3), (38, (.iload 4 : Instr), 2), (40, (.iconst 1 : Instr), 1), (41, (.if_icmp .ge 9 : Instr), 3), (44, (.aload_n 0 : Instr), 1), (45, (.iconst 1 : Instr), 1), (46, (.invokevirtual 78 : Instr), 3), (49, (.ireturn : Instr), 1), (50, (.aload_n 0 : Instr), 1), (51, (.iconst 0 : Instr), 1), (52, (.putfield 51 : Instr), 3), (55, (.iconst 0 : Instr), 1), (56, (.istore 6 : Instr), 2), (58, (.iload_n 2 : Instr), 1), (59, (.istore 7 : Instr), 2), (61, (.iconst 1 : Instr), 1), (62, (.istore 8 : Instr), 2), (64, (.iload 8 : Instr), 2), (66, (.ifCond .eq 56 : Instr), 3), (69, (.iload 6 : Instr), 2), (71, (.aload_n 0 : Instr), 1), (72, (.iload_n 1 : Instr), 1), (73, (.iload 7 : Instr), 2), (75, (.invokevirtual 110 : Instr), 3), (78, (.iload 5 : Instr), 2), (80, (.if_icmp .ne 7 : Instr), 3), (83, (.iconst 1 : Instr), 1), (84, (.goto 4 : Instr), 3), (87, (.iconst 0 : Instr), 1), (88, (.iadd : Instr), 1), (89, (.istore 6 : Instr), 2), (91, (.iload 4 : Instr), 2), (93, (.iload_n 3 : Instr), 1), (94, (.iload 7 : Instr), 2), (96, (.isub : Instr), 1), (97, (.if_icmp .gt 7 : Instr), 3), (100, (.iconst 1 : Instr), 1), (101, (.goto 4 : Instr), 3), (104, (.iconst 0 : Instr), 1), (105, (.istore 8 : Instr), 2), (107, (.iload 8 : Instr), 2), (109, (.ifCond .eq (-45) : Instr), 3), (112, (.iload 7 : Instr), 2), (114, (.iload 4 : Instr), 2), (116, (.iadd : Instr), 1), (117, (.istore 7 : Instr), 2), (119, (.goto (-55) : Instr), 3), (122, (.iload 6 : Instr), 2), (124, (.ireturn : Instr), 1)] : List (Nat × Instr × Nat)).all (fun q => decide (decode cX9_count q.1 = .ok (q.2.1, q.2.2))) = true := by decide +kernel
theorem dX9_count_0 : decode cX9_count 0 = .ok (.aload_n 0, 1) := all_d dX9_count_all0 0 rfl
theorem dX9_count_1 : decode cX9_count 1 = .ok (.iconst 0, 1) := all_d dX9_count_all0 1 rfl
theorem dX9_count_2 : decode cX9_count 2 = .ok (.putfield 47, 3) := all_d dX9_count_all0 2 rfl
theorem dX9_count_5 : decode cX9_count 5 = .ok (.aload_n 0, 1) := all_d dX9_count_all0 3 rfl
theorem dX9_count_6 : decode cX9_count 6 = .ok (.iload_n 1, 1) := all_d dX9_count_all0 4 rfl
theorem dX9_count_7 : decode cX9_count 7 = .ok (.invokevirtual 68, 3) := all_d dX9_count_all0 5 rfl
theorem dX9_count_10 : decode cX9_count 10 = .ok (.ifCond .ne 9, 3) := all_d dX9_count_all0 6 rfl
theorem dX9_count_13 : decode cX9_count 13 = .ok (.aload_n 0, 1) := all_d dX9_count_all0 7 rfl
theorem dX9_count_14 : decode cX9_count 14 = .ok (.iconst 2, 1) := all_d dX9_count_all0 8 rfl
theorem dX9_count_15 : decode cX9_count 15 = .ok (.invokevirtual 78, 3) := all_d dX9_count_all0 9 rfl
theorem dX9_count_18 : decode cX9_count 18 = .ok (.ireturn, 1) := all_d dX9_count_all0 10 rfl
theorem dX9_count_19 : decode cX9_count 19 = .ok (.iload_n 2, 1) := all_d dX9_count_all0 11 rfl
theorem dX9_count_20 : decode cX9_count 20 = .ok (.ifCond .lt 24, 3) := all_d dX9_count_all0 12 rfl
theorem dX9_count_23 : decode cX9_count 23 = .ok (.iload_n 2, 1) := all_d dX9_count_all0 13 rfl
theorem dX9_count_24 : decode cX9_count 24 = .ok (.iload_n 3, 1) := all_d dX9_count_all0 14 rfl
theorem dX9_count_25 : decode cX9_count 25 = .ok (.if_icmp .gt 19, 3) := all_d dX9_count_all0 15 rfl
theorem dX9_count_28 : decode cX9_count 28 = .ok (.iload_n 3, 1) := all_d dX9_count_all0 16 rfl
theorem dX9_count_29 : decode cX9_count 29 = .ok (.aload_n 0, 1) := all_d dX9_count_all0 17 rfl
theorem dX9_count_30 : decode cX9_count 30 = .ok (.getfield 7, 3) := all_d dX9_count_all0 18 rfl
theorem dX9_count_33 : decode cX9_count 33 = .ok (.iconst 0, 1) := all_d dX9_count_all0 19 rfl
theorem dX9_count_34 : decode cX9_count 34 = .ok (.iaload, 1) := all_d dX9_count_all0 20 rfl
theorem dX9_count_35 : decode cX9_count 35 = .ok (.if_icmp .gt 9, 3) := all_d dX9_count_all0 21 rfl
theorem dX9_count_38 : decode cX9_count 38 = .ok (.iload 4, 2) := all_d dX9_count_all0 22 rfl
theorem dX9_count_40 : decode cX9_count 40 = .ok (.iconst 1, 1) := all_d dX9_count_all0 23 rfl
theorem dX9_count_41 : decode cX9_count 41 = .ok (.if_icmp .ge 9, 3) := all_d dX9_count_all0 24 rfl
theorem dX9_count_44 : decode cX9_count 44 = .ok (.aload_n 0, 1) := all_d dX9_count_all0 25 rfl
theorem dX9_count_45 : decode cX9_count 45 = .ok (.iconst 1, 1) := all_d dX9_count_all0 26 rfl
theorem dX9_count_46 : decode cX9_count 46 = .ok (.invokevirtual 78, 3) := all_d dX9_count_all0 27 rfl
theorem dX9_count_49 : decode cX9_count 49 = .ok (.ireturn, 1) := all_d dX9_count_all0 28 rfl
theorem dX9_count_50 : decode cX9_count 50 = .ok (.aload_n 0, 1) := all_d dX9_count_all0 29 rfl
theorem dX9_count_51 : decode cX9_count 51 = .ok (.iconst 0, 1) := all_d dX9_count_all0 30 rfl
theorem dX9_count_52 : decode cX9_count 52 = .ok (.putfield 51, 3) := all_d dX9_count_all0 31 rfl
theorem dX9_count_55 : decode cX9_count 55 = .ok (.iconst 0, 1) := all_d dX9_count_all0 32 rfl
theorem dX9_count_56 : decode cX9_count 56 = .ok (.istore 6, 2) := all_d dX9_count_all0 33 rfl
theorem dX9_count_58 : decode cX9_count 58 = .ok (.iload_n 2, 1) := all_d dX9_count_all0 34 rfl
theorem dX9_count_59 : decode cX9_count 59 = .ok (.istore 7, 2) := all_d dX9_count_all0 35 rfl
theorem dX9_count_61 : decode cX9_count 61 = .ok (.iconst 1, 1) := all_d dX9_count_all0 36 rfl
theorem dX9_count_62 : decode cX9_count 62 = .ok (.istore 8, 2) := all_d dX9_count_all0 37 rfl
theorem dX9_count_64 : decode cX9_count 64 = .ok (.iload 8, 2) := all_d dX9_count_all0 38 rfl
theorem dX9_count_66 : decode cX9_count 66 = .ok (.ifCond .eq 56, 3) := all_d dX9_count_all0 39 rfl
theorem dX9_count_69 : decode cX9_count 69 = .ok (.iload 6, 2) := all_d dX9_count_all0 40 rfl
theorem dX9_count_71 : decode cX9_count 71 = .ok (.aload_n 0, 1) := all_d dX9_count_all0 41 rfl
theorem dX9_count_72 : decode cX9_count 72 = .ok (.iload_n 1, 1) := all_d dX9_count_all0 42 rfl
theorem dX9_count_73 : decode cX9_count 73 = .ok (.iload 7, 2) := all_d dX9_count_all0 43 rfl
theorem dX9_count_75 : decode cX9_count 75 = .ok (.invokevirtual 110, 3) := all_d dX9_count_all0 44 rfl
theorem dX9_count_78 : decode cX9_count 78 = .ok (.iload 5, 2) := all_d dX9_count_all0 45 rfl
theorem dX9_count_80 : decode cX9_count 80 = .ok (.if_icmp .ne 7, 3) := all_d dX9_count_all0 46 rfl
theorem dX9_count_83 : decode cX9_count 83 = .ok (.iconst 1, 1) := all_d dX9_count_all0 47 rfl
theorem dX9_count_84 : decode cX9_count 84 = .ok (.goto 4, 3) := all_d dX9_count_all0 48 rfl
theorem dX9_count_87 : decode cX9_count 87 = .ok (.iconst 0, 1) := all_d dX9_count_all0 49 rfl
theorem dX9_count_88 : decode cX9_count 88 = .ok (.iadd, 1) := all_d dX9_count_all0 50 rfl
theorem dX9_count_89 : decode cX9_count 89 = .ok (.istore 6, 2) := all_d dX9_count_all0 51 rfl
theorem dX9_count_91 : decode cX9_count 91 = .ok (.iload 4, 2) := all_d dX9_count_all0 52 rfl
theorem dX9_count_93 : decode cX9_count 93 = .ok (.iload_n 3, 1) := all_d dX9_count_all0 53 rfl
theorem dX9_count_94 : decode cX9_count 94 = .ok (.iload 7, 2) := all_d dX9_count_all0 54 rfl
theorem dX9_count_96 : decode cX9_count 96 = .ok (.isub, 1) := all_d dX9_count_all0 55 rfl
theorem dX9_count_97 : decode cX9_count 97 = .ok (.if_icmp .gt 7, 3) := all_d dX9_count_all0 56 rfl
theorem dX9_count_100 : decode cX9_count 100 = .ok (.iconst 1, 1) := all_d dX9_count_all0 57 rfl
theorem dX9_count_101 : decode cX9_count 101 = .ok (.goto 4, 3) := all_d dX9_count_all0 58 rfl
theorem dX9_count_104 : decode cX9_count 104 = .ok (.iconst 0, 1) := all_d dX9_count_all0 59 rfl
theorem dX9_count_105 : decode cX9_count 105 = .ok (.istore 8, 2) := all_d dX9_count_all0 60 rfl
theorem dX9_count_107 : decode cX9_count 107 = .ok (.iload 8, 2) := all_d dX9_count_all0 61 rfl
theorem dX9_count_109 : decode cX9_count 109 = .ok (.ifCond .eq (-45), 3) := all_d dX9_count_all0 62 rfl
theorem dX9_count_112 : decode cX9_count 112 = .ok (.iload 7, 2) := all_d dX9_count_all0 63 rfl
theorem dX9_count_114 : decode cX9_count 114 = .ok (.iload 4, 2) := all_d dX9_count_all0 64 rfl
theorem dX9_count_116 : decode cX9_count 116 = .ok (.iadd, 1) := all_d dX9_count_all0 65 rfl
theorem dX9_count_117 : decode cX9_count 117 = .ok (.istore 7, 2) := all_d dX9_count_all0 66 rfl
theorem dX9_count_119 : decode cX9_count 119 = .ok (.goto (-55), 3) := all_d dX9_count_all0 67 rfl
theorem dX9_count_122 : decode cX9_count 122 = .ok (.iload 6, 2) := all_d dX9_count_all0 68 rfl
theorem dX9_count_124 : decode cX9_count 124 = .ok (.ireturn, 1) := all_d dX9_count_all0 69 rfl
set_option maxRecDepth 100000 in
theorem dX9_noise_all0 : ([(0, (.aload_n 0 : Instr), 1), (1, (.iconst 0 : Instr), 1), (2, (.putfield 47 : Instr), 3), (5, (.aload_n 0 : Instr), 1), (6, (.iload_n 1 : Instr), 1), (7, (.bipush (-100) : Instr), 2), (9, (.bipush 100 : Instr), 2), (11, (.invokevirtual 64 : Instr), 3), (14, (.ifCond .eq 15 : Instr), 3), (17, (.aload_n 0 : Instr), 1), (18, (.iload_n 2 : Instr), 1), (19, (.iconst 1 : Instr), 1), (20, (.sipush 1000 : Instr), 3), (23, (.invokevirtual 64 : Instr), 3), (26, (.ifCond .ne 9 : Instr), 3), (29, (.aload_n 0 : Instr), 1), (30, (.iconst 1 : Instr), 1), (31, (.invokevirtual 78 : Instr), 3), (34, (.ireturn : Instr), 1), (35, (.aload_n 0 : Instr), 1), (36, (.getfield 131 : Instr), 3), (39, (.bipush 8 : Instr), 2), (41, (.if_icmp .ne 9 : Instr), 3), (44, (.aload_n 0 : Instr), 1), (45, (.iconst 3 : Instr), 1), (46, (.invokevirtual 78 : Instr), 3), (49, (.ireturn : Instr), 1), (50, (.aload_n 0 : Instr), 1), (51, (.iconst 0 : Instr), 1), (52, (.putfield 51 : Instr), 3), (55, (.aload_n 0 : Instr), 1), (56, (.getfield 16 : Instr), 3), (59, (.aload_n 0 : Instr), 1), (60, (.getfield 131 : Instr), 3), (63, (.iload_n 1 : Instr), 1), (64, (.iastore : Instr), 1), (65, (.aload_n 0 : Instr), 1), (66, (.getfield 19 : Instr), 3), (69, (.aload_n 0 : Instr), 1), (70, (.getfield 131 : Instr), 3), (73, (.iload_n 2 : Instr), 1), (74, (.iastore : Instr), 1), (75, (.aload_n 0 : Instr), 1), (76, (.dup : Instr), 1), (77, (.getfield 131 : Instr), 3), (80, (.iconst 1 : Instr), 1), (81, (.iadd : Instr), 1), (82, (.putfield 131 : Instr), 3), (85, (.aload_n 0 : Instr), 1), (86, (.getfield 131 : Instr), 3), (89, (.ireturn : Instr), 1)] : List (Nat × Instr × Nat)).all (fun q => decide (decode cX9_noise q.1 = .ok (q.2.1, q.2.2))) = true := by decide +kernel
theorem dX9_noise_0 : decode cX9_noise 0 = .ok (.aload_n 0, 1) := all_d dX9_noise_all0 0 rfl
theorem dX9_noise_1 : decode cX9_noise 1 = .ok (.iconst 0, 1) := all_d dX9_noise_all0 1 rfl
theorem dX9_noise_2 : decode cX9_noise 2 = .ok (.putfield 47, 3) := all_d dX9_noise_all0 2 rfl
theorem dX9_noise_5 : decode cX9_noise 5 = .ok (.aload_n 0, 1) := all_d dX9_noise_all0 3 rfl
theorem dX9_noise_6 : decode cX9_noise 6 = .ok (.iload_n 1, 1) := all_d dX9_noise_all0 4 rfl
theorem dX9_noise_7 : decode cX9_noise 7 = .ok (.bipush (-100), 2) := all_d dX9_noise_all0 5 rfl
theorem dX9_noise_9 : decode cX9_noise 9 = .ok (.bipush 100, 2) := all_d dX9_noise_all0 6 rfl
theorem dX9_noise_11 : decode cX9_noise 11 = .ok (.invokevirtual 64, 3) := all_d dX9_noise_all0 7 rfl
theorem dX9_noise_14 : decode cX9_noise 14 = .ok (.ifCond .eq 15, 3) := all_d dX9_noise_all0 8 rfl
theorem dX9_noise_17 : decode cX9_noise 17 = .ok (.aload_n 0, 1) := all_d dX9_noise_all0 9 rfl
theorem dX9_noise_18 : decode cX9_noise 18 = .ok (.iload_n 2, 1) := all_d dX9_noise_all0 10 rfl
theorem dX9_noise_19 : decode cX9_noise 19 = .ok (.iconst 1, 1) := all_d dX9_noise_all0 11 rfl
theorem dX9_noise_20 : decode cX9_noise 20 = .ok (.sipush 1000, 3) := all_d dX9_noise_all0 12 rfl
theorem dX9_noise_23 : decode cX9_noise 23 = .ok (.invokevirtual 64, 3) := all_d dX9_noise_all0 13 rfl
theorem dX9_noise_26 : decode cX9_noise 26 = .ok (.ifCond .ne 9, 3) := all_d dX9_noise_all0 14 rfl
theorem dX9_noise_29 : decode cX9_noise 29 = .ok (.aload_n 0, 1) := all_d dX9_noise_all0 15 rfl
theorem dX9_noise_30 : decode cX9_noise 30 = .ok (.iconst 1, 1) := all_d dX9_noise_all0 16 rfl
theorem dX9_noise_31 : decode cX9_noise 31 = .ok (.invokevirtual 78, 3) := all_d dX9_noise_all0 17 rfl
theorem dX9_noise_34 : decode cX9_noise 34 = .ok (.ireturn, 1) := all_d dX9_noise_all0 18 rfl
theorem dX9_noise_35 : decode cX9_noise 35 = .ok (.aload_n 0, 1) := all_d dX9_noise_all0 19 rfl
theorem dX9_noise_36 : decode cX9_noise 36 = .ok (.getfield 131, 3) := all_d dX9_noise_all0 20 rfl
theorem dX9_noise_39 : decode cX9_noise 39 = .ok (.bipush 8, 2) := all_d dX9_noise_all0 21 rfl
theorem dX9_noise_41 : decode cX9_noise 41 = .ok (.if_icmp .ne 9, 3) := all_d dX9_noise_all0 22 rfl
theorem dX9_noise_44 : decode cX9_noise 44 = .ok (.aload_n 0, 1) := all_d dX9_noise_all0 23 rfl
theorem dX9_noise_45 : decode cX9_noise 45 = .ok (.iconst 3, 1) := all_d dX9_noise_all0 24 rfl
theorem dX9_noise_46 : decode cX9_noise 46 = .ok (.invokevirtual 78, 3) := all_d dX9_noise_all0 25 rfl
theorem dX9_noise_49 : decode cX9_noise 49 = .ok (.ireturn, 1) := all_d dX9_noise_all0 26 rfl
theorem dX9_noise_50 : decode cX9_noise 50 = .ok (.aload_n 0, 1) := all_d dX9_noise_all0 27 rfl
theorem dX9_noise_51 : decode cX9_noise 51 = .ok (.iconst 0, 1) := all_d dX9_noise_all0 28 rfl
theorem dX9_noise_52 : decode cX9_noise 52 = .ok (.putfield 51, 3) := all_d dX9_noise_all0 29 rfl
theorem dX9_noise_55 : decode cX9_noise 55 = .ok (.aload_n 0, 1) := all_d dX9_noise_all0 30 rfl
theorem dX9_noise_56 : decode cX9_noise 56 = .ok (.getfield 16, 3) := all_d dX9_noise_all0 31 rfl
theorem dX9_noise_59 : decode cX9_noise 59 = .ok (.aload_n 0, 1) := all_d dX9_noise_all0 32 rfl
theorem dX9_noise_60 : decode cX9_noise 60 = .ok (.getfield 131, 3) := all_d dX9_noise_all0 33 rfl
theorem dX9_noise_63 : decode cX9_noise 63 = .ok (.iload_n 1, 1) := all_d dX9_noise_all0 34 rfl
theorem dX9_noise_64 : decode cX9_noise 64 = .ok (.iastore, 1) := all_d dX9_noise_all0 35 rfl
theorem dX9_noise_65 : decode cX9_noise 65 = .ok (.aload_n 0, 1) := all_d dX9_noise_all0 36 rfl
theorem dX9_noise_66 : decode cX9_noise 66 = .ok (.getfield 19, 3) := all_d dX9_noise_all0 37 rfl
theorem dX9_noise_69 : decode cX9_noise 69 = .ok (.aload_n 0, 1) := all_d dX9_noise_all0 38 rfl
theorem dX9_noise_70 : decode cX9_noise 70 = .ok (.getfield 131, 3) := all_d dX9_noise_all0 39 rfl
theorem dX9_noise_73 : decode cX9_noise 73 = .ok (.iload_n 2, 1) := all_d dX9_noise_all0 40 rfl
theorem dX9_noise_74 : decode cX9_noise 74 = .ok (.iastore, 1) := all_d dX9_noise_all0 41 rfl
theorem dX9_noise_75 : decode cX9_noise 75 = .ok (.aload_n 0, 1) := all_d dX9_noise_all0 42 rfl
theorem dX9_noise_76 : decode cX9_noise 76 = .ok (.dup, 1) := all_d dX9_noise_all0 43 rfl
theorem dX9_noise_77 : decode cX9_noise 77 = .ok (.getfield 131, 3) := all_d dX9_noise_all0 44 rfl
theorem dX9_noise_80 : decode cX9_noise 80 = .ok (.iconst 1, 1) := all_d dX9_noise_all0 45 rfl
theorem dX9_noise_81 : decode cX9_noise 81 = .ok (.iadd, 1) := all_d dX9_noise_all0 46 rfl
theorem dX9_noise_82 : decode cX9_noise 82 = .ok (.putfield 131, 3) := all_d dX9_noise_all0 47 rfl
theorem dX9_noise_85 : decode cX9_noise 85 = .ok (.aload_n 0, 1) := all_d dX9_noise_all0 48 rfl
theorem dX9_noise_86 : decode cX9_noise 86 = .ok (.getfield 131, 3) := all_d dX9_noise_all0 49 rfl
theorem dX9_noise_89 : decode cX9_noise 89 = .ok (.ireturn, 1) := all_d dX9_noise_all0 50 rfl
set_option maxRecDepth 100000 in
theorem dX9_still_all0 : ([(0, (.aload_n 0 : Instr), 1), (1, (.iconst 0 : Instr), 1), (2, (.putfield 47 : Instr), 3), (5, (.aload_n 0 : Instr), 1), (6, (.getfield 131 : Instr), 3), (9, (.istore_n 1 : Instr), 1), (10, (.aload_n 0 : Instr), 1), (11, (.iconst 0 : Instr), 1), (12, (.putfield 131 : Instr), 3), (15, (.iload_n 1 : Instr), 1), (16, (.ireturn : Instr), 1)] : List (Nat × Instr × Nat)).all (fun q => decide (decode cX9_still q.1 = .ok (q.2.1, q.2.2))) = true := by decide +kernel
theorem dX9_still_0 : decode cX9_still 0 = .ok (.aload_n 0, 1) := all_d dX9_still_all0 0 rfl
theorem dX9_still_1 : decode cX9_still 1 = .ok (.iconst 0, 1) := all_d dX9_still_all0 1 rfl
theorem dX9_still_2 : decode cX9_still 2 = .ok (.putfield 47, 3) := all_d dX9_still_all0 2 rfl
theorem dX9_still_5 : decode cX9_still 5 = .ok (.aload_n 0, 1) := all_d dX9_still_all0 3 rfl
theorem dX9_still_6 : decode cX9_still 6 = .ok (.getfield 131, 3) := all_d dX9_still_all0 4 rfl
theorem dX9_still_9 : decode cX9_still 9 = .ok (.istore_n 1, 1) := all_d dX9_still_all0 5 rfl
theorem dX9_still_10 : decode cX9_still 10 = .ok (.aload_n 0, 1) := all_d dX9_still_all0 6 rfl
theorem dX9_still_11 : decode cX9_still 11 = .ok (.iconst 0, 1) := all_d dX9_still_all0 7 rfl
theorem dX9_still_12 : decode cX9_still 12 = .ok (.putfield 131, 3) := all_d dX9_still_all0 8 rfl
theorem dX9_still_15 : decode cX9_still 15 = .ok (.iload_n 1, 1) := all_d dX9_still_all0 9 rfl
theorem dX9_still_16 : decode cX9_still 16 = .ok (.ireturn, 1) := all_d dX9_still_all0 10 rfl
set_option maxRecDepth 100000 in
theorem dX9_divisor_all0 : ([(0, (.iload_n 1 : Instr), 1), (1, (.ifCond .ge 8 : Instr), 3), (4, (.iload_n 1 : Instr), 1), (5, (.ineg : Instr), 1), (6, (.goto 4 : Instr), 3), (9, (.iload_n 1 : Instr), 1), (10, (.istore_n 3 : Instr), 1), (11, (.iload_n 2 : Instr), 1), (12, (.istore 4 : Instr), 2), (14, (.iload 4 : Instr), 2), (16, (.ifCond .eq 19 : Instr), 3), (19, (.iload_n 3 : Instr), 1), (20, (.iload 4 : Instr), 2), (22, (.irem : Instr), 1), (23, (.istore 5 : Instr), 2), (25, (.iload 4 : Instr), 2), (27, (.istore_n 3 : Instr), 1), (28, (.iload 5 : Instr), 2), (30, (.istore 4 : Instr), 2), (32, (.goto (-18) : Instr), 3), (35, (.iload_n 3 : Instr), 1), (36, (.ireturn : Instr), 1)] : List (Nat × Instr × Nat)).all (fun q => decide (decode cX9_divisor q.1 = .ok (q.2.1, q.2.2))) = true := by decide +kernel
theorem dX9_divisor_0 : decode cX9_divisor 0 = .ok (.iload_n 1, 1) := all_d dX9_divisor_all0 0 rfl
theorem dX9_divisor_1 : decode cX9_divisor 1 = .ok (.ifCond .ge 8, 3) := all_d dX9_divisor_all0 1 rfl
theorem dX9_divisor_4 : decode cX9_divisor 4 = .ok (.iload_n 1, 1) := all_d dX9_divisor_all0 2 rfl
theorem dX9_divisor_5 : decode cX9_divisor 5 = .ok (.ineg, 1) := all_d dX9_divisor_all0 3 rfl
theorem dX9_divisor_6 : decode cX9_divisor 6 = .ok (.goto 4, 3) := all_d dX9_divisor_all0 4 rfl
theorem dX9_divisor_9 : decode cX9_divisor 9 = .ok (.iload_n 1, 1) := all_d dX9_divisor_all0 5 rfl
theorem dX9_divisor_10 : decode cX9_divisor 10 = .ok (.istore_n 3, 1) := all_d dX9_divisor_all0 6 rfl
theorem dX9_divisor_11 : decode cX9_divisor 11 = .ok (.iload_n 2, 1) := all_d dX9_divisor_all0 7 rfl
theorem dX9_divisor_12 : decode cX9_divisor 12 = .ok (.istore 4, 2) := all_d dX9_divisor_all0 8 rfl
theorem dX9_divisor_14 : decode cX9_divisor 14 = .ok (.iload 4, 2) := all_d dX9_divisor_all0 9 rfl
theorem dX9_divisor_16 : decode cX9_divisor 16 = .ok (.ifCond .eq 19, 3) := all_d dX9_divisor_all0 10 rfl
theorem dX9_divisor_19 : decode cX9_divisor 19 = .ok (.iload_n 3, 1) := all_d dX9_divisor_all0 11 rfl
theorem dX9_divisor_20 : decode cX9_divisor 20 = .ok (.iload 4, 2) := all_d dX9_divisor_all0 12 rfl
theorem dX9_divisor_22 : decode cX9_divisor 22 = .ok (.irem, 1) := all_d dX9_divisor_all0 13 rfl
theorem dX9_divisor_23 : decode cX9_divisor 23 = .ok (.istore 5, 2) := all_d dX9_divisor_all0 14 rfl
theorem dX9_divisor_25 : decode cX9_divisor 25 = .ok (.iload 4, 2) := all_d dX9_divisor_all0 15 rfl
theorem dX9_divisor_27 : decode cX9_divisor 27 = .ok (.istore_n 3, 1) := all_d dX9_divisor_all0 16 rfl
theorem dX9_divisor_28 : decode cX9_divisor 28 = .ok (.iload 5, 2) := all_d dX9_divisor_all0 17 rfl
theorem dX9_divisor_30 : decode cX9_divisor 30 = .ok (.istore 4, 2) := all_d dX9_divisor_all0 18 rfl
theorem dX9_divisor_32 : decode cX9_divisor 32 = .ok (.goto (-18), 3) := all_d dX9_divisor_all0 19 rfl
theorem dX9_divisor_35 : decode cX9_divisor 35 = .ok (.iload_n 3, 1) := all_d dX9_divisor_all0 20 rfl
theorem dX9_divisor_36 : decode cX9_divisor 36 = .ok (.ireturn, 1) := all_d dX9_divisor_all0 21 rfl
set_option maxRecDepth 100000 in
theorem dX9_mean_all0 : ([(0, (.aload_n 0 : Instr), 1), (1, (.iconst 0 : Instr), 1), (2, (.putfield 47 : Instr), 3), (5, (.aload_n 0 : Instr), 1), (6, (.iload_n 1 : Instr), 1), (7, (.invokevirtual 68 : Instr), 3), (10, (.ifCond .eq 11 : Instr), 3), (13, (.aload_n 0 : Instr), 1), (14, (.iload_n 2 : Instr), 1), (15, (.invokevirtual 107 : Instr), 3), (18, (.ifCond .ne 9 : Instr), 3), (21, (.aload_n 0 : Instr), 1), (22, (.iconst 2 : Instr), 1), (23, (.invokevirtual 78 : Instr), 3), (26, (.ireturn : Instr), 1), (27, (.aload_n 0 : Instr), 1), (28, (.iconst 0 : Instr), 1), (29, (.putfield 51 : Instr), 3), (32, (.aload_n 0 : Instr), 1), (33, (.getfield 131 : Instr), 3), (36, (.ifCond .ne 18 : Instr), 3), (39, (.iload_n 3 : Instr), 1), (40, (.ifCond .eq 7 : Instr), 3), (43, (.iconst 1 : Instr), 1), (44, (.goto 9 : Instr), 3), (47, (.aload_n 0 : Instr), 1), (48, (.iload_n 1 : Instr), 1), (49, (.iload_n 2 : Instr), 1), (50, (.invokevirtual 110 : Instr), 3), (53, (.ireturn : Instr), 1), (54, (.iconst 0 : Instr), 1), (55, (.istore 4 : Instr), 2), (57, (.iconst 0 : Instr), 1), (58, (.istore 5 : Instr), 2), (60, (.iconst 0 : Instr), 1), (61, (.istore 6 : Instr), 2), (63, (.iload 6 : Instr), 2), (65, (.aload_n 0 : Instr), 1), (66, (.getfield 131 : Instr), 3), (69, (.if_icmp .ge 85 : Instr), 3), (72, (.iload_n 2 : Instr), 1), (73, (.aload_n 0 : Instr), 1), (74, (.getfield 16 : Instr), 3), (77, (.iload 6 : Instr), 2), (79, (.iaload : Instr), 1), (80, (.iadd : Instr), 1), (81, (.istore 7 : Instr), 2), (83, (.iload 7 : Instr), 2), (85, (.ifCond .ge 7 : Instr), 3), (88, (.iconst 0 : Instr), 1), (89, (.goto 25 : Instr), 3), (92, (.iload 7 : Instr), 2), (94, (.aload_n 0 : Instr), 1), (95, (.getfield 7 : Instr), 3), (98, (.iconst 0 : Instr), 1), (99, (.iaload : Instr), 1), (100, (.if_icmp .le 12 : Instr), 3), (103, (.aload_n 0 : Instr), 1), (104, (.getfield 7 : Instr), 3), (107, (.iconst 0 : Instr), 1), (108, (.iaload : Instr), 1), (109, (.goto 5 : Instr), 3), (112, (.iload 7 : Instr), 2), (114, (.istore 7 : Instr), 2), (116, (.iload 4 : Instr), 2), (118, (.aload_n 0 : Instr), 1), (119, (.getfield 19 : Instr), 3), (122, (.iload 6 : Instr), 2), (124, (.iaload : Instr), 1), (125, (.aload_n 0 : Instr), 1), (126, (.iload_n 1 : Instr), 1), (127, (.iload 7 : Instr), 2), (129, (.invokevirtual 110 : Instr), 3), (132, (.imul : Instr), 1), (133, (.iadd : Instr), 1), (134, (.istore 4 : Instr), 2), (136, (.iload 5 : Instr), 2), (138, (.aload_n 0 : Instr), 1), (139, (.getfield 19 : Instr), 3), (142, (.iload 6 : Instr), 2)] : List (Nat × Instr × Nat)).all (fun q => decide (decode cX9_mean q.1 = .ok (q.2.1, q.2.2))) = true := by decide +kernel
theorem dX9_mean_0 : decode cX9_mean 0 = .ok (.aload_n 0, 1) := all_d dX9_mean_all0 0 rfl
theorem dX9_mean_1 : decode cX9_mean 1 = .ok (.iconst 0, 1) := all_d dX9_mean_all0 1 rfl
theorem dX9_mean_2 : decode cX9_mean 2 = .ok (.putfield 47, 3) := all_d dX9_mean_all0 2 rfl
theorem dX9_mean_5 : decode cX9_mean 5 = .ok (.aload_n 0, 1) := all_d dX9_mean_all0 3 rfl
theorem dX9_mean_6 : decode cX9_mean 6 = .ok (.iload_n 1, 1) := all_d dX9_mean_all0 4 rfl
theorem dX9_mean_7 : decode cX9_mean 7 = .ok (.invokevirtual 68, 3) := all_d dX9_mean_all0 5 rfl
theorem dX9_mean_10 : decode cX9_mean 10 = .ok (.ifCond .eq 11, 3) := all_d dX9_mean_all0 6 rfl
theorem dX9_mean_13 : decode cX9_mean 13 = .ok (.aload_n 0, 1) := all_d dX9_mean_all0 7 rfl
theorem dX9_mean_14 : decode cX9_mean 14 = .ok (.iload_n 2, 1) := all_d dX9_mean_all0 8 rfl
theorem dX9_mean_15 : decode cX9_mean 15 = .ok (.invokevirtual 107, 3) := all_d dX9_mean_all0 9 rfl
theorem dX9_mean_18 : decode cX9_mean 18 = .ok (.ifCond .ne 9, 3) := all_d dX9_mean_all0 10 rfl
theorem dX9_mean_21 : decode cX9_mean 21 = .ok (.aload_n 0, 1) := all_d dX9_mean_all0 11 rfl
theorem dX9_mean_22 : decode cX9_mean 22 = .ok (.iconst 2, 1) := all_d dX9_mean_all0 12 rfl
theorem dX9_mean_23 : decode cX9_mean 23 = .ok (.invokevirtual 78, 3) := all_d dX9_mean_all0 13 rfl
theorem dX9_mean_26 : decode cX9_mean 26 = .ok (.ireturn, 1) := all_d dX9_mean_all0 14 rfl
theorem dX9_mean_27 : decode cX9_mean 27 = .ok (.aload_n 0, 1) := all_d dX9_mean_all0 15 rfl
theorem dX9_mean_28 : decode cX9_mean 28 = .ok (.iconst 0, 1) := all_d dX9_mean_all0 16 rfl
theorem dX9_mean_29 : decode cX9_mean 29 = .ok (.putfield 51, 3) := all_d dX9_mean_all0 17 rfl
theorem dX9_mean_32 : decode cX9_mean 32 = .ok (.aload_n 0, 1) := all_d dX9_mean_all0 18 rfl
theorem dX9_mean_33 : decode cX9_mean 33 = .ok (.getfield 131, 3) := all_d dX9_mean_all0 19 rfl
theorem dX9_mean_36 : decode cX9_mean 36 = .ok (.ifCond .ne 18, 3) := all_d dX9_mean_all0 20 rfl
theorem dX9_mean_39 : decode cX9_mean 39 = .ok (.iload_n 3, 1) := all_d dX9_mean_all0 21 rfl
theorem dX9_mean_40 : decode cX9_mean 40 = .ok (.ifCond .eq 7, 3) := all_d dX9_mean_all0 22 rfl
theorem dX9_mean_43 : decode cX9_mean 43 = .ok (.iconst 1, 1) := all_d dX9_mean_all0 23 rfl
theorem dX9_mean_44 : decode cX9_mean 44 = .ok (.goto 9, 3) := all_d dX9_mean_all0 24 rfl
theorem dX9_mean_47 : decode cX9_mean 47 = .ok (.aload_n 0, 1) := all_d dX9_mean_all0 25 rfl
theorem dX9_mean_48 : decode cX9_mean 48 = .ok (.iload_n 1, 1) := all_d dX9_mean_all0 26 rfl
theorem dX9_mean_49 : decode cX9_mean 49 = .ok (.iload_n 2, 1) := all_d dX9_mean_all0 27 rfl
theorem dX9_mean_50 : decode cX9_mean 50 = .ok (.invokevirtual 110, 3) := all_d dX9_mean_all0 28 rfl
theorem dX9_mean_53 : decode cX9_mean 53 = .ok (.ireturn, 1) := all_d dX9_mean_all0 29 rfl
theorem dX9_mean_54 : decode cX9_mean 54 = .ok (.iconst 0, 1) := all_d dX9_mean_all0 30 rfl
theorem dX9_mean_55 : decode cX9_mean 55 = .ok (.istore 4, 2) := all_d dX9_mean_all0 31 rfl
theorem dX9_mean_57 : decode cX9_mean 57 = .ok (.iconst 0, 1) := all_d dX9_mean_all0 32 rfl
theorem dX9_mean_58 : decode cX9_mean 58 = .ok (.istore 5, 2) := all_d dX9_mean_all0 33 rfl
theorem dX9_mean_60 : decode cX9_mean 60 = .ok (.iconst 0, 1) := all_d dX9_mean_all0 34 rfl
theorem dX9_mean_61 : decode cX9_mean 61 = .ok (.istore 6, 2) := all_d dX9_mean_all0 35 rfl
theorem dX9_mean_63 : decode cX9_mean 63 = .ok (.iload 6, 2) := all_d dX9_mean_all0 36 rfl
theorem dX9_mean_65 : decode cX9_mean 65 = .ok (.aload_n 0, 1) := all_d dX9_mean_all0 37 rfl
theorem dX9_mean_66 : decode cX9_mean 66 = .ok (.getfield 131, 3) := all_d dX9_mean_all0 38 rfl
theorem dX9_mean_69 : decode cX9_mean 69 = .ok (.if_icmp .ge 85, 3) := all_d dX9_mean_all0 39 rfl
theorem dX9_mean_72 : decode cX9_mean 72 = .ok (.iload_n 2, 1) := all_d dX9_mean_all0 40 rfl
theorem dX9_mean_73 : decode cX9_mean 73 = .ok (.aload_n 0, 1) := all_d dX9_mean_all0 41 rfl
theorem dX9_mean_74 : decode cX9_mean 74 = .ok (.getfield 16, 3) := all_d dX9_mean_all0 42 rfl
theorem dX9_mean_77 : decode cX9_mean 77 = .ok (.iload 6, 2) := all_d dX9_mean_all0 43 rfl
theorem dX9_mean_79 : decode cX9_mean 79 = .ok (.iaload, 1) := all_d dX9_mean_all0 44 rfl
theorem dX9_mean_80 : decode cX9_mean 80 = .ok (.iadd, 1) := all_d dX9_mean_all0 45 rfl
theorem dX9_mean_81 : decode cX9_mean 81 = .ok (.istore 7, 2) := all_d dX9_mean_all0 46 rfl
theorem dX9_mean_83 : decode cX9_mean 83 = .ok (.iload 7, 2) := all_d dX9_mean_all0 47 rfl
theorem dX9_mean_85 : decode cX9_mean 85 = .ok (.ifCond .ge 7, 3) := all_d dX9_mean_all0 48 rfl
theorem dX9_mean_88 : decode cX9_mean 88 = .ok (.iconst 0, 1) := all_d dX9_mean_all0 49 rfl
theorem dX9_mean_89 : decode cX9_mean 89 = .ok (.goto 25, 3) := all_d dX9_mean_all0 50 rfl
theorem dX9_mean_92 : decode cX9_mean 92 = .ok (.iload 7, 2) := all_d dX9_mean_all0 51 rfl
theorem dX9_mean_94 : decode cX9_mean 94 = .ok (.aload_n 0, 1) := all_d dX9_mean_all0 52 rfl
theorem dX9_mean_95 : decode cX9_mean 95 = .ok (.getfield 7, 3) := all_d dX9_mean_all0 53 rfl
theorem dX9_mean_98 : decode cX9_mean 98 = .ok (.iconst 0, 1) := all_d dX9_mean_all0 54 rfl
theorem dX9_mean_99 : decode cX9_mean 99 = .ok (.iaload, 1) := all_d dX9_mean_all0 55 rfl
theorem dX9_mean_100 : decode cX9_mean 100 = .ok (.if_icmp .le 12, 3) := all_d dX9_mean_all0 56 rfl
theorem dX9_mean_103 : decode cX9_mean 103 = .ok (.aload_n 0, 1) := all_d dX9_mean_all0 57 rfl
theorem dX9_mean_104 : decode cX9_mean 104 = .ok (.getfield 7, 3) := all_d dX9_mean_all0 58 rfl
theorem dX9_mean_107 : decode cX9_mean 107 = .ok (.iconst 0, 1) := all_d dX9_mean_all0 59 rfl
theorem dX9_mean_108 : decode cX9_mean 108 = .ok (.iaload, 1) := all_d dX9_mean_all0 60 rfl
theorem dX9_mean_109 : decode cX9_mean 109 = .ok (.goto 5, 3) := all_d dX9_mean_all0 61 rfl
theorem dX9_mean_112 : decode cX9_mean 112 = .ok (.iload 7, 2) := all_d dX9_mean_all0 62 rfl
theorem dX9_mean_114 : decode cX9_mean 114 = .ok (.istore 7, 2) := all_d dX9_mean_all0 63 rfl
theorem dX9_mean_116 : decode cX9_mean 116 = .ok (.iload 4, 2) := all_d dX9_mean_all0 64 rfl
theorem dX9_mean_118 : decode cX9_mean 118 = .ok (.aload_n 0, 1) := all_d dX9_mean_all0 65 rfl
theorem dX9_mean_119 : decode cX9_mean 119 = .ok (.getfield 19, 3) := all_d dX9_mean_all0 66 rfl
theorem dX9_mean_122 : decode cX9_mean 122 = .ok (.iload 6, 2) := all_d dX9_mean_all0 67 rfl
theorem dX9_mean_124 : decode cX9_mean 124 = .ok (.iaload, 1) := all_d dX9_mean_all0 68 rfl
theorem dX9_mean_125 : decode cX9_mean 125 = .ok (.aload_n 0, 1) := all_d dX9_mean_all0 69 rfl
theorem dX9_mean_126 : decode cX9_mean 126 = .ok (.iload_n 1, 1) := all_d dX9_mean_all0 70 rfl
theorem dX9_mean_127 : decode cX9_mean 127 = .ok (.iload 7, 2) := all_d dX9_mean_all0 71 rfl
theorem dX9_mean_129 : decode cX9_mean 129 = .ok (.invokevirtual 110, 3) := all_d dX9_mean_all0 72 rfl
theorem dX9_mean_132 : decode cX9_mean 132 = .ok (.imul, 1) := all_d dX9_mean_all0 73 rfl
theorem dX9_mean_133 : decode cX9_mean 133 = .ok (.iadd, 1) := all_d dX9_mean_all0 74 rfl
theorem dX9_mean_134 : decode cX9_mean 134 = .ok (.istore 4, 2) := all_d dX9_mean_all0 75 rfl
theorem dX9_mean_136 : decode cX9_mean 136 = .ok (.iload 5, 2) := all_d dX9_mean_all0 76 rfl
theorem dX9_mean_138 : decode cX9_mean 138 = .ok (.aload_n 0, 1) := all_d dX9_mean_all0 77 rfl
theorem dX9_mean_139 : decode cX9_mean 139 = .ok (.getfield 19, 3) := all_d dX9_mean_all0 78 rfl
theorem dX9_mean_142 : decode cX9_mean 142 = .ok (.iload 6, 2) := all_d dX9_mean_all0 79 rfl
set_option maxRecDepth 100000 in
theorem dX9_mean_all1 : ([(144, (.iaload : Instr), 1), (145, (.iadd : Instr), 1), (146, (.istore 5 : Instr), 2), (148, (.iinc 6 1 : Instr), 3), (151, (.goto (-88) : Instr), 3), (154, (.aload_n 0 : Instr), 1), (155, (.iload 4 : Instr), 2), (157, (.iload 5 : Instr), 2), (159, (.invokevirtual 134 : Instr), 3), (162, (.istore 6 : Instr), 2), (164, (.iload_n 3 : Instr), 1), (165, (.ifCond .eq 11 : Instr), 3), (168, (.iload 5 : Instr), 2), (170, (.iload 6 : Instr), 2), (172, (.idiv : Instr), 1), (173, (.goto 8 : Instr), 3), (176, (.iload 4 : Instr), 2), (178, (.iload 6 : Instr), 2), (180, (.idiv : Instr), 1), (181, (.ireturn : Instr), 1)] : List (Nat × Instr × Nat)).all (fun q => decide (decode cX9_mean q.1 = .ok (q.2.1, q.2.2))) = true := by decide +kernel
theorem dX9_mean_144 : decode cX9_mean 144 = .ok (.iaload, 1) := all_d dX9_mean_all1 0 rfl
theorem dX9_mean_145 : decode cX9_mean 145 = .ok (.iadd, 1) := all_d dX9_mean_all1 1 rfl
theorem dX9_mean_146 : decode cX9_mean 146 = .ok (.istore 5, 2) := all_d dX9_mean_all1 2 rfl
theorem dX9_mean_148 : decode cX9_mean 148 = .ok (.iinc 6 1, 3) := all_d dX9_mean_all1 3 rfl
theorem dX9_mean_151 : decode cX9_mean 151 = .ok (.goto (-88), 3) := all_d dX9_mean_all1 4 rfl
theorem dX9_mean_154 : decode cX9_mean 154 = .ok (.aload_n 0, 1) := all_d dX9_mean_all1 5 rfl
theorem dX9_mean_155 : decode cX9_mean 155 = .ok (.iload 4, 2) := all_d dX9_mean_all1 6 rfl
theorem dX9_mean_157 : decode cX9_mean 157 = .ok (.iload 5, 2) := all_d dX9_mean_all1 7 rfl
theorem dX9_mean_159 : decode cX9_mean 159 = .ok (.invokevirtual 134, 3) := all_d dX9_mean_all1 8 rfl
theorem dX9_mean_162 : decode cX9_mean 162 = .ok (.istore 6, 2) := all_d dX9_mean_all1 9 rfl
theorem dX9_mean_164 : decode cX9_mean 164 = .ok (.iload_n 3, 1) := all_d dX9_mean_all1 10 rfl
theorem dX9_mean_165 : decode cX9_mean 165 = .ok (.ifCond .eq 11, 3) := all_d dX9_mean_all1 11 rfl
theorem dX9_mean_168 : decode cX9_mean 168 = .ok (.iload 5, 2) := all_d dX9_mean_all1 12 rfl
theorem dX9_mean_170 : decode cX9_mean 170 = .ok (.iload 6, 2) := all_d dX9_mean_all1 13 rfl
theorem dX9_mean_172 : decode cX9_mean 172 = .ok (.idiv, 1) := all_d dX9_mean_all1 14 rfl
theorem dX9_mean_173 : decode cX9_mean 173 = .ok (.goto 8, 3) := all_d dX9_mean_all1 15 rfl
theorem dX9_mean_176 : decode cX9_mean 176 = .ok (.iload 4, 2) := all_d dX9_mean_all1 16 rfl
theorem dX9_mean_178 : decode cX9_mean 178 = .ok (.iload 6, 2) := all_d dX9_mean_all1 17 rfl
theorem dX9_mean_180 : decode cX9_mean 180 = .ok (.idiv, 1) := all_d dX9_mean_all1 18 rfl
theorem dX9_mean_181 : decode cX9_mean 181 = .ok (.ireturn, 1) := all_d dX9_mean_all1 19 rfl
set_option maxRecDepth 100000 in
theorem dX9_fault_all0 : ([(0, (.aload_n 0 : Instr), 1), (1, (.iconst 0 : Instr), 1), (2, (.putfield 47 : Instr), 3), (5, (.aload_n 0 : Instr), 1), (6, (.iload_n 1 : Instr), 1), (7, (.iload_n 2 : Instr), 1), (8, (.invokevirtual 60 : Instr), 3), (11, (.ifCond .ne 9 : Instr), 3), (14, (.aload_n 0 : Instr), 1), (15, (.iconst 2 : Instr), 1), (16, (.invokevirtual 78 : Instr), 3), (19, (.ireturn : Instr), 1), (20, (.aload_n 0 : Instr), 1), (21, (.iload_n 3 : Instr), 1), (22, (.sipush (-500) : Instr), 3), (25, (.sipush 500 : Instr), 3), (28, (.invokevirtual 64 : Instr), 3), (31, (.ifCond .ne 9 : Instr), 3), (34, (.aload_n 0 : Instr), 1), (35, (.iconst 1 : Instr), 1), (36, (.invokevirtual 78 : Instr), 3), (39, (.ireturn : Instr), 1), (40, (.aload_n 0 : Instr), 1), (41, (.getfield 57 : Instr), 3), (44, (.bipush 10 : Instr), 2), (46, (.if_icmp .ne 9 : Instr), 3), (49, (.aload_n 0 : Instr), 1), (50, (.iconst 3 : Instr), 1), (51, (.invokevirtual 78 : Instr), 3), (54, (.ireturn : Instr), 1), (55, (.aload_n 0 : Instr), 1), (56, (.iconst 0 : Instr), 1), (57, (.putfield 51 : Instr), 3), (60, (.aload_n 0 : Instr), 1), (61, (.getfield 22 : Instr), 3), (64, (.aload_n 0 : Instr), 1), (65, (.getfield 57 : Instr), 3), (68, (.iload_n 1 : Instr), 1), (69, (.iastore : Instr), 1), (70, (.aload_n 0 : Instr), 1), (71, (.getfield 25 : Instr), 3), (74, (.aload_n 0 : Instr), 1), (75, (.getfield 57 : Instr), 3), (78, (.iload_n 2 : Instr), 1), (79, (.iastore : Instr), 1), (80, (.aload_n 0 : Instr), 1), (81, (.getfield 28 : Instr), 3), (84, (.aload_n 0 : Instr), 1), (85, (.getfield 57 : Instr), 3), (88, (.iload_n 3 : Instr), 1), (89, (.iastore : Instr), 1), (90, (.aload_n 0 : Instr), 1), (91, (.dup : Instr), 1), (92, (.getfield 57 : Instr), 3), (95, (.iconst 1 : Instr), 1), (96, (.iadd : Instr), 1), (97, (.putfield 57 : Instr), 3), (100, (.aload_n 0 : Instr), 1), (101, (.getfield 57 : Instr), 3), (104, (.ireturn : Instr), 1)] : List (Nat × Instr × Nat)).all (fun q => decide (decode cX9_fault q.1 = .ok (q.2.1, q.2.2))) = true := by decide +kernel
theorem dX9_fault_0 : decode cX9_fault 0 = .ok (.aload_n 0, 1) := all_d dX9_fault_all0 0 rfl
theorem dX9_fault_1 : decode cX9_fault 1 = .ok (.iconst 0, 1) := all_d dX9_fault_all0 1 rfl
theorem dX9_fault_2 : decode cX9_fault 2 = .ok (.putfield 47, 3) := all_d dX9_fault_all0 2 rfl
theorem dX9_fault_5 : decode cX9_fault 5 = .ok (.aload_n 0, 1) := all_d dX9_fault_all0 3 rfl
theorem dX9_fault_6 : decode cX9_fault 6 = .ok (.iload_n 1, 1) := all_d dX9_fault_all0 4 rfl
theorem dX9_fault_7 : decode cX9_fault 7 = .ok (.iload_n 2, 1) := all_d dX9_fault_all0 5 rfl
theorem dX9_fault_8 : decode cX9_fault 8 = .ok (.invokevirtual 60, 3) := all_d dX9_fault_all0 6 rfl
theorem dX9_fault_11 : decode cX9_fault 11 = .ok (.ifCond .ne 9, 3) := all_d dX9_fault_all0 7 rfl
theorem dX9_fault_14 : decode cX9_fault 14 = .ok (.aload_n 0, 1) := all_d dX9_fault_all0 8 rfl
theorem dX9_fault_15 : decode cX9_fault 15 = .ok (.iconst 2, 1) := all_d dX9_fault_all0 9 rfl
theorem dX9_fault_16 : decode cX9_fault 16 = .ok (.invokevirtual 78, 3) := all_d dX9_fault_all0 10 rfl
theorem dX9_fault_19 : decode cX9_fault 19 = .ok (.ireturn, 1) := all_d dX9_fault_all0 11 rfl
theorem dX9_fault_20 : decode cX9_fault 20 = .ok (.aload_n 0, 1) := all_d dX9_fault_all0 12 rfl
theorem dX9_fault_21 : decode cX9_fault 21 = .ok (.iload_n 3, 1) := all_d dX9_fault_all0 13 rfl
theorem dX9_fault_22 : decode cX9_fault 22 = .ok (.sipush (-500), 3) := all_d dX9_fault_all0 14 rfl
theorem dX9_fault_25 : decode cX9_fault 25 = .ok (.sipush 500, 3) := all_d dX9_fault_all0 15 rfl
theorem dX9_fault_28 : decode cX9_fault 28 = .ok (.invokevirtual 64, 3) := all_d dX9_fault_all0 16 rfl
theorem dX9_fault_31 : decode cX9_fault 31 = .ok (.ifCond .ne 9, 3) := all_d dX9_fault_all0 17 rfl
theorem dX9_fault_34 : decode cX9_fault 34 = .ok (.aload_n 0, 1) := all_d dX9_fault_all0 18 rfl
theorem dX9_fault_35 : decode cX9_fault 35 = .ok (.iconst 1, 1) := all_d dX9_fault_all0 19 rfl
theorem dX9_fault_36 : decode cX9_fault 36 = .ok (.invokevirtual 78, 3) := all_d dX9_fault_all0 20 rfl
theorem dX9_fault_39 : decode cX9_fault 39 = .ok (.ireturn, 1) := all_d dX9_fault_all0 21 rfl
theorem dX9_fault_40 : decode cX9_fault 40 = .ok (.aload_n 0, 1) := all_d dX9_fault_all0 22 rfl
theorem dX9_fault_41 : decode cX9_fault 41 = .ok (.getfield 57, 3) := all_d dX9_fault_all0 23 rfl
theorem dX9_fault_44 : decode cX9_fault 44 = .ok (.bipush 10, 2) := all_d dX9_fault_all0 24 rfl
theorem dX9_fault_46 : decode cX9_fault 46 = .ok (.if_icmp .ne 9, 3) := all_d dX9_fault_all0 25 rfl
theorem dX9_fault_49 : decode cX9_fault 49 = .ok (.aload_n 0, 1) := all_d dX9_fault_all0 26 rfl
theorem dX9_fault_50 : decode cX9_fault 50 = .ok (.iconst 3, 1) := all_d dX9_fault_all0 27 rfl
theorem dX9_fault_51 : decode cX9_fault 51 = .ok (.invokevirtual 78, 3) := all_d dX9_fault_all0 28 rfl
theorem dX9_fault_54 : decode cX9_fault 54 = .ok (.ireturn, 1) := all_d dX9_fault_all0 29 rfl
theorem dX9_fault_55 : decode cX9_fault 55 = .ok (.aload_n 0, 1) := all_d dX9_fault_all0 30 rfl
theorem dX9_fault_56 : decode cX9_fault 56 = .ok (.iconst 0, 1) := all_d dX9_fault_all0 31 rfl
theorem dX9_fault_57 : decode cX9_fault 57 = .ok (.putfield 51, 3) := all_d dX9_fault_all0 32 rfl
theorem dX9_fault_60 : decode cX9_fault 60 = .ok (.aload_n 0, 1) := all_d dX9_fault_all0 33 rfl
theorem dX9_fault_61 : decode cX9_fault 61 = .ok (.getfield 22, 3) := all_d dX9_fault_all0 34 rfl
theorem dX9_fault_64 : decode cX9_fault 64 = .ok (.aload_n 0, 1) := all_d dX9_fault_all0 35 rfl
theorem dX9_fault_65 : decode cX9_fault 65 = .ok (.getfield 57, 3) := all_d dX9_fault_all0 36 rfl
theorem dX9_fault_68 : decode cX9_fault 68 = .ok (.iload_n 1, 1) := all_d dX9_fault_all0 37 rfl
theorem dX9_fault_69 : decode cX9_fault 69 = .ok (.iastore, 1) := all_d dX9_fault_all0 38 rfl
theorem dX9_fault_70 : decode cX9_fault 70 = .ok (.aload_n 0, 1) := all_d dX9_fault_all0 39 rfl
theorem dX9_fault_71 : decode cX9_fault 71 = .ok (.getfield 25, 3) := all_d dX9_fault_all0 40 rfl
theorem dX9_fault_74 : decode cX9_fault 74 = .ok (.aload_n 0, 1) := all_d dX9_fault_all0 41 rfl
theorem dX9_fault_75 : decode cX9_fault 75 = .ok (.getfield 57, 3) := all_d dX9_fault_all0 42 rfl
theorem dX9_fault_78 : decode cX9_fault 78 = .ok (.iload_n 2, 1) := all_d dX9_fault_all0 43 rfl
theorem dX9_fault_79 : decode cX9_fault 79 = .ok (.iastore, 1) := all_d dX9_fault_all0 44 rfl
theorem dX9_fault_80 : decode cX9_fault 80 = .ok (.aload_n 0, 1) := all_d dX9_fault_all0 45 rfl
theorem dX9_fault_81 : decode cX9_fault 81 = .ok (.getfield 28, 3) := all_d dX9_fault_all0 46 rfl
theorem dX9_fault_84 : decode cX9_fault 84 = .ok (.aload_n 0, 1) := all_d dX9_fault_all0 47 rfl
theorem dX9_fault_85 : decode cX9_fault 85 = .ok (.getfield 57, 3) := all_d dX9_fault_all0 48 rfl
theorem dX9_fault_88 : decode cX9_fault 88 = .ok (.iload_n 3, 1) := all_d dX9_fault_all0 49 rfl
theorem dX9_fault_89 : decode cX9_fault 89 = .ok (.iastore, 1) := all_d dX9_fault_all0 50 rfl
theorem dX9_fault_90 : decode cX9_fault 90 = .ok (.aload_n 0, 1) := all_d dX9_fault_all0 51 rfl
theorem dX9_fault_91 : decode cX9_fault 91 = .ok (.dup, 1) := all_d dX9_fault_all0 52 rfl
theorem dX9_fault_92 : decode cX9_fault 92 = .ok (.getfield 57, 3) := all_d dX9_fault_all0 53 rfl
theorem dX9_fault_95 : decode cX9_fault 95 = .ok (.iconst 1, 1) := all_d dX9_fault_all0 54 rfl
theorem dX9_fault_96 : decode cX9_fault 96 = .ok (.iadd, 1) := all_d dX9_fault_all0 55 rfl
theorem dX9_fault_97 : decode cX9_fault 97 = .ok (.putfield 57, 3) := all_d dX9_fault_all0 56 rfl
theorem dX9_fault_100 : decode cX9_fault 100 = .ok (.aload_n 0, 1) := all_d dX9_fault_all0 57 rfl
theorem dX9_fault_101 : decode cX9_fault 101 = .ok (.getfield 57, 3) := all_d dX9_fault_all0 58 rfl
theorem dX9_fault_104 : decode cX9_fault 104 = .ok (.ireturn, 1) := all_d dX9_fault_all0 59 rfl
set_option maxRecDepth 100000 in
theorem dX9_clear_all0 : ([(0, (.aload_n 0 : Instr), 1), (1, (.iconst 0 : Instr), 1), (2, (.putfield 47 : Instr), 3), (5, (.aload_n 0 : Instr), 1), (6, (.getfield 57 : Instr), 3), (9, (.istore_n 1 : Instr), 1), (10, (.aload_n 0 : Instr), 1), (11, (.iconst 0 : Instr), 1), (12, (.putfield 57 : Instr), 3), (15, (.iload_n 1 : Instr), 1), (16, (.ireturn : Instr), 1)] : List (Nat × Instr × Nat)).all (fun q => decide (decode cX9_clear q.1 = .ok (q.2.1, q.2.2))) = true := by decide +kernel
theorem dX9_clear_0 : decode cX9_clear 0 = .ok (.aload_n 0, 1) := all_d dX9_clear_all0 0 rfl
theorem dX9_clear_1 : decode cX9_clear 1 = .ok (.iconst 0, 1) := all_d dX9_clear_all0 1 rfl
theorem dX9_clear_2 : decode cX9_clear 2 = .ok (.putfield 47, 3) := all_d dX9_clear_all0 2 rfl
theorem dX9_clear_5 : decode cX9_clear 5 = .ok (.aload_n 0, 1) := all_d dX9_clear_all0 3 rfl
theorem dX9_clear_6 : decode cX9_clear 6 = .ok (.getfield 57, 3) := all_d dX9_clear_all0 4 rfl
theorem dX9_clear_9 : decode cX9_clear 9 = .ok (.istore_n 1, 1) := all_d dX9_clear_all0 5 rfl
theorem dX9_clear_10 : decode cX9_clear 10 = .ok (.aload_n 0, 1) := all_d dX9_clear_all0 6 rfl
theorem dX9_clear_11 : decode cX9_clear 11 = .ok (.iconst 0, 1) := all_d dX9_clear_all0 7 rfl
theorem dX9_clear_12 : decode cX9_clear 12 = .ok (.putfield 57, 3) := all_d dX9_clear_all0 8 rfl
theorem dX9_clear_15 : decode cX9_clear 15 = .ok (.iload_n 1, 1) := all_d dX9_clear_all0 9 rfl
theorem dX9_clear_16 : decode cX9_clear 16 = .ok (.ireturn, 1) := all_d dX9_clear_all0 10 rfl
set_option maxRecDepth 100000 in
theorem dX9_faulty_all0 : ([(0, (.aload_n 0 : Instr), 1), (1, (.aload_n 0 : Instr), 1), (2, (.getfield 22 : Instr), 3), (5, (.iload_n 1 : Instr), 1), (6, (.iaload : Instr), 1), (7, (.aload_n 0 : Instr), 1), (8, (.getfield 25 : Instr), 3), (11, (.iload_n 1 : Instr), 1), (12, (.iaload : Instr), 1), (13, (.invokevirtual 85 : Instr), 3), (16, (.iconst 1 : Instr), 1), (17, (.iadd : Instr), 1), (18, (.istore_n 3 : Instr), 1), (19, (.aload_n 0 : Instr), 1), (20, (.getfield 7 : Instr), 3), (23, (.iload_n 3 : Instr), 1), (24, (.iaload : Instr), 1), (25, (.istore 4 : Instr), 2), (27, (.aload_n 0 : Instr), 1), (28, (.getfield 7 : Instr), 3), (31, (.iload_n 3 : Instr), 1), (32, (.aload_n 0 : Instr), 1), (33, (.getfield 28 : Instr), 3), (36, (.iload_n 1 : Instr), 1), (37, (.iaload : Instr), 1), (38, (.iastore : Instr), 1), (39, (.aload_n 0 : Instr), 1), (40, (.aload_n 0 : Instr), 1), (41, (.getfield 22 : Instr), 3), (44, (.iload_n 1 : Instr), 1), (45, (.iaload : Instr), 1), (46, (.iload_n 2 : Instr), 1), (47, (.invokevirtual 110 : Instr), 3), (50, (.istore 5 : Instr), 2), (52, (.aload_n 0 : Instr), 1), (53, (.getfield 7 : Instr), 3), (56, (.iload_n 3 : Instr), 1), (57, (.iload 4 : Instr), 2), (59, (.iastore : Instr), 1), (60, (.iload 5 : Instr), 2), (62, (.ireturn : Instr), 1)] : List (Nat × Instr × Nat)).all (fun q => decide (decode cX9_faulty q.1 = .ok (q.2.1, q.2.2))) = true := by decide +kernel
theorem dX9_faulty_0 : decode cX9_faulty 0 = .ok (.aload_n 0, 1) := all_d dX9_faulty_all0 0 rfl
theorem dX9_faulty_1 : decode cX9_faulty 1 = .ok (.aload_n 0, 1) := all_d dX9_faulty_all0 1 rfl
theorem dX9_faulty_2 : decode cX9_faulty 2 = .ok (.getfield 22, 3) := all_d dX9_faulty_all0 2 rfl
theorem dX9_faulty_5 : decode cX9_faulty 5 = .ok (.iload_n 1, 1) := all_d dX9_faulty_all0 3 rfl
theorem dX9_faulty_6 : decode cX9_faulty 6 = .ok (.iaload, 1) := all_d dX9_faulty_all0 4 rfl
theorem dX9_faulty_7 : decode cX9_faulty 7 = .ok (.aload_n 0, 1) := all_d dX9_faulty_all0 5 rfl
theorem dX9_faulty_8 : decode cX9_faulty 8 = .ok (.getfield 25, 3) := all_d dX9_faulty_all0 6 rfl
theorem dX9_faulty_11 : decode cX9_faulty 11 = .ok (.iload_n 1, 1) := all_d dX9_faulty_all0 7 rfl
theorem dX9_faulty_12 : decode cX9_faulty 12 = .ok (.iaload, 1) := all_d dX9_faulty_all0 8 rfl
theorem dX9_faulty_13 : decode cX9_faulty 13 = .ok (.invokevirtual 85, 3) := all_d dX9_faulty_all0 9 rfl
theorem dX9_faulty_16 : decode cX9_faulty 16 = .ok (.iconst 1, 1) := all_d dX9_faulty_all0 10 rfl
theorem dX9_faulty_17 : decode cX9_faulty 17 = .ok (.iadd, 1) := all_d dX9_faulty_all0 11 rfl
theorem dX9_faulty_18 : decode cX9_faulty 18 = .ok (.istore_n 3, 1) := all_d dX9_faulty_all0 12 rfl
theorem dX9_faulty_19 : decode cX9_faulty 19 = .ok (.aload_n 0, 1) := all_d dX9_faulty_all0 13 rfl
theorem dX9_faulty_20 : decode cX9_faulty 20 = .ok (.getfield 7, 3) := all_d dX9_faulty_all0 14 rfl
theorem dX9_faulty_23 : decode cX9_faulty 23 = .ok (.iload_n 3, 1) := all_d dX9_faulty_all0 15 rfl
theorem dX9_faulty_24 : decode cX9_faulty 24 = .ok (.iaload, 1) := all_d dX9_faulty_all0 16 rfl
theorem dX9_faulty_25 : decode cX9_faulty 25 = .ok (.istore 4, 2) := all_d dX9_faulty_all0 17 rfl
theorem dX9_faulty_27 : decode cX9_faulty 27 = .ok (.aload_n 0, 1) := all_d dX9_faulty_all0 18 rfl
theorem dX9_faulty_28 : decode cX9_faulty 28 = .ok (.getfield 7, 3) := all_d dX9_faulty_all0 19 rfl
theorem dX9_faulty_31 : decode cX9_faulty 31 = .ok (.iload_n 3, 1) := all_d dX9_faulty_all0 20 rfl
theorem dX9_faulty_32 : decode cX9_faulty 32 = .ok (.aload_n 0, 1) := all_d dX9_faulty_all0 21 rfl
theorem dX9_faulty_33 : decode cX9_faulty 33 = .ok (.getfield 28, 3) := all_d dX9_faulty_all0 22 rfl
theorem dX9_faulty_36 : decode cX9_faulty 36 = .ok (.iload_n 1, 1) := all_d dX9_faulty_all0 23 rfl
theorem dX9_faulty_37 : decode cX9_faulty 37 = .ok (.iaload, 1) := all_d dX9_faulty_all0 24 rfl
theorem dX9_faulty_38 : decode cX9_faulty 38 = .ok (.iastore, 1) := all_d dX9_faulty_all0 25 rfl
theorem dX9_faulty_39 : decode cX9_faulty 39 = .ok (.aload_n 0, 1) := all_d dX9_faulty_all0 26 rfl
theorem dX9_faulty_40 : decode cX9_faulty 40 = .ok (.aload_n 0, 1) := all_d dX9_faulty_all0 27 rfl
theorem dX9_faulty_41 : decode cX9_faulty 41 = .ok (.getfield 22, 3) := all_d dX9_faulty_all0 28 rfl
theorem dX9_faulty_44 : decode cX9_faulty 44 = .ok (.iload_n 1, 1) := all_d dX9_faulty_all0 29 rfl
theorem dX9_faulty_45 : decode cX9_faulty 45 = .ok (.iaload, 1) := all_d dX9_faulty_all0 30 rfl
theorem dX9_faulty_46 : decode cX9_faulty 46 = .ok (.iload_n 2, 1) := all_d dX9_faulty_all0 31 rfl
theorem dX9_faulty_47 : decode cX9_faulty 47 = .ok (.invokevirtual 110, 3) := all_d dX9_faulty_all0 32 rfl
theorem dX9_faulty_50 : decode cX9_faulty 50 = .ok (.istore 5, 2) := all_d dX9_faulty_all0 33 rfl
theorem dX9_faulty_52 : decode cX9_faulty 52 = .ok (.aload_n 0, 1) := all_d dX9_faulty_all0 34 rfl
theorem dX9_faulty_53 : decode cX9_faulty 53 = .ok (.getfield 7, 3) := all_d dX9_faulty_all0 35 rfl
theorem dX9_faulty_56 : decode cX9_faulty 56 = .ok (.iload_n 3, 1) := all_d dX9_faulty_all0 36 rfl
theorem dX9_faulty_57 : decode cX9_faulty 57 = .ok (.iload 4, 2) := all_d dX9_faulty_all0 37 rfl
theorem dX9_faulty_59 : decode cX9_faulty 59 = .ok (.iastore, 1) := all_d dX9_faulty_all0 38 rfl
theorem dX9_faulty_60 : decode cX9_faulty 60 = .ok (.iload 5, 2) := all_d dX9_faulty_all0 39 rfl
theorem dX9_faulty_62 : decode cX9_faulty 62 = .ok (.ireturn, 1) := all_d dX9_faulty_all0 40 rfl
set_option maxRecDepth 100000 in
theorem dX9_showsAt_all0 : ([(0, (.aload_n 0 : Instr), 1), (1, (.iload_n 1 : Instr), 1), (2, (.iload_n 2 : Instr), 1), (3, (.invokevirtual 137 : Instr), 3), (6, (.aload_n 0 : Instr), 1), (7, (.aload_n 0 : Instr), 1), (8, (.getfield 22 : Instr), 3), (11, (.iload_n 1 : Instr), 1), (12, (.iaload : Instr), 1), (13, (.iload_n 2 : Instr), 1), (14, (.invokevirtual 110 : Instr), 3), (17, (.if_icmp .eq 7 : Instr), 3), (20, (.iconst 1 : Instr), 1), (21, (.goto 4 : Instr), 3), (24, (.iconst 0 : Instr), 1), (25, (.ireturn : Instr), 1)] : List (Nat × Instr × Nat)).all (fun q => decide (decode cX9_showsAt q.1 = .ok (q.2.1, q.2.2))) = true := by decide +kernel
theorem dX9_showsAt_0 : decode cX9_showsAt 0 = .ok (.aload_n 0, 1) := all_d dX9_showsAt_all0 0 rfl
theorem dX9_showsAt_1 : decode cX9_showsAt 1 = .ok (.iload_n 1, 1) := all_d dX9_showsAt_all0 1 rfl
theorem dX9_showsAt_2 : decode cX9_showsAt 2 = .ok (.iload_n 2, 1) := all_d dX9_showsAt_all0 2 rfl
theorem dX9_showsAt_3 : decode cX9_showsAt 3 = .ok (.invokevirtual 137, 3) := all_d dX9_showsAt_all0 3 rfl
theorem dX9_showsAt_6 : decode cX9_showsAt 6 = .ok (.aload_n 0, 1) := all_d dX9_showsAt_all0 4 rfl
theorem dX9_showsAt_7 : decode cX9_showsAt 7 = .ok (.aload_n 0, 1) := all_d dX9_showsAt_all0 5 rfl
theorem dX9_showsAt_8 : decode cX9_showsAt 8 = .ok (.getfield 22, 3) := all_d dX9_showsAt_all0 6 rfl
theorem dX9_showsAt_11 : decode cX9_showsAt 11 = .ok (.iload_n 1, 1) := all_d dX9_showsAt_all0 7 rfl
theorem dX9_showsAt_12 : decode cX9_showsAt 12 = .ok (.iaload, 1) := all_d dX9_showsAt_all0 8 rfl
theorem dX9_showsAt_13 : decode cX9_showsAt 13 = .ok (.iload_n 2, 1) := all_d dX9_showsAt_all0 9 rfl
theorem dX9_showsAt_14 : decode cX9_showsAt 14 = .ok (.invokevirtual 110, 3) := all_d dX9_showsAt_all0 10 rfl
theorem dX9_showsAt_17 : decode cX9_showsAt 17 = .ok (.if_icmp .eq 7, 3) := all_d dX9_showsAt_all0 11 rfl
theorem dX9_showsAt_20 : decode cX9_showsAt 20 = .ok (.iconst 1, 1) := all_d dX9_showsAt_all0 12 rfl
theorem dX9_showsAt_21 : decode cX9_showsAt 21 = .ok (.goto 4, 3) := all_d dX9_showsAt_all0 13 rfl
theorem dX9_showsAt_24 : decode cX9_showsAt 24 = .ok (.iconst 0, 1) := all_d dX9_showsAt_all0 14 rfl
theorem dX9_showsAt_25 : decode cX9_showsAt 25 = .ok (.ireturn, 1) := all_d dX9_showsAt_all0 15 rfl
set_option maxRecDepth 100000 in
theorem dX9_shown_all0 : ([(0, (.aload_n 0 : Instr), 1), (1, (.iconst 0 : Instr), 1), (2, (.putfield 47 : Instr), 3), (5, (.aload_n 0 : Instr), 1), (6, (.iload_n 1 : Instr), 1), (7, (.iconst 0 : Instr), 1), (8, (.aload_n 0 : Instr), 1), (9, (.getfield 57 : Instr), 3), (12, (.iconst 1 : Instr), 1), (13, (.isub : Instr), 1), (14, (.invokevirtual 64 : Instr), 3), (17, (.ifCond .ne 9 : Instr), 3), (20, (.aload_n 0 : Instr), 1), (21, (.iconst 2 : Instr), 1), (22, (.invokevirtual 78 : Instr), 3), (25, (.ireturn : Instr), 1), (26, (.aload_n 0 : Instr), 1), (27, (.iconst 0 : Instr), 1), (28, (.putfield 51 : Instr), 3), (31, (.iconst 0 : Instr), 1), (32, (.istore_n 2 : Instr), 1), (33, (.iload_n 2 : Instr), 1), (34, (.aload_n 0 : Instr), 1), (35, (.getfield 7 : Instr), 3), (38, (.iconst 0 : Instr), 1), (39, (.iaload : Instr), 1), (40, (.if_icmp .gt 20 : Instr), 3), (43, (.aload_n 0 : Instr), 1), (44, (.iload_n 1 : Instr), 1), (45, (.iload_n 2 : Instr), 1), (46, (.invokevirtual 140 : Instr), 3), (49, (.ifCond .eq 5 : Instr), 3), (52, (.iload_n 2 : Instr), 1), (53, (.ireturn : Instr), 1), (54, (.iinc 2 1 : Instr), 3), (57, (.goto (-24) : Instr), 3), (60, (.bipush (-2) : Instr), 2), (62, (.ireturn : Instr), 1)] : List (Nat × Instr × Nat)).all (fun q => decide (decode cX9_shown q.1 = .ok (q.2.1, q.2.2))) = true := by decide +kernel
theorem dX9_shown_0 : decode cX9_shown 0 = .ok (.aload_n 0, 1) := all_d dX9_shown_all0 0 rfl
theorem dX9_shown_1 : decode cX9_shown 1 = .ok (.iconst 0, 1) := all_d dX9_shown_all0 1 rfl
theorem dX9_shown_2 : decode cX9_shown 2 = .ok (.putfield 47, 3) := all_d dX9_shown_all0 2 rfl
theorem dX9_shown_5 : decode cX9_shown 5 = .ok (.aload_n 0, 1) := all_d dX9_shown_all0 3 rfl
theorem dX9_shown_6 : decode cX9_shown 6 = .ok (.iload_n 1, 1) := all_d dX9_shown_all0 4 rfl
theorem dX9_shown_7 : decode cX9_shown 7 = .ok (.iconst 0, 1) := all_d dX9_shown_all0 5 rfl
theorem dX9_shown_8 : decode cX9_shown 8 = .ok (.aload_n 0, 1) := all_d dX9_shown_all0 6 rfl
theorem dX9_shown_9 : decode cX9_shown 9 = .ok (.getfield 57, 3) := all_d dX9_shown_all0 7 rfl
theorem dX9_shown_12 : decode cX9_shown 12 = .ok (.iconst 1, 1) := all_d dX9_shown_all0 8 rfl
theorem dX9_shown_13 : decode cX9_shown 13 = .ok (.isub, 1) := all_d dX9_shown_all0 9 rfl
theorem dX9_shown_14 : decode cX9_shown 14 = .ok (.invokevirtual 64, 3) := all_d dX9_shown_all0 10 rfl
theorem dX9_shown_17 : decode cX9_shown 17 = .ok (.ifCond .ne 9, 3) := all_d dX9_shown_all0 11 rfl
theorem dX9_shown_20 : decode cX9_shown 20 = .ok (.aload_n 0, 1) := all_d dX9_shown_all0 12 rfl
theorem dX9_shown_21 : decode cX9_shown 21 = .ok (.iconst 2, 1) := all_d dX9_shown_all0 13 rfl
theorem dX9_shown_22 : decode cX9_shown 22 = .ok (.invokevirtual 78, 3) := all_d dX9_shown_all0 14 rfl
theorem dX9_shown_25 : decode cX9_shown 25 = .ok (.ireturn, 1) := all_d dX9_shown_all0 15 rfl
theorem dX9_shown_26 : decode cX9_shown 26 = .ok (.aload_n 0, 1) := all_d dX9_shown_all0 16 rfl
theorem dX9_shown_27 : decode cX9_shown 27 = .ok (.iconst 0, 1) := all_d dX9_shown_all0 17 rfl
theorem dX9_shown_28 : decode cX9_shown 28 = .ok (.putfield 51, 3) := all_d dX9_shown_all0 18 rfl
theorem dX9_shown_31 : decode cX9_shown 31 = .ok (.iconst 0, 1) := all_d dX9_shown_all0 19 rfl
theorem dX9_shown_32 : decode cX9_shown 32 = .ok (.istore_n 2, 1) := all_d dX9_shown_all0 20 rfl
theorem dX9_shown_33 : decode cX9_shown 33 = .ok (.iload_n 2, 1) := all_d dX9_shown_all0 21 rfl
theorem dX9_shown_34 : decode cX9_shown 34 = .ok (.aload_n 0, 1) := all_d dX9_shown_all0 22 rfl
theorem dX9_shown_35 : decode cX9_shown 35 = .ok (.getfield 7, 3) := all_d dX9_shown_all0 23 rfl
theorem dX9_shown_38 : decode cX9_shown 38 = .ok (.iconst 0, 1) := all_d dX9_shown_all0 24 rfl
theorem dX9_shown_39 : decode cX9_shown 39 = .ok (.iaload, 1) := all_d dX9_shown_all0 25 rfl
theorem dX9_shown_40 : decode cX9_shown 40 = .ok (.if_icmp .gt 20, 3) := all_d dX9_shown_all0 26 rfl
theorem dX9_shown_43 : decode cX9_shown 43 = .ok (.aload_n 0, 1) := all_d dX9_shown_all0 27 rfl
theorem dX9_shown_44 : decode cX9_shown 44 = .ok (.iload_n 1, 1) := all_d dX9_shown_all0 28 rfl
theorem dX9_shown_45 : decode cX9_shown 45 = .ok (.iload_n 2, 1) := all_d dX9_shown_all0 29 rfl
theorem dX9_shown_46 : decode cX9_shown 46 = .ok (.invokevirtual 140, 3) := all_d dX9_shown_all0 30 rfl
theorem dX9_shown_49 : decode cX9_shown 49 = .ok (.ifCond .eq 5, 3) := all_d dX9_shown_all0 31 rfl
theorem dX9_shown_52 : decode cX9_shown 52 = .ok (.iload_n 2, 1) := all_d dX9_shown_all0 32 rfl
theorem dX9_shown_53 : decode cX9_shown 53 = .ok (.ireturn, 1) := all_d dX9_shown_all0 33 rfl
theorem dX9_shown_54 : decode cX9_shown 54 = .ok (.iinc 2 1, 3) := all_d dX9_shown_all0 34 rfl
theorem dX9_shown_57 : decode cX9_shown 57 = .ok (.goto (-24), 3) := all_d dX9_shown_all0 35 rfl
theorem dX9_shown_60 : decode cX9_shown 60 = .ok (.bipush (-2), 2) := all_d dX9_shown_all0 36 rfl
theorem dX9_shown_62 : decode cX9_shown 62 = .ok (.ireturn, 1) := all_d dX9_shown_all0 37 rfl
set_option maxRecDepth 100000 in
theorem dX9_bitsAt_all0 : ([(0, (.iconst 0 : Instr), 1), (1, (.istore_n 2 : Instr), 1), (2, (.iconst 0 : Instr), 1), (3, (.istore_n 3 : Instr), 1), (4, (.iload_n 3 : Instr), 1), (5, (.aload_n 0 : Instr), 1), (6, (.getfield 57 : Instr), 3), (9, (.if_icmp .ge 28 : Instr), 3), (12, (.iload_n 2 : Instr), 1), (13, (.aload_n 0 : Instr), 1), (14, (.iload_n 3 : Instr), 1), (15, (.iload_n 1 : Instr), 1), (16, (.invokevirtual 140 : Instr), 3), (19, (.ifCond .eq 9 : Instr), 3), (22, (.iconst 1 : Instr), 1), (23, (.iload_n 3 : Instr), 1), (24, (.ishl : Instr), 1), (25, (.goto 4 : Instr), 3), (28, (.iconst 0 : Instr), 1), (29, (.ior : Instr), 1), (30, (.istore_n 2 : Instr), 1), (31, (.iinc 3 1 : Instr), 3), (34, (.goto (-30) : Instr), 3), (37, (.iload_n 2 : Instr), 1), (38, (.ireturn : Instr), 1)] : List (Nat × Instr × Nat)).all (fun q => decide (decode cX9_bitsAt q.1 = .ok (q.2.1, q.2.2))) = true := by decide +kernel
theorem dX9_bitsAt_0 : decode cX9_bitsAt 0 = .ok (.iconst 0, 1) := all_d dX9_bitsAt_all0 0 rfl
theorem dX9_bitsAt_1 : decode cX9_bitsAt 1 = .ok (.istore_n 2, 1) := all_d dX9_bitsAt_all0 1 rfl
theorem dX9_bitsAt_2 : decode cX9_bitsAt 2 = .ok (.iconst 0, 1) := all_d dX9_bitsAt_all0 2 rfl
theorem dX9_bitsAt_3 : decode cX9_bitsAt 3 = .ok (.istore_n 3, 1) := all_d dX9_bitsAt_all0 3 rfl
theorem dX9_bitsAt_4 : decode cX9_bitsAt 4 = .ok (.iload_n 3, 1) := all_d dX9_bitsAt_all0 4 rfl
theorem dX9_bitsAt_5 : decode cX9_bitsAt 5 = .ok (.aload_n 0, 1) := all_d dX9_bitsAt_all0 5 rfl
theorem dX9_bitsAt_6 : decode cX9_bitsAt 6 = .ok (.getfield 57, 3) := all_d dX9_bitsAt_all0 6 rfl
theorem dX9_bitsAt_9 : decode cX9_bitsAt 9 = .ok (.if_icmp .ge 28, 3) := all_d dX9_bitsAt_all0 7 rfl
theorem dX9_bitsAt_12 : decode cX9_bitsAt 12 = .ok (.iload_n 2, 1) := all_d dX9_bitsAt_all0 8 rfl
theorem dX9_bitsAt_13 : decode cX9_bitsAt 13 = .ok (.aload_n 0, 1) := all_d dX9_bitsAt_all0 9 rfl
theorem dX9_bitsAt_14 : decode cX9_bitsAt 14 = .ok (.iload_n 3, 1) := all_d dX9_bitsAt_all0 10 rfl
theorem dX9_bitsAt_15 : decode cX9_bitsAt 15 = .ok (.iload_n 1, 1) := all_d dX9_bitsAt_all0 11 rfl
theorem dX9_bitsAt_16 : decode cX9_bitsAt 16 = .ok (.invokevirtual 140, 3) := all_d dX9_bitsAt_all0 12 rfl
theorem dX9_bitsAt_19 : decode cX9_bitsAt 19 = .ok (.ifCond .eq 9, 3) := all_d dX9_bitsAt_all0 13 rfl
theorem dX9_bitsAt_22 : decode cX9_bitsAt 22 = .ok (.iconst 1, 1) := all_d dX9_bitsAt_all0 14 rfl
theorem dX9_bitsAt_23 : decode cX9_bitsAt 23 = .ok (.iload_n 3, 1) := all_d dX9_bitsAt_all0 15 rfl
theorem dX9_bitsAt_24 : decode cX9_bitsAt 24 = .ok (.ishl, 1) := all_d dX9_bitsAt_all0 16 rfl
theorem dX9_bitsAt_25 : decode cX9_bitsAt 25 = .ok (.goto 4, 3) := all_d dX9_bitsAt_all0 17 rfl
theorem dX9_bitsAt_28 : decode cX9_bitsAt 28 = .ok (.iconst 0, 1) := all_d dX9_bitsAt_all0 18 rfl
theorem dX9_bitsAt_29 : decode cX9_bitsAt 29 = .ok (.ior, 1) := all_d dX9_bitsAt_all0 19 rfl
theorem dX9_bitsAt_30 : decode cX9_bitsAt 30 = .ok (.istore_n 2, 1) := all_d dX9_bitsAt_all0 20 rfl
theorem dX9_bitsAt_31 : decode cX9_bitsAt 31 = .ok (.iinc 3 1, 3) := all_d dX9_bitsAt_all0 21 rfl
theorem dX9_bitsAt_34 : decode cX9_bitsAt 34 = .ok (.goto (-30), 3) := all_d dX9_bitsAt_all0 22 rfl
theorem dX9_bitsAt_37 : decode cX9_bitsAt 37 = .ok (.iload_n 2, 1) := all_d dX9_bitsAt_all0 23 rfl
theorem dX9_bitsAt_38 : decode cX9_bitsAt 38 = .ok (.ireturn, 1) := all_d dX9_bitsAt_all0 24 rfl
set_option maxRecDepth 100000 in
theorem dX9_shows_all0 : ([(0, (.aload_n 0 : Instr), 1), (1, (.iconst 0 : Instr), 1), (2, (.putfield 47 : Instr), 3), (5, (.iconst 0 : Instr), 1), (6, (.istore_n 1 : Instr), 1), (7, (.iconst 0 : Instr), 1), (8, (.istore_n 2 : Instr), 1), (9, (.iload_n 2 : Instr), 1), (10, (.sipush 1024 : Instr), 3), (13, (.if_icmp .ge 32 : Instr), 3), (16, (.aload_n 0 : Instr), 1), (17, (.getfield 40 : Instr), 3), (20, (.iload_n 2 : Instr), 1), (21, (.iconst 0 : Instr), 1), (22, (.bastore : Instr), 1), (23, (.aload_n 0 : Instr), 1), (24, (.getfield 44 : Instr), 3), (27, (.iload_n 2 : Instr), 1), (28, (.iload_n 2 : Instr), 1), (29, (.ifCond .ne 7 : Instr), 3), (32, (.iconst 0 : Instr), 1), (33, (.goto 5 : Instr), 3), (36, (.bipush 100 : Instr), 2), (38, (.iastore : Instr), 1), (39, (.iinc 2 1 : Instr), 3), (42, (.goto (-33) : Instr), 3), (45, (.iconst 0 : Instr), 1), (46, (.istore_n 2 : Instr), 1), (47, (.iload_n 2 : Instr), 1), (48, (.aload_n 0 : Instr), 1), (49, (.getfield 7 : Instr), 3), (52, (.iconst 0 : Instr), 1), (53, (.iaload : Instr), 1), (54, (.if_icmp .gt 26 : Instr), 3), (57, (.aload_n 0 : Instr), 1), (58, (.iload_n 2 : Instr), 1), (59, (.invokevirtual 143 : Instr), 3), (62, (.istore_n 3 : Instr), 1), (63, (.aload_n 0 : Instr), 1), (64, (.getfield 40 : Instr), 3), (67, (.iload_n 3 : Instr), 1), (68, (.iconst 1 : Instr), 1), (69, (.bastore : Instr), 1), (70, (.iload_n 1 : Instr), 1), (71, (.iload_n 3 : Instr), 1), (72, (.ior : Instr), 1), (73, (.istore_n 1 : Instr), 1), (74, (.iinc 2 1 : Instr), 3), (77, (.goto (-30) : Instr), 3), (80, (.iconst 0 : Instr), 1), (81, (.istore_n 2 : Instr), 1), (82, (.iload_n 2 : Instr), 1), (83, (.sipush 1024 : Instr), 3), (86, (.if_icmp .ge 82 : Instr), 3), (89, (.aload_n 0 : Instr), 1), (90, (.getfield 44 : Instr), 3), (93, (.iload_n 2 : Instr), 1), (94, (.iaload : Instr), 1), (95, (.bipush 100 : Instr), 2), (97, (.if_icmp .ne 6 : Instr), 3), (100, (.goto 62 : Instr), 3), (103, (.iconst 1 : Instr), 1), (104, (.istore_n 3 : Instr), 1), (105, (.iload_n 3 : Instr), 1), (106, (.sipush 1024 : Instr), 3), (109, (.if_icmp .ge 53 : Instr), 3), (112, (.aload_n 0 : Instr), 1), (113, (.getfield 40 : Instr), 3), (116, (.iload_n 3 : Instr), 1), (117, (.baload : Instr), 1), (118, (.ifCond .eq 38 : Instr), 3), (121, (.aload_n 0 : Instr), 1), (122, (.getfield 44 : Instr), 3), (125, (.iload_n 2 : Instr), 1), (126, (.iload_n 3 : Instr), 1), (127, (.ior : Instr), 1), (128, (.iaload : Instr), 1), (129, (.aload_n 0 : Instr), 1), (130, (.getfield 44 : Instr), 3), (133, (.iload_n 2 : Instr), 1)] : List (Nat × Instr × Nat)).all (fun q => decide (decode cX9_shows q.1 = .ok (q.2.1, q.2.2))) = true := by decide +kernel
theorem dX9_shows_0 : decode cX9_shows 0 = .ok (.aload_n 0, 1) := all_d dX9_shows_all0 0 rfl
theorem dX9_shows_1 : decode cX9_shows 1 = .ok (.iconst 0, 1) := all_d dX9_shows_all0 1 rfl
theorem dX9_shows_2 : decode cX9_shows 2 = .ok (.putfield 47, 3) := all_d dX9_shows_all0 2 rfl
theorem dX9_shows_5 : decode cX9_shows 5 = .ok (.iconst 0, 1) := all_d dX9_shows_all0 3 rfl
theorem dX9_shows_6 : decode cX9_shows 6 = .ok (.istore_n 1, 1) := all_d dX9_shows_all0 4 rfl
theorem dX9_shows_7 : decode cX9_shows 7 = .ok (.iconst 0, 1) := all_d dX9_shows_all0 5 rfl
theorem dX9_shows_8 : decode cX9_shows 8 = .ok (.istore_n 2, 1) := all_d dX9_shows_all0 6 rfl
theorem dX9_shows_9 : decode cX9_shows 9 = .ok (.iload_n 2, 1) := all_d dX9_shows_all0 7 rfl
theorem dX9_shows_10 : decode cX9_shows 10 = .ok (.sipush 1024, 3) := all_d dX9_shows_all0 8 rfl
theorem dX9_shows_13 : decode cX9_shows 13 = .ok (.if_icmp .ge 32, 3) := all_d dX9_shows_all0 9 rfl
theorem dX9_shows_16 : decode cX9_shows 16 = .ok (.aload_n 0, 1) := all_d dX9_shows_all0 10 rfl
theorem dX9_shows_17 : decode cX9_shows 17 = .ok (.getfield 40, 3) := all_d dX9_shows_all0 11 rfl
theorem dX9_shows_20 : decode cX9_shows 20 = .ok (.iload_n 2, 1) := all_d dX9_shows_all0 12 rfl
theorem dX9_shows_21 : decode cX9_shows 21 = .ok (.iconst 0, 1) := all_d dX9_shows_all0 13 rfl
theorem dX9_shows_22 : decode cX9_shows 22 = .ok (.bastore, 1) := all_d dX9_shows_all0 14 rfl
theorem dX9_shows_23 : decode cX9_shows 23 = .ok (.aload_n 0, 1) := all_d dX9_shows_all0 15 rfl
theorem dX9_shows_24 : decode cX9_shows 24 = .ok (.getfield 44, 3) := all_d dX9_shows_all0 16 rfl
theorem dX9_shows_27 : decode cX9_shows 27 = .ok (.iload_n 2, 1) := all_d dX9_shows_all0 17 rfl
theorem dX9_shows_28 : decode cX9_shows 28 = .ok (.iload_n 2, 1) := all_d dX9_shows_all0 18 rfl
theorem dX9_shows_29 : decode cX9_shows 29 = .ok (.ifCond .ne 7, 3) := all_d dX9_shows_all0 19 rfl
theorem dX9_shows_32 : decode cX9_shows 32 = .ok (.iconst 0, 1) := all_d dX9_shows_all0 20 rfl
theorem dX9_shows_33 : decode cX9_shows 33 = .ok (.goto 5, 3) := all_d dX9_shows_all0 21 rfl
theorem dX9_shows_36 : decode cX9_shows 36 = .ok (.bipush 100, 2) := all_d dX9_shows_all0 22 rfl
theorem dX9_shows_38 : decode cX9_shows 38 = .ok (.iastore, 1) := all_d dX9_shows_all0 23 rfl
theorem dX9_shows_39 : decode cX9_shows 39 = .ok (.iinc 2 1, 3) := all_d dX9_shows_all0 24 rfl
theorem dX9_shows_42 : decode cX9_shows 42 = .ok (.goto (-33), 3) := all_d dX9_shows_all0 25 rfl
theorem dX9_shows_45 : decode cX9_shows 45 = .ok (.iconst 0, 1) := all_d dX9_shows_all0 26 rfl
theorem dX9_shows_46 : decode cX9_shows 46 = .ok (.istore_n 2, 1) := all_d dX9_shows_all0 27 rfl
theorem dX9_shows_47 : decode cX9_shows 47 = .ok (.iload_n 2, 1) := all_d dX9_shows_all0 28 rfl
theorem dX9_shows_48 : decode cX9_shows 48 = .ok (.aload_n 0, 1) := all_d dX9_shows_all0 29 rfl
theorem dX9_shows_49 : decode cX9_shows 49 = .ok (.getfield 7, 3) := all_d dX9_shows_all0 30 rfl
theorem dX9_shows_52 : decode cX9_shows 52 = .ok (.iconst 0, 1) := all_d dX9_shows_all0 31 rfl
theorem dX9_shows_53 : decode cX9_shows 53 = .ok (.iaload, 1) := all_d dX9_shows_all0 32 rfl
theorem dX9_shows_54 : decode cX9_shows 54 = .ok (.if_icmp .gt 26, 3) := all_d dX9_shows_all0 33 rfl
theorem dX9_shows_57 : decode cX9_shows 57 = .ok (.aload_n 0, 1) := all_d dX9_shows_all0 34 rfl
theorem dX9_shows_58 : decode cX9_shows 58 = .ok (.iload_n 2, 1) := all_d dX9_shows_all0 35 rfl
theorem dX9_shows_59 : decode cX9_shows 59 = .ok (.invokevirtual 143, 3) := all_d dX9_shows_all0 36 rfl
theorem dX9_shows_62 : decode cX9_shows 62 = .ok (.istore_n 3, 1) := all_d dX9_shows_all0 37 rfl
theorem dX9_shows_63 : decode cX9_shows 63 = .ok (.aload_n 0, 1) := all_d dX9_shows_all0 38 rfl
theorem dX9_shows_64 : decode cX9_shows 64 = .ok (.getfield 40, 3) := all_d dX9_shows_all0 39 rfl
theorem dX9_shows_67 : decode cX9_shows 67 = .ok (.iload_n 3, 1) := all_d dX9_shows_all0 40 rfl
theorem dX9_shows_68 : decode cX9_shows 68 = .ok (.iconst 1, 1) := all_d dX9_shows_all0 41 rfl
theorem dX9_shows_69 : decode cX9_shows 69 = .ok (.bastore, 1) := all_d dX9_shows_all0 42 rfl
theorem dX9_shows_70 : decode cX9_shows 70 = .ok (.iload_n 1, 1) := all_d dX9_shows_all0 43 rfl
theorem dX9_shows_71 : decode cX9_shows 71 = .ok (.iload_n 3, 1) := all_d dX9_shows_all0 44 rfl
theorem dX9_shows_72 : decode cX9_shows 72 = .ok (.ior, 1) := all_d dX9_shows_all0 45 rfl
theorem dX9_shows_73 : decode cX9_shows 73 = .ok (.istore_n 1, 1) := all_d dX9_shows_all0 46 rfl
theorem dX9_shows_74 : decode cX9_shows 74 = .ok (.iinc 2 1, 3) := all_d dX9_shows_all0 47 rfl
theorem dX9_shows_77 : decode cX9_shows 77 = .ok (.goto (-30), 3) := all_d dX9_shows_all0 48 rfl
theorem dX9_shows_80 : decode cX9_shows 80 = .ok (.iconst 0, 1) := all_d dX9_shows_all0 49 rfl
theorem dX9_shows_81 : decode cX9_shows 81 = .ok (.istore_n 2, 1) := all_d dX9_shows_all0 50 rfl
theorem dX9_shows_82 : decode cX9_shows 82 = .ok (.iload_n 2, 1) := all_d dX9_shows_all0 51 rfl
theorem dX9_shows_83 : decode cX9_shows 83 = .ok (.sipush 1024, 3) := all_d dX9_shows_all0 52 rfl
theorem dX9_shows_86 : decode cX9_shows 86 = .ok (.if_icmp .ge 82, 3) := all_d dX9_shows_all0 53 rfl
theorem dX9_shows_89 : decode cX9_shows 89 = .ok (.aload_n 0, 1) := all_d dX9_shows_all0 54 rfl
theorem dX9_shows_90 : decode cX9_shows 90 = .ok (.getfield 44, 3) := all_d dX9_shows_all0 55 rfl
theorem dX9_shows_93 : decode cX9_shows 93 = .ok (.iload_n 2, 1) := all_d dX9_shows_all0 56 rfl
theorem dX9_shows_94 : decode cX9_shows 94 = .ok (.iaload, 1) := all_d dX9_shows_all0 57 rfl
theorem dX9_shows_95 : decode cX9_shows 95 = .ok (.bipush 100, 2) := all_d dX9_shows_all0 58 rfl
theorem dX9_shows_97 : decode cX9_shows 97 = .ok (.if_icmp .ne 6, 3) := all_d dX9_shows_all0 59 rfl
theorem dX9_shows_100 : decode cX9_shows 100 = .ok (.goto 62, 3) := all_d dX9_shows_all0 60 rfl
theorem dX9_shows_103 : decode cX9_shows 103 = .ok (.iconst 1, 1) := all_d dX9_shows_all0 61 rfl
theorem dX9_shows_104 : decode cX9_shows 104 = .ok (.istore_n 3, 1) := all_d dX9_shows_all0 62 rfl
theorem dX9_shows_105 : decode cX9_shows 105 = .ok (.iload_n 3, 1) := all_d dX9_shows_all0 63 rfl
theorem dX9_shows_106 : decode cX9_shows 106 = .ok (.sipush 1024, 3) := all_d dX9_shows_all0 64 rfl
theorem dX9_shows_109 : decode cX9_shows 109 = .ok (.if_icmp .ge 53, 3) := all_d dX9_shows_all0 65 rfl
theorem dX9_shows_112 : decode cX9_shows 112 = .ok (.aload_n 0, 1) := all_d dX9_shows_all0 66 rfl
theorem dX9_shows_113 : decode cX9_shows 113 = .ok (.getfield 40, 3) := all_d dX9_shows_all0 67 rfl
theorem dX9_shows_116 : decode cX9_shows 116 = .ok (.iload_n 3, 1) := all_d dX9_shows_all0 68 rfl
theorem dX9_shows_117 : decode cX9_shows 117 = .ok (.baload, 1) := all_d dX9_shows_all0 69 rfl
theorem dX9_shows_118 : decode cX9_shows 118 = .ok (.ifCond .eq 38, 3) := all_d dX9_shows_all0 70 rfl
theorem dX9_shows_121 : decode cX9_shows 121 = .ok (.aload_n 0, 1) := all_d dX9_shows_all0 71 rfl
theorem dX9_shows_122 : decode cX9_shows 122 = .ok (.getfield 44, 3) := all_d dX9_shows_all0 72 rfl
theorem dX9_shows_125 : decode cX9_shows 125 = .ok (.iload_n 2, 1) := all_d dX9_shows_all0 73 rfl
theorem dX9_shows_126 : decode cX9_shows 126 = .ok (.iload_n 3, 1) := all_d dX9_shows_all0 74 rfl
theorem dX9_shows_127 : decode cX9_shows 127 = .ok (.ior, 1) := all_d dX9_shows_all0 75 rfl
theorem dX9_shows_128 : decode cX9_shows 128 = .ok (.iaload, 1) := all_d dX9_shows_all0 76 rfl
theorem dX9_shows_129 : decode cX9_shows 129 = .ok (.aload_n 0, 1) := all_d dX9_shows_all0 77 rfl
theorem dX9_shows_130 : decode cX9_shows 130 = .ok (.getfield 44, 3) := all_d dX9_shows_all0 78 rfl
theorem dX9_shows_133 : decode cX9_shows 133 = .ok (.iload_n 2, 1) := all_d dX9_shows_all0 79 rfl
set_option maxRecDepth 100000 in
theorem dX9_shows_all1 : ([(134, (.iaload : Instr), 1), (135, (.iconst 1 : Instr), 1), (136, (.iadd : Instr), 1), (137, (.if_icmp .le 19 : Instr), 3), (140, (.aload_n 0 : Instr), 1), (141, (.getfield 44 : Instr), 3), (144, (.iload_n 2 : Instr), 1), (145, (.iload_n 3 : Instr), 1), (146, (.ior : Instr), 1), (147, (.aload_n 0 : Instr), 1), (148, (.getfield 44 : Instr), 3), (151, (.iload_n 2 : Instr), 1), (152, (.iaload : Instr), 1), (153, (.iconst 1 : Instr), 1), (154, (.iadd : Instr), 1), (155, (.iastore : Instr), 1), (156, (.iinc 3 1 : Instr), 3), (159, (.goto (-54) : Instr), 3), (162, (.iinc 2 1 : Instr), 3), (165, (.goto (-83) : Instr), 3), (168, (.aload_n 0 : Instr), 1), (169, (.getfield 44 : Instr), 3), (172, (.iload_n 1 : Instr), 1), (173, (.iaload : Instr), 1), (174, (.ireturn : Instr), 1)] : List (Nat × Instr × Nat)).all (fun q => decide (decode cX9_shows q.1 = .ok (q.2.1, q.2.2))) = true := by decide +kernel
theorem dX9_shows_134 : decode cX9_shows 134 = .ok (.iaload, 1) := all_d dX9_shows_all1 0 rfl
theorem dX9_shows_135 : decode cX9_shows 135 = .ok (.iconst 1, 1) := all_d dX9_shows_all1 1 rfl
theorem dX9_shows_136 : decode cX9_shows 136 = .ok (.iadd, 1) := all_d dX9_shows_all1 2 rfl
theorem dX9_shows_137 : decode cX9_shows 137 = .ok (.if_icmp .le 19, 3) := all_d dX9_shows_all1 3 rfl
theorem dX9_shows_140 : decode cX9_shows 140 = .ok (.aload_n 0, 1) := all_d dX9_shows_all1 4 rfl
theorem dX9_shows_141 : decode cX9_shows 141 = .ok (.getfield 44, 3) := all_d dX9_shows_all1 5 rfl
theorem dX9_shows_144 : decode cX9_shows 144 = .ok (.iload_n 2, 1) := all_d dX9_shows_all1 6 rfl
theorem dX9_shows_145 : decode cX9_shows 145 = .ok (.iload_n 3, 1) := all_d dX9_shows_all1 7 rfl
theorem dX9_shows_146 : decode cX9_shows 146 = .ok (.ior, 1) := all_d dX9_shows_all1 8 rfl
theorem dX9_shows_147 : decode cX9_shows 147 = .ok (.aload_n 0, 1) := all_d dX9_shows_all1 9 rfl
theorem dX9_shows_148 : decode cX9_shows 148 = .ok (.getfield 44, 3) := all_d dX9_shows_all1 10 rfl
theorem dX9_shows_151 : decode cX9_shows 151 = .ok (.iload_n 2, 1) := all_d dX9_shows_all1 11 rfl
theorem dX9_shows_152 : decode cX9_shows 152 = .ok (.iaload, 1) := all_d dX9_shows_all1 12 rfl
theorem dX9_shows_153 : decode cX9_shows 153 = .ok (.iconst 1, 1) := all_d dX9_shows_all1 13 rfl
theorem dX9_shows_154 : decode cX9_shows 154 = .ok (.iadd, 1) := all_d dX9_shows_all1 14 rfl
theorem dX9_shows_155 : decode cX9_shows 155 = .ok (.iastore, 1) := all_d dX9_shows_all1 15 rfl
theorem dX9_shows_156 : decode cX9_shows 156 = .ok (.iinc 3 1, 3) := all_d dX9_shows_all1 16 rfl
theorem dX9_shows_159 : decode cX9_shows 159 = .ok (.goto (-54), 3) := all_d dX9_shows_all1 17 rfl
theorem dX9_shows_162 : decode cX9_shows 162 = .ok (.iinc 2 1, 3) := all_d dX9_shows_all1 18 rfl
theorem dX9_shows_165 : decode cX9_shows 165 = .ok (.goto (-83), 3) := all_d dX9_shows_all1 19 rfl
theorem dX9_shows_168 : decode cX9_shows 168 = .ok (.aload_n 0, 1) := all_d dX9_shows_all1 20 rfl
theorem dX9_shows_169 : decode cX9_shows 169 = .ok (.getfield 44, 3) := all_d dX9_shows_all1 21 rfl
theorem dX9_shows_172 : decode cX9_shows 172 = .ok (.iload_n 1, 1) := all_d dX9_shows_all1 22 rfl
theorem dX9_shows_173 : decode cX9_shows 173 = .ok (.iaload, 1) := all_d dX9_shows_all1 23 rfl
theorem dX9_shows_174 : decode cX9_shows 174 = .ok (.ireturn, 1) := all_d dX9_shows_all1 24 rfl
set_option maxRecDepth 100000 in
theorem dX9_showing_all0 : ([(0, (.aload_n 0 : Instr), 1), (1, (.iconst 0 : Instr), 1), (2, (.putfield 47 : Instr), 3), (5, (.aload_n 0 : Instr), 1), (6, (.iload_n 1 : Instr), 1), (7, (.invokevirtual 107 : Instr), 3), (10, (.ifCond .eq 11 : Instr), 3), (13, (.aload_n 0 : Instr), 1), (14, (.iload_n 1 : Instr), 1), (15, (.invokevirtual 143 : Instr), 3), (18, (.goto 4 : Instr), 3), (21, (.iconst (-1) : Instr), 1), (22, (.ireturn : Instr), 1)] : List (Nat × Instr × Nat)).all (fun q => decide (decode cX9_showing q.1 = .ok (q.2.1, q.2.2))) = true := by decide +kernel
theorem dX9_showing_0 : decode cX9_showing 0 = .ok (.aload_n 0, 1) := all_d dX9_showing_all0 0 rfl
theorem dX9_showing_1 : decode cX9_showing 1 = .ok (.iconst 0, 1) := all_d dX9_showing_all0 1 rfl
theorem dX9_showing_2 : decode cX9_showing 2 = .ok (.putfield 47, 3) := all_d dX9_showing_all0 2 rfl
theorem dX9_showing_5 : decode cX9_showing 5 = .ok (.aload_n 0, 1) := all_d dX9_showing_all0 3 rfl
theorem dX9_showing_6 : decode cX9_showing 6 = .ok (.iload_n 1, 1) := all_d dX9_showing_all0 4 rfl
theorem dX9_showing_7 : decode cX9_showing 7 = .ok (.invokevirtual 107, 3) := all_d dX9_showing_all0 5 rfl
theorem dX9_showing_10 : decode cX9_showing 10 = .ok (.ifCond .eq 11, 3) := all_d dX9_showing_all0 6 rfl
theorem dX9_showing_13 : decode cX9_showing 13 = .ok (.aload_n 0, 1) := all_d dX9_showing_all0 7 rfl
theorem dX9_showing_14 : decode cX9_showing 14 = .ok (.iload_n 1, 1) := all_d dX9_showing_all0 8 rfl
theorem dX9_showing_15 : decode cX9_showing 15 = .ok (.invokevirtual 143, 3) := all_d dX9_showing_all0 9 rfl
theorem dX9_showing_18 : decode cX9_showing 18 = .ok (.goto 4, 3) := all_d dX9_showing_all0 10 rfl
theorem dX9_showing_21 : decode cX9_showing 21 = .ok (.iconst (-1), 1) := all_d dX9_showing_all0 11 rfl
theorem dX9_showing_22 : decode cX9_showing 22 = .ok (.ireturn, 1) := all_d dX9_showing_all0 12 rfl
set_option maxRecDepth 100000 in
theorem dX9_alike_all0 : ([(0, (.aload_n 0 : Instr), 1), (1, (.iconst 0 : Instr), 1), (2, (.putfield 47 : Instr), 3), (5, (.iconst 0 : Instr), 1), (6, (.istore_n 1 : Instr), 1), (7, (.iconst 0 : Instr), 1), (8, (.istore_n 2 : Instr), 1), (9, (.iload_n 2 : Instr), 1), (10, (.aload_n 0 : Instr), 1), (11, (.getfield 57 : Instr), 3), (14, (.if_icmp .ge 110 : Instr), 3), (17, (.iload_n 2 : Instr), 1), (18, (.iconst 1 : Instr), 1), (19, (.iadd : Instr), 1), (20, (.istore_n 3 : Instr), 1), (21, (.iload_n 3 : Instr), 1), (22, (.aload_n 0 : Instr), 1), (23, (.getfield 57 : Instr), 3), (26, (.if_icmp .ge 92 : Instr), 3), (29, (.aload_n 0 : Instr), 1), (30, (.getfield 22 : Instr), 3), (33, (.iload_n 2 : Instr), 1), (34, (.iaload : Instr), 1), (35, (.aload_n 0 : Instr), 1), (36, (.getfield 22 : Instr), 3), (39, (.iload_n 3 : Instr), 1), (40, (.iaload : Instr), 1), (41, (.if_icmp .eq 6 : Instr), 3), (44, (.goto 68 : Instr), 3), (47, (.iconst 1 : Instr), 1), (48, (.istore 4 : Instr), 2), (50, (.iconst 0 : Instr), 1), (51, (.istore 5 : Instr), 2), (53, (.iload 5 : Instr), 2), (55, (.aload_n 0 : Instr), 1), (56, (.getfield 7 : Instr), 3), (59, (.iconst 0 : Instr), 1), (60, (.iaload : Instr), 1), (61, (.if_icmp .gt 38 : Instr), 3), (64, (.iload 4 : Instr), 2), (66, (.ifCond .eq 33 : Instr), 3), (69, (.aload_n 0 : Instr), 1), (70, (.iload_n 2 : Instr), 1), (71, (.iload 5 : Instr), 2), (73, (.invokevirtual 137 : Instr), 3), (76, (.aload_n 0 : Instr), 1), (77, (.iload_n 3 : Instr), 1), (78, (.iload 5 : Instr), 2), (80, (.invokevirtual 137 : Instr), 3), (83, (.if_icmp .ne 7 : Instr), 3), (86, (.iconst 1 : Instr), 1), (87, (.goto 4 : Instr), 3), (90, (.iconst 0 : Instr), 1), (91, (.istore 4 : Instr), 2), (93, (.iinc 5 1 : Instr), 3), (96, (.goto (-43) : Instr), 3), (99, (.iload_n 1 : Instr), 1), (100, (.iload 4 : Instr), 2), (102, (.ifCond .eq 7 : Instr), 3), (105, (.iconst 1 : Instr), 1), (106, (.goto 4 : Instr), 3), (109, (.iconst 0 : Instr), 1), (110, (.iadd : Instr), 1), (111, (.istore_n 1 : Instr), 1), (112, (.iinc 3 1 : Instr), 3), (115, (.goto (-94) : Instr), 3), (118, (.iinc 2 1 : Instr), 3), (121, (.goto (-112) : Instr), 3), (124, (.iload_n 1 : Instr), 1), (125, (.ireturn : Instr), 1)] : List (Nat × Instr × Nat)).all (fun q => decide (decode cX9_alike q.1 = .ok (q.2.1, q.2.2))) = true := by decide +kernel
theorem dX9_alike_0 : decode cX9_alike 0 = .ok (.aload_n 0, 1) := all_d dX9_alike_all0 0 rfl
theorem dX9_alike_1 : decode cX9_alike 1 = .ok (.iconst 0, 1) := all_d dX9_alike_all0 1 rfl
theorem dX9_alike_2 : decode cX9_alike 2 = .ok (.putfield 47, 3) := all_d dX9_alike_all0 2 rfl
theorem dX9_alike_5 : decode cX9_alike 5 = .ok (.iconst 0, 1) := all_d dX9_alike_all0 3 rfl
theorem dX9_alike_6 : decode cX9_alike 6 = .ok (.istore_n 1, 1) := all_d dX9_alike_all0 4 rfl
theorem dX9_alike_7 : decode cX9_alike 7 = .ok (.iconst 0, 1) := all_d dX9_alike_all0 5 rfl
theorem dX9_alike_8 : decode cX9_alike 8 = .ok (.istore_n 2, 1) := all_d dX9_alike_all0 6 rfl
theorem dX9_alike_9 : decode cX9_alike 9 = .ok (.iload_n 2, 1) := all_d dX9_alike_all0 7 rfl
theorem dX9_alike_10 : decode cX9_alike 10 = .ok (.aload_n 0, 1) := all_d dX9_alike_all0 8 rfl
theorem dX9_alike_11 : decode cX9_alike 11 = .ok (.getfield 57, 3) := all_d dX9_alike_all0 9 rfl
theorem dX9_alike_14 : decode cX9_alike 14 = .ok (.if_icmp .ge 110, 3) := all_d dX9_alike_all0 10 rfl
theorem dX9_alike_17 : decode cX9_alike 17 = .ok (.iload_n 2, 1) := all_d dX9_alike_all0 11 rfl
theorem dX9_alike_18 : decode cX9_alike 18 = .ok (.iconst 1, 1) := all_d dX9_alike_all0 12 rfl
theorem dX9_alike_19 : decode cX9_alike 19 = .ok (.iadd, 1) := all_d dX9_alike_all0 13 rfl
theorem dX9_alike_20 : decode cX9_alike 20 = .ok (.istore_n 3, 1) := all_d dX9_alike_all0 14 rfl
theorem dX9_alike_21 : decode cX9_alike 21 = .ok (.iload_n 3, 1) := all_d dX9_alike_all0 15 rfl
theorem dX9_alike_22 : decode cX9_alike 22 = .ok (.aload_n 0, 1) := all_d dX9_alike_all0 16 rfl
theorem dX9_alike_23 : decode cX9_alike 23 = .ok (.getfield 57, 3) := all_d dX9_alike_all0 17 rfl
theorem dX9_alike_26 : decode cX9_alike 26 = .ok (.if_icmp .ge 92, 3) := all_d dX9_alike_all0 18 rfl
theorem dX9_alike_29 : decode cX9_alike 29 = .ok (.aload_n 0, 1) := all_d dX9_alike_all0 19 rfl
theorem dX9_alike_30 : decode cX9_alike 30 = .ok (.getfield 22, 3) := all_d dX9_alike_all0 20 rfl
theorem dX9_alike_33 : decode cX9_alike 33 = .ok (.iload_n 2, 1) := all_d dX9_alike_all0 21 rfl
theorem dX9_alike_34 : decode cX9_alike 34 = .ok (.iaload, 1) := all_d dX9_alike_all0 22 rfl
theorem dX9_alike_35 : decode cX9_alike 35 = .ok (.aload_n 0, 1) := all_d dX9_alike_all0 23 rfl
theorem dX9_alike_36 : decode cX9_alike 36 = .ok (.getfield 22, 3) := all_d dX9_alike_all0 24 rfl
theorem dX9_alike_39 : decode cX9_alike 39 = .ok (.iload_n 3, 1) := all_d dX9_alike_all0 25 rfl
theorem dX9_alike_40 : decode cX9_alike 40 = .ok (.iaload, 1) := all_d dX9_alike_all0 26 rfl
theorem dX9_alike_41 : decode cX9_alike 41 = .ok (.if_icmp .eq 6, 3) := all_d dX9_alike_all0 27 rfl
theorem dX9_alike_44 : decode cX9_alike 44 = .ok (.goto 68, 3) := all_d dX9_alike_all0 28 rfl
theorem dX9_alike_47 : decode cX9_alike 47 = .ok (.iconst 1, 1) := all_d dX9_alike_all0 29 rfl
theorem dX9_alike_48 : decode cX9_alike 48 = .ok (.istore 4, 2) := all_d dX9_alike_all0 30 rfl
theorem dX9_alike_50 : decode cX9_alike 50 = .ok (.iconst 0, 1) := all_d dX9_alike_all0 31 rfl
theorem dX9_alike_51 : decode cX9_alike 51 = .ok (.istore 5, 2) := all_d dX9_alike_all0 32 rfl
theorem dX9_alike_53 : decode cX9_alike 53 = .ok (.iload 5, 2) := all_d dX9_alike_all0 33 rfl
theorem dX9_alike_55 : decode cX9_alike 55 = .ok (.aload_n 0, 1) := all_d dX9_alike_all0 34 rfl
theorem dX9_alike_56 : decode cX9_alike 56 = .ok (.getfield 7, 3) := all_d dX9_alike_all0 35 rfl
theorem dX9_alike_59 : decode cX9_alike 59 = .ok (.iconst 0, 1) := all_d dX9_alike_all0 36 rfl
theorem dX9_alike_60 : decode cX9_alike 60 = .ok (.iaload, 1) := all_d dX9_alike_all0 37 rfl
theorem dX9_alike_61 : decode cX9_alike 61 = .ok (.if_icmp .gt 38, 3) := all_d dX9_alike_all0 38 rfl
theorem dX9_alike_64 : decode cX9_alike 64 = .ok (.iload 4, 2) := all_d dX9_alike_all0 39 rfl
theorem dX9_alike_66 : decode cX9_alike 66 = .ok (.ifCond .eq 33, 3) := all_d dX9_alike_all0 40 rfl
theorem dX9_alike_69 : decode cX9_alike 69 = .ok (.aload_n 0, 1) := all_d dX9_alike_all0 41 rfl
theorem dX9_alike_70 : decode cX9_alike 70 = .ok (.iload_n 2, 1) := all_d dX9_alike_all0 42 rfl
theorem dX9_alike_71 : decode cX9_alike 71 = .ok (.iload 5, 2) := all_d dX9_alike_all0 43 rfl
theorem dX9_alike_73 : decode cX9_alike 73 = .ok (.invokevirtual 137, 3) := all_d dX9_alike_all0 44 rfl
theorem dX9_alike_76 : decode cX9_alike 76 = .ok (.aload_n 0, 1) := all_d dX9_alike_all0 45 rfl
theorem dX9_alike_77 : decode cX9_alike 77 = .ok (.iload_n 3, 1) := all_d dX9_alike_all0 46 rfl
theorem dX9_alike_78 : decode cX9_alike 78 = .ok (.iload 5, 2) := all_d dX9_alike_all0 47 rfl
theorem dX9_alike_80 : decode cX9_alike 80 = .ok (.invokevirtual 137, 3) := all_d dX9_alike_all0 48 rfl
theorem dX9_alike_83 : decode cX9_alike 83 = .ok (.if_icmp .ne 7, 3) := all_d dX9_alike_all0 49 rfl
theorem dX9_alike_86 : decode cX9_alike 86 = .ok (.iconst 1, 1) := all_d dX9_alike_all0 50 rfl
theorem dX9_alike_87 : decode cX9_alike 87 = .ok (.goto 4, 3) := all_d dX9_alike_all0 51 rfl
theorem dX9_alike_90 : decode cX9_alike 90 = .ok (.iconst 0, 1) := all_d dX9_alike_all0 52 rfl
theorem dX9_alike_91 : decode cX9_alike 91 = .ok (.istore 4, 2) := all_d dX9_alike_all0 53 rfl
theorem dX9_alike_93 : decode cX9_alike 93 = .ok (.iinc 5 1, 3) := all_d dX9_alike_all0 54 rfl
theorem dX9_alike_96 : decode cX9_alike 96 = .ok (.goto (-43), 3) := all_d dX9_alike_all0 55 rfl
theorem dX9_alike_99 : decode cX9_alike 99 = .ok (.iload_n 1, 1) := all_d dX9_alike_all0 56 rfl
theorem dX9_alike_100 : decode cX9_alike 100 = .ok (.iload 4, 2) := all_d dX9_alike_all0 57 rfl
theorem dX9_alike_102 : decode cX9_alike 102 = .ok (.ifCond .eq 7, 3) := all_d dX9_alike_all0 58 rfl
theorem dX9_alike_105 : decode cX9_alike 105 = .ok (.iconst 1, 1) := all_d dX9_alike_all0 59 rfl
theorem dX9_alike_106 : decode cX9_alike 106 = .ok (.goto 4, 3) := all_d dX9_alike_all0 60 rfl
theorem dX9_alike_109 : decode cX9_alike 109 = .ok (.iconst 0, 1) := all_d dX9_alike_all0 61 rfl
theorem dX9_alike_110 : decode cX9_alike 110 = .ok (.iadd, 1) := all_d dX9_alike_all0 62 rfl
theorem dX9_alike_111 : decode cX9_alike 111 = .ok (.istore_n 1, 1) := all_d dX9_alike_all0 63 rfl
theorem dX9_alike_112 : decode cX9_alike 112 = .ok (.iinc 3 1, 3) := all_d dX9_alike_all0 64 rfl
theorem dX9_alike_115 : decode cX9_alike 115 = .ok (.goto (-94), 3) := all_d dX9_alike_all0 65 rfl
theorem dX9_alike_118 : decode cX9_alike 118 = .ok (.iinc 2 1, 3) := all_d dX9_alike_all0 66 rfl
theorem dX9_alike_121 : decode cX9_alike 121 = .ok (.goto (-112), 3) := all_d dX9_alike_all0 67 rfl
theorem dX9_alike_124 : decode cX9_alike 124 = .ok (.iload_n 1, 1) := all_d dX9_alike_all0 68 rfl
theorem dX9_alike_125 : decode cX9_alike 125 = .ok (.ireturn, 1) := all_d dX9_alike_all0 69 rfl
set_option maxRecDepth 100000 in
theorem dX9_beyond_all0 : ([(0, (.aload_n 0 : Instr), 1), (1, (.iconst 0 : Instr), 1), (2, (.putfield 47 : Instr), 3), (5, (.aload_n 0 : Instr), 1), (6, (.iload_n 1 : Instr), 1), (7, (.invokevirtual 68 : Instr), 3), (10, (.ifCond .ne 9 : Instr), 3), (13, (.aload_n 0 : Instr), 1), (14, (.iconst 2 : Instr), 1), (15, (.invokevirtual 78 : Instr), 3), (18, (.ireturn : Instr), 1), (19, (.aload_n 0 : Instr), 1), (20, (.iconst 0 : Instr), 1), (21, (.putfield 51 : Instr), 3), (24, (.iconst 0 : Instr), 1), (25, (.istore_n 2 : Instr), 1), (26, (.iload_n 2 : Instr), 1), (27, (.aload_n 0 : Instr), 1), (28, (.getfield 7 : Instr), 3), (31, (.iconst 0 : Instr), 1), (32, (.iaload : Instr), 1), (33, (.if_icmp .gt 28 : Instr), 3), (36, (.aload_n 0 : Instr), 1), (37, (.iload_n 1 : Instr), 1), (38, (.iload_n 2 : Instr), 1), (39, (.invokevirtual 103 : Instr), 3), (42, (.aload_n 0 : Instr), 1), (43, (.aload_n 0 : Instr), 1), (44, (.getfield 97 : Instr), 3), (47, (.invokevirtual 107 : Instr), 3), (50, (.ifCond .ne 5 : Instr), 3), (53, (.iload_n 2 : Instr), 1), (54, (.ireturn : Instr), 1), (55, (.iinc 2 1 : Instr), 3), (58, (.goto (-32) : Instr), 3), (61, (.bipush (-2) : Instr), 2), (63, (.ireturn : Instr), 1)] : List (Nat × Instr × Nat)).all (fun q => decide (decode cX9_beyond q.1 = .ok (q.2.1, q.2.2))) = true := by decide +kernel
theorem dX9_beyond_0 : decode cX9_beyond 0 = .ok (.aload_n 0, 1) := all_d dX9_beyond_all0 0 rfl
theorem dX9_beyond_1 : decode cX9_beyond 1 = .ok (.iconst 0, 1) := all_d dX9_beyond_all0 1 rfl
theorem dX9_beyond_2 : decode cX9_beyond 2 = .ok (.putfield 47, 3) := all_d dX9_beyond_all0 2 rfl
theorem dX9_beyond_5 : decode cX9_beyond 5 = .ok (.aload_n 0, 1) := all_d dX9_beyond_all0 3 rfl
theorem dX9_beyond_6 : decode cX9_beyond 6 = .ok (.iload_n 1, 1) := all_d dX9_beyond_all0 4 rfl
theorem dX9_beyond_7 : decode cX9_beyond 7 = .ok (.invokevirtual 68, 3) := all_d dX9_beyond_all0 5 rfl
theorem dX9_beyond_10 : decode cX9_beyond 10 = .ok (.ifCond .ne 9, 3) := all_d dX9_beyond_all0 6 rfl
theorem dX9_beyond_13 : decode cX9_beyond 13 = .ok (.aload_n 0, 1) := all_d dX9_beyond_all0 7 rfl
theorem dX9_beyond_14 : decode cX9_beyond 14 = .ok (.iconst 2, 1) := all_d dX9_beyond_all0 8 rfl
theorem dX9_beyond_15 : decode cX9_beyond 15 = .ok (.invokevirtual 78, 3) := all_d dX9_beyond_all0 9 rfl
theorem dX9_beyond_18 : decode cX9_beyond 18 = .ok (.ireturn, 1) := all_d dX9_beyond_all0 10 rfl
theorem dX9_beyond_19 : decode cX9_beyond 19 = .ok (.aload_n 0, 1) := all_d dX9_beyond_all0 11 rfl
theorem dX9_beyond_20 : decode cX9_beyond 20 = .ok (.iconst 0, 1) := all_d dX9_beyond_all0 12 rfl
theorem dX9_beyond_21 : decode cX9_beyond 21 = .ok (.putfield 51, 3) := all_d dX9_beyond_all0 13 rfl
theorem dX9_beyond_24 : decode cX9_beyond 24 = .ok (.iconst 0, 1) := all_d dX9_beyond_all0 14 rfl
theorem dX9_beyond_25 : decode cX9_beyond 25 = .ok (.istore_n 2, 1) := all_d dX9_beyond_all0 15 rfl
theorem dX9_beyond_26 : decode cX9_beyond 26 = .ok (.iload_n 2, 1) := all_d dX9_beyond_all0 16 rfl
theorem dX9_beyond_27 : decode cX9_beyond 27 = .ok (.aload_n 0, 1) := all_d dX9_beyond_all0 17 rfl
theorem dX9_beyond_28 : decode cX9_beyond 28 = .ok (.getfield 7, 3) := all_d dX9_beyond_all0 18 rfl
theorem dX9_beyond_31 : decode cX9_beyond 31 = .ok (.iconst 0, 1) := all_d dX9_beyond_all0 19 rfl
theorem dX9_beyond_32 : decode cX9_beyond 32 = .ok (.iaload, 1) := all_d dX9_beyond_all0 20 rfl
theorem dX9_beyond_33 : decode cX9_beyond 33 = .ok (.if_icmp .gt 28, 3) := all_d dX9_beyond_all0 21 rfl
theorem dX9_beyond_36 : decode cX9_beyond 36 = .ok (.aload_n 0, 1) := all_d dX9_beyond_all0 22 rfl
theorem dX9_beyond_37 : decode cX9_beyond 37 = .ok (.iload_n 1, 1) := all_d dX9_beyond_all0 23 rfl
theorem dX9_beyond_38 : decode cX9_beyond 38 = .ok (.iload_n 2, 1) := all_d dX9_beyond_all0 24 rfl
theorem dX9_beyond_39 : decode cX9_beyond 39 = .ok (.invokevirtual 103, 3) := all_d dX9_beyond_all0 25 rfl
theorem dX9_beyond_42 : decode cX9_beyond 42 = .ok (.aload_n 0, 1) := all_d dX9_beyond_all0 26 rfl
theorem dX9_beyond_43 : decode cX9_beyond 43 = .ok (.aload_n 0, 1) := all_d dX9_beyond_all0 27 rfl
theorem dX9_beyond_44 : decode cX9_beyond 44 = .ok (.getfield 97, 3) := all_d dX9_beyond_all0 28 rfl
theorem dX9_beyond_47 : decode cX9_beyond 47 = .ok (.invokevirtual 107, 3) := all_d dX9_beyond_all0 29 rfl
theorem dX9_beyond_50 : decode cX9_beyond 50 = .ok (.ifCond .ne 5, 3) := all_d dX9_beyond_all0 30 rfl
theorem dX9_beyond_53 : decode cX9_beyond 53 = .ok (.iload_n 2, 1) := all_d dX9_beyond_all0 31 rfl
theorem dX9_beyond_54 : decode cX9_beyond 54 = .ok (.ireturn, 1) := all_d dX9_beyond_all0 32 rfl
theorem dX9_beyond_55 : decode cX9_beyond 55 = .ok (.iinc 2 1, 3) := all_d dX9_beyond_all0 33 rfl
theorem dX9_beyond_58 : decode cX9_beyond 58 = .ok (.goto (-32), 3) := all_d dX9_beyond_all0 34 rfl
theorem dX9_beyond_61 : decode cX9_beyond 61 = .ok (.bipush (-2), 2) := all_d dX9_beyond_all0 35 rfl
theorem dX9_beyond_63 : decode cX9_beyond 63 = .ok (.ireturn, 1) := all_d dX9_beyond_all0 36 rfl
set_option maxRecDepth 100000 in
theorem dX9_joined_all0 : ([(0, (.aload_n 0 : Instr), 1), (1, (.iconst 0 : Instr), 1), (2, (.putfield 47 : Instr), 3), (5, (.aload_n 0 : Instr), 1), (6, (.iload_n 1 : Instr), 1), (7, (.invokevirtual 68 : Instr), 3), (10, (.ifCond .eq 20 : Instr), 3), (13, (.aload_n 0 : Instr), 1), (14, (.iload_n 2 : Instr), 1), (15, (.invokevirtual 68 : Instr), 3), (18, (.ifCond .eq 12 : Instr), 3), (21, (.aload_n 0 : Instr), 1), (22, (.iload 4 : Instr), 2), (24, (.invokevirtual 107 : Instr), 3), (27, (.ifCond .ne 11 : Instr), 3), (30, (.aload_n 0 : Instr), 1), (31, (.iconst 2 : Instr), 1), (32, (.putfield 51 : Instr), 3), (35, (.ldc 113 : Instr), 2), (37, (.ireturn : Instr), 1), (38, (.aload_n 0 : Instr), 1), (39, (.iload_n 1 : Instr), 1), (40, (.iload 4 : Instr), 2), (42, (.invokevirtual 103 : Instr), 3), (45, (.aload_n 0 : Instr), 1), (46, (.getfield 91 : Instr), 3), (49, (.istore 5 : Instr), 2), (51, (.aload_n 0 : Instr), 1), (52, (.getfield 97 : Instr), 3), (55, (.istore 6 : Instr), 2), (57, (.aload_n 0 : Instr), 1), (58, (.iload_n 3 : Instr), 1), (59, (.sipush (-1000) : Instr), 3), (62, (.sipush 1000 : Instr), 3), (65, (.invokevirtual 64 : Instr), 3), (68, (.ifCond .eq 12 : Instr), 3), (71, (.aload_n 0 : Instr), 1), (72, (.iload 6 : Instr), 2), (74, (.invokevirtual 107 : Instr), 3), (77, (.ifCond .ne 11 : Instr), 3), (80, (.aload_n 0 : Instr), 1), (81, (.iconst 1 : Instr), 1), (82, (.putfield 51 : Instr), 3), (85, (.ldc 113 : Instr), 2), (87, (.ireturn : Instr), 1), (88, (.aload_n 0 : Instr), 1), (89, (.iconst 0 : Instr), 1), (90, (.putfield 51 : Instr), 3), (93, (.iload 5 : Instr), 2), (95, (.iload_n 3 : Instr), 1), (96, (.imul : Instr), 1), (97, (.aload_n 0 : Instr), 1), (98, (.iload_n 2 : Instr), 1), (99, (.iload 6 : Instr), 2), (101, (.invokevirtual 110 : Instr), 3), (104, (.iadd : Instr), 1), (105, (.ireturn : Instr), 1)] : List (Nat × Instr × Nat)).all (fun q => decide (decode cX9_joined q.1 = .ok (q.2.1, q.2.2))) = true := by decide +kernel
theorem dX9_joined_0 : decode cX9_joined 0 = .ok (.aload_n 0, 1) := all_d dX9_joined_all0 0 rfl
theorem dX9_joined_1 : decode cX9_joined 1 = .ok (.iconst 0, 1) := all_d dX9_joined_all0 1 rfl
theorem dX9_joined_2 : decode cX9_joined 2 = .ok (.putfield 47, 3) := all_d dX9_joined_all0 2 rfl
theorem dX9_joined_5 : decode cX9_joined 5 = .ok (.aload_n 0, 1) := all_d dX9_joined_all0 3 rfl
theorem dX9_joined_6 : decode cX9_joined 6 = .ok (.iload_n 1, 1) := all_d dX9_joined_all0 4 rfl
theorem dX9_joined_7 : decode cX9_joined 7 = .ok (.invokevirtual 68, 3) := all_d dX9_joined_all0 5 rfl
theorem dX9_joined_10 : decode cX9_joined 10 = .ok (.ifCond .eq 20, 3) := all_d dX9_joined_all0 6 rfl
theorem dX9_joined_13 : decode cX9_joined 13 = .ok (.aload_n 0, 1) := all_d dX9_joined_all0 7 rfl
theorem dX9_joined_14 : decode cX9_joined 14 = .ok (.iload_n 2, 1) := all_d dX9_joined_all0 8 rfl
theorem dX9_joined_15 : decode cX9_joined 15 = .ok (.invokevirtual 68, 3) := all_d dX9_joined_all0 9 rfl
theorem dX9_joined_18 : decode cX9_joined 18 = .ok (.ifCond .eq 12, 3) := all_d dX9_joined_all0 10 rfl
theorem dX9_joined_21 : decode cX9_joined 21 = .ok (.aload_n 0, 1) := all_d dX9_joined_all0 11 rfl
theorem dX9_joined_22 : decode cX9_joined 22 = .ok (.iload 4, 2) := all_d dX9_joined_all0 12 rfl
theorem dX9_joined_24 : decode cX9_joined 24 = .ok (.invokevirtual 107, 3) := all_d dX9_joined_all0 13 rfl
theorem dX9_joined_27 : decode cX9_joined 27 = .ok (.ifCond .ne 11, 3) := all_d dX9_joined_all0 14 rfl
theorem dX9_joined_30 : decode cX9_joined 30 = .ok (.aload_n 0, 1) := all_d dX9_joined_all0 15 rfl
theorem dX9_joined_31 : decode cX9_joined 31 = .ok (.iconst 2, 1) := all_d dX9_joined_all0 16 rfl
theorem dX9_joined_32 : decode cX9_joined 32 = .ok (.putfield 51, 3) := all_d dX9_joined_all0 17 rfl
theorem dX9_joined_35 : decode cX9_joined 35 = .ok (.ldc 113, 2) := all_d dX9_joined_all0 18 rfl
theorem dX9_joined_37 : decode cX9_joined 37 = .ok (.ireturn, 1) := all_d dX9_joined_all0 19 rfl
theorem dX9_joined_38 : decode cX9_joined 38 = .ok (.aload_n 0, 1) := all_d dX9_joined_all0 20 rfl
theorem dX9_joined_39 : decode cX9_joined 39 = .ok (.iload_n 1, 1) := all_d dX9_joined_all0 21 rfl
theorem dX9_joined_40 : decode cX9_joined 40 = .ok (.iload 4, 2) := all_d dX9_joined_all0 22 rfl
theorem dX9_joined_42 : decode cX9_joined 42 = .ok (.invokevirtual 103, 3) := all_d dX9_joined_all0 23 rfl
theorem dX9_joined_45 : decode cX9_joined 45 = .ok (.aload_n 0, 1) := all_d dX9_joined_all0 24 rfl
theorem dX9_joined_46 : decode cX9_joined 46 = .ok (.getfield 91, 3) := all_d dX9_joined_all0 25 rfl
theorem dX9_joined_49 : decode cX9_joined 49 = .ok (.istore 5, 2) := all_d dX9_joined_all0 26 rfl
theorem dX9_joined_51 : decode cX9_joined 51 = .ok (.aload_n 0, 1) := all_d dX9_joined_all0 27 rfl
theorem dX9_joined_52 : decode cX9_joined 52 = .ok (.getfield 97, 3) := all_d dX9_joined_all0 28 rfl
theorem dX9_joined_55 : decode cX9_joined 55 = .ok (.istore 6, 2) := all_d dX9_joined_all0 29 rfl
theorem dX9_joined_57 : decode cX9_joined 57 = .ok (.aload_n 0, 1) := all_d dX9_joined_all0 30 rfl
theorem dX9_joined_58 : decode cX9_joined 58 = .ok (.iload_n 3, 1) := all_d dX9_joined_all0 31 rfl
theorem dX9_joined_59 : decode cX9_joined 59 = .ok (.sipush (-1000), 3) := all_d dX9_joined_all0 32 rfl
theorem dX9_joined_62 : decode cX9_joined 62 = .ok (.sipush 1000, 3) := all_d dX9_joined_all0 33 rfl
theorem dX9_joined_65 : decode cX9_joined 65 = .ok (.invokevirtual 64, 3) := all_d dX9_joined_all0 34 rfl
theorem dX9_joined_68 : decode cX9_joined 68 = .ok (.ifCond .eq 12, 3) := all_d dX9_joined_all0 35 rfl
theorem dX9_joined_71 : decode cX9_joined 71 = .ok (.aload_n 0, 1) := all_d dX9_joined_all0 36 rfl
theorem dX9_joined_72 : decode cX9_joined 72 = .ok (.iload 6, 2) := all_d dX9_joined_all0 37 rfl
theorem dX9_joined_74 : decode cX9_joined 74 = .ok (.invokevirtual 107, 3) := all_d dX9_joined_all0 38 rfl
theorem dX9_joined_77 : decode cX9_joined 77 = .ok (.ifCond .ne 11, 3) := all_d dX9_joined_all0 39 rfl
theorem dX9_joined_80 : decode cX9_joined 80 = .ok (.aload_n 0, 1) := all_d dX9_joined_all0 40 rfl
theorem dX9_joined_81 : decode cX9_joined 81 = .ok (.iconst 1, 1) := all_d dX9_joined_all0 41 rfl
theorem dX9_joined_82 : decode cX9_joined 82 = .ok (.putfield 51, 3) := all_d dX9_joined_all0 42 rfl
theorem dX9_joined_85 : decode cX9_joined 85 = .ok (.ldc 113, 2) := all_d dX9_joined_all0 43 rfl
theorem dX9_joined_87 : decode cX9_joined 87 = .ok (.ireturn, 1) := all_d dX9_joined_all0 44 rfl
theorem dX9_joined_88 : decode cX9_joined 88 = .ok (.aload_n 0, 1) := all_d dX9_joined_all0 45 rfl
theorem dX9_joined_89 : decode cX9_joined 89 = .ok (.iconst 0, 1) := all_d dX9_joined_all0 46 rfl
theorem dX9_joined_90 : decode cX9_joined 90 = .ok (.putfield 51, 3) := all_d dX9_joined_all0 47 rfl
theorem dX9_joined_93 : decode cX9_joined 93 = .ok (.iload 5, 2) := all_d dX9_joined_all0 48 rfl
theorem dX9_joined_95 : decode cX9_joined 95 = .ok (.iload_n 3, 1) := all_d dX9_joined_all0 49 rfl
theorem dX9_joined_96 : decode cX9_joined 96 = .ok (.imul, 1) := all_d dX9_joined_all0 50 rfl
theorem dX9_joined_97 : decode cX9_joined 97 = .ok (.aload_n 0, 1) := all_d dX9_joined_all0 51 rfl
theorem dX9_joined_98 : decode cX9_joined 98 = .ok (.iload_n 2, 1) := all_d dX9_joined_all0 52 rfl
theorem dX9_joined_99 : decode cX9_joined 99 = .ok (.iload 6, 2) := all_d dX9_joined_all0 53 rfl
theorem dX9_joined_101 : decode cX9_joined 101 = .ok (.invokevirtual 110, 3) := all_d dX9_joined_all0 54 rfl
theorem dX9_joined_104 : decode cX9_joined 104 = .ok (.iadd, 1) := all_d dX9_joined_all0 55 rfl
theorem dX9_joined_105 : decode cX9_joined 105 = .ok (.ireturn, 1) := all_d dX9_joined_all0 56 rfl
set_option maxRecDepth 100000 in
theorem dX9_size_all0 : ([(0, (.aload_n 0 : Instr), 1), (1, (.iconst 0 : Instr), 1), (2, (.putfield 47 : Instr), 3), (5, (.iload_n 1 : Instr), 1), (6, (.ifCond .ne 12 : Instr), 3), (9, (.aload_n 0 : Instr), 1), (10, (.getfield 7 : Instr), 3), (13, (.iconst 0 : Instr), 1), (14, (.iaload : Instr), 1), (15, (.goto 54 : Instr), 3), (18, (.iload_n 1 : Instr), 1), (19, (.iconst 1 : Instr), 1), (20, (.if_icmp .ne 12 : Instr), 3), (23, (.aload_n 0 : Instr), 1), (24, (.getfield 7 : Instr), 3), (27, (.iconst 1 : Instr), 1), (28, (.iaload : Instr), 1), (29, (.goto 40 : Instr), 3), (32, (.iload_n 1 : Instr), 1), (33, (.iconst 2 : Instr), 1), (34, (.if_icmp .ne 10 : Instr), 3), (37, (.aload_n 0 : Instr), 1), (38, (.getfield 131 : Instr), 3), (41, (.goto 28 : Instr), 3), (44, (.iload_n 1 : Instr), 1), (45, (.iconst 3 : Instr), 1), (46, (.if_icmp .ne 10 : Instr), 3), (49, (.aload_n 0 : Instr), 1), (50, (.getfield 57 : Instr), 3), (53, (.goto 16 : Instr), 3), (56, (.iload_n 1 : Instr), 1), (57, (.iconst 4 : Instr), 1), (58, (.if_icmp .ne 10 : Instr), 3), (61, (.aload_n 0 : Instr), 1), (62, (.getfield 54 : Instr), 3), (65, (.goto 4 : Instr), 3), (68, (.iconst (-1) : Instr), 1), (69, (.ireturn : Instr), 1)] : List (Nat × Instr × Nat)).all (fun q => decide (decode cX9_size q.1 = .ok (q.2.1, q.2.2))) = true := by decide +kernel
theorem dX9_size_0 : decode cX9_size 0 = .ok (.aload_n 0, 1) := all_d dX9_size_all0 0 rfl
theorem dX9_size_1 : decode cX9_size 1 = .ok (.iconst 0, 1) := all_d dX9_size_all0 1 rfl
theorem dX9_size_2 : decode cX9_size 2 = .ok (.putfield 47, 3) := all_d dX9_size_all0 2 rfl
theorem dX9_size_5 : decode cX9_size 5 = .ok (.iload_n 1, 1) := all_d dX9_size_all0 3 rfl
theorem dX9_size_6 : decode cX9_size 6 = .ok (.ifCond .ne 12, 3) := all_d dX9_size_all0 4 rfl
theorem dX9_size_9 : decode cX9_size 9 = .ok (.aload_n 0, 1) := all_d dX9_size_all0 5 rfl
theorem dX9_size_10 : decode cX9_size 10 = .ok (.getfield 7, 3) := all_d dX9_size_all0 6 rfl
theorem dX9_size_13 : decode cX9_size 13 = .ok (.iconst 0, 1) := all_d dX9_size_all0 7 rfl
theorem dX9_size_14 : decode cX9_size 14 = .ok (.iaload, 1) := all_d dX9_size_all0 8 rfl
theorem dX9_size_15 : decode cX9_size 15 = .ok (.goto 54, 3) := all_d dX9_size_all0 9 rfl
theorem dX9_size_18 : decode cX9_size 18 = .ok (.iload_n 1, 1) := all_d dX9_size_all0 10 rfl
theorem dX9_size_19 : decode cX9_size 19 = .ok (.iconst 1, 1) := all_d dX9_size_all0 11 rfl
theorem dX9_size_20 : decode cX9_size 20 = .ok (.if_icmp .ne 12, 3) := all_d dX9_size_all0 12 rfl
theorem dX9_size_23 : decode cX9_size 23 = .ok (.aload_n 0, 1) := all_d dX9_size_all0 13 rfl
theorem dX9_size_24 : decode cX9_size 24 = .ok (.getfield 7, 3) := all_d dX9_size_all0 14 rfl
theorem dX9_size_27 : decode cX9_size 27 = .ok (.iconst 1, 1) := all_d dX9_size_all0 15 rfl
theorem dX9_size_28 : decode cX9_size 28 = .ok (.iaload, 1) := all_d dX9_size_all0 16 rfl
theorem dX9_size_29 : decode cX9_size 29 = .ok (.goto 40, 3) := all_d dX9_size_all0 17 rfl
theorem dX9_size_32 : decode cX9_size 32 = .ok (.iload_n 1, 1) := all_d dX9_size_all0 18 rfl
theorem dX9_size_33 : decode cX9_size 33 = .ok (.iconst 2, 1) := all_d dX9_size_all0 19 rfl
theorem dX9_size_34 : decode cX9_size 34 = .ok (.if_icmp .ne 10, 3) := all_d dX9_size_all0 20 rfl
theorem dX9_size_37 : decode cX9_size 37 = .ok (.aload_n 0, 1) := all_d dX9_size_all0 21 rfl
theorem dX9_size_38 : decode cX9_size 38 = .ok (.getfield 131, 3) := all_d dX9_size_all0 22 rfl
theorem dX9_size_41 : decode cX9_size 41 = .ok (.goto 28, 3) := all_d dX9_size_all0 23 rfl
theorem dX9_size_44 : decode cX9_size 44 = .ok (.iload_n 1, 1) := all_d dX9_size_all0 24 rfl
theorem dX9_size_45 : decode cX9_size 45 = .ok (.iconst 3, 1) := all_d dX9_size_all0 25 rfl
theorem dX9_size_46 : decode cX9_size 46 = .ok (.if_icmp .ne 10, 3) := all_d dX9_size_all0 26 rfl
theorem dX9_size_49 : decode cX9_size 49 = .ok (.aload_n 0, 1) := all_d dX9_size_all0 27 rfl
theorem dX9_size_50 : decode cX9_size 50 = .ok (.getfield 57, 3) := all_d dX9_size_all0 28 rfl
theorem dX9_size_53 : decode cX9_size 53 = .ok (.goto 16, 3) := all_d dX9_size_all0 29 rfl
theorem dX9_size_56 : decode cX9_size 56 = .ok (.iload_n 1, 1) := all_d dX9_size_all0 30 rfl
theorem dX9_size_57 : decode cX9_size 57 = .ok (.iconst 4, 1) := all_d dX9_size_all0 31 rfl
theorem dX9_size_58 : decode cX9_size 58 = .ok (.if_icmp .ne 10, 3) := all_d dX9_size_all0 32 rfl
theorem dX9_size_61 : decode cX9_size 61 = .ok (.aload_n 0, 1) := all_d dX9_size_all0 33 rfl
theorem dX9_size_62 : decode cX9_size 62 = .ok (.getfield 54, 3) := all_d dX9_size_all0 34 rfl
theorem dX9_size_65 : decode cX9_size 65 = .ok (.goto 4, 3) := all_d dX9_size_all0 35 rfl
theorem dX9_size_68 : decode cX9_size 68 = .ok (.iconst (-1), 1) := all_d dX9_size_all0 36 rfl
theorem dX9_size_69 : decode cX9_size 69 = .ok (.ireturn, 1) := all_d dX9_size_all0 37 rfl
set_option maxRecDepth 100000 in
theorem dX9_trouble_all0 : ([(0, (.aload_n 0 : Instr), 1), (1, (.iconst 0 : Instr), 1), (2, (.putfield 47 : Instr), 3), (5, (.aload_n 0 : Instr), 1), (6, (.getfield 51 : Instr), 3), (9, (.ireturn : Instr), 1)] : List (Nat × Instr × Nat)).all (fun q => decide (decode cX9_trouble q.1 = .ok (q.2.1, q.2.2))) = true := by decide +kernel
theorem dX9_trouble_0 : decode cX9_trouble 0 = .ok (.aload_n 0, 1) := all_d dX9_trouble_all0 0 rfl
theorem dX9_trouble_1 : decode cX9_trouble 1 = .ok (.iconst 0, 1) := all_d dX9_trouble_all0 1 rfl
theorem dX9_trouble_2 : decode cX9_trouble 2 = .ok (.putfield 47, 3) := all_d dX9_trouble_all0 2 rfl
theorem dX9_trouble_5 : decode cX9_trouble 5 = .ok (.aload_n 0, 1) := all_d dX9_trouble_all0 3 rfl
theorem dX9_trouble_6 : decode cX9_trouble 6 = .ok (.getfield 51, 3) := all_d dX9_trouble_all0 4 rfl
theorem dX9_trouble_9 : decode cX9_trouble 9 = .ok (.ireturn, 1) := all_d dX9_trouble_all0 5 rfl
