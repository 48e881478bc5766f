theorem all_d {b : ByteArray} {l : List (Nat × Instr × Nat)} (h : l.all (fun q => decide (decode b q.1 = .ok (q.2.1, q.2.2))) = true) (i : Nat) {pc len : Nat} {ins : Instr} (hi : l[i]? = some (pc, ins, len)) : decode b pc = .ok (ins, len) := of_decide_eq_true (List.all_eq_true.mp h (pc, ins, len) (List.mem_of_getElem? hi))
set_option maxRecDepth 100000 in
theorem dX0_init_all0 : ([(0, (.aload_n 0 : Instr), 1), (1, (.invokespecial 3 : Instr), 3), (4, (.aload_n 0 : Instr), 1), (5, (.bipush 16 : Instr), 2), (7, (.newarray .int : Instr), 2), (9, (.putfield 9 : Instr), 3), (12, (.return_ : Instr), 1)] : List (Nat × Instr × Nat)).all (fun q => decide (decode cX0_init q.1 = .ok (q.2.1, q.2.2))) = true := by decide +kernel
theorem dX0_init_0 : decode cX0_init 0 = .ok (.aload_n 0, 1) := all_d dX0_init_all0 0 rfl
theorem dX0_init_1 : decode cX0_init 1 = .ok (.invokespecial 3, 3) := all_d dX0_init_all0 1 rfl
theorem dX0_init_4 : decode cX0_init 4 = .ok (.aload_n 0, 1) := all_d dX0_init_all0 2 rfl
theorem dX0_init_5 : decode cX0_init 5 = .ok (.bipush 16, 2) := all_d dX0_init_all0 3 rfl
theorem dX0_init_7 : decode cX0_init 7 = .ok (.newarray .int, 2) := all_d dX0_init_all0 4 rfl
theorem dX0_init_9 : decode cX0_init 9 = .ok (.putfield 9, 3) := all_d dX0_init_all0 5 rfl
theorem dX0_init_12 : decode cX0_init 12 = .ok (.return_, 1) := all_d dX0_init_all0 6 rfl
set_option maxRecDepth 100000 in
theorem dX1_init_all0 : ([(0, (.aload_n 0 : Instr), 1), (1, (.invokespecial 3 : Instr), 3), (4, (.aload_n 0 : Instr), 1), (5, (.sipush 1024 : Instr), 3), (8, (.newarray .int : Instr), 2), (10, (.putfield 11 : Instr), 3), (13, (.aload_n 0 : Instr), 1), (14, (.sipush 1024 : Instr), 3), (17, (.newarray .int : Instr), 2), (19, (.putfield 15 : Instr), 3), (22, (.aload_n 0 : Instr), 1), (23, (.sipush 1024 : Instr), 3), (26, (.newarray .int : Instr), 2), (28, (.putfield 18 : Instr), 3), (31, (.return_ : Instr), 1)] : List (Nat × Instr × Nat)).all (fun q => decide (decode cX1_init q.1 = .ok (q.2.1, q.2.2))) = true := by decide +kernel
theorem dX1_init_0 : decode cX1_init 0 = .ok (.aload_n 0, 1) := all_d dX1_init_all0 0 rfl
theorem dX1_init_1 : decode cX1_init 1 = .ok (.invokespecial 3, 3) := all_d dX1_init_all0 1 rfl
theorem dX1_init_4 : decode cX1_init 4 = .ok (.aload_n 0, 1) := all_d dX1_init_all0 2 rfl
theorem dX1_init_5 : decode cX1_init 5 = .ok (.sipush 1024, 3) := all_d dX1_init_all0 3 rfl
theorem dX1_init_8 : decode cX1_init 8 = .ok (.newarray .int, 2) := all_d dX1_init_all0 4 rfl
theorem dX1_init_10 : decode cX1_init 10 = .ok (.putfield 11, 3) := all_d dX1_init_all0 5 rfl
theorem dX1_init_13 : decode cX1_init 13 = .ok (.aload_n 0, 1) := all_d dX1_init_all0 6 rfl
theorem dX1_init_14 : decode cX1_init 14 = .ok (.sipush 1024, 3) := all_d dX1_init_all0 7 rfl
theorem dX1_init_17 : decode cX1_init 17 = .ok (.newarray .int, 2) := all_d dX1_init_all0 8 rfl
theorem dX1_init_19 : decode cX1_init 19 = .ok (.putfield 15, 3) := all_d dX1_init_all0 9 rfl
theorem dX1_init_22 : decode cX1_init 22 = .ok (.aload_n 0, 1) := all_d dX1_init_all0 10 rfl
theorem dX1_init_23 : decode cX1_init 23 = .ok (.sipush 1024, 3) := all_d dX1_init_all0 11 rfl
theorem dX1_init_26 : decode cX1_init 26 = .ok (.newarray .int, 2) := all_d dX1_init_all0 12 rfl
theorem dX1_init_28 : decode cX1_init 28 = .ok (.putfield 18, 3) := all_d dX1_init_all0 13 rfl
theorem dX1_init_31 : decode cX1_init 31 = .ok (.return_, 1) := all_d dX1_init_all0 14 rfl
set_option maxRecDepth 100000 in
theorem dX1_begin_all0 : ([(0, (.aload_n 0 : Instr), 1), (1, (.getfield 11 : Instr), 3), (4, (.sipush 1000 : Instr), 3), (7, (.invokestatic 21 : Instr), 3), (10, (.aload_n 0 : Instr), 1), (11, (.getfield 18 : Instr), 3), (14, (.iconst 0 : Instr), 1), (15, (.invokestatic 21 : Instr), 3), (18, (.aload_n 0 : Instr), 1), (19, (.getfield 11 : Instr), 3), (22, (.iconst 0 : Instr), 1), (23, (.iconst 0 : Instr), 1), (24, (.iastore : Instr), 1), (25, (.aload_n 0 : Instr), 1), (26, (.iconst 0 : Instr), 1), (27, (.putfield 27 : Instr), 3), (30, (.aload_n 0 : Instr), 1), (31, (.iconst 0 : Instr), 1), (32, (.putfield 31 : Instr), 3), (35, (.return_ : Instr), 1)] : List (Nat × Instr × Nat)).all (fun q => decide (decode cX1_begin q.1 = .ok (q.2.1, q.2.2))) = true := by decide +kernel
theorem dX1_begin_0 : decode cX1_begin 0 = .ok (.aload_n 0, 1) := all_d dX1_begin_all0 0 rfl
theorem dX1_begin_1 : decode cX1_begin 1 = .ok (.getfield 11, 3) := all_d dX1_begin_all0 1 rfl
theorem dX1_begin_4 : decode cX1_begin 4 = .ok (.sipush 1000, 3) := all_d dX1_begin_all0 2 rfl
theorem dX1_begin_7 : decode cX1_begin 7 = .ok (.invokestatic 21, 3) := all_d dX1_begin_all0 3 rfl
theorem dX1_begin_10 : decode cX1_begin 10 = .ok (.aload_n 0, 1) := all_d dX1_begin_all0 4 rfl
theorem dX1_begin_11 : decode cX1_begin 11 = .ok (.getfield 18, 3) := all_d dX1_begin_all0 5 rfl
theorem dX1_begin_14 : decode cX1_begin 14 = .ok (.iconst 0, 1) := all_d dX1_begin_all0 6 rfl
theorem dX1_begin_15 : decode cX1_begin 15 = .ok (.invokestatic 21, 3) := all_d dX1_begin_all0 7 rfl
theorem dX1_begin_18 : decode cX1_begin 18 = .ok (.aload_n 0, 1) := all_d dX1_begin_all0 8 rfl
theorem dX1_begin_19 : decode cX1_begin 19 = .ok (.getfield 11, 3) := all_d dX1_begin_all0 9 rfl
theorem dX1_begin_22 : decode cX1_begin 22 = .ok (.iconst 0, 1) := all_d dX1_begin_all0 10 rfl
theorem dX1_begin_23 : decode cX1_begin 23 = .ok (.iconst 0, 1) := all_d dX1_begin_all0 11 rfl
theorem dX1_begin_24 : decode cX1_begin 24 = .ok (.iastore, 1) := all_d dX1_begin_all0 12 rfl
theorem dX1_begin_25 : decode cX1_begin 25 = .ok (.aload_n 0, 1) := all_d dX1_begin_all0 13 rfl
theorem dX1_begin_26 : decode cX1_begin 26 = .ok (.iconst 0, 1) := all_d dX1_begin_all0 14 rfl
theorem dX1_begin_27 : decode cX1_begin 27 = .ok (.putfield 27, 3) := all_d dX1_begin_all0 15 rfl
theorem dX1_begin_30 : decode cX1_begin 30 = .ok (.aload_n 0, 1) := all_d dX1_begin_all0 16 rfl
theorem dX1_begin_31 : decode cX1_begin 31 = .ok (.iconst 0, 1) := all_d dX1_begin_all0 17 rfl
theorem dX1_begin_32 : decode cX1_begin 32 = .ok (.putfield 31, 3) := all_d dX1_begin_all0 18 rfl
theorem dX1_begin_35 : decode cX1_begin 35 = .ok (.return_, 1) := all_d dX1_begin_all0 19 rfl
set_option maxRecDepth 100000 in
theorem dX1_addMask_all0 : ([(0, (.iload_n 1 : Instr), 1), (1, (.ifCond .le 21 : Instr), 3), (4, (.iload_n 1 : Instr), 1), (5, (.aload_n 0 : Instr), 1), (6, (.getfield 18 : Instr), 3), (9, (.arraylength : Instr), 1), (10, (.if_icmp .ge 12 : Instr), 3), (13, (.aload_n 0 : Instr), 1), (14, (.getfield 18 : Instr), 3), (17, (.iload_n 1 : Instr), 1), (18, (.iaload : Instr), 1), (19, (.ifCond .eq 4 : Instr), 3), (22, (.return_ : Instr), 1), (23, (.aload_n 0 : Instr), 1), (24, (.getfield 27 : Instr), 3), (27, (.ifCond .lt 15 : Instr), 3), (30, (.aload_n 0 : Instr), 1), (31, (.getfield 27 : Instr), 3), (34, (.aload_n 0 : Instr), 1), (35, (.getfield 15 : Instr), 3), (38, (.arraylength : Instr), 1), (39, (.if_icmp .lt 4 : Instr), 3), (42, (.return_ : Instr), 1), (43, (.aload_n 0 : Instr), 1), (44, (.getfield 18 : Instr), 3), (47, (.iload_n 1 : Instr), 1), (48, (.iconst 1 : Instr), 1), (49, (.iastore : Instr), 1), (50, (.aload_n 0 : Instr), 1), (51, (.getfield 15 : Instr), 3), (54, (.aload_n 0 : Instr), 1), (55, (.getfield 27 : Instr), 3), (58, (.iload_n 1 : Instr), 1), (59, (.iastore : Instr), 1), (60, (.aload_n 0 : Instr), 1), (61, (.dup : Instr), 1), (62, (.getfield 27 : Instr), 3), (65, (.iconst 1 : Instr), 1), (66, (.iadd : Instr), 1), (67, (.putfield 27 : Instr), 3), (70, (.aload_n 0 : Instr), 1), (71, (.dup : Instr), 1), (72, (.getfield 31 : Instr), 3), (75, (.iload_n 1 : Instr), 1), (76, (.ior : Instr), 1), (77, (.putfield 31 : Instr), 3), (80, (.return_ : Instr), 1)] : List (Nat × Instr × Nat)).all (fun q => decide (decode cX1_addMask q.1 = .ok (q.2.1, q.2.2))) = true := by decide +kernel
theorem dX1_addMask_0 : decode cX1_addMask 0 = .ok (.iload_n 1, 1) := all_d dX1_addMask_all0 0 rfl
theorem dX1_addMask_1 : decode cX1_addMask 1 = .ok (.ifCond .le 21, 3) := all_d dX1_addMask_all0 1 rfl
theorem dX1_addMask_4 : decode cX1_addMask 4 = .ok (.iload_n 1, 1) := all_d dX1_addMask_all0 2 rfl
theorem dX1_addMask_5 : decode cX1_addMask 5 = .ok (.aload_n 0, 1) := all_d dX1_addMask_all0 3 rfl
theorem dX1_addMask_6 : decode cX1_addMask 6 = .ok (.getfield 18, 3) := all_d dX1_addMask_all0 4 rfl
theorem dX1_addMask_9 : decode cX1_addMask 9 = .ok (.arraylength, 1) := all_d dX1_addMask_all0 5 rfl
theorem dX1_addMask_10 : decode cX1_addMask 10 = .ok (.if_icmp .ge 12, 3) := all_d dX1_addMask_all0 6 rfl
theorem dX1_addMask_13 : decode cX1_addMask 13 = .ok (.aload_n 0, 1) := all_d dX1_addMask_all0 7 rfl
theorem dX1_addMask_14 : decode cX1_addMask 14 = .ok (.getfield 18, 3) := all_d dX1_addMask_all0 8 rfl
theorem dX1_addMask_17 : decode cX1_addMask 17 = .ok (.iload_n 1, 1) := all_d dX1_addMask_all0 9 rfl
theorem dX1_addMask_18 : decode cX1_addMask 18 = .ok (.iaload, 1) := all_d dX1_addMask_all0 10 rfl
theorem dX1_addMask_19 : decode cX1_addMask 19 = .ok (.ifCond .eq 4, 3) := all_d dX1_addMask_all0 11 rfl
theorem dX1_addMask_22 : decode cX1_addMask 22 = .ok (.return_, 1) := all_d dX1_addMask_all0 12 rfl
theorem dX1_addMask_23 : decode cX1_addMask 23 = .ok (.aload_n 0, 1) := all_d dX1_addMask_all0 13 rfl
theorem dX1_addMask_24 : decode cX1_addMask 24 = .ok (.getfield 27, 3) := all_d dX1_addMask_all0 14 rfl
theorem dX1_addMask_27 : decode cX1_addMask 27 = .ok (.ifCond .lt 15, 3) := all_d dX1_addMask_all0 15 rfl
theorem dX1_addMask_30 : decode cX1_addMask 30 = .ok (.aload_n 0, 1) := all_d dX1_addMask_all0 16 rfl
theorem dX1_addMask_31 : decode cX1_addMask 31 = .ok (.getfield 27, 3) := all_d dX1_addMask_all0 17 rfl
theorem dX1_addMask_34 : decode cX1_addMask 34 = .ok (.aload_n 0, 1) := all_d dX1_addMask_all0 18 rfl
theorem dX1_addMask_35 : decode cX1_addMask 35 = .ok (.getfield 15, 3) := all_d dX1_addMask_all0 19 rfl
theorem dX1_addMask_38 : decode cX1_addMask 38 = .ok (.arraylength, 1) := all_d dX1_addMask_all0 20 rfl
theorem dX1_addMask_39 : decode cX1_addMask 39 = .ok (.if_icmp .lt 4, 3) := all_d dX1_addMask_all0 21 rfl
theorem dX1_addMask_42 : decode cX1_addMask 42 = .ok (.return_, 1) := all_d dX1_addMask_all0 22 rfl
theorem dX1_addMask_43 : decode cX1_addMask 43 = .ok (.aload_n 0, 1) := all_d dX1_addMask_all0 23 rfl
theorem dX1_addMask_44 : decode cX1_addMask 44 = .ok (.getfield 18, 3) := all_d dX1_addMask_all0 24 rfl
theorem dX1_addMask_47 : decode cX1_addMask 47 = .ok (.iload_n 1, 1) := all_d dX1_addMask_all0 25 rfl
theorem dX1_addMask_48 : decode cX1_addMask 48 = .ok (.iconst 1, 1) := all_d dX1_addMask_all0 26 rfl
theorem dX1_addMask_49 : decode cX1_addMask 49 = .ok (.iastore, 1) := all_d dX1_addMask_all0 27 rfl
theorem dX1_addMask_50 : decode cX1_addMask 50 = .ok (.aload_n 0, 1) := all_d dX1_addMask_all0 28 rfl
theorem dX1_addMask_51 : decode cX1_addMask 51 = .ok (.getfield 15, 3) := all_d dX1_addMask_all0 29 rfl
theorem dX1_addMask_54 : decode cX1_addMask 54 = .ok (.aload_n 0, 1) := all_d dX1_addMask_all0 30 rfl
theorem dX1_addMask_55 : decode cX1_addMask 55 = .ok (.getfield 27, 3) := all_d dX1_addMask_all0 31 rfl
theorem dX1_addMask_58 : decode cX1_addMask 58 = .ok (.iload_n 1, 1) := all_d dX1_addMask_all0 32 rfl
theorem dX1_addMask_59 : decode cX1_addMask 59 = .ok (.iastore, 1) := all_d dX1_addMask_all0 33 rfl
theorem dX1_addMask_60 : decode cX1_addMask 60 = .ok (.aload_n 0, 1) := all_d dX1_addMask_all0 34 rfl
theorem dX1_addMask_61 : decode cX1_addMask 61 = .ok (.dup, 1) := all_d dX1_addMask_all0 35 rfl
theorem dX1_addMask_62 : decode cX1_addMask 62 = .ok (.getfield 27, 3) := all_d dX1_addMask_all0 36 rfl
theorem dX1_addMask_65 : decode cX1_addMask 65 = .ok (.iconst 1, 1) := all_d dX1_addMask_all0 37 rfl
theorem dX1_addMask_66 : decode cX1_addMask 66 = .ok (.iadd, 1) := all_d dX1_addMask_all0 38 rfl
theorem dX1_addMask_67 : decode cX1_addMask 67 = .ok (.putfield 27, 3) := all_d dX1_addMask_all0 39 rfl
theorem dX1_addMask_70 : decode cX1_addMask 70 = .ok (.aload_n 0, 1) := all_d dX1_addMask_all0 40 rfl
theorem dX1_addMask_71 : decode cX1_addMask 71 = .ok (.dup, 1) := all_d dX1_addMask_all0 41 rfl
theorem dX1_addMask_72 : decode cX1_addMask 72 = .ok (.getfield 31, 3) := all_d dX1_addMask_all0 42 rfl
theorem dX1_addMask_75 : decode cX1_addMask 75 = .ok (.iload_n 1, 1) := all_d dX1_addMask_all0 43 rfl
theorem dX1_addMask_76 : decode cX1_addMask 76 = .ok (.ior, 1) := all_d dX1_addMask_all0 44 rfl
theorem dX1_addMask_77 : decode cX1_addMask 77 = .ok (.putfield 31, 3) := all_d dX1_addMask_all0 45 rfl
theorem dX1_addMask_80 : decode cX1_addMask 80 = .ok (.return_, 1) := all_d dX1_addMask_all0 46 rfl
set_option maxRecDepth 100000 in
theorem dX1_fewest_all0 : ([(0, (.iconst 0 : Instr), 1), (1, (.istore_n 1 : Instr), 1), (2, (.iload_n 1 : Instr), 1), (3, (.aload_n 0 : Instr), 1), (4, (.getfield 31 : Instr), 3), (7, (.if_icmp .ge 35 : Instr), 3), (10, (.iload_n 1 : Instr), 1), (11, (.aload_n 0 : Instr), 1), (12, (.getfield 11 : Instr), 3), (15, (.arraylength : Instr), 1), (16, (.if_icmp .ge 26 : Instr), 3), (19, (.aload_n 0 : Instr), 1), (20, (.getfield 11 : Instr), 3), (23, (.iload_n 1 : Instr), 1), (24, (.iaload : Instr), 1), (25, (.sipush 1000 : Instr), 3), (28, (.if_icmp .ge 8 : Instr), 3), (31, (.aload_n 0 : Instr), 1), (32, (.iload_n 1 : Instr), 1), (33, (.invokevirtual 34 : Instr), 3), (36, (.iinc 1 1 : Instr), 3), (39, (.goto (-37) : Instr), 3), (42, (.aload_n 0 : Instr), 1), (43, (.getfield 31 : Instr), 3), (46, (.ifCond .lt 27 : Instr), 3), (49, (.aload_n 0 : Instr), 1), (50, (.getfield 31 : Instr), 3), (53, (.aload_n 0 : Instr), 1), (54, (.getfield 11 : Instr), 3), (57, (.arraylength : Instr), 1), (58, (.if_icmp .ge 15 : Instr), 3), (61, (.aload_n 0 : Instr), 1), (62, (.getfield 11 : Instr), 3), (65, (.aload_n 0 : Instr), 1), (66, (.getfield 31 : Instr), 3), (69, (.iaload : Instr), 1), (70, (.goto 4 : Instr), 3), (73, (.iconst 0 : Instr), 1), (74, (.ireturn : Instr), 1)] : List (Nat × Instr × Nat)).all (fun q => decide (decode cX1_fewest q.1 = .ok (q.2.1, q.2.2))) = true := by decide +kernel
theorem dX1_fewest_0 : decode cX1_fewest 0 = .ok (.iconst 0, 1) := all_d dX1_fewest_all0 0 rfl
theorem dX1_fewest_1 : decode cX1_fewest 1 = .ok (.istore_n 1, 1) := all_d dX1_fewest_all0 1 rfl
theorem dX1_fewest_2 : decode cX1_fewest 2 = .ok (.iload_n 1, 1) := all_d dX1_fewest_all0 2 rfl
theorem dX1_fewest_3 : decode cX1_fewest 3 = .ok (.aload_n 0, 1) := all_d dX1_fewest_all0 3 rfl
theorem dX1_fewest_4 : decode cX1_fewest 4 = .ok (.getfield 31, 3) := all_d dX1_fewest_all0 4 rfl
theorem dX1_fewest_7 : decode cX1_fewest 7 = .ok (.if_icmp .ge 35, 3) := all_d dX1_fewest_all0 5 rfl
theorem dX1_fewest_10 : decode cX1_fewest 10 = .ok (.iload_n 1, 1) := all_d dX1_fewest_all0 6 rfl
theorem dX1_fewest_11 : decode cX1_fewest 11 = .ok (.aload_n 0, 1) := all_d dX1_fewest_all0 7 rfl
theorem dX1_fewest_12 : decode cX1_fewest 12 = .ok (.getfield 11, 3) := all_d dX1_fewest_all0 8 rfl
theorem dX1_fewest_15 : decode cX1_fewest 15 = .ok (.arraylength, 1) := all_d dX1_fewest_all0 9 rfl
theorem dX1_fewest_16 : decode cX1_fewest 16 = .ok (.if_icmp .ge 26, 3) := all_d dX1_fewest_all0 10 rfl
theorem dX1_fewest_19 : decode cX1_fewest 19 = .ok (.aload_n 0, 1) := all_d dX1_fewest_all0 11 rfl
theorem dX1_fewest_20 : decode cX1_fewest 20 = .ok (.getfield 11, 3) := all_d dX1_fewest_all0 12 rfl
theorem dX1_fewest_23 : decode cX1_fewest 23 = .ok (.iload_n 1, 1) := all_d dX1_fewest_all0 13 rfl
theorem dX1_fewest_24 : decode cX1_fewest 24 = .ok (.iaload, 1) := all_d dX1_fewest_all0 14 rfl
theorem dX1_fewest_25 : decode cX1_fewest 25 = .ok (.sipush 1000, 3) := all_d dX1_fewest_all0 15 rfl
theorem dX1_fewest_28 : decode cX1_fewest 28 = .ok (.if_icmp .ge 8, 3) := all_d dX1_fewest_all0 16 rfl
theorem dX1_fewest_31 : decode cX1_fewest 31 = .ok (.aload_n 0, 1) := all_d dX1_fewest_all0 17 rfl
theorem dX1_fewest_32 : decode cX1_fewest 32 = .ok (.iload_n 1, 1) := all_d dX1_fewest_all0 18 rfl
theorem dX1_fewest_33 : decode cX1_fewest 33 = .ok (.invokevirtual 34, 3) := all_d dX1_fewest_all0 19 rfl
theorem dX1_fewest_36 : decode cX1_fewest 36 = .ok (.iinc 1 1, 3) := all_d dX1_fewest_all0 20 rfl
theorem dX1_fewest_39 : decode cX1_fewest 39 = .ok (.goto (-37), 3) := all_d dX1_fewest_all0 21 rfl
theorem dX1_fewest_42 : decode cX1_fewest 42 = .ok (.aload_n 0, 1) := all_d dX1_fewest_all0 22 rfl
theorem dX1_fewest_43 : decode cX1_fewest 43 = .ok (.getfield 31, 3) := all_d dX1_fewest_all0 23 rfl
theorem dX1_fewest_46 : decode cX1_fewest 46 = .ok (.ifCond .lt 27, 3) := all_d dX1_fewest_all0 24 rfl
theorem dX1_fewest_49 : decode cX1_fewest 49 = .ok (.aload_n 0, 1) := all_d dX1_fewest_all0 25 rfl
theorem dX1_fewest_50 : decode cX1_fewest 50 = .ok (.getfield 31, 3) := all_d dX1_fewest_all0 26 rfl
theorem dX1_fewest_53 : decode cX1_fewest 53 = .ok (.aload_n 0, 1) := all_d dX1_fewest_all0 27 rfl
theorem dX1_fewest_54 : decode cX1_fewest 54 = .ok (.getfield 11, 3) := all_d dX1_fewest_all0 28 rfl
theorem dX1_fewest_57 : decode cX1_fewest 57 = .ok (.arraylength, 1) := all_d dX1_fewest_all0 29 rfl
theorem dX1_fewest_58 : decode cX1_fewest 58 = .ok (.if_icmp .ge 15, 3) := all_d dX1_fewest_all0 30 rfl
theorem dX1_fewest_61 : decode cX1_fewest 61 = .ok (.aload_n 0, 1) := all_d dX1_fewest_all0 31 rfl
theorem dX1_fewest_62 : decode cX1_fewest 62 = .ok (.getfield 11, 3) := all_d dX1_fewest_all0 32 rfl
theorem dX1_fewest_65 : decode cX1_fewest 65 = .ok (.aload_n 0, 1) := all_d dX1_fewest_all0 33 rfl
theorem dX1_fewest_66 : decode cX1_fewest 66 = .ok (.getfield 31, 3) := all_d dX1_fewest_all0 34 rfl
theorem dX1_fewest_69 : decode cX1_fewest 69 = .ok (.iaload, 1) := all_d dX1_fewest_all0 35 rfl
theorem dX1_fewest_70 : decode cX1_fewest 70 = .ok (.goto 4, 3) := all_d dX1_fewest_all0 36 rfl
theorem dX1_fewest_73 : decode cX1_fewest 73 = .ok (.iconst 0, 1) := all_d dX1_fewest_all0 37 rfl
theorem dX1_fewest_74 : decode cX1_fewest 74 = .ok (.ireturn, 1) := all_d dX1_fewest_all0 38 rfl
set_option maxRecDepth 100000 in
theorem dX1_growFrom_all0 : ([(0, (.iload_n 1 : Instr), 1), (1, (.ifCond .lt 12 : Instr), 3), (4, (.iload_n 1 : Instr), 1), (5, (.aload_n 0 : Instr), 1), (6, (.getfield 11 : Instr), 3), (9, (.arraylength : Instr), 1), (10, (.if_icmp .lt 4 : Instr), 3), (13, (.return_ : Instr), 1), (14, (.aload_n 0 : Instr), 1), (15, (.getfield 11 : Instr), 3), (18, (.iload_n 1 : Instr), 1), (19, (.iaload : Instr), 1), (20, (.iconst 1 : Instr), 1), (21, (.iadd : Instr), 1), (22, (.istore_n 2 : Instr), 1), (23, (.iconst 0 : Instr), 1), (24, (.istore_n 3 : Instr), 1), (25, (.iload_n 3 : Instr), 1), (26, (.aload_n 0 : Instr), 1), (27, (.getfield 27 : Instr), 3), (30, (.if_icmp .ge 62 : Instr), 3), (33, (.iload_n 3 : Instr), 1), (34, (.aload_n 0 : Instr), 1), (35, (.getfield 15 : Instr), 3), (38, (.arraylength : Instr), 1), (39, (.if_icmp .ge 53 : Instr), 3), (42, (.iload_n 1 : Instr), 1), (43, (.aload_n 0 : Instr), 1), (44, (.getfield 15 : Instr), 3), (47, (.iload_n 3 : Instr), 1), (48, (.iaload : Instr), 1), (49, (.ior : Instr), 1), (50, (.istore 4 : Instr), 2), (52, (.iload 4 : Instr), 2), (54, (.ifCond .lt 32 : Instr), 3), (57, (.iload 4 : Instr), 2), (59, (.aload_n 0 : Instr), 1), (60, (.getfield 11 : Instr), 3), (63, (.arraylength : Instr), 1), (64, (.if_icmp .ge 22 : Instr), 3), (67, (.iload_n 2 : Instr), 1), (68, (.aload_n 0 : Instr), 1), (69, (.getfield 11 : Instr), 3), (72, (.iload 4 : Instr), 2), (74, (.iaload : Instr), 1), (75, (.if_icmp .ge 11 : Instr), 3), (78, (.aload_n 0 : Instr), 1), (79, (.getfield 11 : Instr), 3), (82, (.iload 4 : Instr), 2), (84, (.iload_n 2 : Instr), 1), (85, (.iastore : Instr), 1), (86, (.iinc 3 1 : Instr), 3), (89, (.goto (-64) : Instr), 3), (92, (.return_ : Instr), 1)] : List (Nat × Instr × Nat)).all (fun q => decide (decode cX1_growFrom q.1 = .ok (q.2.1, q.2.2))) = true := by decide +kernel
theorem dX1_growFrom_0 : decode cX1_growFrom 0 = .ok (.iload_n 1, 1) := all_d dX1_growFrom_all0 0 rfl
theorem dX1_growFrom_1 : decode cX1_growFrom 1 = .ok (.ifCond .lt 12, 3) := all_d dX1_growFrom_all0 1 rfl
theorem dX1_growFrom_4 : decode cX1_growFrom 4 = .ok (.iload_n 1, 1) := all_d dX1_growFrom_all0 2 rfl
theorem dX1_growFrom_5 : decode cX1_growFrom 5 = .ok (.aload_n 0, 1) := all_d dX1_growFrom_all0 3 rfl
theorem dX1_growFrom_6 : decode cX1_growFrom 6 = .ok (.getfield 11, 3) := all_d dX1_growFrom_all0 4 rfl
theorem dX1_growFrom_9 : decode cX1_growFrom 9 = .ok (.arraylength, 1) := all_d dX1_growFrom_all0 5 rfl
theorem dX1_growFrom_10 : decode cX1_growFrom 10 = .ok (.if_icmp .lt 4, 3) := all_d dX1_growFrom_all0 6 rfl
theorem dX1_growFrom_13 : decode cX1_growFrom 13 = .ok (.return_, 1) := all_d dX1_growFrom_all0 7 rfl
theorem dX1_growFrom_14 : decode cX1_growFrom 14 = .ok (.aload_n 0, 1) := all_d dX1_growFrom_all0 8 rfl
theorem dX1_growFrom_15 : decode cX1_growFrom 15 = .ok (.getfield 11, 3) := all_d dX1_growFrom_all0 9 rfl
theorem dX1_growFrom_18 : decode cX1_growFrom 18 = .ok (.iload_n 1, 1) := all_d dX1_growFrom_all0 10 rfl
theorem dX1_growFrom_19 : decode cX1_growFrom 19 = .ok (.iaload, 1) := all_d dX1_growFrom_all0 11 rfl
theorem dX1_growFrom_20 : decode cX1_growFrom 20 = .ok (.iconst 1, 1) := all_d dX1_growFrom_all0 12 rfl
theorem dX1_growFrom_21 : decode cX1_growFrom 21 = .ok (.iadd, 1) := all_d dX1_growFrom_all0 13 rfl
theorem dX1_growFrom_22 : decode cX1_growFrom 22 = .ok (.istore_n 2, 1) := all_d dX1_growFrom_all0 14 rfl
theorem dX1_growFrom_23 : decode cX1_growFrom 23 = .ok (.iconst 0, 1) := all_d dX1_growFrom_all0 15 rfl
theorem dX1_growFrom_24 : decode cX1_growFrom 24 = .ok (.istore_n 3, 1) := all_d dX1_growFrom_all0 16 rfl
theorem dX1_growFrom_25 : decode cX1_growFrom 25 = .ok (.iload_n 3, 1) := all_d dX1_growFrom_all0 17 rfl
theorem dX1_growFrom_26 : decode cX1_growFrom 26 = .ok (.aload_n 0, 1) := all_d dX1_growFrom_all0 18 rfl
theorem dX1_growFrom_27 : decode cX1_growFrom 27 = .ok (.getfield 27, 3) := all_d dX1_growFrom_all0 19 rfl
theorem dX1_growFrom_30 : decode cX1_growFrom 30 = .ok (.if_icmp .ge 62, 3) := all_d dX1_growFrom_all0 20 rfl
theorem dX1_growFrom_33 : decode cX1_growFrom 33 = .ok (.iload_n 3, 1) := all_d dX1_growFrom_all0 21 rfl
theorem dX1_growFrom_34 : decode cX1_growFrom 34 = .ok (.aload_n 0, 1) := all_d dX1_growFrom_all0 22 rfl
theorem dX1_growFrom_35 : decode cX1_growFrom 35 = .ok (.getfield 15, 3) := all_d dX1_growFrom_all0 23 rfl
theorem dX1_growFrom_38 : decode cX1_growFrom 38 = .ok (.arraylength, 1) := all_d dX1_growFrom_all0 24 rfl
theorem dX1_growFrom_39 : decode cX1_growFrom 39 = .ok (.if_icmp .ge 53, 3) := all_d dX1_growFrom_all0 25 rfl
theorem dX1_growFrom_42 : decode cX1_growFrom 42 = .ok (.iload_n 1, 1) := all_d dX1_growFrom_all0 26 rfl
theorem dX1_growFrom_43 : decode cX1_growFrom 43 = .ok (.aload_n 0, 1) := all_d dX1_growFrom_all0 27 rfl
theorem dX1_growFrom_44 : decode cX1_growFrom 44 = .ok (.getfield 15, 3) := all_d dX1_growFrom_all0 28 rfl
theorem dX1_growFrom_47 : decode cX1_growFrom 47 = .ok (.iload_n 3, 1) := all_d dX1_growFrom_all0 29 rfl
theorem dX1_growFrom_48 : decode cX1_growFrom 48 = .ok (.iaload, 1) := all_d dX1_growFrom_all0 30 rfl
theorem dX1_growFrom_49 : decode cX1_growFrom 49 = .ok (.ior, 1) := all_d dX1_growFrom_all0 31 rfl
theorem dX1_growFrom_50 : decode cX1_growFrom 50 = .ok (.istore 4, 2) := all_d dX1_growFrom_all0 32 rfl
theorem dX1_growFrom_52 : decode cX1_growFrom 52 = .ok (.iload 4, 2) := all_d dX1_growFrom_all0 33 rfl
theorem dX1_growFrom_54 : decode cX1_growFrom 54 = .ok (.ifCond .lt 32, 3) := all_d dX1_growFrom_all0 34 rfl
theorem dX1_growFrom_57 : decode cX1_growFrom 57 = .ok (.iload 4, 2) := all_d dX1_growFrom_all0 35 rfl
theorem dX1_growFrom_59 : decode cX1_growFrom 59 = .ok (.aload_n 0, 1) := all_d dX1_growFrom_all0 36 rfl
theorem dX1_growFrom_60 : decode cX1_growFrom 60 = .ok (.getfield 11, 3) := all_d dX1_growFrom_all0 37 rfl
theorem dX1_growFrom_63 : decode cX1_growFrom 63 = .ok (.arraylength, 1) := all_d dX1_growFrom_all0 38 rfl
theorem dX1_growFrom_64 : decode cX1_growFrom 64 = .ok (.if_icmp .ge 22, 3) := all_d dX1_growFrom_all0 39 rfl
theorem dX1_growFrom_67 : decode cX1_growFrom 67 = .ok (.iload_n 2, 1) := all_d dX1_growFrom_all0 40 rfl
theorem dX1_growFrom_68 : decode cX1_growFrom 68 = .ok (.aload_n 0, 1) := all_d dX1_growFrom_all0 41 rfl
theorem dX1_growFrom_69 : decode cX1_growFrom 69 = .ok (.getfield 11, 3) := all_d dX1_growFrom_all0 42 rfl
theorem dX1_growFrom_72 : decode cX1_growFrom 72 = .ok (.iload 4, 2) := all_d dX1_growFrom_all0 43 rfl
theorem dX1_growFrom_74 : decode cX1_growFrom 74 = .ok (.iaload, 1) := all_d dX1_growFrom_all0 44 rfl
theorem dX1_growFrom_75 : decode cX1_growFrom 75 = .ok (.if_icmp .ge 11, 3) := all_d dX1_growFrom_all0 45 rfl
theorem dX1_growFrom_78 : decode cX1_growFrom 78 = .ok (.aload_n 0, 1) := all_d dX1_growFrom_all0 46 rfl
theorem dX1_growFrom_79 : decode cX1_growFrom 79 = .ok (.getfield 11, 3) := all_d dX1_growFrom_all0 47 rfl
theorem dX1_growFrom_82 : decode cX1_growFrom 82 = .ok (.iload 4, 2) := all_d dX1_growFrom_all0 48 rfl
theorem dX1_growFrom_84 : decode cX1_growFrom 84 = .ok (.iload_n 2, 1) := all_d dX1_growFrom_all0 49 rfl
theorem dX1_growFrom_85 : decode cX1_growFrom 85 = .ok (.iastore, 1) := all_d dX1_growFrom_all0 50 rfl
theorem dX1_growFrom_86 : decode cX1_growFrom 86 = .ok (.iinc 3 1, 3) := all_d dX1_growFrom_all0 51 rfl
theorem dX1_growFrom_89 : decode cX1_growFrom 89 = .ok (.goto (-64), 3) := all_d dX1_growFrom_all0 52 rfl
theorem dX1_growFrom_92 : decode cX1_growFrom 92 = .ok (.return_, 1) := all_d dX1_growFrom_all0 53 rfl
set_option maxRecDepth 100000 in
theorem dX2_init_all0 : ([(0, (.aload_n 0 : Instr), 1), (1, (.invokespecial 1 : Instr), 3), (4, (.return_ : Instr), 1)] : List (Nat × Instr × Nat)).all (fun q => decide (decode cX2_init q.1 = .ok (q.2.1, q.2.2))) = true := by decide +kernel
theorem dX2_init_0 : decode cX2_init 0 = .ok (.aload_n 0, 1) := all_d dX2_init_all0 0 rfl
theorem dX2_init_1 : decode cX2_init 1 = .ok (.invokespecial 1, 3) := all_d dX2_init_all0 1 rfl
theorem dX2_init_4 : decode cX2_init 4 = .ok (.return_, 1) := all_d dX2_init_all0 2 rfl
set_option maxRecDepth 100000 in
theorem dX2_become_all0 : ([(0, (.aload_n 0 : Instr), 1), (1, (.iload_n 1 : Instr), 1), (2, (.putfield 7 : Instr), 3), (5, (.aload_n 0 : Instr), 1), (6, (.iload_n 2 : Instr), 1), (7, (.putfield 13 : Instr), 3), (10, (.aload_n 0 : Instr), 1), (11, (.iload_n 3 : Instr), 1), (12, (.putfield 16 : Instr), 3), (15, (.return_ : Instr), 1)] : List (Nat × Instr × Nat)).all (fun q => decide (decode cX2_become q.1 = .ok (q.2.1, q.2.2))) = true := by decide +kernel
theorem dX2_become_0 : decode cX2_become 0 = .ok (.aload_n 0, 1) := all_d dX2_become_all0 0 rfl
theorem dX2_become_1 : decode cX2_become 1 = .ok (.iload_n 1, 1) := all_d dX2_become_all0 1 rfl
theorem dX2_become_2 : decode cX2_become 2 = .ok (.putfield 7, 3) := all_d dX2_become_all0 2 rfl
theorem dX2_become_5 : decode cX2_become 5 = .ok (.aload_n 0, 1) := all_d dX2_become_all0 3 rfl
theorem dX2_become_6 : decode cX2_become 6 = .ok (.iload_n 2, 1) := all_d dX2_become_all0 4 rfl
theorem dX2_become_7 : decode cX2_become 7 = .ok (.putfield 13, 3) := all_d dX2_become_all0 5 rfl
theorem dX2_become_10 : decode cX2_become 10 = .ok (.aload_n 0, 1) := all_d dX2_become_all0 6 rfl
theorem dX2_become_11 : decode cX2_become 11 = .ok (.iload_n 3, 1) := all_d dX2_become_all0 7 rfl
theorem dX2_become_12 : decode cX2_become 12 = .ok (.putfield 16, 3) := all_d dX2_become_all0 8 rfl
theorem dX2_become_15 : decode cX2_become 15 = .ok (.return_, 1) := all_d dX2_become_all0 9 rfl
set_option maxRecDepth 100000 in
theorem dX3_init_all0 : ([(0, (.aload_n 0 : Instr), 1), (1, (.invokespecial 3 : Instr), 3), (4, (.aload_n 0 : Instr), 1), (5, (.bipush 16 : Instr), 2), (7, (.anewarray 9 : Instr), 3), (10, (.putfield 11 : Instr), 3), (13, (.iconst 0 : Instr), 1), (14, (.istore_n 1 : Instr), 1), (15, (.iload_n 1 : Instr), 1), (16, (.aload_n 0 : Instr), 1), (17, (.getfield 11 : Instr), 3), (20, (.arraylength : Instr), 1), (21, (.if_icmp .ge 22 : Instr), 3), (24, (.aload_n 0 : Instr), 1), (25, (.getfield 11 : Instr), 3), (28, (.iload_n 1 : Instr), 1), (29, (.new 9 : Instr), 3), (32, (.dup : Instr), 1), (33, (.invokespecial 17 : Instr), 3), (36, (.aastore : Instr), 1), (37, (.iinc 1 1 : Instr), 3), (40, (.goto (-25) : Instr), 3), (43, (.return_ : Instr), 1)] : List (Nat × Instr × Nat)).all (fun q => decide (decode cX3_init q.1 = .ok (q.2.1, q.2.2))) = true := by decide +kernel
theorem dX3_init_0 : decode cX3_init 0 = .ok (.aload_n 0, 1) := all_d dX3_init_all0 0 rfl
theorem dX3_init_1 : decode cX3_init 1 = .ok (.invokespecial 3, 3) := all_d dX3_init_all0 1 rfl
theorem dX3_init_4 : decode cX3_init 4 = .ok (.aload_n 0, 1) := all_d dX3_init_all0 2 rfl
theorem dX3_init_5 : decode cX3_init 5 = .ok (.bipush 16, 2) := all_d dX3_init_all0 3 rfl
theorem dX3_init_7 : decode cX3_init 7 = .ok (.anewarray 9, 3) := all_d dX3_init_all0 4 rfl
theorem dX3_init_10 : decode cX3_init 10 = .ok (.putfield 11, 3) := all_d dX3_init_all0 5 rfl
theorem dX3_init_13 : decode cX3_init 13 = .ok (.iconst 0, 1) := all_d dX3_init_all0 6 rfl
theorem dX3_init_14 : decode cX3_init 14 = .ok (.istore_n 1, 1) := all_d dX3_init_all0 7 rfl
theorem dX3_init_15 : decode cX3_init 15 = .ok (.iload_n 1, 1) := all_d dX3_init_all0 8 rfl
theorem dX3_init_16 : decode cX3_init 16 = .ok (.aload_n 0, 1) := all_d dX3_init_all0 9 rfl
theorem dX3_init_17 : decode cX3_init 17 = .ok (.getfield 11, 3) := all_d dX3_init_all0 10 rfl
theorem dX3_init_20 : decode cX3_init 20 = .ok (.arraylength, 1) := all_d dX3_init_all0 11 rfl
theorem dX3_init_21 : decode cX3_init 21 = .ok (.if_icmp .ge 22, 3) := all_d dX3_init_all0 12 rfl
theorem dX3_init_24 : decode cX3_init 24 = .ok (.aload_n 0, 1) := all_d dX3_init_all0 13 rfl
theorem dX3_init_25 : decode cX3_init 25 = .ok (.getfield 11, 3) := all_d dX3_init_all0 14 rfl
theorem dX3_init_28 : decode cX3_init 28 = .ok (.iload_n 1, 1) := all_d dX3_init_all0 15 rfl
theorem dX3_init_29 : decode cX3_init 29 = .ok (.new 9, 3) := all_d dX3_init_all0 16 rfl
theorem dX3_init_32 : decode cX3_init 32 = .ok (.dup, 1) := all_d dX3_init_all0 17 rfl
theorem dX3_init_33 : decode cX3_init 33 = .ok (.invokespecial 17, 3) := all_d dX3_init_all0 18 rfl
theorem dX3_init_36 : decode cX3_init 36 = .ok (.aastore, 1) := all_d dX3_init_all0 19 rfl
theorem dX3_init_37 : decode cX3_init 37 = .ok (.iinc 1 1, 3) := all_d dX3_init_all0 20 rfl
theorem dX3_init_40 : decode cX3_init 40 = .ok (.goto (-25), 3) := all_d dX3_init_all0 21 rfl
theorem dX3_init_43 : decode cX3_init 43 = .ok (.return_, 1) := all_d dX3_init_all0 22 rfl
set_option maxRecDepth 100000 in
theorem dX3_begin_all0 : ([(0, (.aload_n 0 : Instr), 1), (1, (.iload_n 1 : Instr), 1), (2, (.putfield 18 : Instr), 3), (5, (.aload_n 0 : Instr), 1), (6, (.iconst 0 : Instr), 1), (7, (.putfield 22 : Instr), 3), (10, (.return_ : Instr), 1)] : List (Nat × Instr × Nat)).all (fun q => decide (decode cX3_begin q.1 = .ok (q.2.1, q.2.2))) = true := by decide +kernel
theorem dX3_begin_0 : decode cX3_begin 0 = .ok (.aload_n 0, 1) := all_d dX3_begin_all0 0 rfl
theorem dX3_begin_1 : decode cX3_begin 1 = .ok (.iload_n 1, 1) := all_d dX3_begin_all0 1 rfl
theorem dX3_begin_2 : decode cX3_begin 2 = .ok (.putfield 18, 3) := all_d dX3_begin_all0 2 rfl
theorem dX3_begin_5 : decode cX3_begin 5 = .ok (.aload_n 0, 1) := all_d dX3_begin_all0 3 rfl
theorem dX3_begin_6 : decode cX3_begin 6 = .ok (.iconst 0, 1) := all_d dX3_begin_all0 4 rfl
theorem dX3_begin_7 : decode cX3_begin 7 = .ok (.putfield 22, 3) := all_d dX3_begin_all0 5 rfl
theorem dX3_begin_10 : decode cX3_begin 10 = .ok (.return_, 1) := all_d dX3_begin_all0 6 rfl
set_option maxRecDepth 100000 in
theorem dX3_partAt_all0 : ([(0, (.iload_n 1 : Instr), 1), (1, (.ifCond .lt 29 : Instr), 3), (4, (.iload_n 1 : Instr), 1), (5, (.aload_n 0 : Instr), 1), (6, (.getfield 22 : Instr), 3), (9, (.if_icmp .ge 21 : Instr), 3), (12, (.iload_n 1 : Instr), 1), (13, (.aload_n 0 : Instr), 1), (14, (.getfield 11 : Instr), 3), (17, (.arraylength : Instr), 1), (18, (.if_icmp .ge 12 : Instr), 3), (21, (.aload_n 0 : Instr), 1), (22, (.getfield 11 : Instr), 3), (25, (.iload_n 1 : Instr), 1), (26, (.aaload : Instr), 1), (27, (.goto 4 : Instr), 3), (30, (.aconst_null : Instr), 1), (31, (.areturn : Instr), 1)] : List (Nat × Instr × Nat)).all (fun q => decide (decode cX3_partAt q.1 = .ok (q.2.1, q.2.2))) = true := by decide +kernel
theorem dX3_partAt_0 : decode cX3_partAt 0 = .ok (.iload_n 1, 1) := all_d dX3_partAt_all0 0 rfl
theorem dX3_partAt_1 : decode cX3_partAt 1 = .ok (.ifCond .lt 29, 3) := all_d dX3_partAt_all0 1 rfl
theorem dX3_partAt_4 : decode cX3_partAt 4 = .ok (.iload_n 1, 1) := all_d dX3_partAt_all0 2 rfl
theorem dX3_partAt_5 : decode cX3_partAt 5 = .ok (.aload_n 0, 1) := all_d dX3_partAt_all0 3 rfl
theorem dX3_partAt_6 : decode cX3_partAt 6 = .ok (.getfield 22, 3) := all_d dX3_partAt_all0 4 rfl
theorem dX3_partAt_9 : decode cX3_partAt 9 = .ok (.if_icmp .ge 21, 3) := all_d dX3_partAt_all0 5 rfl
theorem dX3_partAt_12 : decode cX3_partAt 12 = .ok (.iload_n 1, 1) := all_d dX3_partAt_all0 6 rfl
theorem dX3_partAt_13 : decode cX3_partAt 13 = .ok (.aload_n 0, 1) := all_d dX3_partAt_all0 7 rfl
theorem dX3_partAt_14 : decode cX3_partAt 14 = .ok (.getfield 11, 3) := all_d dX3_partAt_all0 8 rfl
theorem dX3_partAt_17 : decode cX3_partAt 17 = .ok (.arraylength, 1) := all_d dX3_partAt_all0 9 rfl
theorem dX3_partAt_18 : decode cX3_partAt 18 = .ok (.if_icmp .ge 12, 3) := all_d dX3_partAt_all0 10 rfl
theorem dX3_partAt_21 : decode cX3_partAt 21 = .ok (.aload_n 0, 1) := all_d dX3_partAt_all0 11 rfl
theorem dX3_partAt_22 : decode cX3_partAt 22 = .ok (.getfield 11, 3) := all_d dX3_partAt_all0 12 rfl
theorem dX3_partAt_25 : decode cX3_partAt 25 = .ok (.iload_n 1, 1) := all_d dX3_partAt_all0 13 rfl
theorem dX3_partAt_26 : decode cX3_partAt 26 = .ok (.aaload, 1) := all_d dX3_partAt_all0 14 rfl
theorem dX3_partAt_27 : decode cX3_partAt 27 = .ok (.goto 4, 3) := all_d dX3_partAt_all0 15 rfl
theorem dX3_partAt_30 : decode cX3_partAt 30 = .ok (.aconst_null, 1) := all_d dX3_partAt_all0 16 rfl
theorem dX3_partAt_31 : decode cX3_partAt 31 = .ok (.areturn, 1) := all_d dX3_partAt_all0 17 rfl
set_option maxRecDepth 100000 in
theorem dX3_isStaged_all0 : ([(0, (.aload_n 0 : Instr), 1), (1, (.getfield 18 : Instr), 3), (4, (.iconst 3 : Instr), 1), (5, (.if_icmp .eq 11 : Instr), 3), (8, (.aload_n 0 : Instr), 1), (9, (.getfield 18 : Instr), 3), (12, (.iconst 4 : Instr), 1), (13, (.if_icmp .ne 7 : Instr), 3), (16, (.iconst 1 : Instr), 1), (17, (.goto 4 : Instr), 3), (20, (.iconst 0 : Instr), 1), (21, (.ireturn : Instr), 1)] : List (Nat × Instr × Nat)).all (fun q => decide (decode cX3_isStaged q.1 = .ok (q.2.1, q.2.2))) = true := by decide +kernel
theorem dX3_isStaged_0 : decode cX3_isStaged 0 = .ok (.aload_n 0, 1) := all_d dX3_isStaged_all0 0 rfl
theorem dX3_isStaged_1 : decode cX3_isStaged 1 = .ok (.getfield 18, 3) := all_d dX3_isStaged_all0 1 rfl
theorem dX3_isStaged_4 : decode cX3_isStaged 4 = .ok (.iconst 3, 1) := all_d dX3_isStaged_all0 2 rfl
theorem dX3_isStaged_5 : decode cX3_isStaged 5 = .ok (.if_icmp .eq 11, 3) := all_d dX3_isStaged_all0 3 rfl
theorem dX3_isStaged_8 : decode cX3_isStaged 8 = .ok (.aload_n 0, 1) := all_d dX3_isStaged_all0 4 rfl
theorem dX3_isStaged_9 : decode cX3_isStaged 9 = .ok (.getfield 18, 3) := all_d dX3_isStaged_all0 5 rfl
theorem dX3_isStaged_12 : decode cX3_isStaged 12 = .ok (.iconst 4, 1) := all_d dX3_isStaged_all0 6 rfl
theorem dX3_isStaged_13 : decode cX3_isStaged 13 = .ok (.if_icmp .ne 7, 3) := all_d dX3_isStaged_all0 7 rfl
theorem dX3_isStaged_16 : decode cX3_isStaged 16 = .ok (.iconst 1, 1) := all_d dX3_isStaged_all0 8 rfl
theorem dX3_isStaged_17 : decode cX3_isStaged 17 = .ok (.goto 4, 3) := all_d dX3_isStaged_all0 9 rfl
theorem dX3_isStaged_20 : decode cX3_isStaged 20 = .ok (.iconst 0, 1) := all_d dX3_isStaged_all0 10 rfl
theorem dX3_isStaged_21 : decode cX3_isStaged 21 = .ok (.ireturn, 1) := all_d dX3_isStaged_all0 11 rfl
set_option maxRecDepth 100000 in
theorem dX3_addPart_all0 : ([(0, (.aload_n 0 : Instr), 1), (1, (.getfield 22 : Instr), 3), (4, (.aload_n 0 : Instr), 1), (5, (.getfield 11 : Instr), 3), (8, (.arraylength : Instr), 1), (9, (.if_icmp .lt 4 : Instr), 3), (12, (.return_ : Instr), 1), (13, (.aload_n 0 : Instr), 1), (14, (.dup : Instr), 1), (15, (.getfield 22 : Instr), 3), (18, (.iconst 1 : Instr), 1), (19, (.iadd : Instr), 1), (20, (.putfield 22 : Instr), 3), (23, (.aload_n 0 : Instr), 1), (24, (.aload_n 0 : Instr), 1), (25, (.getfield 22 : Instr), 3), (28, (.iconst 1 : Instr), 1), (29, (.isub : Instr), 1), (30, (.invokevirtual 25 : Instr), 3), (33, (.astore_n 3 : Instr), 1), (34, (.aload_n 3 : Instr), 1), (35, (.ifnonnull 4 : Instr), 3), (38, (.return_ : Instr), 1), (39, (.aload_n 3 : Instr), 1), (40, (.iload_n 1 : Instr), 1), (41, (.putfield 29 : Instr), 3), (44, (.aload_n 3 : Instr), 1), (45, (.iconst 0 : Instr), 1), (46, (.putfield 32 : Instr), 3), (49, (.aload_n 3 : Instr), 1), (50, (.aload_n 0 : Instr), 1), (51, (.getfield 18 : Instr), 3), (54, (.iconst 2 : Instr), 1), (55, (.if_icmp .ne 7 : Instr), 3), (58, (.iload_n 1 : Instr), 1), (59, (.goto 4 : Instr), 3), (62, (.iconst 1 : Instr), 1), (63, (.putfield 35 : Instr), 3), (66, (.aload_n 3 : Instr), 1), (67, (.aload_n 0 : Instr), 1), (68, (.invokevirtual 38 : Instr), 3), (71, (.ifCond .eq 7 : Instr), 3), (74, (.iload_n 2 : Instr), 1), (75, (.goto 4 : Instr), 3), (78, (.iconst 0 : Instr), 1), (79, (.putfield 42 : Instr), 3), (82, (.aload_n 0 : Instr), 1), (83, (.invokevirtual 38 : Instr), 3), (86, (.ifCond .eq 7 : Instr), 3), (89, (.aload_n 0 : Instr), 1), (90, (.invokevirtual 45 : Instr), 3), (93, (.return_ : Instr), 1)] : List (Nat × Instr × Nat)).all (fun q => decide (decode cX3_addPart q.1 = .ok (q.2.1, q.2.2))) = true := by decide +kernel
theorem dX3_addPart_0 : decode cX3_addPart 0 = .ok (.aload_n 0, 1) := all_d dX3_addPart_all0 0 rfl
theorem dX3_addPart_1 : decode cX3_addPart 1 = .ok (.getfield 22, 3) := all_d dX3_addPart_all0 1 rfl
theorem dX3_addPart_4 : decode cX3_addPart 4 = .ok (.aload_n 0, 1) := all_d dX3_addPart_all0 2 rfl
theorem dX3_addPart_5 : decode cX3_addPart 5 = .ok (.getfield 11, 3) := all_d dX3_addPart_all0 3 rfl
theorem dX3_addPart_8 : decode cX3_addPart 8 = .ok (.arraylength, 1) := all_d dX3_addPart_all0 4 rfl
theorem dX3_addPart_9 : decode cX3_addPart 9 = .ok (.if_icmp .lt 4, 3) := all_d dX3_addPart_all0 5 rfl
theorem dX3_addPart_12 : decode cX3_addPart 12 = .ok (.return_, 1) := all_d dX3_addPart_all0 6 rfl
theorem dX3_addPart_13 : decode cX3_addPart 13 = .ok (.aload_n 0, 1) := all_d dX3_addPart_all0 7 rfl
theorem dX3_addPart_14 : decode cX3_addPart 14 = .ok (.dup, 1) := all_d dX3_addPart_all0 8 rfl
theorem dX3_addPart_15 : decode cX3_addPart 15 = .ok (.getfield 22, 3) := all_d dX3_addPart_all0 9 rfl
theorem dX3_addPart_18 : decode cX3_addPart 18 = .ok (.iconst 1, 1) := all_d dX3_addPart_all0 10 rfl
theorem dX3_addPart_19 : decode cX3_addPart 19 = .ok (.iadd, 1) := all_d dX3_addPart_all0 11 rfl
theorem dX3_addPart_20 : decode cX3_addPart 20 = .ok (.putfield 22, 3) := all_d dX3_addPart_all0 12 rfl
theorem dX3_addPart_23 : decode cX3_addPart 23 = .ok (.aload_n 0, 1) := all_d dX3_addPart_all0 13 rfl
theorem dX3_addPart_24 : decode cX3_addPart 24 = .ok (.aload_n 0, 1) := all_d dX3_addPart_all0 14 rfl
theorem dX3_addPart_25 : decode cX3_addPart 25 = .ok (.getfield 22, 3) := all_d dX3_addPart_all0 15 rfl
theorem dX3_addPart_28 : decode cX3_addPart 28 = .ok (.iconst 1, 1) := all_d dX3_addPart_all0 16 rfl
theorem dX3_addPart_29 : decode cX3_addPart 29 = .ok (.isub, 1) := all_d dX3_addPart_all0 17 rfl
theorem dX3_addPart_30 : decode cX3_addPart 30 = .ok (.invokevirtual 25, 3) := all_d dX3_addPart_all0 18 rfl
theorem dX3_addPart_33 : decode cX3_addPart 33 = .ok (.astore_n 3, 1) := all_d dX3_addPart_all0 19 rfl
theorem dX3_addPart_34 : decode cX3_addPart 34 = .ok (.aload_n 3, 1) := all_d dX3_addPart_all0 20 rfl
theorem dX3_addPart_35 : decode cX3_addPart 35 = .ok (.ifnonnull 4, 3) := all_d dX3_addPart_all0 21 rfl
theorem dX3_addPart_38 : decode cX3_addPart 38 = .ok (.return_, 1) := all_d dX3_addPart_all0 22 rfl
theorem dX3_addPart_39 : decode cX3_addPart 39 = .ok (.aload_n 3, 1) := all_d dX3_addPart_all0 23 rfl
theorem dX3_addPart_40 : decode cX3_addPart 40 = .ok (.iload_n 1, 1) := all_d dX3_addPart_all0 24 rfl
theorem dX3_addPart_41 : decode cX3_addPart 41 = .ok (.putfield 29, 3) := all_d dX3_addPart_all0 25 rfl
theorem dX3_addPart_44 : decode cX3_addPart 44 = .ok (.aload_n 3, 1) := all_d dX3_addPart_all0 26 rfl
theorem dX3_addPart_45 : decode cX3_addPart 45 = .ok (.iconst 0, 1) := all_d dX3_addPart_all0 27 rfl
theorem dX3_addPart_46 : decode cX3_addPart 46 = .ok (.putfield 32, 3) := all_d dX3_addPart_all0 28 rfl
theorem dX3_addPart_49 : decode cX3_addPart 49 = .ok (.aload_n 3, 1) := all_d dX3_addPart_all0 29 rfl
theorem dX3_addPart_50 : decode cX3_addPart 50 = .ok (.aload_n 0, 1) := all_d dX3_addPart_all0 30 rfl
theorem dX3_addPart_51 : decode cX3_addPart 51 = .ok (.getfield 18, 3) := all_d dX3_addPart_all0 31 rfl
theorem dX3_addPart_54 : decode cX3_addPart 54 = .ok (.iconst 2, 1) := all_d dX3_addPart_all0 32 rfl
theorem dX3_addPart_55 : decode cX3_addPart 55 = .ok (.if_icmp .ne 7, 3) := all_d dX3_addPart_all0 33 rfl
theorem dX3_addPart_58 : decode cX3_addPart 58 = .ok (.iload_n 1, 1) := all_d dX3_addPart_all0 34 rfl
theorem dX3_addPart_59 : decode cX3_addPart 59 = .ok (.goto 4, 3) := all_d dX3_addPart_all0 35 rfl
theorem dX3_addPart_62 : decode cX3_addPart 62 = .ok (.iconst 1, 1) := all_d dX3_addPart_all0 36 rfl
theorem dX3_addPart_63 : decode cX3_addPart 63 = .ok (.putfield 35, 3) := all_d dX3_addPart_all0 37 rfl
theorem dX3_addPart_66 : decode cX3_addPart 66 = .ok (.aload_n 3, 1) := all_d dX3_addPart_all0 38 rfl
theorem dX3_addPart_67 : decode cX3_addPart 67 = .ok (.aload_n 0, 1) := all_d dX3_addPart_all0 39 rfl
theorem dX3_addPart_68 : decode cX3_addPart 68 = .ok (.invokevirtual 38, 3) := all_d dX3_addPart_all0 40 rfl
theorem dX3_addPart_71 : decode cX3_addPart 71 = .ok (.ifCond .eq 7, 3) := all_d dX3_addPart_all0 41 rfl
theorem dX3_addPart_74 : decode cX3_addPart 74 = .ok (.iload_n 2, 1) := all_d dX3_addPart_all0 42 rfl
theorem dX3_addPart_75 : decode cX3_addPart 75 = .ok (.goto 4, 3) := all_d dX3_addPart_all0 43 rfl
theorem dX3_addPart_78 : decode cX3_addPart 78 = .ok (.iconst 0, 1) := all_d dX3_addPart_all0 44 rfl
theorem dX3_addPart_79 : decode cX3_addPart 79 = .ok (.putfield 42, 3) := all_d dX3_addPart_all0 45 rfl
theorem dX3_addPart_82 : decode cX3_addPart 82 = .ok (.aload_n 0, 1) := all_d dX3_addPart_all0 46 rfl
theorem dX3_addPart_83 : decode cX3_addPart 83 = .ok (.invokevirtual 38, 3) := all_d dX3_addPart_all0 47 rfl
theorem dX3_addPart_86 : decode cX3_addPart 86 = .ok (.ifCond .eq 7, 3) := all_d dX3_addPart_all0 48 rfl
theorem dX3_addPart_89 : decode cX3_addPart 89 = .ok (.aload_n 0, 1) := all_d dX3_addPart_all0 49 rfl
theorem dX3_addPart_90 : decode cX3_addPart 90 = .ok (.invokevirtual 45, 3) := all_d dX3_addPart_all0 50 rfl
theorem dX3_addPart_93 : decode cX3_addPart 93 = .ok (.return_, 1) := all_d dX3_addPart_all0 51 rfl
set_option maxRecDepth 100000 in
theorem dX3_dropPart_all0 : ([(0, (.aload_n 0 : Instr), 1), (1, (.getfield 22 : Instr), 3), (4, (.ifCond .le 13 : Instr), 3), (7, (.aload_n 0 : Instr), 1), (8, (.dup : Instr), 1), (9, (.getfield 22 : Instr), 3), (12, (.iconst 1 : Instr), 1), (13, (.isub : Instr), 1), (14, (.putfield 22 : Instr), 3), (17, (.return_ : Instr), 1)] : List (Nat × Instr × Nat)).all (fun q => decide (decode cX3_dropPart q.1 = .ok (q.2.1, q.2.2))) = true := by decide +kernel
theorem dX3_dropPart_0 : decode cX3_dropPart 0 = .ok (.aload_n 0, 1) := all_d dX3_dropPart_all0 0 rfl
theorem dX3_dropPart_1 : decode cX3_dropPart 1 = .ok (.getfield 22, 3) := all_d dX3_dropPart_all0 1 rfl
theorem dX3_dropPart_4 : decode cX3_dropPart 4 = .ok (.ifCond .le 13, 3) := all_d dX3_dropPart_all0 2 rfl
theorem dX3_dropPart_7 : decode cX3_dropPart 7 = .ok (.aload_n 0, 1) := all_d dX3_dropPart_all0 3 rfl
theorem dX3_dropPart_8 : decode cX3_dropPart 8 = .ok (.dup, 1) := all_d dX3_dropPart_all0 4 rfl
theorem dX3_dropPart_9 : decode cX3_dropPart 9 = .ok (.getfield 22, 3) := all_d dX3_dropPart_all0 5 rfl
theorem dX3_dropPart_12 : decode cX3_dropPart 12 = .ok (.iconst 1, 1) := all_d dX3_dropPart_all0 6 rfl
theorem dX3_dropPart_13 : decode cX3_dropPart 13 = .ok (.isub, 1) := all_d dX3_dropPart_all0 7 rfl
theorem dX3_dropPart_14 : decode cX3_dropPart 14 = .ok (.putfield 22, 3) := all_d dX3_dropPart_all0 8 rfl
theorem dX3_dropPart_17 : decode cX3_dropPart 17 = .ok (.return_, 1) := all_d dX3_dropPart_all0 9 rfl
set_option maxRecDepth 100000 in
theorem dX3_doubleWorths_all0 : ([(0, (.iconst 1 : Instr), 1), (1, (.istore_n 1 : Instr), 1), (2, (.aload_n 0 : Instr), 1), (3, (.getfield 22 : Instr), 3), (6, (.iconst 1 : Instr), 1), (7, (.isub : Instr), 1), (8, (.istore_n 2 : Instr), 1), (9, (.iload_n 2 : Instr), 1), (10, (.ifCond .lt 34 : Instr), 3), (13, (.aload_n 0 : Instr), 1), (14, (.iload_n 2 : Instr), 1), (15, (.invokevirtual 25 : Instr), 3), (18, (.astore_n 3 : Instr), 1), (19, (.aload_n 3 : Instr), 1), (20, (.ifnull 8 : Instr), 3), (23, (.aload_n 3 : Instr), 1), (24, (.iload_n 1 : Instr), 1), (25, (.putfield 35 : Instr), 3), (28, (.sipush 8000 : Instr), 3), (31, (.iload_n 1 : Instr), 1), (32, (.iconst 2 : Instr), 1), (33, (.imul : Instr), 1), (34, (.invokestatic 48 : Instr), 3), (37, (.istore_n 1 : Instr), 1), (38, (.iinc 2 (-1) : Instr), 3), (41, (.goto (-32) : Instr), 3), (44, (.return_ : Instr), 1)] : List (Nat × Instr × Nat)).all (fun q => decide (decode cX3_doubleWorths q.1 = .ok (q.2.1, q.2.2))) = true := by decide +kernel
theorem dX3_doubleWorths_0 : decode cX3_doubleWorths 0 = .ok (.iconst 1, 1) := all_d dX3_doubleWorths_all0 0 rfl
theorem dX3_doubleWorths_1 : decode cX3_doubleWorths 1 = .ok (.istore_n 1, 1) := all_d dX3_doubleWorths_all0 1 rfl
theorem dX3_doubleWorths_2 : decode cX3_doubleWorths 2 = .ok (.aload_n 0, 1) := all_d dX3_doubleWorths_all0 2 rfl
theorem dX3_doubleWorths_3 : decode cX3_doubleWorths 3 = .ok (.getfield 22, 3) := all_d dX3_doubleWorths_all0 3 rfl
theorem dX3_doubleWorths_6 : decode cX3_doubleWorths 6 = .ok (.iconst 1, 1) := all_d dX3_doubleWorths_all0 4 rfl
theorem dX3_doubleWorths_7 : decode cX3_doubleWorths 7 = .ok (.isub, 1) := all_d dX3_doubleWorths_all0 5 rfl
theorem dX3_doubleWorths_8 : decode cX3_doubleWorths 8 = .ok (.istore_n 2, 1) := all_d dX3_doubleWorths_all0 6 rfl
theorem dX3_doubleWorths_9 : decode cX3_doubleWorths 9 = .ok (.iload_n 2, 1) := all_d dX3_doubleWorths_all0 7 rfl
theorem dX3_doubleWorths_10 : decode cX3_doubleWorths 10 = .ok (.ifCond .lt 34, 3) := all_d dX3_doubleWorths_all0 8 rfl
theorem dX3_doubleWorths_13 : decode cX3_doubleWorths 13 = .ok (.aload_n 0, 1) := all_d dX3_doubleWorths_all0 9 rfl
theorem dX3_doubleWorths_14 : decode cX3_doubleWorths 14 = .ok (.iload_n 2, 1) := all_d dX3_doubleWorths_all0 10 rfl
theorem dX3_doubleWorths_15 : decode cX3_doubleWorths 15 = .ok (.invokevirtual 25, 3) := all_d dX3_doubleWorths_all0 11 rfl
theorem dX3_doubleWorths_18 : decode cX3_doubleWorths 18 = .ok (.astore_n 3, 1) := all_d dX3_doubleWorths_all0 12 rfl
theorem dX3_doubleWorths_19 : decode cX3_doubleWorths 19 = .ok (.aload_n 3, 1) := all_d dX3_doubleWorths_all0 13 rfl
theorem dX3_doubleWorths_20 : decode cX3_doubleWorths 20 = .ok (.ifnull 8, 3) := all_d dX3_doubleWorths_all0 14 rfl
theorem dX3_doubleWorths_23 : decode cX3_doubleWorths 23 = .ok (.aload_n 3, 1) := all_d dX3_doubleWorths_all0 15 rfl
theorem dX3_doubleWorths_24 : decode cX3_doubleWorths 24 = .ok (.iload_n 1, 1) := all_d dX3_doubleWorths_all0 16 rfl
theorem dX3_doubleWorths_25 : decode cX3_doubleWorths 25 = .ok (.putfield 35, 3) := all_d dX3_doubleWorths_all0 17 rfl
theorem dX3_doubleWorths_28 : decode cX3_doubleWorths 28 = .ok (.sipush 8000, 3) := all_d dX3_doubleWorths_all0 18 rfl
theorem dX3_doubleWorths_31 : decode cX3_doubleWorths 31 = .ok (.iload_n 1, 1) := all_d dX3_doubleWorths_all0 19 rfl
theorem dX3_doubleWorths_32 : decode cX3_doubleWorths 32 = .ok (.iconst 2, 1) := all_d dX3_doubleWorths_all0 20 rfl
theorem dX3_doubleWorths_33 : decode cX3_doubleWorths 33 = .ok (.imul, 1) := all_d dX3_doubleWorths_all0 21 rfl
theorem dX3_doubleWorths_34 : decode cX3_doubleWorths 34 = .ok (.invokestatic 48, 3) := all_d dX3_doubleWorths_all0 22 rfl
theorem dX3_doubleWorths_37 : decode cX3_doubleWorths 37 = .ok (.istore_n 1, 1) := all_d dX3_doubleWorths_all0 23 rfl
theorem dX3_doubleWorths_38 : decode cX3_doubleWorths 38 = .ok (.iinc 2 (-1), 3) := all_d dX3_doubleWorths_all0 24 rfl
theorem dX3_doubleWorths_41 : decode cX3_doubleWorths 41 = .ok (.goto (-32), 3) := all_d dX3_doubleWorths_all0 25 rfl
theorem dX3_doubleWorths_44 : decode cX3_doubleWorths 44 = .ok (.return_, 1) := all_d dX3_doubleWorths_all0 26 rfl
set_option maxRecDepth 100000 in
theorem dX3_mendWorths_all0 : ([(0, (.iconst 0 : Instr), 1), (1, (.istore_n 1 : Instr), 1), (2, (.iload_n 1 : Instr), 1), (3, (.aload_n 0 : Instr), 1), (4, (.getfield 22 : Instr), 3), (7, (.if_icmp .ge 27 : Instr), 3), (10, (.aload_n 0 : Instr), 1), (11, (.iload_n 1 : Instr), 1), (12, (.invokevirtual 25 : Instr), 3), (15, (.astore_n 2 : Instr), 1), (16, (.aload_n 2 : Instr), 1), (17, (.ifnull 11 : Instr), 3), (20, (.aload_n 2 : Instr), 1), (21, (.aload_n 2 : Instr), 1), (22, (.invokevirtual 54 : Instr), 3), (25, (.putfield 35 : Instr), 3), (28, (.iinc 1 1 : Instr), 3), (31, (.goto (-29) : Instr), 3), (34, (.return_ : Instr), 1)] : List (Nat × Instr × Nat)).all (fun q => decide (decode cX3_mendWorths q.1 = .ok (q.2.1, q.2.2))) = true := by decide +kernel
theorem dX3_mendWorths_0 : decode cX3_mendWorths 0 = .ok (.iconst 0, 1) := all_d dX3_mendWorths_all0 0 rfl
theorem dX3_mendWorths_1 : decode cX3_mendWorths 1 = .ok (.istore_n 1, 1) := all_d dX3_mendWorths_all0 1 rfl
theorem dX3_mendWorths_2 : decode cX3_mendWorths 2 = .ok (.iload_n 1, 1) := all_d dX3_mendWorths_all0 2 rfl
theorem dX3_mendWorths_3 : decode cX3_mendWorths 3 = .ok (.aload_n 0, 1) := all_d dX3_mendWorths_all0 3 rfl
theorem dX3_mendWorths_4 : decode cX3_mendWorths 4 = .ok (.getfield 22, 3) := all_d dX3_mendWorths_all0 4 rfl
theorem dX3_mendWorths_7 : decode cX3_mendWorths 7 = .ok (.if_icmp .ge 27, 3) := all_d dX3_mendWorths_all0 5 rfl
theorem dX3_mendWorths_10 : decode cX3_mendWorths 10 = .ok (.aload_n 0, 1) := all_d dX3_mendWorths_all0 6 rfl
theorem dX3_mendWorths_11 : decode cX3_mendWorths 11 = .ok (.iload_n 1, 1) := all_d dX3_mendWorths_all0 7 rfl
theorem dX3_mendWorths_12 : decode cX3_mendWorths 12 = .ok (.invokevirtual 25, 3) := all_d dX3_mendWorths_all0 8 rfl
theorem dX3_mendWorths_15 : decode cX3_mendWorths 15 = .ok (.astore_n 2, 1) := all_d dX3_mendWorths_all0 9 rfl
theorem dX3_mendWorths_16 : decode cX3_mendWorths 16 = .ok (.aload_n 2, 1) := all_d dX3_mendWorths_all0 10 rfl
theorem dX3_mendWorths_17 : decode cX3_mendWorths 17 = .ok (.ifnull 11, 3) := all_d dX3_mendWorths_all0 11 rfl
theorem dX3_mendWorths_20 : decode cX3_mendWorths 20 = .ok (.aload_n 2, 1) := all_d dX3_mendWorths_all0 12 rfl
theorem dX3_mendWorths_21 : decode cX3_mendWorths 21 = .ok (.aload_n 2, 1) := all_d dX3_mendWorths_all0 13 rfl
theorem dX3_mendWorths_22 : decode cX3_mendWorths 22 = .ok (.invokevirtual 54, 3) := all_d dX3_mendWorths_all0 14 rfl
theorem dX3_mendWorths_25 : decode cX3_mendWorths 25 = .ok (.putfield 35, 3) := all_d dX3_mendWorths_all0 15 rfl
theorem dX3_mendWorths_28 : decode cX3_mendWorths 28 = .ok (.iinc 1 1, 3) := all_d dX3_mendWorths_all0 16 rfl
theorem dX3_mendWorths_31 : decode cX3_mendWorths 31 = .ok (.goto (-29), 3) := all_d dX3_mendWorths_all0 17 rfl
theorem dX3_mendWorths_34 : decode cX3_mendWorths 34 = .ok (.return_, 1) := all_d dX3_mendWorths_all0 18 rfl
set_option maxRecDepth 100000 in
theorem dX3_keepWorths_all0 : ([(0, (.iconst 0 : Instr), 1), (1, (.istore_n 2 : Instr), 1), (2, (.iload_n 2 : Instr), 1), (3, (.aload_n 0 : Instr), 1), (4, (.getfield 22 : Instr), 3), (7, (.if_icmp .ge 36 : Instr), 3), (10, (.iload_n 2 : Instr), 1), (11, (.aload_n 1 : Instr), 1), (12, (.arraylength : Instr), 1), (13, (.if_icmp .ge 30 : Instr), 3), (16, (.aload_n 0 : Instr), 1), (17, (.iload_n 2 : Instr), 1), (18, (.invokevirtual 25 : Instr), 3), (21, (.astore_n 3 : Instr), 1), (22, (.aload_n 1 : Instr), 1), (23, (.iload_n 2 : Instr), 1), (24, (.aload_n 3 : Instr), 1), (25, (.ifnonnull 7 : Instr), 3), (28, (.iconst 0 : Instr), 1), (29, (.goto 7 : Instr), 3), (32, (.aload_n 3 : Instr), 1), (33, (.getfield 35 : Instr), 3), (36, (.iastore : Instr), 1), (37, (.iinc 2 1 : Instr), 3), (40, (.goto (-38) : Instr), 3), (43, (.return_ : Instr), 1)] : List (Nat × Instr × Nat)).all (fun q => decide (decode cX3_keepWorths q.1 = .ok (q.2.1, q.2.2))) = true := by decide +kernel
theorem dX3_keepWorths_0 : decode cX3_keepWorths 0 = .ok (.iconst 0, 1) := all_d dX3_keepWorths_all0 0 rfl
theorem dX3_keepWorths_1 : decode cX3_keepWorths 1 = .ok (.istore_n 2, 1) := all_d dX3_keepWorths_all0 1 rfl
theorem dX3_keepWorths_2 : decode cX3_keepWorths 2 = .ok (.iload_n 2, 1) := all_d dX3_keepWorths_all0 2 rfl
theorem dX3_keepWorths_3 : decode cX3_keepWorths 3 = .ok (.aload_n 0, 1) := all_d dX3_keepWorths_all0 3 rfl
theorem dX3_keepWorths_4 : decode cX3_keepWorths 4 = .ok (.getfield 22, 3) := all_d dX3_keepWorths_all0 4 rfl
theorem dX3_keepWorths_7 : decode cX3_keepWorths 7 = .ok (.if_icmp .ge 36, 3) := all_d dX3_keepWorths_all0 5 rfl
theorem dX3_keepWorths_10 : decode cX3_keepWorths 10 = .ok (.iload_n 2, 1) := all_d dX3_keepWorths_all0 6 rfl
theorem dX3_keepWorths_11 : decode cX3_keepWorths 11 = .ok (.aload_n 1, 1) := all_d dX3_keepWorths_all0 7 rfl
theorem dX3_keepWorths_12 : decode cX3_keepWorths 12 = .ok (.arraylength, 1) := all_d dX3_keepWorths_all0 8 rfl
theorem dX3_keepWorths_13 : decode cX3_keepWorths 13 = .ok (.if_icmp .ge 30, 3) := all_d dX3_keepWorths_all0 9 rfl
theorem dX3_keepWorths_16 : decode cX3_keepWorths 16 = .ok (.aload_n 0, 1) := all_d dX3_keepWorths_all0 10 rfl
theorem dX3_keepWorths_17 : decode cX3_keepWorths 17 = .ok (.iload_n 2, 1) := all_d dX3_keepWorths_all0 11 rfl
theorem dX3_keepWorths_18 : decode cX3_keepWorths 18 = .ok (.invokevirtual 25, 3) := all_d dX3_keepWorths_all0 12 rfl
theorem dX3_keepWorths_21 : decode cX3_keepWorths 21 = .ok (.astore_n 3, 1) := all_d dX3_keepWorths_all0 13 rfl
theorem dX3_keepWorths_22 : decode cX3_keepWorths 22 = .ok (.aload_n 1, 1) := all_d dX3_keepWorths_all0 14 rfl
theorem dX3_keepWorths_23 : decode cX3_keepWorths 23 = .ok (.iload_n 2, 1) := all_d dX3_keepWorths_all0 15 rfl
theorem dX3_keepWorths_24 : decode cX3_keepWorths 24 = .ok (.aload_n 3, 1) := all_d dX3_keepWorths_all0 16 rfl
theorem dX3_keepWorths_25 : decode cX3_keepWorths 25 = .ok (.ifnonnull 7, 3) := all_d dX3_keepWorths_all0 17 rfl
theorem dX3_keepWorths_28 : decode cX3_keepWorths 28 = .ok (.iconst 0, 1) := all_d dX3_keepWorths_all0 18 rfl
theorem dX3_keepWorths_29 : decode cX3_keepWorths 29 = .ok (.goto 7, 3) := all_d dX3_keepWorths_all0 19 rfl
theorem dX3_keepWorths_32 : decode cX3_keepWorths 32 = .ok (.aload_n 3, 1) := all_d dX3_keepWorths_all0 20 rfl
theorem dX3_keepWorths_33 : decode cX3_keepWorths 33 = .ok (.getfield 35, 3) := all_d dX3_keepWorths_all0 21 rfl
theorem dX3_keepWorths_36 : decode cX3_keepWorths 36 = .ok (.iastore, 1) := all_d dX3_keepWorths_all0 22 rfl
theorem dX3_keepWorths_37 : decode cX3_keepWorths 37 = .ok (.iinc 2 1, 3) := all_d dX3_keepWorths_all0 23 rfl
theorem dX3_keepWorths_40 : decode cX3_keepWorths 40 = .ok (.goto (-38), 3) := all_d dX3_keepWorths_all0 24 rfl
theorem dX3_keepWorths_43 : decode cX3_keepWorths 43 = .ok (.return_, 1) := all_d dX3_keepWorths_all0 25 rfl
set_option maxRecDepth 100000 in
theorem dX3_giveWorths_all0 : ([(0, (.iconst 0 : Instr), 1), (1, (.istore_n 2 : Instr), 1), (2, (.iload_n 2 : Instr), 1), (3, (.aload_n 0 : Instr), 1), (4, (.getfield 22 : Instr), 3), (7, (.if_icmp .ge 32 : Instr), 3), (10, (.iload_n 2 : Instr), 1), (11, (.aload_n 1 : Instr), 1), (12, (.arraylength : Instr), 1), (13, (.if_icmp .ge 26 : Instr), 3), (16, (.aload_n 0 : Instr), 1), (17, (.iload_n 2 : Instr), 1), (18, (.invokevirtual 25 : Instr), 3), (21, (.astore_n 3 : Instr), 1), (22, (.aload_n 3 : Instr), 1), (23, (.ifnull 10 : Instr), 3), (26, (.aload_n 3 : Instr), 1), (27, (.aload_n 1 : Instr), 1), (28, (.iload_n 2 : Instr), 1), (29, (.iaload : Instr), 1), (30, (.putfield 35 : Instr), 3), (33, (.iinc 2 1 : Instr), 3), (36, (.goto (-34) : Instr), 3), (39, (.return_ : Instr), 1)] : List (Nat × Instr × Nat)).all (fun q => decide (decode cX3_giveWorths q.1 = .ok (q.2.1, q.2.2))) = true := by decide +kernel
theorem dX3_giveWorths_0 : decode cX3_giveWorths 0 = .ok (.iconst 0, 1) := all_d dX3_giveWorths_all0 0 rfl
theorem dX3_giveWorths_1 : decode cX3_giveWorths 1 = .ok (.istore_n 2, 1) := all_d dX3_giveWorths_all0 1 rfl
theorem dX3_giveWorths_2 : decode cX3_giveWorths 2 = .ok (.iload_n 2, 1) := all_d dX3_giveWorths_all0 2 rfl
theorem dX3_giveWorths_3 : decode cX3_giveWorths 3 = .ok (.aload_n 0, 1) := all_d dX3_giveWorths_all0 3 rfl
theorem dX3_giveWorths_4 : decode cX3_giveWorths 4 = .ok (.getfield 22, 3) := all_d dX3_giveWorths_all0 4 rfl
theorem dX3_giveWorths_7 : decode cX3_giveWorths 7 = .ok (.if_icmp .ge 32, 3) := all_d dX3_giveWorths_all0 5 rfl
theorem dX3_giveWorths_10 : decode cX3_giveWorths 10 = .ok (.iload_n 2, 1) := all_d dX3_giveWorths_all0 6 rfl
theorem dX3_giveWorths_11 : decode cX3_giveWorths 11 = .ok (.aload_n 1, 1) := all_d dX3_giveWorths_all0 7 rfl
theorem dX3_giveWorths_12 : decode cX3_giveWorths 12 = .ok (.arraylength, 1) := all_d dX3_giveWorths_all0 8 rfl
theorem dX3_giveWorths_13 : decode cX3_giveWorths 13 = .ok (.if_icmp .ge 26, 3) := all_d dX3_giveWorths_all0 9 rfl
theorem dX3_giveWorths_16 : decode cX3_giveWorths 16 = .ok (.aload_n 0, 1) := all_d dX3_giveWorths_all0 10 rfl
theorem dX3_giveWorths_17 : decode cX3_giveWorths 17 = .ok (.iload_n 2, 1) := all_d dX3_giveWorths_all0 11 rfl
theorem dX3_giveWorths_18 : decode cX3_giveWorths 18 = .ok (.invokevirtual 25, 3) := all_d dX3_giveWorths_all0 12 rfl
theorem dX3_giveWorths_21 : decode cX3_giveWorths 21 = .ok (.astore_n 3, 1) := all_d dX3_giveWorths_all0 13 rfl
theorem dX3_giveWorths_22 : decode cX3_giveWorths 22 = .ok (.aload_n 3, 1) := all_d dX3_giveWorths_all0 14 rfl
theorem dX3_giveWorths_23 : decode cX3_giveWorths 23 = .ok (.ifnull 10, 3) := all_d dX3_giveWorths_all0 15 rfl
theorem dX3_giveWorths_26 : decode cX3_giveWorths 26 = .ok (.aload_n 3, 1) := all_d dX3_giveWorths_all0 16 rfl
theorem dX3_giveWorths_27 : decode cX3_giveWorths 27 = .ok (.aload_n 1, 1) := all_d dX3_giveWorths_all0 17 rfl
theorem dX3_giveWorths_28 : decode cX3_giveWorths 28 = .ok (.iload_n 2, 1) := all_d dX3_giveWorths_all0 18 rfl
theorem dX3_giveWorths_29 : decode cX3_giveWorths 29 = .ok (.iaload, 1) := all_d dX3_giveWorths_all0 19 rfl
theorem dX3_giveWorths_30 : decode cX3_giveWorths 30 = .ok (.putfield 35, 3) := all_d dX3_giveWorths_all0 20 rfl
theorem dX3_giveWorths_33 : decode cX3_giveWorths 33 = .ok (.iinc 2 1, 3) := all_d dX3_giveWorths_all0 21 rfl
theorem dX3_giveWorths_36 : decode cX3_giveWorths 36 = .ok (.goto (-34), 3) := all_d dX3_giveWorths_all0 22 rfl
theorem dX3_giveWorths_39 : decode cX3_giveWorths 39 = .ok (.return_, 1) := all_d dX3_giveWorths_all0 23 rfl
set_option maxRecDepth 100000 in
theorem dX3_codeOf_all0 : ([(0, (.aload_n 0 : Instr), 1), (1, (.iconst 0 : Instr), 1), (2, (.putfield 58 : Instr), 3), (5, (.aload_n 0 : Instr), 1), (6, (.iconst 0 : Instr), 1), (7, (.putfield 61 : Instr), 3), (10, (.aload_n 0 : Instr), 1), (11, (.iload_n 1 : Instr), 1), (12, (.putfield 64 : Instr), 3), (15, (.aload_n 0 : Instr), 1), (16, (.getfield 18 : Instr), 3), (19, (.iconst 2 : Instr), 1), (20, (.if_icmp .ne 10 : Instr), 3), (23, (.aload_n 0 : Instr), 1), (24, (.invokevirtual 67 : Instr), 3), (27, (.goto 22 : Instr), 3), (30, (.aload_n 0 : Instr), 1), (31, (.invokevirtual 38 : Instr), 3), (34, (.ifCond .eq 10 : Instr), 3), (37, (.aload_n 0 : Instr), 1), (38, (.invokevirtual 70 : Instr), 3), (41, (.goto 8 : Instr), 3), (44, (.aload_n 0 : Instr), 1), (45, (.iload_n 1 : Instr), 1), (46, (.invokevirtual 73 : Instr), 3), (49, (.aload_n 0 : Instr), 1), (50, (.getfield 58 : Instr), 3), (53, (.ireturn : Instr), 1)] : List (Nat × Instr × Nat)).all (fun q => decide (decode cX3_codeOf q.1 = .ok (q.2.1, q.2.2))) = true := by decide +kernel
theorem dX3_codeOf_0 : decode cX3_codeOf 0 = .ok (.aload_n 0, 1) := all_d dX3_codeOf_all0 0 rfl
theorem dX3_codeOf_1 : decode cX3_codeOf 1 = .ok (.iconst 0, 1) := all_d dX3_codeOf_all0 1 rfl
theorem dX3_codeOf_2 : decode cX3_codeOf 2 = .ok (.putfield 58, 3) := all_d dX3_codeOf_all0 2 rfl
theorem dX3_codeOf_5 : decode cX3_codeOf 5 = .ok (.aload_n 0, 1) := all_d dX3_codeOf_all0 3 rfl
theorem dX3_codeOf_6 : decode cX3_codeOf 6 = .ok (.iconst 0, 1) := all_d dX3_codeOf_all0 4 rfl
theorem dX3_codeOf_7 : decode cX3_codeOf 7 = .ok (.putfield 61, 3) := all_d dX3_codeOf_all0 5 rfl
theorem dX3_codeOf_10 : decode cX3_codeOf 10 = .ok (.aload_n 0, 1) := all_d dX3_codeOf_all0 6 rfl
theorem dX3_codeOf_11 : decode cX3_codeOf 11 = .ok (.iload_n 1, 1) := all_d dX3_codeOf_all0 7 rfl
theorem dX3_codeOf_12 : decode cX3_codeOf 12 = .ok (.putfield 64, 3) := all_d dX3_codeOf_all0 8 rfl
theorem dX3_codeOf_15 : decode cX3_codeOf 15 = .ok (.aload_n 0, 1) := all_d dX3_codeOf_all0 9 rfl
theorem dX3_codeOf_16 : decode cX3_codeOf 16 = .ok (.getfield 18, 3) := all_d dX3_codeOf_all0 10 rfl
theorem dX3_codeOf_19 : decode cX3_codeOf 19 = .ok (.iconst 2, 1) := all_d dX3_codeOf_all0 11 rfl
theorem dX3_codeOf_20 : decode cX3_codeOf 20 = .ok (.if_icmp .ne 10, 3) := all_d dX3_codeOf_all0 12 rfl
theorem dX3_codeOf_23 : decode cX3_codeOf 23 = .ok (.aload_n 0, 1) := all_d dX3_codeOf_all0 13 rfl
theorem dX3_codeOf_24 : decode cX3_codeOf 24 = .ok (.invokevirtual 67, 3) := all_d dX3_codeOf_all0 14 rfl
theorem dX3_codeOf_27 : decode cX3_codeOf 27 = .ok (.goto 22, 3) := all_d dX3_codeOf_all0 15 rfl
theorem dX3_codeOf_30 : decode cX3_codeOf 30 = .ok (.aload_n 0, 1) := all_d dX3_codeOf_all0 16 rfl
theorem dX3_codeOf_31 : decode cX3_codeOf 31 = .ok (.invokevirtual 38, 3) := all_d dX3_codeOf_all0 17 rfl
theorem dX3_codeOf_34 : decode cX3_codeOf 34 = .ok (.ifCond .eq 10, 3) := all_d dX3_codeOf_all0 18 rfl
theorem dX3_codeOf_37 : decode cX3_codeOf 37 = .ok (.aload_n 0, 1) := all_d dX3_codeOf_all0 19 rfl
theorem dX3_codeOf_38 : decode cX3_codeOf 38 = .ok (.invokevirtual 70, 3) := all_d dX3_codeOf_all0 20 rfl
theorem dX3_codeOf_41 : decode cX3_codeOf 41 = .ok (.goto 8, 3) := all_d dX3_codeOf_all0 21 rfl
theorem dX3_codeOf_44 : decode cX3_codeOf 44 = .ok (.aload_n 0, 1) := all_d dX3_codeOf_all0 22 rfl
theorem dX3_codeOf_45 : decode cX3_codeOf 45 = .ok (.iload_n 1, 1) := all_d dX3_codeOf_all0 23 rfl
theorem dX3_codeOf_46 : decode cX3_codeOf 46 = .ok (.invokevirtual 73, 3) := all_d dX3_codeOf_all0 24 rfl
theorem dX3_codeOf_49 : decode cX3_codeOf 49 = .ok (.aload_n 0, 1) := all_d dX3_codeOf_all0 25 rfl
theorem dX3_codeOf_50 : decode cX3_codeOf 50 = .ok (.getfield 58, 3) := all_d dX3_codeOf_all0 26 rfl
theorem dX3_codeOf_53 : decode cX3_codeOf 53 = .ok (.ireturn, 1) := all_d dX3_codeOf_all0 27 rfl
set_option maxRecDepth 100000 in
theorem dX3_passEdges_all0 : ([(0, (.iconst 0 : Instr), 1), (1, (.istore_n 2 : Instr), 1), (2, (.iconst 0 : Instr), 1), (3, (.istore_n 3 : Instr), 1), (4, (.iload_n 3 : Instr), 1), (5, (.aload_n 0 : Instr), 1), (6, (.getfield 22 : Instr), 3), (9, (.if_icmp .ge 102 : Instr), 3), (12, (.aload_n 0 : Instr), 1), (13, (.iload_n 3 : Instr), 1), (14, (.invokevirtual 25 : Instr), 3), (17, (.astore 4 : Instr), 2), (19, (.aload 4 : Instr), 2), (21, (.ifnonnull 6 : Instr), 3), (24, (.goto 81 : Instr), 3), (27, (.aload_n 0 : Instr), 1), (28, (.getfield 18 : Instr), 3), (31, (.iconst 1 : Instr), 1), (32, (.if_icmp .ne 13 : Instr), 3), (35, (.iload_n 2 : Instr), 1), (36, (.aload 4 : Instr), 2), (38, (.invokevirtual 54 : Instr), 3), (41, (.iadd : Instr), 1), (42, (.goto 8 : Instr), 3), (45, (.aload 4 : Instr), 2), (47, (.invokevirtual 54 : Instr), 3), (50, (.istore_n 2 : Instr), 1), (51, (.iload_n 2 : Instr), 1), (52, (.iload_n 1 : Instr), 1), (53, (.if_icmp .gt 52 : Instr), 3), (56, (.aload_n 0 : Instr), 1), (57, (.aload_n 0 : Instr), 1), (58, (.getfield 58 : Instr), 3), (61, (.ifCond .ne 9 : Instr), 3), (64, (.iload_n 1 : Instr), 1), (65, (.iload_n 2 : Instr), 1), (66, (.isub : Instr), 1), (67, (.goto 13 : Instr), 3), (70, (.aload_n 0 : Instr), 1), (71, (.getfield 64 : Instr), 3), (74, (.iload_n 1 : Instr), 1), (75, (.iload_n 2 : Instr), 1), (76, (.isub : Instr), 1), (77, (.invokestatic 48 : Instr), 3), (80, (.putfield 64 : Instr), 3), (83, (.aload_n 0 : Instr), 1), (84, (.dup : Instr), 1), (85, (.getfield 58 : Instr), 3), (88, (.iconst 1 : Instr), 1), (89, (.iadd : Instr), 1), (90, (.putfield 58 : Instr), 3), (93, (.aload_n 0 : Instr), 1), (94, (.dup : Instr), 1), (95, (.getfield 61 : Instr), 3), (98, (.iconst 1 : Instr), 1), (99, (.iload_n 3 : Instr), 1), (100, (.ishl : Instr), 1), (101, (.ior : Instr), 1), (102, (.putfield 61 : Instr), 3), (105, (.iinc 3 1 : Instr), 3), (108, (.goto (-104) : Instr), 3), (111, (.return_ : Instr), 1)] : List (Nat × Instr × Nat)).all (fun q => decide (decode cX3_passEdges q.1 = .ok (q.2.1, q.2.2))) = true := by decide +kernel
theorem dX3_passEdges_0 : decode cX3_passEdges 0 = .ok (.iconst 0, 1) := all_d dX3_passEdges_all0 0 rfl
theorem dX3_passEdges_1 : decode cX3_passEdges 1 = .ok (.istore_n 2, 1) := all_d dX3_passEdges_all0 1 rfl
theorem dX3_passEdges_2 : decode cX3_passEdges 2 = .ok (.iconst 0, 1) := all_d dX3_passEdges_all0 2 rfl
theorem dX3_passEdges_3 : decode cX3_passEdges 3 = .ok (.istore_n 3, 1) := all_d dX3_passEdges_all0 3 rfl
theorem dX3_passEdges_4 : decode cX3_passEdges 4 = .ok (.iload_n 3, 1) := all_d dX3_passEdges_all0 4 rfl
theorem dX3_passEdges_5 : decode cX3_passEdges 5 = .ok (.aload_n 0, 1) := all_d dX3_passEdges_all0 5 rfl
theorem dX3_passEdges_6 : decode cX3_passEdges 6 = .ok (.getfield 22, 3) := all_d dX3_passEdges_all0 6 rfl
theorem dX3_passEdges_9 : decode cX3_passEdges 9 = .ok (.if_icmp .ge 102, 3) := all_d dX3_passEdges_all0 7 rfl
theorem dX3_passEdges_12 : decode cX3_passEdges 12 = .ok (.aload_n 0, 1) := all_d dX3_passEdges_all0 8 rfl
theorem dX3_passEdges_13 : decode cX3_passEdges 13 = .ok (.iload_n 3, 1) := all_d dX3_passEdges_all0 9 rfl
theorem dX3_passEdges_14 : decode cX3_passEdges 14 = .ok (.invokevirtual 25, 3) := all_d dX3_passEdges_all0 10 rfl
theorem dX3_passEdges_17 : decode cX3_passEdges 17 = .ok (.astore 4, 2) := all_d dX3_passEdges_all0 11 rfl
theorem dX3_passEdges_19 : decode cX3_passEdges 19 = .ok (.aload 4, 2) := all_d dX3_passEdges_all0 12 rfl
theorem dX3_passEdges_21 : decode cX3_passEdges 21 = .ok (.ifnonnull 6, 3) := all_d dX3_passEdges_all0 13 rfl
theorem dX3_passEdges_24 : decode cX3_passEdges 24 = .ok (.goto 81, 3) := all_d dX3_passEdges_all0 14 rfl
theorem dX3_passEdges_27 : decode cX3_passEdges 27 = .ok (.aload_n 0, 1) := all_d dX3_passEdges_all0 15 rfl
theorem dX3_passEdges_28 : decode cX3_passEdges 28 = .ok (.getfield 18, 3) := all_d dX3_passEdges_all0 16 rfl
theorem dX3_passEdges_31 : decode cX3_passEdges 31 = .ok (.iconst 1, 1) := all_d dX3_passEdges_all0 17 rfl
theorem dX3_passEdges_32 : decode cX3_passEdges 32 = .ok (.if_icmp .ne 13, 3) := all_d dX3_passEdges_all0 18 rfl
theorem dX3_passEdges_35 : decode cX3_passEdges 35 = .ok (.iload_n 2, 1) := all_d dX3_passEdges_all0 19 rfl
theorem dX3_passEdges_36 : decode cX3_passEdges 36 = .ok (.aload 4, 2) := all_d dX3_passEdges_all0 20 rfl
theorem dX3_passEdges_38 : decode cX3_passEdges 38 = .ok (.invokevirtual 54, 3) := all_d dX3_passEdges_all0 21 rfl
theorem dX3_passEdges_41 : decode cX3_passEdges 41 = .ok (.iadd, 1) := all_d dX3_passEdges_all0 22 rfl
theorem dX3_passEdges_42 : decode cX3_passEdges 42 = .ok (.goto 8, 3) := all_d dX3_passEdges_all0 23 rfl
theorem dX3_passEdges_45 : decode cX3_passEdges 45 = .ok (.aload 4, 2) := all_d dX3_passEdges_all0 24 rfl
theorem dX3_passEdges_47 : decode cX3_passEdges 47 = .ok (.invokevirtual 54, 3) := all_d dX3_passEdges_all0 25 rfl
theorem dX3_passEdges_50 : decode cX3_passEdges 50 = .ok (.istore_n 2, 1) := all_d dX3_passEdges_all0 26 rfl
theorem dX3_passEdges_51 : decode cX3_passEdges 51 = .ok (.iload_n 2, 1) := all_d dX3_passEdges_all0 27 rfl
theorem dX3_passEdges_52 : decode cX3_passEdges 52 = .ok (.iload_n 1, 1) := all_d dX3_passEdges_all0 28 rfl
theorem dX3_passEdges_53 : decode cX3_passEdges 53 = .ok (.if_icmp .gt 52, 3) := all_d dX3_passEdges_all0 29 rfl
theorem dX3_passEdges_56 : decode cX3_passEdges 56 = .ok (.aload_n 0, 1) := all_d dX3_passEdges_all0 30 rfl
theorem dX3_passEdges_57 : decode cX3_passEdges 57 = .ok (.aload_n 0, 1) := all_d dX3_passEdges_all0 31 rfl
theorem dX3_passEdges_58 : decode cX3_passEdges 58 = .ok (.getfield 58, 3) := all_d dX3_passEdges_all0 32 rfl
theorem dX3_passEdges_61 : decode cX3_passEdges 61 = .ok (.ifCond .ne 9, 3) := all_d dX3_passEdges_all0 33 rfl
theorem dX3_passEdges_64 : decode cX3_passEdges 64 = .ok (.iload_n 1, 1) := all_d dX3_passEdges_all0 34 rfl
theorem dX3_passEdges_65 : decode cX3_passEdges 65 = .ok (.iload_n 2, 1) := all_d dX3_passEdges_all0 35 rfl
theorem dX3_passEdges_66 : decode cX3_passEdges 66 = .ok (.isub, 1) := all_d dX3_passEdges_all0 36 rfl
theorem dX3_passEdges_67 : decode cX3_passEdges 67 = .ok (.goto 13, 3) := all_d dX3_passEdges_all0 37 rfl
theorem dX3_passEdges_70 : decode cX3_passEdges 70 = .ok (.aload_n 0, 1) := all_d dX3_passEdges_all0 38 rfl
theorem dX3_passEdges_71 : decode cX3_passEdges 71 = .ok (.getfield 64, 3) := all_d dX3_passEdges_all0 39 rfl
theorem dX3_passEdges_74 : decode cX3_passEdges 74 = .ok (.iload_n 1, 1) := all_d dX3_passEdges_all0 40 rfl
theorem dX3_passEdges_75 : decode cX3_passEdges 75 = .ok (.iload_n 2, 1) := all_d dX3_passEdges_all0 41 rfl
theorem dX3_passEdges_76 : decode cX3_passEdges 76 = .ok (.isub, 1) := all_d dX3_passEdges_all0 42 rfl
theorem dX3_passEdges_77 : decode cX3_passEdges 77 = .ok (.invokestatic 48, 3) := all_d dX3_passEdges_all0 43 rfl
theorem dX3_passEdges_80 : decode cX3_passEdges 80 = .ok (.putfield 64, 3) := all_d dX3_passEdges_all0 44 rfl
theorem dX3_passEdges_83 : decode cX3_passEdges 83 = .ok (.aload_n 0, 1) := all_d dX3_passEdges_all0 45 rfl
theorem dX3_passEdges_84 : decode cX3_passEdges 84 = .ok (.dup, 1) := all_d dX3_passEdges_all0 46 rfl
theorem dX3_passEdges_85 : decode cX3_passEdges 85 = .ok (.getfield 58, 3) := all_d dX3_passEdges_all0 47 rfl
theorem dX3_passEdges_88 : decode cX3_passEdges 88 = .ok (.iconst 1, 1) := all_d dX3_passEdges_all0 48 rfl
theorem dX3_passEdges_89 : decode cX3_passEdges 89 = .ok (.iadd, 1) := all_d dX3_passEdges_all0 49 rfl
theorem dX3_passEdges_90 : decode cX3_passEdges 90 = .ok (.putfield 58, 3) := all_d dX3_passEdges_all0 50 rfl
theorem dX3_passEdges_93 : decode cX3_passEdges 93 = .ok (.aload_n 0, 1) := all_d dX3_passEdges_all0 51 rfl
theorem dX3_passEdges_94 : decode cX3_passEdges 94 = .ok (.dup, 1) := all_d dX3_passEdges_all0 52 rfl
theorem dX3_passEdges_95 : decode cX3_passEdges 95 = .ok (.getfield 61, 3) := all_d dX3_passEdges_all0 53 rfl
theorem dX3_passEdges_98 : decode cX3_passEdges 98 = .ok (.iconst 1, 1) := all_d dX3_passEdges_all0 54 rfl
theorem dX3_passEdges_99 : decode cX3_passEdges 99 = .ok (.iload_n 3, 1) := all_d dX3_passEdges_all0 55 rfl
theorem dX3_passEdges_100 : decode cX3_passEdges 100 = .ok (.ishl, 1) := all_d dX3_passEdges_all0 56 rfl
theorem dX3_passEdges_101 : decode cX3_passEdges 101 = .ok (.ior, 1) := all_d dX3_passEdges_all0 57 rfl
theorem dX3_passEdges_102 : decode cX3_passEdges 102 = .ok (.putfield 61, 3) := all_d dX3_passEdges_all0 58 rfl
theorem dX3_passEdges_105 : decode cX3_passEdges 105 = .ok (.iinc 3 1, 3) := all_d dX3_passEdges_all0 59 rfl
theorem dX3_passEdges_108 : decode cX3_passEdges 108 = .ok (.goto (-104), 3) := all_d dX3_passEdges_all0 60 rfl
theorem dX3_passEdges_111 : decode cX3_passEdges 111 = .ok (.return_, 1) := all_d dX3_passEdges_all0 61 rfl
set_option maxRecDepth 100000 in
theorem dX3_weigh_all0 : ([(0, (.iconst 0 : Instr), 1), (1, (.istore_n 1 : Instr), 1), (2, (.iload_n 1 : Instr), 1), (3, (.aload_n 0 : Instr), 1), (4, (.getfield 22 : Instr), 3), (7, (.if_icmp .ge 68 : Instr), 3), (10, (.aload_n 0 : Instr), 1), (11, (.iload_n 1 : Instr), 1), (12, (.invokevirtual 25 : Instr), 3), (15, (.astore_n 2 : Instr), 1), (16, (.aload_n 2 : Instr), 1), (17, (.ifnull 52 : Instr), 3), (20, (.aload_n 2 : Instr), 1), (21, (.invokevirtual 54 : Instr), 3), (24, (.aload_n 0 : Instr), 1), (25, (.getfield 64 : Instr), 3), (28, (.if_icmp .gt 41 : Instr), 3), (31, (.aload_n 0 : Instr), 1), (32, (.dup : Instr), 1), (33, (.getfield 64 : Instr), 3), (36, (.aload_n 2 : Instr), 1), (37, (.invokevirtual 54 : Instr), 3), (40, (.isub : Instr), 1), (41, (.putfield 64 : Instr), 3), (44, (.aload_n 0 : Instr), 1), (45, (.dup : Instr), 1), (46, (.getfield 58 : Instr), 3), (49, (.aload_n 2 : Instr), 1), (50, (.getfield 35 : Instr), 3), (53, (.iadd : Instr), 1), (54, (.putfield 58 : Instr), 3), (57, (.aload_n 0 : Instr), 1), (58, (.dup : Instr), 1), (59, (.getfield 61 : Instr), 3), (62, (.iconst 1 : Instr), 1), (63, (.iload_n 1 : Instr), 1), (64, (.ishl : Instr), 1), (65, (.ior : Instr), 1), (66, (.putfield 61 : Instr), 3), (69, (.iinc 1 1 : Instr), 3), (72, (.goto (-70) : Instr), 3), (75, (.return_ : Instr), 1)] : List (Nat × Instr × Nat)).all (fun q => decide (decode cX3_weigh q.1 = .ok (q.2.1, q.2.2))) = true := by decide +kernel
theorem dX3_weigh_0 : decode cX3_weigh 0 = .ok (.iconst 0, 1) := all_d dX3_weigh_all0 0 rfl
theorem dX3_weigh_1 : decode cX3_weigh 1 = .ok (.istore_n 1, 1) := all_d dX3_weigh_all0 1 rfl
theorem dX3_weigh_2 : decode cX3_weigh 2 = .ok (.iload_n 1, 1) := all_d dX3_weigh_all0 2 rfl
theorem dX3_weigh_3 : decode cX3_weigh 3 = .ok (.aload_n 0, 1) := all_d dX3_weigh_all0 3 rfl
theorem dX3_weigh_4 : decode cX3_weigh 4 = .ok (.getfield 22, 3) := all_d dX3_weigh_all0 4 rfl
theorem dX3_weigh_7 : decode cX3_weigh 7 = .ok (.if_icmp .ge 68, 3) := all_d dX3_weigh_all0 5 rfl
theorem dX3_weigh_10 : decode cX3_weigh 10 = .ok (.aload_n 0, 1) := all_d dX3_weigh_all0 6 rfl
theorem dX3_weigh_11 : decode cX3_weigh 11 = .ok (.iload_n 1, 1) := all_d dX3_weigh_all0 7 rfl
theorem dX3_weigh_12 : decode cX3_weigh 12 = .ok (.invokevirtual 25, 3) := all_d dX3_weigh_all0 8 rfl
theorem dX3_weigh_15 : decode cX3_weigh 15 = .ok (.astore_n 2, 1) := all_d dX3_weigh_all0 9 rfl
theorem dX3_weigh_16 : decode cX3_weigh 16 = .ok (.aload_n 2, 1) := all_d dX3_weigh_all0 10 rfl
theorem dX3_weigh_17 : decode cX3_weigh 17 = .ok (.ifnull 52, 3) := all_d dX3_weigh_all0 11 rfl
theorem dX3_weigh_20 : decode cX3_weigh 20 = .ok (.aload_n 2, 1) := all_d dX3_weigh_all0 12 rfl
theorem dX3_weigh_21 : decode cX3_weigh 21 = .ok (.invokevirtual 54, 3) := all_d dX3_weigh_all0 13 rfl
theorem dX3_weigh_24 : decode cX3_weigh 24 = .ok (.aload_n 0, 1) := all_d dX3_weigh_all0 14 rfl
theorem dX3_weigh_25 : decode cX3_weigh 25 = .ok (.getfield 64, 3) := all_d dX3_weigh_all0 15 rfl
theorem dX3_weigh_28 : decode cX3_weigh 28 = .ok (.if_icmp .gt 41, 3) := all_d dX3_weigh_all0 16 rfl
theorem dX3_weigh_31 : decode cX3_weigh 31 = .ok (.aload_n 0, 1) := all_d dX3_weigh_all0 17 rfl
theorem dX3_weigh_32 : decode cX3_weigh 32 = .ok (.dup, 1) := all_d dX3_weigh_all0 18 rfl
theorem dX3_weigh_33 : decode cX3_weigh 33 = .ok (.getfield 64, 3) := all_d dX3_weigh_all0 19 rfl
theorem dX3_weigh_36 : decode cX3_weigh 36 = .ok (.aload_n 2, 1) := all_d dX3_weigh_all0 20 rfl
theorem dX3_weigh_37 : decode cX3_weigh 37 = .ok (.invokevirtual 54, 3) := all_d dX3_weigh_all0 21 rfl
theorem dX3_weigh_40 : decode cX3_weigh 40 = .ok (.isub, 1) := all_d dX3_weigh_all0 22 rfl
theorem dX3_weigh_41 : decode cX3_weigh 41 = .ok (.putfield 64, 3) := all_d dX3_weigh_all0 23 rfl
theorem dX3_weigh_44 : decode cX3_weigh 44 = .ok (.aload_n 0, 1) := all_d dX3_weigh_all0 24 rfl
theorem dX3_weigh_45 : decode cX3_weigh 45 = .ok (.dup, 1) := all_d dX3_weigh_all0 25 rfl
theorem dX3_weigh_46 : decode cX3_weigh 46 = .ok (.getfield 58, 3) := all_d dX3_weigh_all0 26 rfl
theorem dX3_weigh_49 : decode cX3_weigh 49 = .ok (.aload_n 2, 1) := all_d dX3_weigh_all0 27 rfl
theorem dX3_weigh_50 : decode cX3_weigh 50 = .ok (.getfield 35, 3) := all_d dX3_weigh_all0 28 rfl
theorem dX3_weigh_53 : decode cX3_weigh 53 = .ok (.iadd, 1) := all_d dX3_weigh_all0 29 rfl
theorem dX3_weigh_54 : decode cX3_weigh 54 = .ok (.putfield 58, 3) := all_d dX3_weigh_all0 30 rfl
theorem dX3_weigh_57 : decode cX3_weigh 57 = .ok (.aload_n 0, 1) := all_d dX3_weigh_all0 31 rfl
theorem dX3_weigh_58 : decode cX3_weigh 58 = .ok (.dup, 1) := all_d dX3_weigh_all0 32 rfl
theorem dX3_weigh_59 : decode cX3_weigh 59 = .ok (.getfield 61, 3) := all_d dX3_weigh_all0 33 rfl
theorem dX3_weigh_62 : decode cX3_weigh 62 = .ok (.iconst 1, 1) := all_d dX3_weigh_all0 34 rfl
theorem dX3_weigh_63 : decode cX3_weigh 63 = .ok (.iload_n 1, 1) := all_d dX3_weigh_all0 35 rfl
theorem dX3_weigh_64 : decode cX3_weigh 64 = .ok (.ishl, 1) := all_d dX3_weigh_all0 36 rfl
theorem dX3_weigh_65 : decode cX3_weigh 65 = .ok (.ior, 1) := all_d dX3_weigh_all0 37 rfl
theorem dX3_weigh_66 : decode cX3_weigh 66 = .ok (.putfield 61, 3) := all_d dX3_weigh_all0 38 rfl
theorem dX3_weigh_69 : decode cX3_weigh 69 = .ok (.iinc 1 1, 3) := all_d dX3_weigh_all0 39 rfl
theorem dX3_weigh_72 : decode cX3_weigh 72 = .ok (.goto (-70), 3) := all_d dX3_weigh_all0 40 rfl
theorem dX3_weigh_75 : decode cX3_weigh 75 = .ok (.return_, 1) := all_d dX3_weigh_all0 41 rfl
set_option maxRecDepth 100000 in
theorem dX3_passStages_all0 : ([(0, (.iconst 0 : Instr), 1), (1, (.istore_n 1 : Instr), 1), (2, (.iconst 0 : Instr), 1), (3, (.istore_n 2 : Instr), 1), (4, (.iload_n 2 : Instr), 1), (5, (.aload_n 0 : Instr), 1), (6, (.getfield 22 : Instr), 3), (9, (.if_icmp .ge 153 : Instr), 3), (12, (.aload_n 0 : Instr), 1), (13, (.iload_n 2 : Instr), 1), (14, (.invokevirtual 25 : Instr), 3), (17, (.astore_n 3 : Instr), 1), (18, (.aload_n 3 : Instr), 1), (19, (.ifnonnull 6 : Instr), 3), (22, (.goto 134 : Instr), 3), (25, (.aload_n 0 : Instr), 1), (26, (.getfield 64 : Instr), 3), (29, (.aload_n 3 : Instr), 1), (30, (.getfield 42 : Instr), 3), (33, (.if_icmp .lt 7 : Instr), 3), (36, (.iconst 1 : Instr), 1), (37, (.goto 4 : Instr), 3), (40, (.iconst 0 : Instr), 1), (41, (.istore 4 : Instr), 2), (43, (.iload 4 : Instr), 2), (45, (.ifCond .eq 58 : Instr), 3), (48, (.iload_n 1 : Instr), 1), (49, (.ifCond .ne 7 : Instr), 3), (52, (.iconst 1 : Instr), 1), (53, (.goto 4 : Instr), 3), (56, (.iconst 0 : Instr), 1), (57, (.istore_n 1 : Instr), 1), (58, (.aload_n 0 : Instr), 1), (59, (.dup : Instr), 1), (60, (.getfield 61 : Instr), 3), (63, (.iconst 1 : Instr), 1), (64, (.iload_n 2 : Instr), 1), (65, (.ishl : Instr), 1), (66, (.ior : Instr), 1), (67, (.putfield 61 : Instr), 3), (70, (.aload_n 0 : Instr), 1), (71, (.aload_n 0 : Instr), 1), (72, (.getfield 18 : Instr), 3), (75, (.iconst 4 : Instr), 1), (76, (.if_icmp .ne 15 : Instr), 3), (79, (.aload_n 3 : Instr), 1), (80, (.invokevirtual 54 : Instr), 3), (83, (.aload_n 0 : Instr), 1), (84, (.getfield 64 : Instr), 3), (87, (.isub : Instr), 1), (88, (.goto 12 : Instr), 3), (91, (.aload_n 0 : Instr), 1), (92, (.getfield 64 : Instr), 3), (95, (.aload_n 3 : Instr), 1), (96, (.invokevirtual 54 : Instr), 3), (99, (.isub : Instr), 1), (100, (.putfield 64 : Instr), 3), (103, (.aload_n 0 : Instr), 1), (104, (.getfield 18 : Instr), 3), (107, (.iconst 4 : Instr), 1), (108, (.if_icmp .ne 10 : Instr), 3), (111, (.iload_n 1 : Instr), 1), (112, (.ifCond .eq 24 : Instr), 3), (115, (.goto 8 : Instr), 3), (118, (.iload 4 : Instr), 2), (120, (.ifCond .eq 16 : Instr), 3), (123, (.aload_n 0 : Instr), 1), (124, (.dup : Instr), 1), (125, (.getfield 58 : Instr), 3), (128, (.aload_n 3 : Instr), 1), (129, (.getfield 35 : Instr), 3), (132, (.iadd : Instr), 1), (133, (.putfield 58 : Instr), 3), (136, (.aload_n 0 : Instr), 1), (137, (.ldc 77 : Instr), 2), (139, (.ldc 78 : Instr), 2), (141, (.aload_n 0 : Instr), 1), (142, (.getfield 64 : Instr), 3), (145, (.iconst 2 : Instr), 1), (146, (.imul : Instr), 1)] : List (Nat × Instr × Nat)).all (fun q => decide (decode cX3_passStages q.1 = .ok (q.2.1, q.2.2))) = true := by decide +kernel
theorem dX3_passStages_0 : decode cX3_passStages 0 = .ok (.iconst 0, 1) := all_d dX3_passStages_all0 0 rfl
theorem dX3_passStages_1 : decode cX3_passStages 1 = .ok (.istore_n 1, 1) := all_d dX3_passStages_all0 1 rfl
theorem dX3_passStages_2 : decode cX3_passStages 2 = .ok (.iconst 0, 1) := all_d dX3_passStages_all0 2 rfl
theorem dX3_passStages_3 : decode cX3_passStages 3 = .ok (.istore_n 2, 1) := all_d dX3_passStages_all0 3 rfl
theorem dX3_passStages_4 : decode cX3_passStages 4 = .ok (.iload_n 2, 1) := all_d dX3_passStages_all0 4 rfl
theorem dX3_passStages_5 : decode cX3_passStages 5 = .ok (.aload_n 0, 1) := all_d dX3_passStages_all0 5 rfl
theorem dX3_passStages_6 : decode cX3_passStages 6 = .ok (.getfield 22, 3) := all_d dX3_passStages_all0 6 rfl
theorem dX3_passStages_9 : decode cX3_passStages 9 = .ok (.if_icmp .ge 153, 3) := all_d dX3_passStages_all0 7 rfl
theorem dX3_passStages_12 : decode cX3_passStages 12 = .ok (.aload_n 0, 1) := all_d dX3_passStages_all0 8 rfl
theorem dX3_passStages_13 : decode cX3_passStages 13 = .ok (.iload_n 2, 1) := all_d dX3_passStages_all0 9 rfl
theorem dX3_passStages_14 : decode cX3_passStages 14 = .ok (.invokevirtual 25, 3) := all_d dX3_passStages_all0 10 rfl
theorem dX3_passStages_17 : decode cX3_passStages 17 = .ok (.astore_n 3, 1) := all_d dX3_passStages_all0 11 rfl
theorem dX3_passStages_18 : decode cX3_passStages 18 = .ok (.aload_n 3, 1) := all_d dX3_passStages_all0 12 rfl
theorem dX3_passStages_19 : decode cX3_passStages 19 = .ok (.ifnonnull 6, 3) := all_d dX3_passStages_all0 13 rfl
theorem dX3_passStages_22 : decode cX3_passStages 22 = .ok (.goto 134, 3) := all_d dX3_passStages_all0 14 rfl
theorem dX3_passStages_25 : decode cX3_passStages 25 = .ok (.aload_n 0, 1) := all_d dX3_passStages_all0 15 rfl
theorem dX3_passStages_26 : decode cX3_passStages 26 = .ok (.getfield 64, 3) := all_d dX3_passStages_all0 16 rfl
theorem dX3_passStages_29 : decode cX3_passStages 29 = .ok (.aload_n 3, 1) := all_d dX3_passStages_all0 17 rfl
theorem dX3_passStages_30 : decode cX3_passStages 30 = .ok (.getfield 42, 3) := all_d dX3_passStages_all0 18 rfl
theorem dX3_passStages_33 : decode cX3_passStages 33 = .ok (.if_icmp .lt 7, 3) := all_d dX3_passStages_all0 19 rfl
theorem dX3_passStages_36 : decode cX3_passStages 36 = .ok (.iconst 1, 1) := all_d dX3_passStages_all0 20 rfl
theorem dX3_passStages_37 : decode cX3_passStages 37 = .ok (.goto 4, 3) := all_d dX3_passStages_all0 21 rfl
theorem dX3_passStages_40 : decode cX3_passStages 40 = .ok (.iconst 0, 1) := all_d dX3_passStages_all0 22 rfl
theorem dX3_passStages_41 : decode cX3_passStages 41 = .ok (.istore 4, 2) := all_d dX3_passStages_all0 23 rfl
theorem dX3_passStages_43 : decode cX3_passStages 43 = .ok (.iload 4, 2) := all_d dX3_passStages_all0 24 rfl
theorem dX3_passStages_45 : decode cX3_passStages 45 = .ok (.ifCond .eq 58, 3) := all_d dX3_passStages_all0 25 rfl
theorem dX3_passStages_48 : decode cX3_passStages 48 = .ok (.iload_n 1, 1) := all_d dX3_passStages_all0 26 rfl
theorem dX3_passStages_49 : decode cX3_passStages 49 = .ok (.ifCond .ne 7, 3) := all_d dX3_passStages_all0 27 rfl
theorem dX3_passStages_52 : decode cX3_passStages 52 = .ok (.iconst 1, 1) := all_d dX3_passStages_all0 28 rfl
theorem dX3_passStages_53 : decode cX3_passStages 53 = .ok (.goto 4, 3) := all_d dX3_passStages_all0 29 rfl
theorem dX3_passStages_56 : decode cX3_passStages 56 = .ok (.iconst 0, 1) := all_d dX3_passStages_all0 30 rfl
theorem dX3_passStages_57 : decode cX3_passStages 57 = .ok (.istore_n 1, 1) := all_d dX3_passStages_all0 31 rfl
theorem dX3_passStages_58 : decode cX3_passStages 58 = .ok (.aload_n 0, 1) := all_d dX3_passStages_all0 32 rfl
theorem dX3_passStages_59 : decode cX3_passStages 59 = .ok (.dup, 1) := all_d dX3_passStages_all0 33 rfl
theorem dX3_passStages_60 : decode cX3_passStages 60 = .ok (.getfield 61, 3) := all_d dX3_passStages_all0 34 rfl
theorem dX3_passStages_63 : decode cX3_passStages 63 = .ok (.iconst 1, 1) := all_d dX3_passStages_all0 35 rfl
theorem dX3_passStages_64 : decode cX3_passStages 64 = .ok (.iload_n 2, 1) := all_d dX3_passStages_all0 36 rfl
theorem dX3_passStages_65 : decode cX3_passStages 65 = .ok (.ishl, 1) := all_d dX3_passStages_all0 37 rfl
theorem dX3_passStages_66 : decode cX3_passStages 66 = .ok (.ior, 1) := all_d dX3_passStages_all0 38 rfl
theorem dX3_passStages_67 : decode cX3_passStages 67 = .ok (.putfield 61, 3) := all_d dX3_passStages_all0 39 rfl
theorem dX3_passStages_70 : decode cX3_passStages 70 = .ok (.aload_n 0, 1) := all_d dX3_passStages_all0 40 rfl
theorem dX3_passStages_71 : decode cX3_passStages 71 = .ok (.aload_n 0, 1) := all_d dX3_passStages_all0 41 rfl
theorem dX3_passStages_72 : decode cX3_passStages 72 = .ok (.getfield 18, 3) := all_d dX3_passStages_all0 42 rfl
theorem dX3_passStages_75 : decode cX3_passStages 75 = .ok (.iconst 4, 1) := all_d dX3_passStages_all0 43 rfl
theorem dX3_passStages_76 : decode cX3_passStages 76 = .ok (.if_icmp .ne 15, 3) := all_d dX3_passStages_all0 44 rfl
theorem dX3_passStages_79 : decode cX3_passStages 79 = .ok (.aload_n 3, 1) := all_d dX3_passStages_all0 45 rfl
theorem dX3_passStages_80 : decode cX3_passStages 80 = .ok (.invokevirtual 54, 3) := all_d dX3_passStages_all0 46 rfl
theorem dX3_passStages_83 : decode cX3_passStages 83 = .ok (.aload_n 0, 1) := all_d dX3_passStages_all0 47 rfl
theorem dX3_passStages_84 : decode cX3_passStages 84 = .ok (.getfield 64, 3) := all_d dX3_passStages_all0 48 rfl
theorem dX3_passStages_87 : decode cX3_passStages 87 = .ok (.isub, 1) := all_d dX3_passStages_all0 49 rfl
theorem dX3_passStages_88 : decode cX3_passStages 88 = .ok (.goto 12, 3) := all_d dX3_passStages_all0 50 rfl
theorem dX3_passStages_91 : decode cX3_passStages 91 = .ok (.aload_n 0, 1) := all_d dX3_passStages_all0 51 rfl
theorem dX3_passStages_92 : decode cX3_passStages 92 = .ok (.getfield 64, 3) := all_d dX3_passStages_all0 52 rfl
theorem dX3_passStages_95 : decode cX3_passStages 95 = .ok (.aload_n 3, 1) := all_d dX3_passStages_all0 53 rfl
theorem dX3_passStages_96 : decode cX3_passStages 96 = .ok (.invokevirtual 54, 3) := all_d dX3_passStages_all0 54 rfl
theorem dX3_passStages_99 : decode cX3_passStages 99 = .ok (.isub, 1) := all_d dX3_passStages_all0 55 rfl
theorem dX3_passStages_100 : decode cX3_passStages 100 = .ok (.putfield 64, 3) := all_d dX3_passStages_all0 56 rfl
theorem dX3_passStages_103 : decode cX3_passStages 103 = .ok (.aload_n 0, 1) := all_d dX3_passStages_all0 57 rfl
theorem dX3_passStages_104 : decode cX3_passStages 104 = .ok (.getfield 18, 3) := all_d dX3_passStages_all0 58 rfl
theorem dX3_passStages_107 : decode cX3_passStages 107 = .ok (.iconst 4, 1) := all_d dX3_passStages_all0 59 rfl
theorem dX3_passStages_108 : decode cX3_passStages 108 = .ok (.if_icmp .ne 10, 3) := all_d dX3_passStages_all0 60 rfl
theorem dX3_passStages_111 : decode cX3_passStages 111 = .ok (.iload_n 1, 1) := all_d dX3_passStages_all0 61 rfl
theorem dX3_passStages_112 : decode cX3_passStages 112 = .ok (.ifCond .eq 24, 3) := all_d dX3_passStages_all0 62 rfl
theorem dX3_passStages_115 : decode cX3_passStages 115 = .ok (.goto 8, 3) := all_d dX3_passStages_all0 63 rfl
theorem dX3_passStages_118 : decode cX3_passStages 118 = .ok (.iload 4, 2) := all_d dX3_passStages_all0 64 rfl
theorem dX3_passStages_120 : decode cX3_passStages 120 = .ok (.ifCond .eq 16, 3) := all_d dX3_passStages_all0 65 rfl
theorem dX3_passStages_123 : decode cX3_passStages 123 = .ok (.aload_n 0, 1) := all_d dX3_passStages_all0 66 rfl
theorem dX3_passStages_124 : decode cX3_passStages 124 = .ok (.dup, 1) := all_d dX3_passStages_all0 67 rfl
theorem dX3_passStages_125 : decode cX3_passStages 125 = .ok (.getfield 58, 3) := all_d dX3_passStages_all0 68 rfl
theorem dX3_passStages_128 : decode cX3_passStages 128 = .ok (.aload_n 3, 1) := all_d dX3_passStages_all0 69 rfl
theorem dX3_passStages_129 : decode cX3_passStages 129 = .ok (.getfield 35, 3) := all_d dX3_passStages_all0 70 rfl
theorem dX3_passStages_132 : decode cX3_passStages 132 = .ok (.iadd, 1) := all_d dX3_passStages_all0 71 rfl
theorem dX3_passStages_133 : decode cX3_passStages 133 = .ok (.putfield 58, 3) := all_d dX3_passStages_all0 72 rfl
theorem dX3_passStages_136 : decode cX3_passStages 136 = .ok (.aload_n 0, 1) := all_d dX3_passStages_all0 73 rfl
theorem dX3_passStages_137 : decode cX3_passStages 137 = .ok (.ldc 77, 2) := all_d dX3_passStages_all0 74 rfl
theorem dX3_passStages_139 : decode cX3_passStages 139 = .ok (.ldc 78, 2) := all_d dX3_passStages_all0 75 rfl
theorem dX3_passStages_141 : decode cX3_passStages 141 = .ok (.aload_n 0, 1) := all_d dX3_passStages_all0 76 rfl
theorem dX3_passStages_142 : decode cX3_passStages 142 = .ok (.getfield 64, 3) := all_d dX3_passStages_all0 77 rfl
theorem dX3_passStages_145 : decode cX3_passStages 145 = .ok (.iconst 2, 1) := all_d dX3_passStages_all0 78 rfl
theorem dX3_passStages_146 : decode cX3_passStages 146 = .ok (.imul, 1) := all_d dX3_passStages_all0 79 rfl
set_option maxRecDepth 100000 in
theorem dX3_passStages_all1 : ([(147, (.invokestatic 48 : Instr), 3), (150, (.invokestatic 79 : Instr), 3), (153, (.putfield 64 : Instr), 3), (156, (.iinc 2 1 : Instr), 3), (159, (.goto (-155) : Instr), 3), (162, (.return_ : Instr), 1)] : List (Nat × Instr × Nat)).all (fun q => decide (decode cX3_passStages q.1 = .ok (q.2.1, q.2.2))) = true := by decide +kernel
theorem dX3_passStages_147 : decode cX3_passStages 147 = .ok (.invokestatic 48, 3) := all_d dX3_passStages_all1 0 rfl
theorem dX3_passStages_150 : decode cX3_passStages 150 = .ok (.invokestatic 79, 3) := all_d dX3_passStages_all1 1 rfl
theorem dX3_passStages_153 : decode cX3_passStages 153 = .ok (.putfield 64, 3) := all_d dX3_passStages_all1 2 rfl
theorem dX3_passStages_156 : decode cX3_passStages 156 = .ok (.iinc 2 1, 3) := all_d dX3_passStages_all1 3 rfl
theorem dX3_passStages_159 : decode cX3_passStages 159 = .ok (.goto (-155), 3) := all_d dX3_passStages_all1 4 rfl
theorem dX3_passStages_162 : decode cX3_passStages 162 = .ok (.return_, 1) := all_d dX3_passStages_all1 5 rfl
set_option maxRecDepth 100000 in
theorem dX3_together_all0 : ([(0, (.iconst 0 : Instr), 1), (1, (.istore_n 1 : Instr), 1), (2, (.iconst 0 : Instr), 1), (3, (.istore_n 2 : Instr), 1), (4, (.iload_n 2 : Instr), 1), (5, (.aload_n 0 : Instr), 1), (6, (.getfield 22 : Instr), 3), (9, (.if_icmp .ge 30 : Instr), 3), (12, (.aload_n 0 : Instr), 1), (13, (.iload_n 2 : Instr), 1), (14, (.invokevirtual 25 : Instr), 3), (17, (.astore_n 3 : Instr), 1), (18, (.iload_n 1 : Instr), 1), (19, (.aload_n 3 : Instr), 1), (20, (.ifnonnull 7 : Instr), 3), (23, (.iconst 0 : Instr), 1), (24, (.goto 7 : Instr), 3), (27, (.aload_n 3 : Instr), 1), (28, (.invokevirtual 54 : Instr), 3), (31, (.iadd : Instr), 1), (32, (.istore_n 1 : Instr), 1), (33, (.iinc 2 1 : Instr), 3), (36, (.goto (-32) : Instr), 3), (39, (.iload_n 1 : Instr), 1), (40, (.ireturn : Instr), 1)] : List (Nat × Instr × Nat)).all (fun q => decide (decode cX3_together q.1 = .ok (q.2.1, q.2.2))) = true := by decide +kernel
theorem dX3_together_0 : decode cX3_together 0 = .ok (.iconst 0, 1) := all_d dX3_together_all0 0 rfl
theorem dX3_together_1 : decode cX3_together 1 = .ok (.istore_n 1, 1) := all_d dX3_together_all0 1 rfl
theorem dX3_together_2 : decode cX3_together 2 = .ok (.iconst 0, 1) := all_d dX3_together_all0 2 rfl
theorem dX3_together_3 : decode cX3_together 3 = .ok (.istore_n 2, 1) := all_d dX3_together_all0 3 rfl
theorem dX3_together_4 : decode cX3_together 4 = .ok (.iload_n 2, 1) := all_d dX3_together_all0 4 rfl
theorem dX3_together_5 : decode cX3_together 5 = .ok (.aload_n 0, 1) := all_d dX3_together_all0 5 rfl
theorem dX3_together_6 : decode cX3_together 6 = .ok (.getfield 22, 3) := all_d dX3_together_all0 6 rfl
theorem dX3_together_9 : decode cX3_together 9 = .ok (.if_icmp .ge 30, 3) := all_d dX3_together_all0 7 rfl
theorem dX3_together_12 : decode cX3_together 12 = .ok (.aload_n 0, 1) := all_d dX3_together_all0 8 rfl
theorem dX3_together_13 : decode cX3_together 13 = .ok (.iload_n 2, 1) := all_d dX3_together_all0 9 rfl
theorem dX3_together_14 : decode cX3_together 14 = .ok (.invokevirtual 25, 3) := all_d dX3_together_all0 10 rfl
theorem dX3_together_17 : decode cX3_together 17 = .ok (.astore_n 3, 1) := all_d dX3_together_all0 11 rfl
theorem dX3_together_18 : decode cX3_together 18 = .ok (.iload_n 1, 1) := all_d dX3_together_all0 12 rfl
theorem dX3_together_19 : decode cX3_together 19 = .ok (.aload_n 3, 1) := all_d dX3_together_all0 13 rfl
theorem dX3_together_20 : decode cX3_together 20 = .ok (.ifnonnull 7, 3) := all_d dX3_together_all0 14 rfl
theorem dX3_together_23 : decode cX3_together 23 = .ok (.iconst 0, 1) := all_d dX3_together_all0 15 rfl
theorem dX3_together_24 : decode cX3_together 24 = .ok (.goto 7, 3) := all_d dX3_together_all0 16 rfl
theorem dX3_together_27 : decode cX3_together 27 = .ok (.aload_n 3, 1) := all_d dX3_together_all0 17 rfl
theorem dX3_together_28 : decode cX3_together 28 = .ok (.invokevirtual 54, 3) := all_d dX3_together_all0 18 rfl
theorem dX3_together_31 : decode cX3_together 31 = .ok (.iadd, 1) := all_d dX3_together_all0 19 rfl
theorem dX3_together_32 : decode cX3_together 32 = .ok (.istore_n 1, 1) := all_d dX3_together_all0 20 rfl
theorem dX3_together_33 : decode cX3_together 33 = .ok (.iinc 2 1, 3) := all_d dX3_together_all0 21 rfl
theorem dX3_together_36 : decode cX3_together 36 = .ok (.goto (-32), 3) := all_d dX3_together_all0 22 rfl
theorem dX3_together_39 : decode cX3_together 39 = .ok (.iload_n 1, 1) := all_d dX3_together_all0 23 rfl
theorem dX3_together_40 : decode cX3_together 40 = .ok (.ireturn, 1) := all_d dX3_together_all0 24 rfl
set_option maxRecDepth 100000 in
theorem dX3_firstUncovered_all0 : ([(0, (.aload_n 0 : Instr), 1), (1, (.invokevirtual 82 : Instr), 3), (4, (.istore_n 1 : Instr), 1), (5, (.iconst 0 : Instr), 1), (6, (.istore_n 2 : Instr), 1), (7, (.iload_n 2 : Instr), 1), (8, (.aload_n 0 : Instr), 1), (9, (.getfield 22 : Instr), 3), (12, (.if_icmp .ge 49 : Instr), 3), (15, (.aload_n 0 : Instr), 1), (16, (.iload_n 2 : Instr), 1), (17, (.invokevirtual 25 : Instr), 3), (20, (.astore_n 3 : Instr), 1), (21, (.aload_n 3 : Instr), 1), (22, (.ifnonnull 7 : Instr), 3), (25, (.iconst 0 : Instr), 1), (26, (.goto 7 : Instr), 3), (29, (.aload_n 3 : Instr), 1), (30, (.invokevirtual 54 : Instr), 3), (33, (.istore 4 : Instr), 2), (35, (.iload_n 1 : Instr), 1), (36, (.iload 4 : Instr), 2), (38, (.isub : Instr), 1), (39, (.istore_n 1 : Instr), 1), (40, (.iload 4 : Instr), 2), (42, (.ifCond .lt 11 : Instr), 3), (45, (.iload 4 : Instr), 2), (47, (.iload_n 1 : Instr), 1), (48, (.iconst 1 : Instr), 1), (49, (.iadd : Instr), 1), (50, (.if_icmp .le 5 : Instr), 3), (53, (.iload_n 2 : Instr), 1), (54, (.ireturn : Instr), 1), (55, (.iinc 2 1 : Instr), 3), (58, (.goto (-51) : Instr), 3), (61, (.bipush (-2) : Instr), 2), (63, (.ireturn : Instr), 1)] : List (Nat × Instr × Nat)).all (fun q => decide (decode cX3_firstUncovered q.1 = .ok (q.2.1, q.2.2))) = true := by decide +kernel
theorem dX3_firstUncovered_0 : decode cX3_firstUncovered 0 = .ok (.aload_n 0, 1) := all_d dX3_firstUncovered_all0 0 rfl
theorem dX3_firstUncovered_1 : decode cX3_firstUncovered 1 = .ok (.invokevirtual 82, 3) := all_d dX3_firstUncovered_all0 1 rfl
theorem dX3_firstUncovered_4 : decode cX3_firstUncovered 4 = .ok (.istore_n 1, 1) := all_d dX3_firstUncovered_all0 2 rfl
theorem dX3_firstUncovered_5 : decode cX3_firstUncovered 5 = .ok (.iconst 0, 1) := all_d dX3_firstUncovered_all0 3 rfl
theorem dX3_firstUncovered_6 : decode cX3_firstUncovered 6 = .ok (.istore_n 2, 1) := all_d dX3_firstUncovered_all0 4 rfl
theorem dX3_firstUncovered_7 : decode cX3_firstUncovered 7 = .ok (.iload_n 2, 1) := all_d dX3_firstUncovered_all0 5 rfl
theorem dX3_firstUncovered_8 : decode cX3_firstUncovered 8 = .ok (.aload_n 0, 1) := all_d dX3_firstUncovered_all0 6 rfl
theorem dX3_firstUncovered_9 : decode cX3_firstUncovered 9 = .ok (.getfield 22, 3) := all_d dX3_firstUncovered_all0 7 rfl
theorem dX3_firstUncovered_12 : decode cX3_firstUncovered 12 = .ok (.if_icmp .ge 49, 3) := all_d dX3_firstUncovered_all0 8 rfl
theorem dX3_firstUncovered_15 : decode cX3_firstUncovered 15 = .ok (.aload_n 0, 1) := all_d dX3_firstUncovered_all0 9 rfl
theorem dX3_firstUncovered_16 : decode cX3_firstUncovered 16 = .ok (.iload_n 2, 1) := all_d dX3_firstUncovered_all0 10 rfl
theorem dX3_firstUncovered_17 : decode cX3_firstUncovered 17 = .ok (.invokevirtual 25, 3) := all_d dX3_firstUncovered_all0 11 rfl
theorem dX3_firstUncovered_20 : decode cX3_firstUncovered 20 = .ok (.astore_n 3, 1) := all_d dX3_firstUncovered_all0 12 rfl
theorem dX3_firstUncovered_21 : decode cX3_firstUncovered 21 = .ok (.aload_n 3, 1) := all_d dX3_firstUncovered_all0 13 rfl
theorem dX3_firstUncovered_22 : decode cX3_firstUncovered 22 = .ok (.ifnonnull 7, 3) := all_d dX3_firstUncovered_all0 14 rfl
theorem dX3_firstUncovered_25 : decode cX3_firstUncovered 25 = .ok (.iconst 0, 1) := all_d dX3_firstUncovered_all0 15 rfl
theorem dX3_firstUncovered_26 : decode cX3_firstUncovered 26 = .ok (.goto 7, 3) := all_d dX3_firstUncovered_all0 16 rfl
theorem dX3_firstUncovered_29 : decode cX3_firstUncovered 29 = .ok (.aload_n 3, 1) := all_d dX3_firstUncovered_all0 17 rfl
theorem dX3_firstUncovered_30 : decode cX3_firstUncovered 30 = .ok (.invokevirtual 54, 3) := all_d dX3_firstUncovered_all0 18 rfl
theorem dX3_firstUncovered_33 : decode cX3_firstUncovered 33 = .ok (.istore 4, 2) := all_d dX3_firstUncovered_all0 19 rfl
theorem dX3_firstUncovered_35 : decode cX3_firstUncovered 35 = .ok (.iload_n 1, 1) := all_d dX3_firstUncovered_all0 20 rfl
theorem dX3_firstUncovered_36 : decode cX3_firstUncovered 36 = .ok (.iload 4, 2) := all_d dX3_firstUncovered_all0 21 rfl
theorem dX3_firstUncovered_38 : decode cX3_firstUncovered 38 = .ok (.isub, 1) := all_d dX3_firstUncovered_all0 22 rfl
theorem dX3_firstUncovered_39 : decode cX3_firstUncovered 39 = .ok (.istore_n 1, 1) := all_d dX3_firstUncovered_all0 23 rfl
theorem dX3_firstUncovered_40 : decode cX3_firstUncovered 40 = .ok (.iload 4, 2) := all_d dX3_firstUncovered_all0 24 rfl
theorem dX3_firstUncovered_42 : decode cX3_firstUncovered 42 = .ok (.ifCond .lt 11, 3) := all_d dX3_firstUncovered_all0 25 rfl
theorem dX3_firstUncovered_45 : decode cX3_firstUncovered 45 = .ok (.iload 4, 2) := all_d dX3_firstUncovered_all0 26 rfl
theorem dX3_firstUncovered_47 : decode cX3_firstUncovered 47 = .ok (.iload_n 1, 1) := all_d dX3_firstUncovered_all0 27 rfl
theorem dX3_firstUncovered_48 : decode cX3_firstUncovered 48 = .ok (.iconst 1, 1) := all_d dX3_firstUncovered_all0 28 rfl
theorem dX3_firstUncovered_49 : decode cX3_firstUncovered 49 = .ok (.iadd, 1) := all_d dX3_firstUncovered_all0 29 rfl
theorem dX3_firstUncovered_50 : decode cX3_firstUncovered 50 = .ok (.if_icmp .le 5, 3) := all_d dX3_firstUncovered_all0 30 rfl
theorem dX3_firstUncovered_53 : decode cX3_firstUncovered 53 = .ok (.iload_n 2, 1) := all_d dX3_firstUncovered_all0 31 rfl
theorem dX3_firstUncovered_54 : decode cX3_firstUncovered 54 = .ok (.ireturn, 1) := all_d dX3_firstUncovered_all0 32 rfl
theorem dX3_firstUncovered_55 : decode cX3_firstUncovered 55 = .ok (.iinc 2 1, 3) := all_d dX3_firstUncovered_all0 33 rfl
theorem dX3_firstUncovered_58 : decode cX3_firstUncovered 58 = .ok (.goto (-51), 3) := all_d dX3_firstUncovered_all0 34 rfl
theorem dX3_firstUncovered_61 : decode cX3_firstUncovered 61 = .ok (.bipush (-2), 2) := all_d dX3_firstUncovered_all0 35 rfl
theorem dX3_firstUncovered_63 : decode cX3_firstUncovered 63 = .ok (.ireturn, 1) := all_d dX3_firstUncovered_all0 36 rfl
set_option maxRecDepth 100000 in
theorem dX4_init_all0 : ([(0, (.aload_n 0 : Instr), 1), (1, (.invokespecial 3 : Instr), 3), (4, (.aload_n 0 : Instr), 1), (5, (.bipush 8 : Instr), 2), (7, (.newarray .int : Instr), 2), (9, (.putfield 9 : Instr), 3), (12, (.aload_n 0 : Instr), 1), (13, (.bipush 8 : Instr), 2), (15, (.newarray .int : Instr), 2), (17, (.putfield 15 : Instr), 3), (20, (.return_ : Instr), 1)] : List (Nat × Instr × Nat)).all (fun q => decide (decode cX4_init q.1 = .ok (q.2.1, q.2.2))) = true := by decide +kernel
theorem dX4_init_0 : decode cX4_init 0 = .ok (.aload_n 0, 1) := all_d dX4_init_all0 0 rfl
theorem dX4_init_1 : decode cX4_init 1 = .ok (.invokespecial 3, 3) := all_d dX4_init_all0 1 rfl
theorem dX4_init_4 : decode cX4_init 4 = .ok (.aload_n 0, 1) := all_d dX4_init_all0 2 rfl
theorem dX4_init_5 : decode cX4_init 5 = .ok (.bipush 8, 2) := all_d dX4_init_all0 3 rfl
theorem dX4_init_7 : decode cX4_init 7 = .ok (.newarray .int, 2) := all_d dX4_init_all0 4 rfl
theorem dX4_init_9 : decode cX4_init 9 = .ok (.putfield 9, 3) := all_d dX4_init_all0 5 rfl
theorem dX4_init_12 : decode cX4_init 12 = .ok (.aload_n 0, 1) := all_d dX4_init_all0 6 rfl
theorem dX4_init_13 : decode cX4_init 13 = .ok (.bipush 8, 2) := all_d dX4_init_all0 7 rfl
theorem dX4_init_15 : decode cX4_init 15 = .ok (.newarray .int, 2) := all_d dX4_init_all0 8 rfl
theorem dX4_init_17 : decode cX4_init 17 = .ok (.putfield 15, 3) := all_d dX4_init_all0 9 rfl
theorem dX4_init_20 : decode cX4_init 20 = .ok (.return_, 1) := all_d dX4_init_all0 10 rfl
set_option maxRecDepth 100000 in
theorem dX4_addSum_all0 : ([(0, (.aload_n 0 : Instr), 1), (1, (.getfield 18 : Instr), 3), (4, (.ifCond .lt 27 : Instr), 3), (7, (.aload_n 0 : Instr), 1), (8, (.getfield 18 : Instr), 3), (11, (.aload_n 0 : Instr), 1), (12, (.getfield 9 : Instr), 3), (15, (.arraylength : Instr), 1), (16, (.if_icmp .ge 15 : Instr), 3), (19, (.aload_n 0 : Instr), 1), (20, (.getfield 18 : Instr), 3), (23, (.aload_n 0 : Instr), 1), (24, (.getfield 15 : Instr), 3), (27, (.arraylength : Instr), 1), (28, (.if_icmp .lt 4 : Instr), 3), (31, (.return_ : Instr), 1), (32, (.aload_n 0 : Instr), 1), (33, (.getfield 9 : Instr), 3), (36, (.aload_n 0 : Instr), 1), (37, (.getfield 18 : Instr), 3), (40, (.iload_n 1 : Instr), 1), (41, (.iastore : Instr), 1), (42, (.aload_n 0 : Instr), 1), (43, (.getfield 15 : Instr), 3), (46, (.aload_n 0 : Instr), 1), (47, (.getfield 18 : Instr), 3), (50, (.iload_n 2 : Instr), 1), (51, (.iastore : Instr), 1), (52, (.aload_n 0 : Instr), 1), (53, (.dup : Instr), 1), (54, (.getfield 18 : Instr), 3), (57, (.iconst 1 : Instr), 1), (58, (.iadd : Instr), 1), (59, (.putfield 18 : Instr), 3), (62, (.return_ : Instr), 1)] : List (Nat × Instr × Nat)).all (fun q => decide (decode cX4_addSum q.1 = .ok (q.2.1, q.2.2))) = true := by decide +kernel
theorem dX4_addSum_0 : decode cX4_addSum 0 = .ok (.aload_n 0, 1) := all_d dX4_addSum_all0 0 rfl
theorem dX4_addSum_1 : decode cX4_addSum 1 = .ok (.getfield 18, 3) := all_d dX4_addSum_all0 1 rfl
theorem dX4_addSum_4 : decode cX4_addSum 4 = .ok (.ifCond .lt 27, 3) := all_d dX4_addSum_all0 2 rfl
theorem dX4_addSum_7 : decode cX4_addSum 7 = .ok (.aload_n 0, 1) := all_d dX4_addSum_all0 3 rfl
theorem dX4_addSum_8 : decode cX4_addSum 8 = .ok (.getfield 18, 3) := all_d dX4_addSum_all0 4 rfl
theorem dX4_addSum_11 : decode cX4_addSum 11 = .ok (.aload_n 0, 1) := all_d dX4_addSum_all0 5 rfl
theorem dX4_addSum_12 : decode cX4_addSum 12 = .ok (.getfield 9, 3) := all_d dX4_addSum_all0 6 rfl
theorem dX4_addSum_15 : decode cX4_addSum 15 = .ok (.arraylength, 1) := all_d dX4_addSum_all0 7 rfl
theorem dX4_addSum_16 : decode cX4_addSum 16 = .ok (.if_icmp .ge 15, 3) := all_d dX4_addSum_all0 8 rfl
theorem dX4_addSum_19 : decode cX4_addSum 19 = .ok (.aload_n 0, 1) := all_d dX4_addSum_all0 9 rfl
theorem dX4_addSum_20 : decode cX4_addSum 20 = .ok (.getfield 18, 3) := all_d dX4_addSum_all0 10 rfl
theorem dX4_addSum_23 : decode cX4_addSum 23 = .ok (.aload_n 0, 1) := all_d dX4_addSum_all0 11 rfl
theorem dX4_addSum_24 : decode cX4_addSum 24 = .ok (.getfield 15, 3) := all_d dX4_addSum_all0 12 rfl
theorem dX4_addSum_27 : decode cX4_addSum 27 = .ok (.arraylength, 1) := all_d dX4_addSum_all0 13 rfl
theorem dX4_addSum_28 : decode cX4_addSum 28 = .ok (.if_icmp .lt 4, 3) := all_d dX4_addSum_all0 14 rfl
theorem dX4_addSum_31 : decode cX4_addSum 31 = .ok (.return_, 1) := all_d dX4_addSum_all0 15 rfl
theorem dX4_addSum_32 : decode cX4_addSum 32 = .ok (.aload_n 0, 1) := all_d dX4_addSum_all0 16 rfl
theorem dX4_addSum_33 : decode cX4_addSum 33 = .ok (.getfield 9, 3) := all_d dX4_addSum_all0 17 rfl
theorem dX4_addSum_36 : decode cX4_addSum 36 = .ok (.aload_n 0, 1) := all_d dX4_addSum_all0 18 rfl
theorem dX4_addSum_37 : decode cX4_addSum 37 = .ok (.getfield 18, 3) := all_d dX4_addSum_all0 19 rfl
theorem dX4_addSum_40 : decode cX4_addSum 40 = .ok (.iload_n 1, 1) := all_d dX4_addSum_all0 20 rfl
theorem dX4_addSum_41 : decode cX4_addSum 41 = .ok (.iastore, 1) := all_d dX4_addSum_all0 21 rfl
theorem dX4_addSum_42 : decode cX4_addSum 42 = .ok (.aload_n 0, 1) := all_d dX4_addSum_all0 22 rfl
theorem dX4_addSum_43 : decode cX4_addSum 43 = .ok (.getfield 15, 3) := all_d dX4_addSum_all0 23 rfl
theorem dX4_addSum_46 : decode cX4_addSum 46 = .ok (.aload_n 0, 1) := all_d dX4_addSum_all0 24 rfl
theorem dX4_addSum_47 : decode cX4_addSum 47 = .ok (.getfield 18, 3) := all_d dX4_addSum_all0 25 rfl
theorem dX4_addSum_50 : decode cX4_addSum 50 = .ok (.iload_n 2, 1) := all_d dX4_addSum_all0 26 rfl
theorem dX4_addSum_51 : decode cX4_addSum 51 = .ok (.iastore, 1) := all_d dX4_addSum_all0 27 rfl
theorem dX4_addSum_52 : decode cX4_addSum 52 = .ok (.aload_n 0, 1) := all_d dX4_addSum_all0 28 rfl
theorem dX4_addSum_53 : decode cX4_addSum 53 = .ok (.dup, 1) := all_d dX4_addSum_all0 29 rfl
theorem dX4_addSum_54 : decode cX4_addSum 54 = .ok (.getfield 18, 3) := all_d dX4_addSum_all0 30 rfl
theorem dX4_addSum_57 : decode cX4_addSum 57 = .ok (.iconst 1, 1) := all_d dX4_addSum_all0 31 rfl
theorem dX4_addSum_58 : decode cX4_addSum 58 = .ok (.iadd, 1) := all_d dX4_addSum_all0 32 rfl
theorem dX4_addSum_59 : decode cX4_addSum 59 = .ok (.putfield 18, 3) := all_d dX4_addSum_all0 33 rfl
theorem dX4_addSum_62 : decode cX4_addSum 62 = .ok (.return_, 1) := all_d dX4_addSum_all0 34 rfl
set_option maxRecDepth 100000 in
theorem dX4_weighedCodes_all0 : ([(0, (.iconst 0 : Instr), 1), (1, (.istore 4 : Instr), 2), (3, (.iconst 0 : Instr), 1), (4, (.istore 5 : Instr), 2), (6, (.iload 5 : Instr), 2), (8, (.aload_n 0 : Instr), 1), (9, (.getfield 18 : Instr), 3), (12, (.if_icmp .ge 67 : Instr), 3), (15, (.iload 5 : Instr), 2), (17, (.aload_n 0 : Instr), 1), (18, (.getfield 9 : Instr), 3), (21, (.arraylength : Instr), 1), (22, (.if_icmp .ge 57 : Instr), 3), (25, (.iload 5 : Instr), 2), (27, (.aload_n 0 : Instr), 1), (28, (.getfield 15 : Instr), 3), (31, (.arraylength : Instr), 1), (32, (.if_icmp .ge 47 : Instr), 3), (35, (.iconst 0 : Instr), 1), (36, (.iload_n 3 : Instr), 1), (37, (.iload_n 2 : Instr), 1), (38, (.aload_n 0 : Instr), 1), (39, (.getfield 9 : Instr), 3), (42, (.iload 5 : Instr), 2), (44, (.iaload : Instr), 1), (45, (.iadd : Instr), 1), (46, (.invokestatic 22 : Instr), 3), (49, (.invokestatic 28 : Instr), 3), (52, (.istore 6 : Instr), 2), (54, (.iload 4 : Instr), 2), (56, (.aload_n 0 : Instr), 1), (57, (.getfield 15 : Instr), 3), (60, (.iload 5 : Instr), 2), (62, (.iaload : Instr), 1), (63, (.aload_n 1 : Instr), 1), (64, (.iload 6 : Instr), 2), (66, (.invokevirtual 31 : Instr), 3), (69, (.imul : Instr), 1), (70, (.iadd : Instr), 1), (71, (.istore 4 : Instr), 2), (73, (.iinc 5 1 : Instr), 3), (76, (.goto (-70) : Instr), 3), (79, (.iload 4 : Instr), 2), (81, (.ireturn : Instr), 1)] : List (Nat × Instr × Nat)).all (fun q => decide (decode cX4_weighedCodes q.1 = .ok (q.2.1, q.2.2))) = true := by decide +kernel
theorem dX4_weighedCodes_0 : decode cX4_weighedCodes 0 = .ok (.iconst 0, 1) := all_d dX4_weighedCodes_all0 0 rfl
theorem dX4_weighedCodes_1 : decode cX4_weighedCodes 1 = .ok (.istore 4, 2) := all_d dX4_weighedCodes_all0 1 rfl
theorem dX4_weighedCodes_3 : decode cX4_weighedCodes 3 = .ok (.iconst 0, 1) := all_d dX4_weighedCodes_all0 2 rfl
theorem dX4_weighedCodes_4 : decode cX4_weighedCodes 4 = .ok (.istore 5, 2) := all_d dX4_weighedCodes_all0 3 rfl
theorem dX4_weighedCodes_6 : decode cX4_weighedCodes 6 = .ok (.iload 5, 2) := all_d dX4_weighedCodes_all0 4 rfl
theorem dX4_weighedCodes_8 : decode cX4_weighedCodes 8 = .ok (.aload_n 0, 1) := all_d dX4_weighedCodes_all0 5 rfl
theorem dX4_weighedCodes_9 : decode cX4_weighedCodes 9 = .ok (.getfield 18, 3) := all_d dX4_weighedCodes_all0 6 rfl
theorem dX4_weighedCodes_12 : decode cX4_weighedCodes 12 = .ok (.if_icmp .ge 67, 3) := all_d dX4_weighedCodes_all0 7 rfl
theorem dX4_weighedCodes_15 : decode cX4_weighedCodes 15 = .ok (.iload 5, 2) := all_d dX4_weighedCodes_all0 8 rfl
theorem dX4_weighedCodes_17 : decode cX4_weighedCodes 17 = .ok (.aload_n 0, 1) := all_d dX4_weighedCodes_all0 9 rfl
theorem dX4_weighedCodes_18 : decode cX4_weighedCodes 18 = .ok (.getfield 9, 3) := all_d dX4_weighedCodes_all0 10 rfl
theorem dX4_weighedCodes_21 : decode cX4_weighedCodes 21 = .ok (.arraylength, 1) := all_d dX4_weighedCodes_all0 11 rfl
theorem dX4_weighedCodes_22 : decode cX4_weighedCodes 22 = .ok (.if_icmp .ge 57, 3) := all_d dX4_weighedCodes_all0 12 rfl
theorem dX4_weighedCodes_25 : decode cX4_weighedCodes 25 = .ok (.iload 5, 2) := all_d dX4_weighedCodes_all0 13 rfl
theorem dX4_weighedCodes_27 : decode cX4_weighedCodes 27 = .ok (.aload_n 0, 1) := all_d dX4_weighedCodes_all0 14 rfl
theorem dX4_weighedCodes_28 : decode cX4_weighedCodes 28 = .ok (.getfield 15, 3) := all_d dX4_weighedCodes_all0 15 rfl
theorem dX4_weighedCodes_31 : decode cX4_weighedCodes 31 = .ok (.arraylength, 1) := all_d dX4_weighedCodes_all0 16 rfl
theorem dX4_weighedCodes_32 : decode cX4_weighedCodes 32 = .ok (.if_icmp .ge 47, 3) := all_d dX4_weighedCodes_all0 17 rfl
theorem dX4_weighedCodes_35 : decode cX4_weighedCodes 35 = .ok (.iconst 0, 1) := all_d dX4_weighedCodes_all0 18 rfl
theorem dX4_weighedCodes_36 : decode cX4_weighedCodes 36 = .ok (.iload_n 3, 1) := all_d dX4_weighedCodes_all0 19 rfl
theorem dX4_weighedCodes_37 : decode cX4_weighedCodes 37 = .ok (.iload_n 2, 1) := all_d dX4_weighedCodes_all0 20 rfl
theorem dX4_weighedCodes_38 : decode cX4_weighedCodes 38 = .ok (.aload_n 0, 1) := all_d dX4_weighedCodes_all0 21 rfl
theorem dX4_weighedCodes_39 : decode cX4_weighedCodes 39 = .ok (.getfield 9, 3) := all_d dX4_weighedCodes_all0 22 rfl
theorem dX4_weighedCodes_42 : decode cX4_weighedCodes 42 = .ok (.iload 5, 2) := all_d dX4_weighedCodes_all0 23 rfl
theorem dX4_weighedCodes_44 : decode cX4_weighedCodes 44 = .ok (.iaload, 1) := all_d dX4_weighedCodes_all0 24 rfl
theorem dX4_weighedCodes_45 : decode cX4_weighedCodes 45 = .ok (.iadd, 1) := all_d dX4_weighedCodes_all0 25 rfl
theorem dX4_weighedCodes_46 : decode cX4_weighedCodes 46 = .ok (.invokestatic 22, 3) := all_d dX4_weighedCodes_all0 26 rfl
theorem dX4_weighedCodes_49 : decode cX4_weighedCodes 49 = .ok (.invokestatic 28, 3) := all_d dX4_weighedCodes_all0 27 rfl
theorem dX4_weighedCodes_52 : decode cX4_weighedCodes 52 = .ok (.istore 6, 2) := all_d dX4_weighedCodes_all0 28 rfl
theorem dX4_weighedCodes_54 : decode cX4_weighedCodes 54 = .ok (.iload 4, 2) := all_d dX4_weighedCodes_all0 29 rfl
theorem dX4_weighedCodes_56 : decode cX4_weighedCodes 56 = .ok (.aload_n 0, 1) := all_d dX4_weighedCodes_all0 30 rfl
theorem dX4_weighedCodes_57 : decode cX4_weighedCodes 57 = .ok (.getfield 15, 3) := all_d dX4_weighedCodes_all0 31 rfl
theorem dX4_weighedCodes_60 : decode cX4_weighedCodes 60 = .ok (.iload 5, 2) := all_d dX4_weighedCodes_all0 32 rfl
theorem dX4_weighedCodes_62 : decode cX4_weighedCodes 62 = .ok (.iaload, 1) := all_d dX4_weighedCodes_all0 33 rfl
theorem dX4_weighedCodes_63 : decode cX4_weighedCodes 63 = .ok (.aload_n 1, 1) := all_d dX4_weighedCodes_all0 34 rfl
theorem dX4_weighedCodes_64 : decode cX4_weighedCodes 64 = .ok (.iload 6, 2) := all_d dX4_weighedCodes_all0 35 rfl
theorem dX4_weighedCodes_66 : decode cX4_weighedCodes 66 = .ok (.invokevirtual 31, 3) := all_d dX4_weighedCodes_all0 36 rfl
theorem dX4_weighedCodes_69 : decode cX4_weighedCodes 69 = .ok (.imul, 1) := all_d dX4_weighedCodes_all0 37 rfl
theorem dX4_weighedCodes_70 : decode cX4_weighedCodes 70 = .ok (.iadd, 1) := all_d dX4_weighedCodes_all0 38 rfl
theorem dX4_weighedCodes_71 : decode cX4_weighedCodes 71 = .ok (.istore 4, 2) := all_d dX4_weighedCodes_all0 39 rfl
theorem dX4_weighedCodes_73 : decode cX4_weighedCodes 73 = .ok (.iinc 5 1, 3) := all_d dX4_weighedCodes_all0 40 rfl
theorem dX4_weighedCodes_76 : decode cX4_weighedCodes 76 = .ok (.goto (-70), 3) := all_d dX4_weighedCodes_all0 41 rfl
theorem dX4_weighedCodes_79 : decode cX4_weighedCodes 79 = .ok (.iload 4, 2) := all_d dX4_weighedCodes_all0 42 rfl
theorem dX4_weighedCodes_81 : decode cX4_weighedCodes 81 = .ok (.ireturn, 1) := all_d dX4_weighedCodes_all0 43 rfl
set_option maxRecDepth 100000 in
theorem dX4_timesTogether_all0 : ([(0, (.iconst 0 : Instr), 1), (1, (.istore_n 1 : Instr), 1), (2, (.iconst 0 : Instr), 1), (3, (.istore_n 2 : Instr), 1), (4, (.iload_n 2 : Instr), 1), (5, (.aload_n 0 : Instr), 1), (6, (.getfield 18 : Instr), 3), (9, (.if_icmp .ge 27 : Instr), 3), (12, (.iload_n 2 : Instr), 1), (13, (.aload_n 0 : Instr), 1), (14, (.getfield 15 : Instr), 3), (17, (.arraylength : Instr), 1), (18, (.if_icmp .ge 18 : Instr), 3), (21, (.iload_n 1 : Instr), 1), (22, (.aload_n 0 : Instr), 1), (23, (.getfield 15 : Instr), 3), (26, (.iload_n 2 : Instr), 1), (27, (.iaload : Instr), 1), (28, (.iadd : Instr), 1), (29, (.istore_n 1 : Instr), 1), (30, (.iinc 2 1 : Instr), 3), (33, (.goto (-29) : Instr), 3), (36, (.iload_n 1 : Instr), 1), (37, (.ireturn : Instr), 1)] : List (Nat × Instr × Nat)).all (fun q => decide (decode cX4_timesTogether q.1 = .ok (q.2.1, q.2.2))) = true := by decide +kernel
theorem dX4_timesTogether_0 : decode cX4_timesTogether 0 = .ok (.iconst 0, 1) := all_d dX4_timesTogether_all0 0 rfl
theorem dX4_timesTogether_1 : decode cX4_timesTogether 1 = .ok (.istore_n 1, 1) := all_d dX4_timesTogether_all0 1 rfl
theorem dX4_timesTogether_2 : decode cX4_timesTogether 2 = .ok (.iconst 0, 1) := all_d dX4_timesTogether_all0 2 rfl
theorem dX4_timesTogether_3 : decode cX4_timesTogether 3 = .ok (.istore_n 2, 1) := all_d dX4_timesTogether_all0 3 rfl
theorem dX4_timesTogether_4 : decode cX4_timesTogether 4 = .ok (.iload_n 2, 1) := all_d dX4_timesTogether_all0 4 rfl
theorem dX4_timesTogether_5 : decode cX4_timesTogether 5 = .ok (.aload_n 0, 1) := all_d dX4_timesTogether_all0 5 rfl
theorem dX4_timesTogether_6 : decode cX4_timesTogether 6 = .ok (.getfield 18, 3) := all_d dX4_timesTogether_all0 6 rfl
theorem dX4_timesTogether_9 : decode cX4_timesTogether 9 = .ok (.if_icmp .ge 27, 3) := all_d dX4_timesTogether_all0 7 rfl
theorem dX4_timesTogether_12 : decode cX4_timesTogether 12 = .ok (.iload_n 2, 1) := all_d dX4_timesTogether_all0 8 rfl
theorem dX4_timesTogether_13 : decode cX4_timesTogether 13 = .ok (.aload_n 0, 1) := all_d dX4_timesTogether_all0 9 rfl
theorem dX4_timesTogether_14 : decode cX4_timesTogether 14 = .ok (.getfield 15, 3) := all_d dX4_timesTogether_all0 10 rfl
theorem dX4_timesTogether_17 : decode cX4_timesTogether 17 = .ok (.arraylength, 1) := all_d dX4_timesTogether_all0 11 rfl
theorem dX4_timesTogether_18 : decode cX4_timesTogether 18 = .ok (.if_icmp .ge 18, 3) := all_d dX4_timesTogether_all0 12 rfl
theorem dX4_timesTogether_21 : decode cX4_timesTogether 21 = .ok (.iload_n 1, 1) := all_d dX4_timesTogether_all0 13 rfl
theorem dX4_timesTogether_22 : decode cX4_timesTogether 22 = .ok (.aload_n 0, 1) := all_d dX4_timesTogether_all0 14 rfl
theorem dX4_timesTogether_23 : decode cX4_timesTogether 23 = .ok (.getfield 15, 3) := all_d dX4_timesTogether_all0 15 rfl
theorem dX4_timesTogether_26 : decode cX4_timesTogether 26 = .ok (.iload_n 2, 1) := all_d dX4_timesTogether_all0 16 rfl
theorem dX4_timesTogether_27 : decode cX4_timesTogether 27 = .ok (.iaload, 1) := all_d dX4_timesTogether_all0 17 rfl
theorem dX4_timesTogether_28 : decode cX4_timesTogether 28 = .ok (.iadd, 1) := all_d dX4_timesTogether_all0 18 rfl
theorem dX4_timesTogether_29 : decode cX4_timesTogether 29 = .ok (.istore_n 1, 1) := all_d dX4_timesTogether_all0 19 rfl
theorem dX4_timesTogether_30 : decode cX4_timesTogether 30 = .ok (.iinc 2 1, 3) := all_d dX4_timesTogether_all0 20 rfl
theorem dX4_timesTogether_33 : decode cX4_timesTogether 33 = .ok (.goto (-29), 3) := all_d dX4_timesTogether_all0 21 rfl
theorem dX4_timesTogether_36 : decode cX4_timesTogether 36 = .ok (.iload_n 1, 1) := all_d dX4_timesTogether_all0 22 rfl
theorem dX4_timesTogether_37 : decode cX4_timesTogether 37 = .ok (.ireturn, 1) := all_d dX4_timesTogether_all0 23 rfl
set_option maxRecDepth 100000 in
theorem dX5_init_all0 : ([(0, (.aload_n 0 : Instr), 1), (1, (.invokespecial 1 : Instr), 3), (4, (.return_ : Instr), 1)] : List (Nat × Instr × Nat)).all (fun q => decide (decode cX5_init q.1 = .ok (q.2.1, q.2.2))) = true := by decide +kernel
theorem dX5_init_0 : decode cX5_init 0 = .ok (.aload_n 0, 1) := all_d dX5_init_all0 0 rfl
theorem dX5_init_1 : decode cX5_init 1 = .ok (.invokespecial 1, 3) := all_d dX5_init_all0 1 rfl
theorem dX5_init_4 : decode cX5_init 4 = .ok (.return_, 1) := all_d dX5_init_all0 2 rfl
set_option maxRecDepth 100000 in
theorem dX5_asItIs_all0 : ([(0, (.aload_n 0 : Instr), 1), (1, (.getfield 7 : Instr), 3), (4, (.aload_n 0 : Instr), 1), (5, (.getfield 13 : Instr), 3), (8, (.iadd : Instr), 1), (9, (.ireturn : Instr), 1)] : List (Nat × Instr × Nat)).all (fun q => decide (decode cX5_asItIs q.1 = .ok (q.2.1, q.2.2))) = true := by decide +kernel
theorem dX5_asItIs_0 : decode cX5_asItIs 0 = .ok (.aload_n 0, 1) := all_d dX5_asItIs_all0 0 rfl
theorem dX5_asItIs_1 : decode cX5_asItIs 1 = .ok (.getfield 7, 3) := all_d dX5_asItIs_all0 1 rfl
theorem dX5_asItIs_4 : decode cX5_asItIs 4 = .ok (.aload_n 0, 1) := all_d dX5_asItIs_all0 2 rfl
theorem dX5_asItIs_5 : decode cX5_asItIs 5 = .ok (.getfield 13, 3) := all_d dX5_asItIs_all0 3 rfl
theorem dX5_asItIs_8 : decode cX5_asItIs 8 = .ok (.iadd, 1) := all_d dX5_asItIs_all0 4 rfl
theorem dX5_asItIs_9 : decode cX5_asItIs 9 = .ok (.ireturn, 1) := all_d dX5_asItIs_all0 5 rfl
set_option maxRecDepth 100000 in
theorem dX6_init_all0 : ([(0, (.aload_n 0 : Instr), 1), (1, (.invokespecial 3 : Instr), 3), (4, (.aload_n 0 : Instr), 1), (5, (.bipush 60 : Instr), 2), (7, (.anewarray 9 : Instr), 3), (10, (.putfield 11 : Instr), 3), (13, (.iconst 0 : Instr), 1), (14, (.istore_n 1 : Instr), 1), (15, (.iload_n 1 : Instr), 1), (16, (.aload_n 0 : Instr), 1), (17, (.getfield 11 : Instr), 3), (20, (.arraylength : Instr), 1), (21, (.if_icmp .ge 22 : Instr), 3), (24, (.aload_n 0 : Instr), 1), (25, (.getfield 11 : Instr), 3), (28, (.iload_n 1 : Instr), 1), (29, (.new 9 : Instr), 3), (32, (.dup : Instr), 1), (33, (.invokespecial 17 : Instr), 3), (36, (.aastore : Instr), 1), (37, (.iinc 1 1 : Instr), 3), (40, (.goto (-25) : Instr), 3), (43, (.return_ : Instr), 1)] : List (Nat × Instr × Nat)).all (fun q => decide (decode cX6_init q.1 = .ok (q.2.1, q.2.2))) = true := by decide +kernel
theorem dX6_init_0 : decode cX6_init 0 = .ok (.aload_n 0, 1) := all_d dX6_init_all0 0 rfl
theorem dX6_init_1 : decode cX6_init 1 = .ok (.invokespecial 3, 3) := all_d dX6_init_all0 1 rfl
theorem dX6_init_4 : decode cX6_init 4 = .ok (.aload_n 0, 1) := all_d dX6_init_all0 2 rfl
theorem dX6_init_5 : decode cX6_init 5 = .ok (.bipush 60, 2) := all_d dX6_init_all0 3 rfl
theorem dX6_init_7 : decode cX6_init 7 = .ok (.anewarray 9, 3) := all_d dX6_init_all0 4 rfl
theorem dX6_init_10 : decode cX6_init 10 = .ok (.putfield 11, 3) := all_d dX6_init_all0 5 rfl
theorem dX6_init_13 : decode cX6_init 13 = .ok (.iconst 0, 1) := all_d dX6_init_all0 6 rfl
theorem dX6_init_14 : decode cX6_init 14 = .ok (.istore_n 1, 1) := all_d dX6_init_all0 7 rfl
theorem dX6_init_15 : decode cX6_init 15 = .ok (.iload_n 1, 1) := all_d dX6_init_all0 8 rfl
theorem dX6_init_16 : decode cX6_init 16 = .ok (.aload_n 0, 1) := all_d dX6_init_all0 9 rfl
theorem dX6_init_17 : decode cX6_init 17 = .ok (.getfield 11, 3) := all_d dX6_init_all0 10 rfl
theorem dX6_init_20 : decode cX6_init 20 = .ok (.arraylength, 1) := all_d dX6_init_all0 11 rfl
theorem dX6_init_21 : decode cX6_init 21 = .ok (.if_icmp .ge 22, 3) := all_d dX6_init_all0 12 rfl
theorem dX6_init_24 : decode cX6_init 24 = .ok (.aload_n 0, 1) := all_d dX6_init_all0 13 rfl
theorem dX6_init_25 : decode cX6_init 25 = .ok (.getfield 11, 3) := all_d dX6_init_all0 14 rfl
theorem dX6_init_28 : decode cX6_init 28 = .ok (.iload_n 1, 1) := all_d dX6_init_all0 15 rfl
theorem dX6_init_29 : decode cX6_init 29 = .ok (.new 9, 3) := all_d dX6_init_all0 16 rfl
theorem dX6_init_32 : decode cX6_init 32 = .ok (.dup, 1) := all_d dX6_init_all0 17 rfl
theorem dX6_init_33 : decode cX6_init 33 = .ok (.invokespecial 17, 3) := all_d dX6_init_all0 18 rfl
theorem dX6_init_36 : decode cX6_init 36 = .ok (.aastore, 1) := all_d dX6_init_all0 19 rfl
theorem dX6_init_37 : decode cX6_init 37 = .ok (.iinc 1 1, 3) := all_d dX6_init_all0 20 rfl
theorem dX6_init_40 : decode cX6_init 40 = .ok (.goto (-25), 3) := all_d dX6_init_all0 21 rfl
theorem dX6_init_43 : decode cX6_init 43 = .ok (.return_, 1) := all_d dX6_init_all0 22 rfl
set_option maxRecDepth 100000 in
theorem dX6_slotAt_all0 : ([(0, (.iload_n 1 : Instr), 1), (1, (.ifCond .lt 21 : Instr), 3), (4, (.iload_n 1 : Instr), 1), (5, (.aload_n 0 : Instr), 1), (6, (.getfield 11 : Instr), 3), (9, (.arraylength : Instr), 1), (10, (.if_icmp .ge 12 : Instr), 3), (13, (.aload_n 0 : Instr), 1), (14, (.getfield 11 : Instr), 3), (17, (.iload_n 1 : Instr), 1), (18, (.aaload : Instr), 1), (19, (.goto 4 : Instr), 3), (22, (.aconst_null : Instr), 1), (23, (.areturn : Instr), 1)] : List (Nat × Instr × Nat)).all (fun q => decide (decode cX6_slotAt q.1 = .ok (q.2.1, q.2.2))) = true := by decide +kernel
theorem dX6_slotAt_0 : decode cX6_slotAt 0 = .ok (.iload_n 1, 1) := all_d dX6_slotAt_all0 0 rfl
theorem dX6_slotAt_1 : decode cX6_slotAt 1 = .ok (.ifCond .lt 21, 3) := all_d dX6_slotAt_all0 1 rfl
theorem dX6_slotAt_4 : decode cX6_slotAt 4 = .ok (.iload_n 1, 1) := all_d dX6_slotAt_all0 2 rfl
theorem dX6_slotAt_5 : decode cX6_slotAt 5 = .ok (.aload_n 0, 1) := all_d dX6_slotAt_all0 3 rfl
theorem dX6_slotAt_6 : decode cX6_slotAt 6 = .ok (.getfield 11, 3) := all_d dX6_slotAt_all0 4 rfl
theorem dX6_slotAt_9 : decode cX6_slotAt 9 = .ok (.arraylength, 1) := all_d dX6_slotAt_all0 5 rfl
theorem dX6_slotAt_10 : decode cX6_slotAt 10 = .ok (.if_icmp .ge 12, 3) := all_d dX6_slotAt_all0 6 rfl
theorem dX6_slotAt_13 : decode cX6_slotAt 13 = .ok (.aload_n 0, 1) := all_d dX6_slotAt_all0 7 rfl
theorem dX6_slotAt_14 : decode cX6_slotAt 14 = .ok (.getfield 11, 3) := all_d dX6_slotAt_all0 8 rfl
theorem dX6_slotAt_17 : decode cX6_slotAt 17 = .ok (.iload_n 1, 1) := all_d dX6_slotAt_all0 9 rfl
theorem dX6_slotAt_18 : decode cX6_slotAt 18 = .ok (.aaload, 1) := all_d dX6_slotAt_all0 10 rfl
theorem dX6_slotAt_19 : decode cX6_slotAt 19 = .ok (.goto 4, 3) := all_d dX6_slotAt_all0 11 rfl
theorem dX6_slotAt_22 : decode cX6_slotAt 22 = .ok (.aconst_null, 1) := all_d dX6_slotAt_all0 12 rfl
theorem dX6_slotAt_23 : decode cX6_slotAt 23 = .ok (.areturn, 1) := all_d dX6_slotAt_all0 13 rfl
set_option maxRecDepth 100000 in
theorem dX6_addAct_all0 : ([(0, (.aload_n 0 : Instr), 1), (1, (.aload_n 0 : Instr), 1), (2, (.getfield 18 : Instr), 3), (5, (.invokevirtual 22 : Instr), 3), (8, (.astore 4 : Instr), 2), (10, (.aload 4 : Instr), 2), (12, (.ifnonnull 5 : Instr), 3), (15, (.aconst_null : Instr), 1), (16, (.areturn : Instr), 1), (17, (.aload 4 : Instr), 2), (19, (.iload_n 1 : Instr), 1), (20, (.putfield 26 : Instr), 3), (23, (.aload 4 : Instr), 2), (25, (.iload_n 2 : Instr), 1), (26, (.putfield 29 : Instr), 3), (29, (.aload 4 : Instr), 2), (31, (.iload_n 3 : Instr), 1), (32, (.putfield 32 : Instr), 3), (35, (.aload_n 0 : Instr), 1), (36, (.aload_n 0 : Instr), 1), (37, (.getfield 18 : Instr), 3), (40, (.iconst 1 : Instr), 1), (41, (.iadd : Instr), 1), (42, (.bipush 60 : Instr), 2), (44, (.irem : Instr), 1), (45, (.putfield 18 : Instr), 3), (48, (.aload_n 0 : Instr), 1), (49, (.bipush 60 : Instr), 2), (51, (.aload_n 0 : Instr), 1), (52, (.getfield 35 : Instr), 3), (55, (.iconst 1 : Instr), 1), (56, (.iadd : Instr), 1), (57, (.invokestatic 38 : Instr), 3), (60, (.putfield 35 : Instr), 3), (63, (.aload 4 : Instr), 2), (65, (.areturn : Instr), 1)] : List (Nat × Instr × Nat)).all (fun q => decide (decode cX6_addAct q.1 = .ok (q.2.1, q.2.2))) = true := by decide +kernel
theorem dX6_addAct_0 : decode cX6_addAct 0 = .ok (.aload_n 0, 1) := all_d dX6_addAct_all0 0 rfl
theorem dX6_addAct_1 : decode cX6_addAct 1 = .ok (.aload_n 0, 1) := all_d dX6_addAct_all0 1 rfl
theorem dX6_addAct_2 : decode cX6_addAct 2 = .ok (.getfield 18, 3) := all_d dX6_addAct_all0 2 rfl
theorem dX6_addAct_5 : decode cX6_addAct 5 = .ok (.invokevirtual 22, 3) := all_d dX6_addAct_all0 3 rfl
theorem dX6_addAct_8 : decode cX6_addAct 8 = .ok (.astore 4, 2) := all_d dX6_addAct_all0 4 rfl
theorem dX6_addAct_10 : decode cX6_addAct 10 = .ok (.aload 4, 2) := all_d dX6_addAct_all0 5 rfl
theorem dX6_addAct_12 : decode cX6_addAct 12 = .ok (.ifnonnull 5, 3) := all_d dX6_addAct_all0 6 rfl
theorem dX6_addAct_15 : decode cX6_addAct 15 = .ok (.aconst_null, 1) := all_d dX6_addAct_all0 7 rfl
theorem dX6_addAct_16 : decode cX6_addAct 16 = .ok (.areturn, 1) := all_d dX6_addAct_all0 8 rfl
theorem dX6_addAct_17 : decode cX6_addAct 17 = .ok (.aload 4, 2) := all_d dX6_addAct_all0 9 rfl
theorem dX6_addAct_19 : decode cX6_addAct 19 = .ok (.iload_n 1, 1) := all_d dX6_addAct_all0 10 rfl
theorem dX6_addAct_20 : decode cX6_addAct 20 = .ok (.putfield 26, 3) := all_d dX6_addAct_all0 11 rfl
theorem dX6_addAct_23 : decode cX6_addAct 23 = .ok (.aload 4, 2) := all_d dX6_addAct_all0 12 rfl
theorem dX6_addAct_25 : decode cX6_addAct 25 = .ok (.iload_n 2, 1) := all_d dX6_addAct_all0 13 rfl
theorem dX6_addAct_26 : decode cX6_addAct 26 = .ok (.putfield 29, 3) := all_d dX6_addAct_all0 14 rfl
theorem dX6_addAct_29 : decode cX6_addAct 29 = .ok (.aload 4, 2) := all_d dX6_addAct_all0 15 rfl
theorem dX6_addAct_31 : decode cX6_addAct 31 = .ok (.iload_n 3, 1) := all_d dX6_addAct_all0 16 rfl
theorem dX6_addAct_32 : decode cX6_addAct 32 = .ok (.putfield 32, 3) := all_d dX6_addAct_all0 17 rfl
theorem dX6_addAct_35 : decode cX6_addAct 35 = .ok (.aload_n 0, 1) := all_d dX6_addAct_all0 18 rfl
theorem dX6_addAct_36 : decode cX6_addAct 36 = .ok (.aload_n 0, 1) := all_d dX6_addAct_all0 19 rfl
theorem dX6_addAct_37 : decode cX6_addAct 37 = .ok (.getfield 18, 3) := all_d dX6_addAct_all0 20 rfl
theorem dX6_addAct_40 : decode cX6_addAct 40 = .ok (.iconst 1, 1) := all_d dX6_addAct_all0 21 rfl
theorem dX6_addAct_41 : decode cX6_addAct 41 = .ok (.iadd, 1) := all_d dX6_addAct_all0 22 rfl
theorem dX6_addAct_42 : decode cX6_addAct 42 = .ok (.bipush 60, 2) := all_d dX6_addAct_all0 23 rfl
theorem dX6_addAct_44 : decode cX6_addAct 44 = .ok (.irem, 1) := all_d dX6_addAct_all0 24 rfl
theorem dX6_addAct_45 : decode cX6_addAct 45 = .ok (.putfield 18, 3) := all_d dX6_addAct_all0 25 rfl
theorem dX6_addAct_48 : decode cX6_addAct 48 = .ok (.aload_n 0, 1) := all_d dX6_addAct_all0 26 rfl
theorem dX6_addAct_49 : decode cX6_addAct 49 = .ok (.bipush 60, 2) := all_d dX6_addAct_all0 27 rfl
theorem dX6_addAct_51 : decode cX6_addAct 51 = .ok (.aload_n 0, 1) := all_d dX6_addAct_all0 28 rfl
theorem dX6_addAct_52 : decode cX6_addAct 52 = .ok (.getfield 35, 3) := all_d dX6_addAct_all0 29 rfl
theorem dX6_addAct_55 : decode cX6_addAct 55 = .ok (.iconst 1, 1) := all_d dX6_addAct_all0 30 rfl
theorem dX6_addAct_56 : decode cX6_addAct 56 = .ok (.iadd, 1) := all_d dX6_addAct_all0 31 rfl
theorem dX6_addAct_57 : decode cX6_addAct 57 = .ok (.invokestatic 38, 3) := all_d dX6_addAct_all0 32 rfl
theorem dX6_addAct_60 : decode cX6_addAct 60 = .ok (.putfield 35, 3) := all_d dX6_addAct_all0 33 rfl
theorem dX6_addAct_63 : decode cX6_addAct 63 = .ok (.aload 4, 2) := all_d dX6_addAct_all0 34 rfl
theorem dX6_addAct_65 : decode cX6_addAct 65 = .ok (.areturn, 1) := all_d dX6_addAct_all0 35 rfl
set_option maxRecDepth 100000 in
theorem dX6_latestPlace_all0 : ([(0, (.aload_n 0 : Instr), 1), (1, (.getfield 18 : Instr), 3), (4, (.bipush 60 : Instr), 2), (6, (.iadd : Instr), 1), (7, (.iconst 1 : Instr), 1), (8, (.isub : Instr), 1), (9, (.bipush 60 : Instr), 2), (11, (.irem : Instr), 1), (12, (.ireturn : Instr), 1)] : List (Nat × Instr × Nat)).all (fun q => decide (decode cX6_latestPlace q.1 = .ok (q.2.1, q.2.2))) = true := by decide +kernel
theorem dX6_latestPlace_0 : decode cX6_latestPlace 0 = .ok (.aload_n 0, 1) := all_d dX6_latestPlace_all0 0 rfl
theorem dX6_latestPlace_1 : decode cX6_latestPlace 1 = .ok (.getfield 18, 3) := all_d dX6_latestPlace_all0 1 rfl
theorem dX6_latestPlace_4 : decode cX6_latestPlace 4 = .ok (.bipush 60, 2) := all_d dX6_latestPlace_all0 2 rfl
theorem dX6_latestPlace_6 : decode cX6_latestPlace 6 = .ok (.iadd, 1) := all_d dX6_latestPlace_all0 3 rfl
theorem dX6_latestPlace_7 : decode cX6_latestPlace 7 = .ok (.iconst 1, 1) := all_d dX6_latestPlace_all0 4 rfl
theorem dX6_latestPlace_8 : decode cX6_latestPlace 8 = .ok (.isub, 1) := all_d dX6_latestPlace_all0 5 rfl
theorem dX6_latestPlace_9 : decode cX6_latestPlace 9 = .ok (.bipush 60, 2) := all_d dX6_latestPlace_all0 6 rfl
theorem dX6_latestPlace_11 : decode cX6_latestPlace 11 = .ok (.irem, 1) := all_d dX6_latestPlace_all0 7 rfl
theorem dX6_latestPlace_12 : decode cX6_latestPlace 12 = .ok (.ireturn, 1) := all_d dX6_latestPlace_all0 8 rfl
set_option maxRecDepth 100000 in
theorem dX6_latest_all0 : ([(0, (.aload_n 0 : Instr), 1), (1, (.getfield 35 : Instr), 3), (4, (.ifCond .le 14 : Instr), 3), (7, (.aload_n 0 : Instr), 1), (8, (.aload_n 0 : Instr), 1), (9, (.invokevirtual 44 : Instr), 3), (12, (.invokevirtual 22 : Instr), 3), (15, (.goto 4 : Instr), 3), (18, (.aconst_null : Instr), 1), (19, (.areturn : Instr), 1)] : List (Nat × Instr × Nat)).all (fun q => decide (decode cX6_latest q.1 = .ok (q.2.1, q.2.2))) = true := by decide +kernel
theorem dX6_latest_0 : decode cX6_latest 0 = .ok (.aload_n 0, 1) := all_d dX6_latest_all0 0 rfl
theorem dX6_latest_1 : decode cX6_latest 1 = .ok (.getfield 35, 3) := all_d dX6_latest_all0 1 rfl
theorem dX6_latest_4 : decode cX6_latest 4 = .ok (.ifCond .le 14, 3) := all_d dX6_latest_all0 2 rfl
theorem dX6_latest_7 : decode cX6_latest 7 = .ok (.aload_n 0, 1) := all_d dX6_latest_all0 3 rfl
theorem dX6_latest_8 : decode cX6_latest 8 = .ok (.aload_n 0, 1) := all_d dX6_latest_all0 4 rfl
theorem dX6_latest_9 : decode cX6_latest 9 = .ok (.invokevirtual 44, 3) := all_d dX6_latest_all0 5 rfl
theorem dX6_latest_12 : decode cX6_latest 12 = .ok (.invokevirtual 22, 3) := all_d dX6_latest_all0 6 rfl
theorem dX6_latest_15 : decode cX6_latest 15 = .ok (.goto 4, 3) := all_d dX6_latest_all0 7 rfl
theorem dX6_latest_18 : decode cX6_latest 18 = .ok (.aconst_null, 1) := all_d dX6_latest_all0 8 rfl
theorem dX6_latest_19 : decode cX6_latest 19 = .ok (.areturn, 1) := all_d dX6_latest_all0 9 rfl
set_option maxRecDepth 100000 in
theorem dX6_dropLatest_all0 : ([(0, (.aload_n 0 : Instr), 1), (1, (.getfield 35 : Instr), 3), (4, (.ifCond .le 21 : Instr), 3), (7, (.aload_n 0 : Instr), 1), (8, (.aload_n 0 : Instr), 1), (9, (.invokevirtual 44 : Instr), 3), (12, (.putfield 18 : Instr), 3), (15, (.aload_n 0 : Instr), 1), (16, (.dup : Instr), 1), (17, (.getfield 35 : Instr), 3), (20, (.iconst 1 : Instr), 1), (21, (.isub : Instr), 1), (22, (.putfield 35 : Instr), 3), (25, (.return_ : Instr), 1)] : List (Nat × Instr × Nat)).all (fun q => decide (decode cX6_dropLatest q.1 = .ok (q.2.1, q.2.2))) = true := by decide +kernel
theorem dX6_dropLatest_0 : decode cX6_dropLatest 0 = .ok (.aload_n 0, 1) := all_d dX6_dropLatest_all0 0 rfl
theorem dX6_dropLatest_1 : decode cX6_dropLatest 1 = .ok (.getfield 35, 3) := all_d dX6_dropLatest_all0 1 rfl
theorem dX6_dropLatest_4 : decode cX6_dropLatest 4 = .ok (.ifCond .le 21, 3) := all_d dX6_dropLatest_all0 2 rfl
theorem dX6_dropLatest_7 : decode cX6_dropLatest 7 = .ok (.aload_n 0, 1) := all_d dX6_dropLatest_all0 3 rfl
theorem dX6_dropLatest_8 : decode cX6_dropLatest 8 = .ok (.aload_n 0, 1) := all_d dX6_dropLatest_all0 4 rfl
theorem dX6_dropLatest_9 : decode cX6_dropLatest 9 = .ok (.invokevirtual 44, 3) := all_d dX6_dropLatest_all0 5 rfl
theorem dX6_dropLatest_12 : decode cX6_dropLatest 12 = .ok (.putfield 18, 3) := all_d dX6_dropLatest_all0 6 rfl
theorem dX6_dropLatest_15 : decode cX6_dropLatest 15 = .ok (.aload_n 0, 1) := all_d dX6_dropLatest_all0 7 rfl
theorem dX6_dropLatest_16 : decode cX6_dropLatest 16 = .ok (.dup, 1) := all_d dX6_dropLatest_all0 8 rfl
theorem dX6_dropLatest_17 : decode cX6_dropLatest 17 = .ok (.getfield 35, 3) := all_d dX6_dropLatest_all0 9 rfl
theorem dX6_dropLatest_20 : decode cX6_dropLatest 20 = .ok (.iconst 1, 1) := all_d dX6_dropLatest_all0 10 rfl
theorem dX6_dropLatest_21 : decode cX6_dropLatest 21 = .ok (.isub, 1) := all_d dX6_dropLatest_all0 11 rfl
theorem dX6_dropLatest_22 : decode cX6_dropLatest 22 = .ok (.putfield 35, 3) := all_d dX6_dropLatest_all0 12 rfl
theorem dX6_dropLatest_25 : decode cX6_dropLatest 25 = .ok (.return_, 1) := all_d dX6_dropLatest_all0 13 rfl
set_option maxRecDepth 100000 in
theorem dX7_init_all0 : ([(0, (.aload_n 0 : Instr), 1), (1, (.invokespecial 3 : Instr), 3), (4, (.aload_n 0 : Instr), 1), (5, (.sipush 4096 : Instr), 3), (8, (.newarray .int : Instr), 2), (10, (.putfield 9 : Instr), 3), (13, (.aload_n 0 : Instr), 1), (14, (.sipush 4251 : Instr), 3), (17, (.newarray .long : Instr), 2), (19, (.putfield 15 : Instr), 3), (22, (.aload_n 0 : Instr), 1), (23, (.iconst (-1) : Instr), 1), (24, (.putfield 19 : Instr), 3), (27, (.return_ : Instr), 1)] : List (Nat × Instr × Nat)).all (fun q => decide (decode cX7_init q.1 = .ok (q.2.1, q.2.2))) = true := by decide +kernel
theorem dX7_init_0 : decode cX7_init 0 = .ok (.aload_n 0, 1) := all_d dX7_init_all0 0 rfl
theorem dX7_init_1 : decode cX7_init 1 = .ok (.invokespecial 3, 3) := all_d dX7_init_all0 1 rfl
theorem dX7_init_4 : decode cX7_init 4 = .ok (.aload_n 0, 1) := all_d dX7_init_all0 2 rfl
theorem dX7_init_5 : decode cX7_init 5 = .ok (.sipush 4096, 3) := all_d dX7_init_all0 3 rfl
theorem dX7_init_8 : decode cX7_init 8 = .ok (.newarray .int, 2) := all_d dX7_init_all0 4 rfl
theorem dX7_init_10 : decode cX7_init 10 = .ok (.putfield 9, 3) := all_d dX7_init_all0 5 rfl
theorem dX7_init_13 : decode cX7_init 13 = .ok (.aload_n 0, 1) := all_d dX7_init_all0 6 rfl
theorem dX7_init_14 : decode cX7_init 14 = .ok (.sipush 4251, 3) := all_d dX7_init_all0 7 rfl
theorem dX7_init_17 : decode cX7_init 17 = .ok (.newarray .long, 2) := all_d dX7_init_all0 8 rfl
theorem dX7_init_19 : decode cX7_init 19 = .ok (.putfield 15, 3) := all_d dX7_init_all0 9 rfl
theorem dX7_init_22 : decode cX7_init 22 = .ok (.aload_n 0, 1) := all_d dX7_init_all0 10 rfl
theorem dX7_init_23 : decode cX7_init 23 = .ok (.iconst (-1), 1) := all_d dX7_init_all0 11 rfl
theorem dX7_init_24 : decode cX7_init 24 = .ok (.putfield 19, 3) := all_d dX7_init_all0 12 rfl
theorem dX7_init_27 : decode cX7_init 27 = .ok (.return_, 1) := all_d dX7_init_all0 13 rfl
set_option maxRecDepth 100000 in
theorem dX7_fillFrom_all0 : ([(0, (.aload_n 0 : Instr), 1), (1, (.iload_n 2 : Instr), 1), (2, (.aload_n 0 : Instr), 1), (3, (.getfield 9 : Instr), 3), (6, (.arraylength : Instr), 1), (7, (.iconst 1 : Instr), 1), (8, (.isub : Instr), 1), (9, (.invokestatic 23 : Instr), 3), (12, (.putfield 19 : Instr), 3), (15, (.iconst 0 : Instr), 1), (16, (.istore_n 3 : Instr), 1), (17, (.iload_n 3 : Instr), 1), (18, (.aload_n 0 : Instr), 1), (19, (.getfield 19 : Instr), 3), (22, (.if_icmp .gt 29 : Instr), 3), (25, (.iload_n 3 : Instr), 1), (26, (.aload_n 0 : Instr), 1), (27, (.getfield 9 : Instr), 3), (30, (.arraylength : Instr), 1), (31, (.if_icmp .ge 20 : Instr), 3), (34, (.aload_n 0 : Instr), 1), (35, (.getfield 9 : Instr), 3), (38, (.iload_n 3 : Instr), 1), (39, (.aload_n 1 : Instr), 1), (40, (.iload_n 3 : Instr), 1), (41, (.invokevirtual 29 : Instr), 3), (44, (.iastore : Instr), 1), (45, (.iinc 3 1 : Instr), 3), (48, (.goto (-31) : Instr), 3), (51, (.return_ : Instr), 1)] : List (Nat × Instr × Nat)).all (fun q => decide (decode cX7_fillFrom q.1 = .ok (q.2.1, q.2.2))) = true := by decide +kernel
theorem dX7_fillFrom_0 : decode cX7_fillFrom 0 = .ok (.aload_n 0, 1) := all_d dX7_fillFrom_all0 0 rfl
theorem dX7_fillFrom_1 : decode cX7_fillFrom 1 = .ok (.iload_n 2, 1) := all_d dX7_fillFrom_all0 1 rfl
theorem dX7_fillFrom_2 : decode cX7_fillFrom 2 = .ok (.aload_n 0, 1) := all_d dX7_fillFrom_all0 2 rfl
theorem dX7_fillFrom_3 : decode cX7_fillFrom 3 = .ok (.getfield 9, 3) := all_d dX7_fillFrom_all0 3 rfl
theorem dX7_fillFrom_6 : decode cX7_fillFrom 6 = .ok (.arraylength, 1) := all_d dX7_fillFrom_all0 4 rfl
theorem dX7_fillFrom_7 : decode cX7_fillFrom 7 = .ok (.iconst 1, 1) := all_d dX7_fillFrom_all0 5 rfl
theorem dX7_fillFrom_8 : decode cX7_fillFrom 8 = .ok (.isub, 1) := all_d dX7_fillFrom_all0 6 rfl
theorem dX7_fillFrom_9 : decode cX7_fillFrom 9 = .ok (.invokestatic 23, 3) := all_d dX7_fillFrom_all0 7 rfl
theorem dX7_fillFrom_12 : decode cX7_fillFrom 12 = .ok (.putfield 19, 3) := all_d dX7_fillFrom_all0 8 rfl
theorem dX7_fillFrom_15 : decode cX7_fillFrom 15 = .ok (.iconst 0, 1) := all_d dX7_fillFrom_all0 9 rfl
theorem dX7_fillFrom_16 : decode cX7_fillFrom 16 = .ok (.istore_n 3, 1) := all_d dX7_fillFrom_all0 10 rfl
theorem dX7_fillFrom_17 : decode cX7_fillFrom 17 = .ok (.iload_n 3, 1) := all_d dX7_fillFrom_all0 11 rfl
theorem dX7_fillFrom_18 : decode cX7_fillFrom 18 = .ok (.aload_n 0, 1) := all_d dX7_fillFrom_all0 12 rfl
theorem dX7_fillFrom_19 : decode cX7_fillFrom 19 = .ok (.getfield 19, 3) := all_d dX7_fillFrom_all0 13 rfl
theorem dX7_fillFrom_22 : decode cX7_fillFrom 22 = .ok (.if_icmp .gt 29, 3) := all_d dX7_fillFrom_all0 14 rfl
theorem dX7_fillFrom_25 : decode cX7_fillFrom 25 = .ok (.iload_n 3, 1) := all_d dX7_fillFrom_all0 15 rfl
theorem dX7_fillFrom_26 : decode cX7_fillFrom 26 = .ok (.aload_n 0, 1) := all_d dX7_fillFrom_all0 16 rfl
theorem dX7_fillFrom_27 : decode cX7_fillFrom 27 = .ok (.getfield 9, 3) := all_d dX7_fillFrom_all0 17 rfl
theorem dX7_fillFrom_30 : decode cX7_fillFrom 30 = .ok (.arraylength, 1) := all_d dX7_fillFrom_all0 18 rfl
theorem dX7_fillFrom_31 : decode cX7_fillFrom 31 = .ok (.if_icmp .ge 20, 3) := all_d dX7_fillFrom_all0 19 rfl
theorem dX7_fillFrom_34 : decode cX7_fillFrom 34 = .ok (.aload_n 0, 1) := all_d dX7_fillFrom_all0 20 rfl
theorem dX7_fillFrom_35 : decode cX7_fillFrom 35 = .ok (.getfield 9, 3) := all_d dX7_fillFrom_all0 21 rfl
theorem dX7_fillFrom_38 : decode cX7_fillFrom 38 = .ok (.iload_n 3, 1) := all_d dX7_fillFrom_all0 22 rfl
theorem dX7_fillFrom_39 : decode cX7_fillFrom 39 = .ok (.aload_n 1, 1) := all_d dX7_fillFrom_all0 23 rfl
theorem dX7_fillFrom_40 : decode cX7_fillFrom 40 = .ok (.iload_n 3, 1) := all_d dX7_fillFrom_all0 24 rfl
theorem dX7_fillFrom_41 : decode cX7_fillFrom 41 = .ok (.invokevirtual 29, 3) := all_d dX7_fillFrom_all0 25 rfl
theorem dX7_fillFrom_44 : decode cX7_fillFrom 44 = .ok (.iastore, 1) := all_d dX7_fillFrom_all0 26 rfl
theorem dX7_fillFrom_45 : decode cX7_fillFrom 45 = .ok (.iinc 3 1, 3) := all_d dX7_fillFrom_all0 27 rfl
theorem dX7_fillFrom_48 : decode cX7_fillFrom 48 = .ok (.goto (-31), 3) := all_d dX7_fillFrom_all0 28 rfl
theorem dX7_fillFrom_51 : decode cX7_fillFrom 51 = .ok (.return_, 1) := all_d dX7_fillFrom_all0 29 rfl
set_option maxRecDepth 100000 in
theorem dX7_codeAt_all0 : ([(0, (.iload_n 1 : Instr), 1), (1, (.ifCond .lt 21 : Instr), 3), (4, (.iload_n 1 : Instr), 1), (5, (.aload_n 0 : Instr), 1), (6, (.getfield 9 : Instr), 3), (9, (.arraylength : Instr), 1), (10, (.if_icmp .ge 12 : Instr), 3), (13, (.aload_n 0 : Instr), 1), (14, (.getfield 9 : Instr), 3), (17, (.iload_n 1 : Instr), 1), (18, (.iaload : Instr), 1), (19, (.goto 4 : Instr), 3), (22, (.iconst 0 : Instr), 1), (23, (.ireturn : Instr), 1)] : List (Nat × Instr × Nat)).all (fun q => decide (decode cX7_codeAt q.1 = .ok (q.2.1, q.2.2))) = true := by decide +kernel
theorem dX7_codeAt_0 : decode cX7_codeAt 0 = .ok (.iload_n 1, 1) := all_d dX7_codeAt_all0 0 rfl
theorem dX7_codeAt_1 : decode cX7_codeAt 1 = .ok (.ifCond .lt 21, 3) := all_d dX7_codeAt_all0 1 rfl
theorem dX7_codeAt_4 : decode cX7_codeAt 4 = .ok (.iload_n 1, 1) := all_d dX7_codeAt_all0 2 rfl
theorem dX7_codeAt_5 : decode cX7_codeAt 5 = .ok (.aload_n 0, 1) := all_d dX7_codeAt_all0 3 rfl
theorem dX7_codeAt_6 : decode cX7_codeAt 6 = .ok (.getfield 9, 3) := all_d dX7_codeAt_all0 4 rfl
theorem dX7_codeAt_9 : decode cX7_codeAt 9 = .ok (.arraylength, 1) := all_d dX7_codeAt_all0 5 rfl
theorem dX7_codeAt_10 : decode cX7_codeAt 10 = .ok (.if_icmp .ge 12, 3) := all_d dX7_codeAt_all0 6 rfl
theorem dX7_codeAt_13 : decode cX7_codeAt 13 = .ok (.aload_n 0, 1) := all_d dX7_codeAt_all0 7 rfl
theorem dX7_codeAt_14 : decode cX7_codeAt 14 = .ok (.getfield 9, 3) := all_d dX7_codeAt_all0 8 rfl
theorem dX7_codeAt_17 : decode cX7_codeAt 17 = .ok (.iload_n 1, 1) := all_d dX7_codeAt_all0 9 rfl
theorem dX7_codeAt_18 : decode cX7_codeAt 18 = .ok (.iaload, 1) := all_d dX7_codeAt_all0 10 rfl
theorem dX7_codeAt_19 : decode cX7_codeAt 19 = .ok (.goto 4, 3) := all_d dX7_codeAt_all0 11 rfl
theorem dX7_codeAt_22 : decode cX7_codeAt 22 = .ok (.iconst 0, 1) := all_d dX7_codeAt_all0 12 rfl
theorem dX7_codeAt_23 : decode cX7_codeAt 23 = .ok (.ireturn, 1) := all_d dX7_codeAt_all0 13 rfl
set_option maxRecDepth 100000 in
theorem dX7_endsSpan_all0 : ([(0, (.iload_n 1 : Instr), 1), (1, (.aload_n 0 : Instr), 1), (2, (.getfield 19 : Instr), 3), (5, (.if_icmp .ge 18 : Instr), 3), (8, (.aload_n 0 : Instr), 1), (9, (.iload_n 1 : Instr), 1), (10, (.iconst 1 : Instr), 1), (11, (.iadd : Instr), 1), (12, (.invokevirtual 35 : Instr), 3), (15, (.aload_n 0 : Instr), 1), (16, (.iload_n 1 : Instr), 1), (17, (.invokevirtual 35 : Instr), 3), (20, (.if_icmp .eq 7 : Instr), 3), (23, (.iconst 1 : Instr), 1), (24, (.goto 4 : Instr), 3), (27, (.iconst 0 : Instr), 1), (28, (.ireturn : Instr), 1)] : List (Nat × Instr × Nat)).all (fun q => decide (decode cX7_endsSpan q.1 = .ok (q.2.1, q.2.2))) = true := by decide +kernel
theorem dX7_endsSpan_0 : decode cX7_endsSpan 0 = .ok (.iload_n 1, 1) := all_d dX7_endsSpan_all0 0 rfl
theorem dX7_endsSpan_1 : decode cX7_endsSpan 1 = .ok (.aload_n 0, 1) := all_d dX7_endsSpan_all0 1 rfl
theorem dX7_endsSpan_2 : decode cX7_endsSpan 2 = .ok (.getfield 19, 3) := all_d dX7_endsSpan_all0 2 rfl
theorem dX7_endsSpan_5 : decode cX7_endsSpan 5 = .ok (.if_icmp .ge 18, 3) := all_d dX7_endsSpan_all0 3 rfl
theorem dX7_endsSpan_8 : decode cX7_endsSpan 8 = .ok (.aload_n 0, 1) := all_d dX7_endsSpan_all0 4 rfl
theorem dX7_endsSpan_9 : decode cX7_endsSpan 9 = .ok (.iload_n 1, 1) := all_d dX7_endsSpan_all0 5 rfl
theorem dX7_endsSpan_10 : decode cX7_endsSpan 10 = .ok (.iconst 1, 1) := all_d dX7_endsSpan_all0 6 rfl
theorem dX7_endsSpan_11 : decode cX7_endsSpan 11 = .ok (.iadd, 1) := all_d dX7_endsSpan_all0 7 rfl
theorem dX7_endsSpan_12 : decode cX7_endsSpan 12 = .ok (.invokevirtual 35, 3) := all_d dX7_endsSpan_all0 8 rfl
theorem dX7_endsSpan_15 : decode cX7_endsSpan 15 = .ok (.aload_n 0, 1) := all_d dX7_endsSpan_all0 9 rfl
theorem dX7_endsSpan_16 : decode cX7_endsSpan 16 = .ok (.iload_n 1, 1) := all_d dX7_endsSpan_all0 10 rfl
theorem dX7_endsSpan_17 : decode cX7_endsSpan 17 = .ok (.invokevirtual 35, 3) := all_d dX7_endsSpan_all0 11 rfl
theorem dX7_endsSpan_20 : decode cX7_endsSpan 20 = .ok (.if_icmp .eq 7, 3) := all_d dX7_endsSpan_all0 12 rfl
theorem dX7_endsSpan_23 : decode cX7_endsSpan 23 = .ok (.iconst 1, 1) := all_d dX7_endsSpan_all0 13 rfl
theorem dX7_endsSpan_24 : decode cX7_endsSpan 24 = .ok (.goto 4, 3) := all_d dX7_endsSpan_all0 14 rfl
theorem dX7_endsSpan_27 : decode cX7_endsSpan 27 = .ok (.iconst 0, 1) := all_d dX7_endsSpan_all0 15 rfl
theorem dX7_endsSpan_28 : decode cX7_endsSpan 28 = .ok (.ireturn, 1) := all_d dX7_endsSpan_all0 16 rfl
set_option maxRecDepth 100000 in
theorem dX7_spanCount_all0 : ([(0, (.iconst 0 : Instr), 1), (1, (.istore_n 1 : Instr), 1), (2, (.iconst 0 : Instr), 1), (3, (.istore_n 2 : Instr), 1), (4, (.iload_n 2 : Instr), 1), (5, (.aload_n 0 : Instr), 1), (6, (.getfield 19 : Instr), 3), (9, (.if_icmp .gt 20 : Instr), 3), (12, (.aload_n 0 : Instr), 1), (13, (.iload_n 2 : Instr), 1), (14, (.invokevirtual 38 : Instr), 3), (17, (.ifCond .eq 6 : Instr), 3), (20, (.iinc 1 1 : Instr), 3), (23, (.iinc 2 1 : Instr), 3), (26, (.goto (-22) : Instr), 3), (29, (.iload_n 1 : Instr), 1), (30, (.ireturn : Instr), 1)] : List (Nat × Instr × Nat)).all (fun q => decide (decode cX7_spanCount q.1 = .ok (q.2.1, q.2.2))) = true := by decide +kernel
theorem dX7_spanCount_0 : decode cX7_spanCount 0 = .ok (.iconst 0, 1) := all_d dX7_spanCount_all0 0 rfl
theorem dX7_spanCount_1 : decode cX7_spanCount 1 = .ok (.istore_n 1, 1) := all_d dX7_spanCount_all0 1 rfl
theorem dX7_spanCount_2 : decode cX7_spanCount 2 = .ok (.iconst 0, 1) := all_d dX7_spanCount_all0 2 rfl
theorem dX7_spanCount_3 : decode cX7_spanCount 3 = .ok (.istore_n 2, 1) := all_d dX7_spanCount_all0 3 rfl
theorem dX7_spanCount_4 : decode cX7_spanCount 4 = .ok (.iload_n 2, 1) := all_d dX7_spanCount_all0 4 rfl
theorem dX7_spanCount_5 : decode cX7_spanCount 5 = .ok (.aload_n 0, 1) := all_d dX7_spanCount_all0 5 rfl
theorem dX7_spanCount_6 : decode cX7_spanCount 6 = .ok (.getfield 19, 3) := all_d dX7_spanCount_all0 6 rfl
theorem dX7_spanCount_9 : decode cX7_spanCount 9 = .ok (.if_icmp .gt 20, 3) := all_d dX7_spanCount_all0 7 rfl
theorem dX7_spanCount_12 : decode cX7_spanCount 12 = .ok (.aload_n 0, 1) := all_d dX7_spanCount_all0 8 rfl
theorem dX7_spanCount_13 : decode cX7_spanCount 13 = .ok (.iload_n 2, 1) := all_d dX7_spanCount_all0 9 rfl
theorem dX7_spanCount_14 : decode cX7_spanCount 14 = .ok (.invokevirtual 38, 3) := all_d dX7_spanCount_all0 10 rfl
theorem dX7_spanCount_17 : decode cX7_spanCount 17 = .ok (.ifCond .eq 6, 3) := all_d dX7_spanCount_all0 11 rfl
theorem dX7_spanCount_20 : decode cX7_spanCount 20 = .ok (.iinc 1 1, 3) := all_d dX7_spanCount_all0 12 rfl
theorem dX7_spanCount_23 : decode cX7_spanCount 23 = .ok (.iinc 2 1, 3) := all_d dX7_spanCount_all0 13 rfl
theorem dX7_spanCount_26 : decode cX7_spanCount 26 = .ok (.goto (-22), 3) := all_d dX7_spanCount_all0 14 rfl
theorem dX7_spanCount_29 : decode cX7_spanCount 29 = .ok (.iload_n 1, 1) := all_d dX7_spanCount_all0 15 rfl
theorem dX7_spanCount_30 : decode cX7_spanCount 30 = .ok (.ireturn, 1) := all_d dX7_spanCount_all0 16 rfl
set_option maxRecDepth 100000 in
theorem dX7_spanStart_all0 : ([(0, (.iconst 0 : Instr), 1), (1, (.istore_n 2 : Instr), 1), (2, (.iconst 0 : Instr), 1), (3, (.istore_n 3 : Instr), 1), (4, (.iload_n 3 : Instr), 1), (5, (.aload_n 0 : Instr), 1), (6, (.getfield 19 : Instr), 3), (9, (.if_icmp .gt 27 : Instr), 3), (12, (.iload_n 2 : Instr), 1), (13, (.iload_n 1 : Instr), 1), (14, (.if_icmp .ne 5 : Instr), 3), (17, (.iload_n 3 : Instr), 1), (18, (.ireturn : Instr), 1), (19, (.aload_n 0 : Instr), 1), (20, (.iload_n 3 : Instr), 1), (21, (.invokevirtual 38 : Instr), 3), (24, (.ifCond .eq 6 : Instr), 3), (27, (.iinc 2 1 : Instr), 3), (30, (.iinc 3 1 : Instr), 3), (33, (.goto (-29) : Instr), 3), (36, (.iconst (-1) : Instr), 1), (37, (.ireturn : Instr), 1)] : List (Nat × Instr × Nat)).all (fun q => decide (decode cX7_spanStart q.1 = .ok (q.2.1, q.2.2))) = true := by decide +kernel
theorem dX7_spanStart_0 : decode cX7_spanStart 0 = .ok (.iconst 0, 1) := all_d dX7_spanStart_all0 0 rfl
theorem dX7_spanStart_1 : decode cX7_spanStart 1 = .ok (.istore_n 2, 1) := all_d dX7_spanStart_all0 1 rfl
theorem dX7_spanStart_2 : decode cX7_spanStart 2 = .ok (.iconst 0, 1) := all_d dX7_spanStart_all0 2 rfl
theorem dX7_spanStart_3 : decode cX7_spanStart 3 = .ok (.istore_n 3, 1) := all_d dX7_spanStart_all0 3 rfl
theorem dX7_spanStart_4 : decode cX7_spanStart 4 = .ok (.iload_n 3, 1) := all_d dX7_spanStart_all0 4 rfl
theorem dX7_spanStart_5 : decode cX7_spanStart 5 = .ok (.aload_n 0, 1) := all_d dX7_spanStart_all0 5 rfl
theorem dX7_spanStart_6 : decode cX7_spanStart 6 = .ok (.getfield 19, 3) := all_d dX7_spanStart_all0 6 rfl
theorem dX7_spanStart_9 : decode cX7_spanStart 9 = .ok (.if_icmp .gt 27, 3) := all_d dX7_spanStart_all0 7 rfl
theorem dX7_spanStart_12 : decode cX7_spanStart 12 = .ok (.iload_n 2, 1) := all_d dX7_spanStart_all0 8 rfl
theorem dX7_spanStart_13 : decode cX7_spanStart 13 = .ok (.iload_n 1, 1) := all_d dX7_spanStart_all0 9 rfl
theorem dX7_spanStart_14 : decode cX7_spanStart 14 = .ok (.if_icmp .ne 5, 3) := all_d dX7_spanStart_all0 10 rfl
theorem dX7_spanStart_17 : decode cX7_spanStart 17 = .ok (.iload_n 3, 1) := all_d dX7_spanStart_all0 11 rfl
theorem dX7_spanStart_18 : decode cX7_spanStart 18 = .ok (.ireturn, 1) := all_d dX7_spanStart_all0 12 rfl
theorem dX7_spanStart_19 : decode cX7_spanStart 19 = .ok (.aload_n 0, 1) := all_d dX7_spanStart_all0 13 rfl
theorem dX7_spanStart_20 : decode cX7_spanStart 20 = .ok (.iload_n 3, 1) := all_d dX7_spanStart_all0 14 rfl
theorem dX7_spanStart_21 : decode cX7_spanStart 21 = .ok (.invokevirtual 38, 3) := all_d dX7_spanStart_all0 15 rfl
theorem dX7_spanStart_24 : decode cX7_spanStart 24 = .ok (.ifCond .eq 6, 3) := all_d dX7_spanStart_all0 16 rfl
theorem dX7_spanStart_27 : decode cX7_spanStart 27 = .ok (.iinc 2 1, 3) := all_d dX7_spanStart_all0 17 rfl
theorem dX7_spanStart_30 : decode cX7_spanStart 30 = .ok (.iinc 3 1, 3) := all_d dX7_spanStart_all0 18 rfl
theorem dX7_spanStart_33 : decode cX7_spanStart 33 = .ok (.goto (-29), 3) := all_d dX7_spanStart_all0 19 rfl
theorem dX7_spanStart_36 : decode cX7_spanStart 36 = .ok (.iconst (-1), 1) := all_d dX7_spanStart_all0 20 rfl
theorem dX7_spanStart_37 : decode cX7_spanStart 37 = .ok (.ireturn, 1) := all_d dX7_spanStart_all0 21 rfl
set_option maxRecDepth 100000 in
theorem dX7_spanEnd_all0 : ([(0, (.iload_n 1 : Instr), 1), (1, (.istore_n 2 : Instr), 1), (2, (.iload_n 2 : Instr), 1), (3, (.aload_n 0 : Instr), 1), (4, (.getfield 19 : Instr), 3), (7, (.if_icmp .gt 19 : Instr), 3), (10, (.aload_n 0 : Instr), 1), (11, (.iload_n 2 : Instr), 1), (12, (.invokevirtual 38 : Instr), 3), (15, (.ifCond .eq 5 : Instr), 3), (18, (.iload_n 2 : Instr), 1), (19, (.ireturn : Instr), 1), (20, (.iinc 2 1 : Instr), 3), (23, (.goto (-21) : Instr), 3), (26, (.aload_n 0 : Instr), 1), (27, (.getfield 19 : Instr), 3), (30, (.ireturn : Instr), 1)] : List (Nat × Instr × Nat)).all (fun q => decide (decode cX7_spanEnd q.1 = .ok (q.2.1, q.2.2))) = true := by decide +kernel
theorem dX7_spanEnd_0 : decode cX7_spanEnd 0 = .ok (.iload_n 1, 1) := all_d dX7_spanEnd_all0 0 rfl
theorem dX7_spanEnd_1 : decode cX7_spanEnd 1 = .ok (.istore_n 2, 1) := all_d dX7_spanEnd_all0 1 rfl
theorem dX7_spanEnd_2 : decode cX7_spanEnd 2 = .ok (.iload_n 2, 1) := all_d dX7_spanEnd_all0 2 rfl
theorem dX7_spanEnd_3 : decode cX7_spanEnd 3 = .ok (.aload_n 0, 1) := all_d dX7_spanEnd_all0 3 rfl
theorem dX7_spanEnd_4 : decode cX7_spanEnd 4 = .ok (.getfield 19, 3) := all_d dX7_spanEnd_all0 4 rfl
theorem dX7_spanEnd_7 : decode cX7_spanEnd 7 = .ok (.if_icmp .gt 19, 3) := all_d dX7_spanEnd_all0 5 rfl
theorem dX7_spanEnd_10 : decode cX7_spanEnd 10 = .ok (.aload_n 0, 1) := all_d dX7_spanEnd_all0 6 rfl
theorem dX7_spanEnd_11 : decode cX7_spanEnd 11 = .ok (.iload_n 2, 1) := all_d dX7_spanEnd_all0 7 rfl
theorem dX7_spanEnd_12 : decode cX7_spanEnd 12 = .ok (.invokevirtual 38, 3) := all_d dX7_spanEnd_all0 8 rfl
theorem dX7_spanEnd_15 : decode cX7_spanEnd 15 = .ok (.ifCond .eq 5, 3) := all_d dX7_spanEnd_all0 9 rfl
theorem dX7_spanEnd_18 : decode cX7_spanEnd 18 = .ok (.iload_n 2, 1) := all_d dX7_spanEnd_all0 10 rfl
theorem dX7_spanEnd_19 : decode cX7_spanEnd 19 = .ok (.ireturn, 1) := all_d dX7_spanEnd_all0 11 rfl
theorem dX7_spanEnd_20 : decode cX7_spanEnd 20 = .ok (.iinc 2 1, 3) := all_d dX7_spanEnd_all0 12 rfl
theorem dX7_spanEnd_23 : decode cX7_spanEnd 23 = .ok (.goto (-21), 3) := all_d dX7_spanEnd_all0 13 rfl
theorem dX7_spanEnd_26 : decode cX7_spanEnd 26 = .ok (.aload_n 0, 1) := all_d dX7_spanEnd_all0 14 rfl
theorem dX7_spanEnd_27 : decode cX7_spanEnd 27 = .ok (.getfield 19, 3) := all_d dX7_spanEnd_all0 15 rfl
theorem dX7_spanEnd_30 : decode cX7_spanEnd 30 = .ok (.ireturn, 1) := all_d dX7_spanEnd_all0 16 rfl
set_option maxRecDepth 100000 in
theorem dX7_widestSpan_all0 : ([(0, (.iconst 0 : Instr), 1), (1, (.istore_n 1 : Instr), 1), (2, (.iconst 0 : Instr), 1), (3, (.istore_n 2 : Instr), 1), (4, (.iconst 0 : Instr), 1), (5, (.istore_n 3 : Instr), 1), (6, (.iconst 0 : Instr), 1), (7, (.istore 4 : Instr), 2), (9, (.iconst 0 : Instr), 1), (10, (.istore 5 : Instr), 2), (12, (.iload 5 : Instr), 2), (14, (.aload_n 0 : Instr), 1), (15, (.getfield 19 : Instr), 3), (18, (.if_icmp .gt 38 : Instr), 3), (21, (.iinc 4 1 : Instr), 3), (24, (.aload_n 0 : Instr), 1), (25, (.iload 5 : Instr), 2), (27, (.invokevirtual 38 : Instr), 3), (30, (.ifCond .eq 20 : Instr), 3), (33, (.iload 4 : Instr), 2), (35, (.iload_n 1 : Instr), 1), (36, (.if_icmp .le 8 : Instr), 3), (39, (.iload 4 : Instr), 2), (41, (.istore_n 1 : Instr), 1), (42, (.iload_n 3 : Instr), 1), (43, (.istore_n 2 : Instr), 1), (44, (.iinc 3 1 : Instr), 3), (47, (.iconst 0 : Instr), 1), (48, (.istore 4 : Instr), 2), (50, (.iinc 5 1 : Instr), 3), (53, (.goto (-41) : Instr), 3), (56, (.sipush 10000 : Instr), 3), (59, (.iload_n 1 : Instr), 1), (60, (.imul : Instr), 1), (61, (.iload_n 2 : Instr), 1), (62, (.iadd : Instr), 1), (63, (.ireturn : Instr), 1)] : List (Nat × Instr × Nat)).all (fun q => decide (decode cX7_widestSpan q.1 = .ok (q.2.1, q.2.2))) = true := by decide +kernel
theorem dX7_widestSpan_0 : decode cX7_widestSpan 0 = .ok (.iconst 0, 1) := all_d dX7_widestSpan_all0 0 rfl
theorem dX7_widestSpan_1 : decode cX7_widestSpan 1 = .ok (.istore_n 1, 1) := all_d dX7_widestSpan_all0 1 rfl
theorem dX7_widestSpan_2 : decode cX7_widestSpan 2 = .ok (.iconst 0, 1) := all_d dX7_widestSpan_all0 2 rfl
theorem dX7_widestSpan_3 : decode cX7_widestSpan 3 = .ok (.istore_n 2, 1) := all_d dX7_widestSpan_all0 3 rfl
theorem dX7_widestSpan_4 : decode cX7_widestSpan 4 = .ok (.iconst 0, 1) := all_d dX7_widestSpan_all0 4 rfl
theorem dX7_widestSpan_5 : decode cX7_widestSpan 5 = .ok (.istore_n 3, 1) := all_d dX7_widestSpan_all0 5 rfl
theorem dX7_widestSpan_6 : decode cX7_widestSpan 6 = .ok (.iconst 0, 1) := all_d dX7_widestSpan_all0 6 rfl
theorem dX7_widestSpan_7 : decode cX7_widestSpan 7 = .ok (.istore 4, 2) := all_d dX7_widestSpan_all0 7 rfl
theorem dX7_widestSpan_9 : decode cX7_widestSpan 9 = .ok (.iconst 0, 1) := all_d dX7_widestSpan_all0 8 rfl
theorem dX7_widestSpan_10 : decode cX7_widestSpan 10 = .ok (.istore 5, 2) := all_d dX7_widestSpan_all0 9 rfl
theorem dX7_widestSpan_12 : decode cX7_widestSpan 12 = .ok (.iload 5, 2) := all_d dX7_widestSpan_all0 10 rfl
theorem dX7_widestSpan_14 : decode cX7_widestSpan 14 = .ok (.aload_n 0, 1) := all_d dX7_widestSpan_all0 11 rfl
theorem dX7_widestSpan_15 : decode cX7_widestSpan 15 = .ok (.getfield 19, 3) := all_d dX7_widestSpan_all0 12 rfl
theorem dX7_widestSpan_18 : decode cX7_widestSpan 18 = .ok (.if_icmp .gt 38, 3) := all_d dX7_widestSpan_all0 13 rfl
theorem dX7_widestSpan_21 : decode cX7_widestSpan 21 = .ok (.iinc 4 1, 3) := all_d dX7_widestSpan_all0 14 rfl
theorem dX7_widestSpan_24 : decode cX7_widestSpan 24 = .ok (.aload_n 0, 1) := all_d dX7_widestSpan_all0 15 rfl
theorem dX7_widestSpan_25 : decode cX7_widestSpan 25 = .ok (.iload 5, 2) := all_d dX7_widestSpan_all0 16 rfl
theorem dX7_widestSpan_27 : decode cX7_widestSpan 27 = .ok (.invokevirtual 38, 3) := all_d dX7_widestSpan_all0 17 rfl
theorem dX7_widestSpan_30 : decode cX7_widestSpan 30 = .ok (.ifCond .eq 20, 3) := all_d dX7_widestSpan_all0 18 rfl
theorem dX7_widestSpan_33 : decode cX7_widestSpan 33 = .ok (.iload 4, 2) := all_d dX7_widestSpan_all0 19 rfl
theorem dX7_widestSpan_35 : decode cX7_widestSpan 35 = .ok (.iload_n 1, 1) := all_d dX7_widestSpan_all0 20 rfl
theorem dX7_widestSpan_36 : decode cX7_widestSpan 36 = .ok (.if_icmp .le 8, 3) := all_d dX7_widestSpan_all0 21 rfl
theorem dX7_widestSpan_39 : decode cX7_widestSpan 39 = .ok (.iload 4, 2) := all_d dX7_widestSpan_all0 22 rfl
theorem dX7_widestSpan_41 : decode cX7_widestSpan 41 = .ok (.istore_n 1, 1) := all_d dX7_widestSpan_all0 23 rfl
theorem dX7_widestSpan_42 : decode cX7_widestSpan 42 = .ok (.iload_n 3, 1) := all_d dX7_widestSpan_all0 24 rfl
theorem dX7_widestSpan_43 : decode cX7_widestSpan 43 = .ok (.istore_n 2, 1) := all_d dX7_widestSpan_all0 25 rfl
theorem dX7_widestSpan_44 : decode cX7_widestSpan 44 = .ok (.iinc 3 1, 3) := all_d dX7_widestSpan_all0 26 rfl
theorem dX7_widestSpan_47 : decode cX7_widestSpan 47 = .ok (.iconst 0, 1) := all_d dX7_widestSpan_all0 27 rfl
theorem dX7_widestSpan_48 : decode cX7_widestSpan 48 = .ok (.istore 4, 2) := all_d dX7_widestSpan_all0 28 rfl
theorem dX7_widestSpan_50 : decode cX7_widestSpan 50 = .ok (.iinc 5 1, 3) := all_d dX7_widestSpan_all0 29 rfl
theorem dX7_widestSpan_53 : decode cX7_widestSpan 53 = .ok (.goto (-41), 3) := all_d dX7_widestSpan_all0 30 rfl
theorem dX7_widestSpan_56 : decode cX7_widestSpan 56 = .ok (.sipush 10000, 3) := all_d dX7_widestSpan_all0 31 rfl
theorem dX7_widestSpan_59 : decode cX7_widestSpan 59 = .ok (.iload_n 1, 1) := all_d dX7_widestSpan_all0 32 rfl
theorem dX7_widestSpan_60 : decode cX7_widestSpan 60 = .ok (.imul, 1) := all_d dX7_widestSpan_all0 33 rfl
theorem dX7_widestSpan_61 : decode cX7_widestSpan 61 = .ok (.iload_n 2, 1) := all_d dX7_widestSpan_all0 34 rfl
theorem dX7_widestSpan_62 : decode cX7_widestSpan 62 = .ok (.iadd, 1) := all_d dX7_widestSpan_all0 35 rfl
theorem dX7_widestSpan_63 : decode cX7_widestSpan 63 = .ok (.ireturn, 1) := all_d dX7_widestSpan_all0 36 rfl
set_option maxRecDepth 100000 in
theorem dX7_unlikeFrom_all0 : ([(0, (.aload_n 0 : Instr), 1), (1, (.getfield 15 : Instr), 3), (4, (.lconst 0 : Instr), 1), (5, (.invokestatic 42 : Instr), 3), (8, (.iconst 0 : Instr), 1), (9, (.istore_n 2 : Instr), 1), (10, (.iconst 0 : Instr), 1), (11, (.istore_n 3 : Instr), 1), (12, (.iload_n 3 : Instr), 1), (13, (.aload_n 0 : Instr), 1), (14, (.getfield 19 : Instr), 3), (17, (.if_icmp .gt 33 : Instr), 3), (20, (.aload_n 0 : Instr), 1), (21, (.iload_n 3 : Instr), 1), (22, (.invokevirtual 35 : Instr), 3), (25, (.iload_n 1 : Instr), 1), (26, (.if_icmp .lt 18 : Instr), 3), (29, (.aload_n 0 : Instr), 1), (30, (.aload_n 0 : Instr), 1), (31, (.iload_n 3 : Instr), 1), (32, (.invokevirtual 35 : Instr), 3), (35, (.invokevirtual 48 : Instr), 3), (38, (.ifCond .eq 6 : Instr), 3), (41, (.iinc 2 1 : Instr), 3), (44, (.iinc 3 1 : Instr), 3), (47, (.goto (-35) : Instr), 3), (50, (.iload_n 2 : Instr), 1), (51, (.ireturn : Instr), 1)] : List (Nat × Instr × Nat)).all (fun q => decide (decode cX7_unlikeFrom q.1 = .ok (q.2.1, q.2.2))) = true := by decide +kernel
theorem dX7_unlikeFrom_0 : decode cX7_unlikeFrom 0 = .ok (.aload_n 0, 1) := all_d dX7_unlikeFrom_all0 0 rfl
theorem dX7_unlikeFrom_1 : decode cX7_unlikeFrom 1 = .ok (.getfield 15, 3) := all_d dX7_unlikeFrom_all0 1 rfl
theorem dX7_unlikeFrom_4 : decode cX7_unlikeFrom 4 = .ok (.lconst 0, 1) := all_d dX7_unlikeFrom_all0 2 rfl
theorem dX7_unlikeFrom_5 : decode cX7_unlikeFrom 5 = .ok (.invokestatic 42, 3) := all_d dX7_unlikeFrom_all0 3 rfl
theorem dX7_unlikeFrom_8 : decode cX7_unlikeFrom 8 = .ok (.iconst 0, 1) := all_d dX7_unlikeFrom_all0 4 rfl
theorem dX7_unlikeFrom_9 : decode cX7_unlikeFrom 9 = .ok (.istore_n 2, 1) := all_d dX7_unlikeFrom_all0 5 rfl
theorem dX7_unlikeFrom_10 : decode cX7_unlikeFrom 10 = .ok (.iconst 0, 1) := all_d dX7_unlikeFrom_all0 6 rfl
theorem dX7_unlikeFrom_11 : decode cX7_unlikeFrom 11 = .ok (.istore_n 3, 1) := all_d dX7_unlikeFrom_all0 7 rfl
theorem dX7_unlikeFrom_12 : decode cX7_unlikeFrom 12 = .ok (.iload_n 3, 1) := all_d dX7_unlikeFrom_all0 8 rfl
theorem dX7_unlikeFrom_13 : decode cX7_unlikeFrom 13 = .ok (.aload_n 0, 1) := all_d dX7_unlikeFrom_all0 9 rfl
theorem dX7_unlikeFrom_14 : decode cX7_unlikeFrom 14 = .ok (.getfield 19, 3) := all_d dX7_unlikeFrom_all0 10 rfl
theorem dX7_unlikeFrom_17 : decode cX7_unlikeFrom 17 = .ok (.if_icmp .gt 33, 3) := all_d dX7_unlikeFrom_all0 11 rfl
theorem dX7_unlikeFrom_20 : decode cX7_unlikeFrom 20 = .ok (.aload_n 0, 1) := all_d dX7_unlikeFrom_all0 12 rfl
theorem dX7_unlikeFrom_21 : decode cX7_unlikeFrom 21 = .ok (.iload_n 3, 1) := all_d dX7_unlikeFrom_all0 13 rfl
theorem dX7_unlikeFrom_22 : decode cX7_unlikeFrom 22 = .ok (.invokevirtual 35, 3) := all_d dX7_unlikeFrom_all0 14 rfl
theorem dX7_unlikeFrom_25 : decode cX7_unlikeFrom 25 = .ok (.iload_n 1, 1) := all_d dX7_unlikeFrom_all0 15 rfl
theorem dX7_unlikeFrom_26 : decode cX7_unlikeFrom 26 = .ok (.if_icmp .lt 18, 3) := all_d dX7_unlikeFrom_all0 16 rfl
theorem dX7_unlikeFrom_29 : decode cX7_unlikeFrom 29 = .ok (.aload_n 0, 1) := all_d dX7_unlikeFrom_all0 17 rfl
theorem dX7_unlikeFrom_30 : decode cX7_unlikeFrom 30 = .ok (.aload_n 0, 1) := all_d dX7_unlikeFrom_all0 18 rfl
theorem dX7_unlikeFrom_31 : decode cX7_unlikeFrom 31 = .ok (.iload_n 3, 1) := all_d dX7_unlikeFrom_all0 19 rfl
theorem dX7_unlikeFrom_32 : decode cX7_unlikeFrom 32 = .ok (.invokevirtual 35, 3) := all_d dX7_unlikeFrom_all0 20 rfl
theorem dX7_unlikeFrom_35 : decode cX7_unlikeFrom 35 = .ok (.invokevirtual 48, 3) := all_d dX7_unlikeFrom_all0 21 rfl
theorem dX7_unlikeFrom_38 : decode cX7_unlikeFrom 38 = .ok (.ifCond .eq 6, 3) := all_d dX7_unlikeFrom_all0 22 rfl
theorem dX7_unlikeFrom_41 : decode cX7_unlikeFrom 41 = .ok (.iinc 2 1, 3) := all_d dX7_unlikeFrom_all0 23 rfl
theorem dX7_unlikeFrom_44 : decode cX7_unlikeFrom 44 = .ok (.iinc 3 1, 3) := all_d dX7_unlikeFrom_all0 24 rfl
theorem dX7_unlikeFrom_47 : decode cX7_unlikeFrom 47 = .ok (.goto (-35), 3) := all_d dX7_unlikeFrom_all0 25 rfl
theorem dX7_unlikeFrom_50 : decode cX7_unlikeFrom 50 = .ok (.iload_n 2, 1) := all_d dX7_unlikeFrom_all0 26 rfl
theorem dX7_unlikeFrom_51 : decode cX7_unlikeFrom 51 = .ok (.ireturn, 1) := all_d dX7_unlikeFrom_all0 27 rfl
set_option maxRecDepth 100000 in
theorem dX7_isFirstMet_all0 : ([(0, (.iload_n 1 : Instr), 1), (1, (.ldc 51 : Instr), 2), (3, (.iadd : Instr), 1), (4, (.istore_n 2 : Instr), 1), (5, (.iload_n 2 : Instr), 1), (6, (.bipush 6 : Instr), 2), (8, (.ishr : Instr), 1), (9, (.istore_n 3 : Instr), 1), (10, (.iload_n 3 : Instr), 1), (11, (.ifCond .lt 12 : Instr), 3), (14, (.iload_n 3 : Instr), 1), (15, (.aload_n 0 : Instr), 1), (16, (.getfield 15 : Instr), 3), (19, (.arraylength : Instr), 1), (20, (.if_icmp .lt 5 : Instr), 3), (23, (.iconst 0 : Instr), 1), (24, (.ireturn : Instr), 1), (25, (.lconst 1 : Instr), 1), (26, (.iload_n 2 : Instr), 1), (27, (.bipush 63 : Instr), 2), (29, (.iand : Instr), 1), (30, (.lshl : Instr), 1), (31, (.lstore 4 : Instr), 2), (33, (.aload_n 0 : Instr), 1), (34, (.getfield 15 : Instr), 3), (37, (.iload_n 3 : Instr), 1), (38, (.laload : Instr), 1), (39, (.lload 4 : Instr), 2), (41, (.land : Instr), 1), (42, (.lconst 0 : Instr), 1), (43, (.lcmp : Instr), 1), (44, (.ifCond .ne 7 : Instr), 3), (47, (.iconst 1 : Instr), 1), (48, (.goto 4 : Instr), 3), (51, (.iconst 0 : Instr), 1), (52, (.istore 6 : Instr), 2), (54, (.aload_n 0 : Instr), 1), (55, (.getfield 15 : Instr), 3), (58, (.iload_n 3 : Instr), 1), (59, (.dup2 : Instr), 1), (60, (.laload : Instr), 1), (61, (.lload 4 : Instr), 2), (63, (.lor : Instr), 1), (64, (.lastore : Instr), 1), (65, (.iload 6 : Instr), 2), (67, (.ireturn : Instr), 1)] : List (Nat × Instr × Nat)).all (fun q => decide (decode cX7_isFirstMet q.1 = .ok (q.2.1, q.2.2))) = true := by decide +kernel
theorem dX7_isFirstMet_0 : decode cX7_isFirstMet 0 = .ok (.iload_n 1, 1) := all_d dX7_isFirstMet_all0 0 rfl
theorem dX7_isFirstMet_1 : decode cX7_isFirstMet 1 = .ok (.ldc 51, 2) := all_d dX7_isFirstMet_all0 1 rfl
theorem dX7_isFirstMet_3 : decode cX7_isFirstMet 3 = .ok (.iadd, 1) := all_d dX7_isFirstMet_all0 2 rfl
theorem dX7_isFirstMet_4 : decode cX7_isFirstMet 4 = .ok (.istore_n 2, 1) := all_d dX7_isFirstMet_all0 3 rfl
theorem dX7_isFirstMet_5 : decode cX7_isFirstMet 5 = .ok (.iload_n 2, 1) := all_d dX7_isFirstMet_all0 4 rfl
theorem dX7_isFirstMet_6 : decode cX7_isFirstMet 6 = .ok (.bipush 6, 2) := all_d dX7_isFirstMet_all0 5 rfl
theorem dX7_isFirstMet_8 : decode cX7_isFirstMet 8 = .ok (.ishr, 1) := all_d dX7_isFirstMet_all0 6 rfl
theorem dX7_isFirstMet_9 : decode cX7_isFirstMet 9 = .ok (.istore_n 3, 1) := all_d dX7_isFirstMet_all0 7 rfl
theorem dX7_isFirstMet_10 : decode cX7_isFirstMet 10 = .ok (.iload_n 3, 1) := all_d dX7_isFirstMet_all0 8 rfl
theorem dX7_isFirstMet_11 : decode cX7_isFirstMet 11 = .ok (.ifCond .lt 12, 3) := all_d dX7_isFirstMet_all0 9 rfl
theorem dX7_isFirstMet_14 : decode cX7_isFirstMet 14 = .ok (.iload_n 3, 1) := all_d dX7_isFirstMet_all0 10 rfl
theorem dX7_isFirstMet_15 : decode cX7_isFirstMet 15 = .ok (.aload_n 0, 1) := all_d dX7_isFirstMet_all0 11 rfl
theorem dX7_isFirstMet_16 : decode cX7_isFirstMet 16 = .ok (.getfield 15, 3) := all_d dX7_isFirstMet_all0 12 rfl
theorem dX7_isFirstMet_19 : decode cX7_isFirstMet 19 = .ok (.arraylength, 1) := all_d dX7_isFirstMet_all0 13 rfl
theorem dX7_isFirstMet_20 : decode cX7_isFirstMet 20 = .ok (.if_icmp .lt 5, 3) := all_d dX7_isFirstMet_all0 14 rfl
theorem dX7_isFirstMet_23 : decode cX7_isFirstMet 23 = .ok (.iconst 0, 1) := all_d dX7_isFirstMet_all0 15 rfl
theorem dX7_isFirstMet_24 : decode cX7_isFirstMet 24 = .ok (.ireturn, 1) := all_d dX7_isFirstMet_all0 16 rfl
theorem dX7_isFirstMet_25 : decode cX7_isFirstMet 25 = .ok (.lconst 1, 1) := all_d dX7_isFirstMet_all0 17 rfl
theorem dX7_isFirstMet_26 : decode cX7_isFirstMet 26 = .ok (.iload_n 2, 1) := all_d dX7_isFirstMet_all0 18 rfl
theorem dX7_isFirstMet_27 : decode cX7_isFirstMet 27 = .ok (.bipush 63, 2) := all_d dX7_isFirstMet_all0 19 rfl
theorem dX7_isFirstMet_29 : decode cX7_isFirstMet 29 = .ok (.iand, 1) := all_d dX7_isFirstMet_all0 20 rfl
theorem dX7_isFirstMet_30 : decode cX7_isFirstMet 30 = .ok (.lshl, 1) := all_d dX7_isFirstMet_all0 21 rfl
theorem dX7_isFirstMet_31 : decode cX7_isFirstMet 31 = .ok (.lstore 4, 2) := all_d dX7_isFirstMet_all0 22 rfl
theorem dX7_isFirstMet_33 : decode cX7_isFirstMet 33 = .ok (.aload_n 0, 1) := all_d dX7_isFirstMet_all0 23 rfl
theorem dX7_isFirstMet_34 : decode cX7_isFirstMet 34 = .ok (.getfield 15, 3) := all_d dX7_isFirstMet_all0 24 rfl
theorem dX7_isFirstMet_37 : decode cX7_isFirstMet 37 = .ok (.iload_n 3, 1) := all_d dX7_isFirstMet_all0 25 rfl
theorem dX7_isFirstMet_38 : decode cX7_isFirstMet 38 = .ok (.laload, 1) := all_d dX7_isFirstMet_all0 26 rfl
theorem dX7_isFirstMet_39 : decode cX7_isFirstMet 39 = .ok (.lload 4, 2) := all_d dX7_isFirstMet_all0 27 rfl
theorem dX7_isFirstMet_41 : decode cX7_isFirstMet 41 = .ok (.land, 1) := all_d dX7_isFirstMet_all0 28 rfl
theorem dX7_isFirstMet_42 : decode cX7_isFirstMet 42 = .ok (.lconst 0, 1) := all_d dX7_isFirstMet_all0 29 rfl
theorem dX7_isFirstMet_43 : decode cX7_isFirstMet 43 = .ok (.lcmp, 1) := all_d dX7_isFirstMet_all0 30 rfl
theorem dX7_isFirstMet_44 : decode cX7_isFirstMet 44 = .ok (.ifCond .ne 7, 3) := all_d dX7_isFirstMet_all0 31 rfl
theorem dX7_isFirstMet_47 : decode cX7_isFirstMet 47 = .ok (.iconst 1, 1) := all_d dX7_isFirstMet_all0 32 rfl
theorem dX7_isFirstMet_48 : decode cX7_isFirstMet 48 = .ok (.goto 4, 3) := all_d dX7_isFirstMet_all0 33 rfl
theorem dX7_isFirstMet_51 : decode cX7_isFirstMet 51 = .ok (.iconst 0, 1) := all_d dX7_isFirstMet_all0 34 rfl
theorem dX7_isFirstMet_52 : decode cX7_isFirstMet 52 = .ok (.istore 6, 2) := all_d dX7_isFirstMet_all0 35 rfl
theorem dX7_isFirstMet_54 : decode cX7_isFirstMet 54 = .ok (.aload_n 0, 1) := all_d dX7_isFirstMet_all0 36 rfl
theorem dX7_isFirstMet_55 : decode cX7_isFirstMet 55 = .ok (.getfield 15, 3) := all_d dX7_isFirstMet_all0 37 rfl
theorem dX7_isFirstMet_58 : decode cX7_isFirstMet 58 = .ok (.iload_n 3, 1) := all_d dX7_isFirstMet_all0 38 rfl
theorem dX7_isFirstMet_59 : decode cX7_isFirstMet 59 = .ok (.dup2, 1) := all_d dX7_isFirstMet_all0 39 rfl
theorem dX7_isFirstMet_60 : decode cX7_isFirstMet 60 = .ok (.laload, 1) := all_d dX7_isFirstMet_all0 40 rfl
theorem dX7_isFirstMet_61 : decode cX7_isFirstMet 61 = .ok (.lload 4, 2) := all_d dX7_isFirstMet_all0 41 rfl
theorem dX7_isFirstMet_63 : decode cX7_isFirstMet 63 = .ok (.lor, 1) := all_d dX7_isFirstMet_all0 42 rfl
theorem dX7_isFirstMet_64 : decode cX7_isFirstMet 64 = .ok (.lastore, 1) := all_d dX7_isFirstMet_all0 43 rfl
theorem dX7_isFirstMet_65 : decode cX7_isFirstMet 65 = .ok (.iload 6, 2) := all_d dX7_isFirstMet_all0 44 rfl
theorem dX7_isFirstMet_67 : decode cX7_isFirstMet 67 = .ok (.ireturn, 1) := all_d dX7_isFirstMet_all0 45 rfl
set_option maxRecDepth 100000 in
theorem dX7_greatestCode_all0 : ([(0, (.aload_n 0 : Instr), 1), (1, (.iconst 0 : Instr), 1), (2, (.invokevirtual 35 : Instr), 3), (5, (.istore_n 1 : Instr), 1), (6, (.iconst 1 : Instr), 1), (7, (.istore_n 2 : Instr), 1), (8, (.iload_n 2 : Instr), 1), (9, (.aload_n 0 : Instr), 1), (10, (.getfield 19 : Instr), 3), (13, (.if_icmp .gt 19 : Instr), 3), (16, (.iload_n 1 : Instr), 1), (17, (.aload_n 0 : Instr), 1), (18, (.iload_n 2 : Instr), 1), (19, (.invokevirtual 35 : Instr), 3), (22, (.invokestatic 52 : Instr), 3), (25, (.istore_n 1 : Instr), 1), (26, (.iinc 2 1 : Instr), 3), (29, (.goto (-21) : Instr), 3), (32, (.iload_n 1 : Instr), 1), (33, (.ireturn : Instr), 1)] : List (Nat × Instr × Nat)).all (fun q => decide (decode cX7_greatestCode q.1 = .ok (q.2.1, q.2.2))) = true := by decide +kernel
theorem dX7_greatestCode_0 : decode cX7_greatestCode 0 = .ok (.aload_n 0, 1) := all_d dX7_greatestCode_all0 0 rfl
theorem dX7_greatestCode_1 : decode cX7_greatestCode 1 = .ok (.iconst 0, 1) := all_d dX7_greatestCode_all0 1 rfl
theorem dX7_greatestCode_2 : decode cX7_greatestCode 2 = .ok (.invokevirtual 35, 3) := all_d dX7_greatestCode_all0 2 rfl
theorem dX7_greatestCode_5 : decode cX7_greatestCode 5 = .ok (.istore_n 1, 1) := all_d dX7_greatestCode_all0 3 rfl
theorem dX7_greatestCode_6 : decode cX7_greatestCode 6 = .ok (.iconst 1, 1) := all_d dX7_greatestCode_all0 4 rfl
theorem dX7_greatestCode_7 : decode cX7_greatestCode 7 = .ok (.istore_n 2, 1) := all_d dX7_greatestCode_all0 5 rfl
theorem dX7_greatestCode_8 : decode cX7_greatestCode 8 = .ok (.iload_n 2, 1) := all_d dX7_greatestCode_all0 6 rfl
theorem dX7_greatestCode_9 : decode cX7_greatestCode 9 = .ok (.aload_n 0, 1) := all_d dX7_greatestCode_all0 7 rfl
theorem dX7_greatestCode_10 : decode cX7_greatestCode 10 = .ok (.getfield 19, 3) := all_d dX7_greatestCode_all0 8 rfl
theorem dX7_greatestCode_13 : decode cX7_greatestCode 13 = .ok (.if_icmp .gt 19, 3) := all_d dX7_greatestCode_all0 9 rfl
theorem dX7_greatestCode_16 : decode cX7_greatestCode 16 = .ok (.iload_n 1, 1) := all_d dX7_greatestCode_all0 10 rfl
theorem dX7_greatestCode_17 : decode cX7_greatestCode 17 = .ok (.aload_n 0, 1) := all_d dX7_greatestCode_all0 11 rfl
theorem dX7_greatestCode_18 : decode cX7_greatestCode 18 = .ok (.iload_n 2, 1) := all_d dX7_greatestCode_all0 12 rfl
theorem dX7_greatestCode_19 : decode cX7_greatestCode 19 = .ok (.invokevirtual 35, 3) := all_d dX7_greatestCode_all0 13 rfl
theorem dX7_greatestCode_22 : decode cX7_greatestCode 22 = .ok (.invokestatic 52, 3) := all_d dX7_greatestCode_all0 14 rfl
theorem dX7_greatestCode_25 : decode cX7_greatestCode 25 = .ok (.istore_n 1, 1) := all_d dX7_greatestCode_all0 15 rfl
theorem dX7_greatestCode_26 : decode cX7_greatestCode 26 = .ok (.iinc 2 1, 3) := all_d dX7_greatestCode_all0 16 rfl
theorem dX7_greatestCode_29 : decode cX7_greatestCode 29 = .ok (.goto (-21), 3) := all_d dX7_greatestCode_all0 17 rfl
theorem dX7_greatestCode_32 : decode cX7_greatestCode 32 = .ok (.iload_n 1, 1) := all_d dX7_greatestCode_all0 18 rfl
theorem dX7_greatestCode_33 : decode cX7_greatestCode 33 = .ok (.ireturn, 1) := all_d dX7_greatestCode_all0 19 rfl
set_option maxRecDepth 100000 in
theorem dX7_firstBack_all0 : ([(0, (.iconst 1 : Instr), 1), (1, (.istore_n 1 : Instr), 1), (2, (.iload_n 1 : Instr), 1), (3, (.aload_n 0 : Instr), 1), (4, (.getfield 19 : Instr), 3), (7, (.if_icmp .gt 26 : Instr), 3), (10, (.aload_n 0 : Instr), 1), (11, (.iload_n 1 : Instr), 1), (12, (.invokevirtual 35 : Instr), 3), (15, (.aload_n 0 : Instr), 1), (16, (.iload_n 1 : Instr), 1), (17, (.iconst 1 : Instr), 1), (18, (.isub : Instr), 1), (19, (.invokevirtual 35 : Instr), 3), (22, (.if_icmp .ge 5 : Instr), 3), (25, (.iload_n 1 : Instr), 1), (26, (.ireturn : Instr), 1), (27, (.iinc 1 1 : Instr), 3), (30, (.goto (-28) : Instr), 3), (33, (.bipush (-2) : Instr), 2), (35, (.ireturn : Instr), 1)] : List (Nat × Instr × Nat)).all (fun q => decide (decode cX7_firstBack q.1 = .ok (q.2.1, q.2.2))) = true := by decide +kernel
theorem dX7_firstBack_0 : decode cX7_firstBack 0 = .ok (.iconst 1, 1) := all_d dX7_firstBack_all0 0 rfl
theorem dX7_firstBack_1 : decode cX7_firstBack 1 = .ok (.istore_n 1, 1) := all_d dX7_firstBack_all0 1 rfl
theorem dX7_firstBack_2 : decode cX7_firstBack 2 = .ok (.iload_n 1, 1) := all_d dX7_firstBack_all0 2 rfl
theorem dX7_firstBack_3 : decode cX7_firstBack 3 = .ok (.aload_n 0, 1) := all_d dX7_firstBack_all0 3 rfl
theorem dX7_firstBack_4 : decode cX7_firstBack 4 = .ok (.getfield 19, 3) := all_d dX7_firstBack_all0 4 rfl
theorem dX7_firstBack_7 : decode cX7_firstBack 7 = .ok (.if_icmp .gt 26, 3) := all_d dX7_firstBack_all0 5 rfl
theorem dX7_firstBack_10 : decode cX7_firstBack 10 = .ok (.aload_n 0, 1) := all_d dX7_firstBack_all0 6 rfl
theorem dX7_firstBack_11 : decode cX7_firstBack 11 = .ok (.iload_n 1, 1) := all_d dX7_firstBack_all0 7 rfl
theorem dX7_firstBack_12 : decode cX7_firstBack 12 = .ok (.invokevirtual 35, 3) := all_d dX7_firstBack_all0 8 rfl
theorem dX7_firstBack_15 : decode cX7_firstBack 15 = .ok (.aload_n 0, 1) := all_d dX7_firstBack_all0 9 rfl
theorem dX7_firstBack_16 : decode cX7_firstBack 16 = .ok (.iload_n 1, 1) := all_d dX7_firstBack_all0 10 rfl
theorem dX7_firstBack_17 : decode cX7_firstBack 17 = .ok (.iconst 1, 1) := all_d dX7_firstBack_all0 11 rfl
theorem dX7_firstBack_18 : decode cX7_firstBack 18 = .ok (.isub, 1) := all_d dX7_firstBack_all0 12 rfl
theorem dX7_firstBack_19 : decode cX7_firstBack 19 = .ok (.invokevirtual 35, 3) := all_d dX7_firstBack_all0 13 rfl
theorem dX7_firstBack_22 : decode cX7_firstBack 22 = .ok (.if_icmp .ge 5, 3) := all_d dX7_firstBack_all0 14 rfl
theorem dX7_firstBack_25 : decode cX7_firstBack 25 = .ok (.iload_n 1, 1) := all_d dX7_firstBack_all0 15 rfl
theorem dX7_firstBack_26 : decode cX7_firstBack 26 = .ok (.ireturn, 1) := all_d dX7_firstBack_all0 16 rfl
theorem dX7_firstBack_27 : decode cX7_firstBack 27 = .ok (.iinc 1 1, 3) := all_d dX7_firstBack_all0 17 rfl
theorem dX7_firstBack_30 : decode cX7_firstBack 30 = .ok (.goto (-28), 3) := all_d dX7_firstBack_all0 18 rfl
theorem dX7_firstBack_33 : decode cX7_firstBack 33 = .ok (.bipush (-2), 2) := all_d dX7_firstBack_all0 19 rfl
theorem dX7_firstBack_35 : decode cX7_firstBack 35 = .ok (.ireturn, 1) := all_d dX7_firstBack_all0 20 rfl
set_option maxRecDepth 100000 in
theorem dX7_edgeOf_all0 : ([(0, (.iconst 0 : Instr), 1), (1, (.istore_n 2 : Instr), 1), (2, (.iload_n 2 : Instr), 1), (3, (.aload_n 0 : Instr), 1), (4, (.getfield 19 : Instr), 3), (7, (.if_icmp .gt 20 : Instr), 3), (10, (.aload_n 0 : Instr), 1), (11, (.iload_n 2 : Instr), 1), (12, (.invokevirtual 35 : Instr), 3), (15, (.iload_n 1 : Instr), 1), (16, (.if_icmp .lt 5 : Instr), 3), (19, (.iload_n 2 : Instr), 1), (20, (.ireturn : Instr), 1), (21, (.iinc 2 1 : Instr), 3), (24, (.goto (-22) : Instr), 3), (27, (.aload_n 0 : Instr), 1), (28, (.getfield 19 : Instr), 3), (31, (.iconst 1 : Instr), 1), (32, (.iadd : Instr), 1), (33, (.ireturn : Instr), 1)] : List (Nat × Instr × Nat)).all (fun q => decide (decode cX7_edgeOf q.1 = .ok (q.2.1, q.2.2))) = true := by decide +kernel
theorem dX7_edgeOf_0 : decode cX7_edgeOf 0 = .ok (.iconst 0, 1) := all_d dX7_edgeOf_all0 0 rfl
theorem dX7_edgeOf_1 : decode cX7_edgeOf 1 = .ok (.istore_n 2, 1) := all_d dX7_edgeOf_all0 1 rfl
theorem dX7_edgeOf_2 : decode cX7_edgeOf 2 = .ok (.iload_n 2, 1) := all_d dX7_edgeOf_all0 2 rfl
theorem dX7_edgeOf_3 : decode cX7_edgeOf 3 = .ok (.aload_n 0, 1) := all_d dX7_edgeOf_all0 3 rfl
theorem dX7_edgeOf_4 : decode cX7_edgeOf 4 = .ok (.getfield 19, 3) := all_d dX7_edgeOf_all0 4 rfl
theorem dX7_edgeOf_7 : decode cX7_edgeOf 7 = .ok (.if_icmp .gt 20, 3) := all_d dX7_edgeOf_all0 5 rfl
theorem dX7_edgeOf_10 : decode cX7_edgeOf 10 = .ok (.aload_n 0, 1) := all_d dX7_edgeOf_all0 6 rfl
theorem dX7_edgeOf_11 : decode cX7_edgeOf 11 = .ok (.iload_n 2, 1) := all_d dX7_edgeOf_all0 7 rfl
theorem dX7_edgeOf_12 : decode cX7_edgeOf 12 = .ok (.invokevirtual 35, 3) := all_d dX7_edgeOf_all0 8 rfl
theorem dX7_edgeOf_15 : decode cX7_edgeOf 15 = .ok (.iload_n 1, 1) := all_d dX7_edgeOf_all0 9 rfl
theorem dX7_edgeOf_16 : decode cX7_edgeOf 16 = .ok (.if_icmp .lt 5, 3) := all_d dX7_edgeOf_all0 10 rfl
theorem dX7_edgeOf_19 : decode cX7_edgeOf 19 = .ok (.iload_n 2, 1) := all_d dX7_edgeOf_all0 11 rfl
theorem dX7_edgeOf_20 : decode cX7_edgeOf 20 = .ok (.ireturn, 1) := all_d dX7_edgeOf_all0 12 rfl
theorem dX7_edgeOf_21 : decode cX7_edgeOf 21 = .ok (.iinc 2 1, 3) := all_d dX7_edgeOf_all0 13 rfl
theorem dX7_edgeOf_24 : decode cX7_edgeOf 24 = .ok (.goto (-22), 3) := all_d dX7_edgeOf_all0 14 rfl
theorem dX7_edgeOf_27 : decode cX7_edgeOf 27 = .ok (.aload_n 0, 1) := all_d dX7_edgeOf_all0 15 rfl
theorem dX7_edgeOf_28 : decode cX7_edgeOf 28 = .ok (.getfield 19, 3) := all_d dX7_edgeOf_all0 16 rfl
theorem dX7_edgeOf_31 : decode cX7_edgeOf 31 = .ok (.iconst 1, 1) := all_d dX7_edgeOf_all0 17 rfl
theorem dX7_edgeOf_32 : decode cX7_edgeOf 32 = .ok (.iadd, 1) := all_d dX7_edgeOf_all0 18 rfl
theorem dX7_edgeOf_33 : decode cX7_edgeOf 33 = .ok (.ireturn, 1) := all_d dX7_edgeOf_all0 19 rfl
set_option maxRecDepth 100000 in
theorem dX7_worstOfLine_all0 : ([(0, (.aload_n 0 : Instr), 1), (1, (.iconst 1 : Instr), 1), (2, (.invokevirtual 55 : Instr), 3), (5, (.istore_n 3 : Instr), 1), (6, (.aload_n 0 : Instr), 1), (7, (.iload_n 1 : Instr), 1), (8, (.invokevirtual 55 : Instr), 3), (11, (.iload_n 3 : Instr), 1), (12, (.isub : Instr), 1), (13, (.istore 4 : Instr), 2), (15, (.iconst 0 : Instr), 1), (16, (.istore 5 : Instr), 2), (18, (.iconst 1 : Instr), 1), (19, (.istore 6 : Instr), 2), (21, (.iconst 1 : Instr), 1), (22, (.istore 7 : Instr), 2), (24, (.iload_n 3 : Instr), 1), (25, (.istore 8 : Instr), 2), (27, (.iload 8 : Instr), 2), (29, (.aload_n 0 : Instr), 1), (30, (.getfield 19 : Instr), 3), (33, (.if_icmp .gt 62 : Instr), 3), (36, (.iload 7 : Instr), 2), (38, (.aload_n 0 : Instr), 1), (39, (.iload 8 : Instr), 2), (41, (.invokevirtual 35 : Instr), 3), (44, (.if_icmp .gt 45 : Instr), 3), (47, (.iload_n 1 : Instr), 1), (48, (.iconst 1 : Instr), 1), (49, (.isub : Instr), 1), (50, (.iload 8 : Instr), 2), (52, (.iload_n 3 : Instr), 1), (53, (.isub : Instr), 1), (54, (.imul : Instr), 1), (55, (.iload 7 : Instr), 2), (57, (.iconst 1 : Instr), 1), (58, (.isub : Instr), 1), (59, (.iload 4 : Instr), 2), (61, (.imul : Instr), 1), (62, (.isub : Instr), 1), (63, (.invokestatic 58 : Instr), 3), (66, (.istore 9 : Instr), 2), (68, (.iload 9 : Instr), 2), (70, (.iload 5 : Instr), 2), (72, (.if_icmp .le 11 : Instr), 3), (75, (.iload 9 : Instr), 2), (77, (.istore 5 : Instr), 2), (79, (.iload 7 : Instr), 2), (81, (.istore 6 : Instr), 2), (83, (.iinc 7 1 : Instr), 3), (86, (.goto (-50) : Instr), 3), (89, (.iinc 8 1 : Instr), 3), (92, (.goto (-65) : Instr), 3), (95, (.iload_n 2 : Instr), 1), (96, (.ifCond .eq 8 : Instr), 3), (99, (.iload 6 : Instr), 2), (101, (.goto 5 : Instr), 3), (104, (.iload 5 : Instr), 2), (106, (.ireturn : Instr), 1)] : List (Nat × Instr × Nat)).all (fun q => decide (decode cX7_worstOfLine q.1 = .ok (q.2.1, q.2.2))) = true := by decide +kernel
theorem dX7_worstOfLine_0 : decode cX7_worstOfLine 0 = .ok (.aload_n 0, 1) := all_d dX7_worstOfLine_all0 0 rfl
theorem dX7_worstOfLine_1 : decode cX7_worstOfLine 1 = .ok (.iconst 1, 1) := all_d dX7_worstOfLine_all0 1 rfl
theorem dX7_worstOfLine_2 : decode cX7_worstOfLine 2 = .ok (.invokevirtual 55, 3) := all_d dX7_worstOfLine_all0 2 rfl
theorem dX7_worstOfLine_5 : decode cX7_worstOfLine 5 = .ok (.istore_n 3, 1) := all_d dX7_worstOfLine_all0 3 rfl
theorem dX7_worstOfLine_6 : decode cX7_worstOfLine 6 = .ok (.aload_n 0, 1) := all_d dX7_worstOfLine_all0 4 rfl
theorem dX7_worstOfLine_7 : decode cX7_worstOfLine 7 = .ok (.iload_n 1, 1) := all_d dX7_worstOfLine_all0 5 rfl
theorem dX7_worstOfLine_8 : decode cX7_worstOfLine 8 = .ok (.invokevirtual 55, 3) := all_d dX7_worstOfLine_all0 6 rfl
theorem dX7_worstOfLine_11 : decode cX7_worstOfLine 11 = .ok (.iload_n 3, 1) := all_d dX7_worstOfLine_all0 7 rfl
theorem dX7_worstOfLine_12 : decode cX7_worstOfLine 12 = .ok (.isub, 1) := all_d dX7_worstOfLine_all0 8 rfl
theorem dX7_worstOfLine_13 : decode cX7_worstOfLine 13 = .ok (.istore 4, 2) := all_d dX7_worstOfLine_all0 9 rfl
theorem dX7_worstOfLine_15 : decode cX7_worstOfLine 15 = .ok (.iconst 0, 1) := all_d dX7_worstOfLine_all0 10 rfl
theorem dX7_worstOfLine_16 : decode cX7_worstOfLine 16 = .ok (.istore 5, 2) := all_d dX7_worstOfLine_all0 11 rfl
theorem dX7_worstOfLine_18 : decode cX7_worstOfLine 18 = .ok (.iconst 1, 1) := all_d dX7_worstOfLine_all0 12 rfl
theorem dX7_worstOfLine_19 : decode cX7_worstOfLine 19 = .ok (.istore 6, 2) := all_d dX7_worstOfLine_all0 13 rfl
theorem dX7_worstOfLine_21 : decode cX7_worstOfLine 21 = .ok (.iconst 1, 1) := all_d dX7_worstOfLine_all0 14 rfl
theorem dX7_worstOfLine_22 : decode cX7_worstOfLine 22 = .ok (.istore 7, 2) := all_d dX7_worstOfLine_all0 15 rfl
theorem dX7_worstOfLine_24 : decode cX7_worstOfLine 24 = .ok (.iload_n 3, 1) := all_d dX7_worstOfLine_all0 16 rfl
theorem dX7_worstOfLine_25 : decode cX7_worstOfLine 25 = .ok (.istore 8, 2) := all_d dX7_worstOfLine_all0 17 rfl
theorem dX7_worstOfLine_27 : decode cX7_worstOfLine 27 = .ok (.iload 8, 2) := all_d dX7_worstOfLine_all0 18 rfl
theorem dX7_worstOfLine_29 : decode cX7_worstOfLine 29 = .ok (.aload_n 0, 1) := all_d dX7_worstOfLine_all0 19 rfl
theorem dX7_worstOfLine_30 : decode cX7_worstOfLine 30 = .ok (.getfield 19, 3) := all_d dX7_worstOfLine_all0 20 rfl
theorem dX7_worstOfLine_33 : decode cX7_worstOfLine 33 = .ok (.if_icmp .gt 62, 3) := all_d dX7_worstOfLine_all0 21 rfl
theorem dX7_worstOfLine_36 : decode cX7_worstOfLine 36 = .ok (.iload 7, 2) := all_d dX7_worstOfLine_all0 22 rfl
theorem dX7_worstOfLine_38 : decode cX7_worstOfLine 38 = .ok (.aload_n 0, 1) := all_d dX7_worstOfLine_all0 23 rfl
theorem dX7_worstOfLine_39 : decode cX7_worstOfLine 39 = .ok (.iload 8, 2) := all_d dX7_worstOfLine_all0 24 rfl
theorem dX7_worstOfLine_41 : decode cX7_worstOfLine 41 = .ok (.invokevirtual 35, 3) := all_d dX7_worstOfLine_all0 25 rfl
theorem dX7_worstOfLine_44 : decode cX7_worstOfLine 44 = .ok (.if_icmp .gt 45, 3) := all_d dX7_worstOfLine_all0 26 rfl
theorem dX7_worstOfLine_47 : decode cX7_worstOfLine 47 = .ok (.iload_n 1, 1) := all_d dX7_worstOfLine_all0 27 rfl
theorem dX7_worstOfLine_48 : decode cX7_worstOfLine 48 = .ok (.iconst 1, 1) := all_d dX7_worstOfLine_all0 28 rfl
theorem dX7_worstOfLine_49 : decode cX7_worstOfLine 49 = .ok (.isub, 1) := all_d dX7_worstOfLine_all0 29 rfl
theorem dX7_worstOfLine_50 : decode cX7_worstOfLine 50 = .ok (.iload 8, 2) := all_d dX7_worstOfLine_all0 30 rfl
theorem dX7_worstOfLine_52 : decode cX7_worstOfLine 52 = .ok (.iload_n 3, 1) := all_d dX7_worstOfLine_all0 31 rfl
theorem dX7_worstOfLine_53 : decode cX7_worstOfLine 53 = .ok (.isub, 1) := all_d dX7_worstOfLine_all0 32 rfl
theorem dX7_worstOfLine_54 : decode cX7_worstOfLine 54 = .ok (.imul, 1) := all_d dX7_worstOfLine_all0 33 rfl
theorem dX7_worstOfLine_55 : decode cX7_worstOfLine 55 = .ok (.iload 7, 2) := all_d dX7_worstOfLine_all0 34 rfl
theorem dX7_worstOfLine_57 : decode cX7_worstOfLine 57 = .ok (.iconst 1, 1) := all_d dX7_worstOfLine_all0 35 rfl
theorem dX7_worstOfLine_58 : decode cX7_worstOfLine 58 = .ok (.isub, 1) := all_d dX7_worstOfLine_all0 36 rfl
theorem dX7_worstOfLine_59 : decode cX7_worstOfLine 59 = .ok (.iload 4, 2) := all_d dX7_worstOfLine_all0 37 rfl
theorem dX7_worstOfLine_61 : decode cX7_worstOfLine 61 = .ok (.imul, 1) := all_d dX7_worstOfLine_all0 38 rfl
theorem dX7_worstOfLine_62 : decode cX7_worstOfLine 62 = .ok (.isub, 1) := all_d dX7_worstOfLine_all0 39 rfl
theorem dX7_worstOfLine_63 : decode cX7_worstOfLine 63 = .ok (.invokestatic 58, 3) := all_d dX7_worstOfLine_all0 40 rfl
theorem dX7_worstOfLine_66 : decode cX7_worstOfLine 66 = .ok (.istore 9, 2) := all_d dX7_worstOfLine_all0 41 rfl
theorem dX7_worstOfLine_68 : decode cX7_worstOfLine 68 = .ok (.iload 9, 2) := all_d dX7_worstOfLine_all0 42 rfl
theorem dX7_worstOfLine_70 : decode cX7_worstOfLine 70 = .ok (.iload 5, 2) := all_d dX7_worstOfLine_all0 43 rfl
theorem dX7_worstOfLine_72 : decode cX7_worstOfLine 72 = .ok (.if_icmp .le 11, 3) := all_d dX7_worstOfLine_all0 44 rfl
theorem dX7_worstOfLine_75 : decode cX7_worstOfLine 75 = .ok (.iload 9, 2) := all_d dX7_worstOfLine_all0 45 rfl
theorem dX7_worstOfLine_77 : decode cX7_worstOfLine 77 = .ok (.istore 5, 2) := all_d dX7_worstOfLine_all0 46 rfl
theorem dX7_worstOfLine_79 : decode cX7_worstOfLine 79 = .ok (.iload 7, 2) := all_d dX7_worstOfLine_all0 47 rfl
theorem dX7_worstOfLine_81 : decode cX7_worstOfLine 81 = .ok (.istore 6, 2) := all_d dX7_worstOfLine_all0 48 rfl
theorem dX7_worstOfLine_83 : decode cX7_worstOfLine 83 = .ok (.iinc 7 1, 3) := all_d dX7_worstOfLine_all0 49 rfl
theorem dX7_worstOfLine_86 : decode cX7_worstOfLine 86 = .ok (.goto (-50), 3) := all_d dX7_worstOfLine_all0 50 rfl
theorem dX7_worstOfLine_89 : decode cX7_worstOfLine 89 = .ok (.iinc 8 1, 3) := all_d dX7_worstOfLine_all0 51 rfl
theorem dX7_worstOfLine_92 : decode cX7_worstOfLine 92 = .ok (.goto (-65), 3) := all_d dX7_worstOfLine_all0 52 rfl
theorem dX7_worstOfLine_95 : decode cX7_worstOfLine 95 = .ok (.iload_n 2, 1) := all_d dX7_worstOfLine_all0 53 rfl
theorem dX7_worstOfLine_96 : decode cX7_worstOfLine 96 = .ok (.ifCond .eq 8, 3) := all_d dX7_worstOfLine_all0 54 rfl
theorem dX7_worstOfLine_99 : decode cX7_worstOfLine 99 = .ok (.iload 6, 2) := all_d dX7_worstOfLine_all0 55 rfl
theorem dX7_worstOfLine_101 : decode cX7_worstOfLine 101 = .ok (.goto 5, 3) := all_d dX7_worstOfLine_all0 56 rfl
theorem dX7_worstOfLine_104 : decode cX7_worstOfLine 104 = .ok (.iload 5, 2) := all_d dX7_worstOfLine_all0 57 rfl
theorem dX7_worstOfLine_106 : decode cX7_worstOfLine 106 = .ok (.ireturn, 1) := all_d dX7_worstOfLine_all0 58 rfl
set_option maxRecDepth 100000 in
theorem dX8_init_all0 : ([(0, (.aload_n 0 : Instr), 1), (1, (.invokespecial 3 : Instr), 3), (4, (.aload_n 0 : Instr), 1), (5, (.bipush 8 : Instr), 2), (7, (.anewarray 9 : Instr), 3), (10, (.putfield 11 : Instr), 3), (13, (.aload_n 0 : Instr), 1), (14, (.new 15 : Instr), 3), (17, (.dup : Instr), 1), (18, (.invokespecial 17 : Instr), 3), (21, (.putfield 18 : Instr), 3), (24, (.aload_n 0 : Instr), 1), (25, (.new 22 : Instr), 3), (28, (.dup : Instr), 1), (29, (.invokespecial 24 : Instr), 3), (32, (.putfield 25 : Instr), 3), (35, (.aload_n 0 : Instr), 1), (36, (.bipush 10 : Instr), 2), (38, (.anewarray 29 : Instr), 3), (41, (.putfield 31 : Instr), 3), (44, (.aload_n 0 : Instr), 1), (45, (.bipush 10 : Instr), 2), (47, (.newarray .int : Instr), 2), (49, (.putfield 35 : Instr), 3), (52, (.aload_n 0 : Instr), 1), (53, (.bipush 10 : Instr), 2), (55, (.newarray .int : Instr), 2), (57, (.putfield 39 : Instr), 3), (60, (.aload_n 0 : Instr), 1), (61, (.new 42 : Instr), 3), (64, (.dup : Instr), 1), (65, (.invokespecial 44 : Instr), 3), (68, (.putfield 45 : Instr), 3), (71, (.aload_n 0 : Instr), 1), (72, (.new 49 : Instr), 3), (75, (.dup : Instr), 1), (76, (.invokespecial 51 : Instr), 3), (79, (.putfield 52 : Instr), 3), (82, (.aload_n 0 : Instr), 1), (83, (.sipush 255 : Instr), 3), (86, (.putfield 56 : Instr), 3), (89, (.aload_n 0 : Instr), 1), (90, (.iconst 0 : Instr), 1), (91, (.putfield 60 : Instr), 3), (94, (.aload_n 0 : Instr), 1), (95, (.iconst 0 : Instr), 1), (96, (.putfield 63 : Instr), 3), (99, (.aload_n 0 : Instr), 1), (100, (.iconst 0 : Instr), 1), (101, (.putfield 66 : Instr), 3), (104, (.aload_n 0 : Instr), 1), (105, (.iconst (-1) : Instr), 1), (106, (.putfield 69 : Instr), 3), (109, (.iconst 0 : Instr), 1), (110, (.istore_n 1 : Instr), 1), (111, (.iload_n 1 : Instr), 1), (112, (.aload_n 0 : Instr), 1), (113, (.getfield 11 : Instr), 3), (116, (.arraylength : Instr), 1), (117, (.if_icmp .ge 22 : Instr), 3), (120, (.aload_n 0 : Instr), 1), (121, (.getfield 11 : Instr), 3), (124, (.iload_n 1 : Instr), 1), (125, (.new 9 : Instr), 3), (128, (.dup : Instr), 1), (129, (.invokespecial 72 : Instr), 3), (132, (.aastore : Instr), 1), (133, (.iinc 1 1 : Instr), 3), (136, (.goto (-25) : Instr), 3), (139, (.iconst 0 : Instr), 1), (140, (.istore_n 1 : Instr), 1), (141, (.iload_n 1 : Instr), 1), (142, (.aload_n 0 : Instr), 1), (143, (.getfield 31 : Instr), 3), (146, (.arraylength : Instr), 1), (147, (.if_icmp .ge 22 : Instr), 3), (150, (.aload_n 0 : Instr), 1), (151, (.getfield 31 : Instr), 3), (154, (.iload_n 1 : Instr), 1), (155, (.new 29 : Instr), 3)] : List (Nat × Instr × Nat)).all (fun q => decide (decode cX8_init q.1 = .ok (q.2.1, q.2.2))) = true := by decide +kernel
theorem dX8_init_0 : decode cX8_init 0 = .ok (.aload_n 0, 1) := all_d dX8_init_all0 0 rfl
theorem dX8_init_1 : decode cX8_init 1 = .ok (.invokespecial 3, 3) := all_d dX8_init_all0 1 rfl
theorem dX8_init_4 : decode cX8_init 4 = .ok (.aload_n 0, 1) := all_d dX8_init_all0 2 rfl
theorem dX8_init_5 : decode cX8_init 5 = .ok (.bipush 8, 2) := all_d dX8_init_all0 3 rfl
theorem dX8_init_7 : decode cX8_init 7 = .ok (.anewarray 9, 3) := all_d dX8_init_all0 4 rfl
theorem dX8_init_10 : decode cX8_init 10 = .ok (.putfield 11, 3) := all_d dX8_init_all0 5 rfl
theorem dX8_init_13 : decode cX8_init 13 = .ok (.aload_n 0, 1) := all_d dX8_init_all0 6 rfl
theorem dX8_init_14 : decode cX8_init 14 = .ok (.new 15, 3) := all_d dX8_init_all0 7 rfl
theorem dX8_init_17 : decode cX8_init 17 = .ok (.dup, 1) := all_d dX8_init_all0 8 rfl
theorem dX8_init_18 : decode cX8_init 18 = .ok (.invokespecial 17, 3) := all_d dX8_init_all0 9 rfl
theorem dX8_init_21 : decode cX8_init 21 = .ok (.putfield 18, 3) := all_d dX8_init_all0 10 rfl
theorem dX8_init_24 : decode cX8_init 24 = .ok (.aload_n 0, 1) := all_d dX8_init_all0 11 rfl
theorem dX8_init_25 : decode cX8_init 25 = .ok (.new 22, 3) := all_d dX8_init_all0 12 rfl
theorem dX8_init_28 : decode cX8_init 28 = .ok (.dup, 1) := all_d dX8_init_all0 13 rfl
theorem dX8_init_29 : decode cX8_init 29 = .ok (.invokespecial 24, 3) := all_d dX8_init_all0 14 rfl
theorem dX8_init_32 : decode cX8_init 32 = .ok (.putfield 25, 3) := all_d dX8_init_all0 15 rfl
theorem dX8_init_35 : decode cX8_init 35 = .ok (.aload_n 0, 1) := all_d dX8_init_all0 16 rfl
theorem dX8_init_36 : decode cX8_init 36 = .ok (.bipush 10, 2) := all_d dX8_init_all0 17 rfl
theorem dX8_init_38 : decode cX8_init 38 = .ok (.anewarray 29, 3) := all_d dX8_init_all0 18 rfl
theorem dX8_init_41 : decode cX8_init 41 = .ok (.putfield 31, 3) := all_d dX8_init_all0 19 rfl
theorem dX8_init_44 : decode cX8_init 44 = .ok (.aload_n 0, 1) := all_d dX8_init_all0 20 rfl
theorem dX8_init_45 : decode cX8_init 45 = .ok (.bipush 10, 2) := all_d dX8_init_all0 21 rfl
theorem dX8_init_47 : decode cX8_init 47 = .ok (.newarray .int, 2) := all_d dX8_init_all0 22 rfl
theorem dX8_init_49 : decode cX8_init 49 = .ok (.putfield 35, 3) := all_d dX8_init_all0 23 rfl
theorem dX8_init_52 : decode cX8_init 52 = .ok (.aload_n 0, 1) := all_d dX8_init_all0 24 rfl
theorem dX8_init_53 : decode cX8_init 53 = .ok (.bipush 10, 2) := all_d dX8_init_all0 25 rfl
theorem dX8_init_55 : decode cX8_init 55 = .ok (.newarray .int, 2) := all_d dX8_init_all0 26 rfl
theorem dX8_init_57 : decode cX8_init 57 = .ok (.putfield 39, 3) := all_d dX8_init_all0 27 rfl
theorem dX8_init_60 : decode cX8_init 60 = .ok (.aload_n 0, 1) := all_d dX8_init_all0 28 rfl
theorem dX8_init_61 : decode cX8_init 61 = .ok (.new 42, 3) := all_d dX8_init_all0 29 rfl
theorem dX8_init_64 : decode cX8_init 64 = .ok (.dup, 1) := all_d dX8_init_all0 30 rfl
theorem dX8_init_65 : decode cX8_init 65 = .ok (.invokespecial 44, 3) := all_d dX8_init_all0 31 rfl
theorem dX8_init_68 : decode cX8_init 68 = .ok (.putfield 45, 3) := all_d dX8_init_all0 32 rfl
theorem dX8_init_71 : decode cX8_init 71 = .ok (.aload_n 0, 1) := all_d dX8_init_all0 33 rfl
theorem dX8_init_72 : decode cX8_init 72 = .ok (.new 49, 3) := all_d dX8_init_all0 34 rfl
theorem dX8_init_75 : decode cX8_init 75 = .ok (.dup, 1) := all_d dX8_init_all0 35 rfl
theorem dX8_init_76 : decode cX8_init 76 = .ok (.invokespecial 51, 3) := all_d dX8_init_all0 36 rfl
theorem dX8_init_79 : decode cX8_init 79 = .ok (.putfield 52, 3) := all_d dX8_init_all0 37 rfl
theorem dX8_init_82 : decode cX8_init 82 = .ok (.aload_n 0, 1) := all_d dX8_init_all0 38 rfl
theorem dX8_init_83 : decode cX8_init 83 = .ok (.sipush 255, 3) := all_d dX8_init_all0 39 rfl
theorem dX8_init_86 : decode cX8_init 86 = .ok (.putfield 56, 3) := all_d dX8_init_all0 40 rfl
theorem dX8_init_89 : decode cX8_init 89 = .ok (.aload_n 0, 1) := all_d dX8_init_all0 41 rfl
theorem dX8_init_90 : decode cX8_init 90 = .ok (.iconst 0, 1) := all_d dX8_init_all0 42 rfl
theorem dX8_init_91 : decode cX8_init 91 = .ok (.putfield 60, 3) := all_d dX8_init_all0 43 rfl
theorem dX8_init_94 : decode cX8_init 94 = .ok (.aload_n 0, 1) := all_d dX8_init_all0 44 rfl
theorem dX8_init_95 : decode cX8_init 95 = .ok (.iconst 0, 1) := all_d dX8_init_all0 45 rfl
theorem dX8_init_96 : decode cX8_init 96 = .ok (.putfield 63, 3) := all_d dX8_init_all0 46 rfl
theorem dX8_init_99 : decode cX8_init 99 = .ok (.aload_n 0, 1) := all_d dX8_init_all0 47 rfl
theorem dX8_init_100 : decode cX8_init 100 = .ok (.iconst 0, 1) := all_d dX8_init_all0 48 rfl
theorem dX8_init_101 : decode cX8_init 101 = .ok (.putfield 66, 3) := all_d dX8_init_all0 49 rfl
theorem dX8_init_104 : decode cX8_init 104 = .ok (.aload_n 0, 1) := all_d dX8_init_all0 50 rfl
theorem dX8_init_105 : decode cX8_init 105 = .ok (.iconst (-1), 1) := all_d dX8_init_all0 51 rfl
theorem dX8_init_106 : decode cX8_init 106 = .ok (.putfield 69, 3) := all_d dX8_init_all0 52 rfl
theorem dX8_init_109 : decode cX8_init 109 = .ok (.iconst 0, 1) := all_d dX8_init_all0 53 rfl
theorem dX8_init_110 : decode cX8_init 110 = .ok (.istore_n 1, 1) := all_d dX8_init_all0 54 rfl
theorem dX8_init_111 : decode cX8_init 111 = .ok (.iload_n 1, 1) := all_d dX8_init_all0 55 rfl
theorem dX8_init_112 : decode cX8_init 112 = .ok (.aload_n 0, 1) := all_d dX8_init_all0 56 rfl
theorem dX8_init_113 : decode cX8_init 113 = .ok (.getfield 11, 3) := all_d dX8_init_all0 57 rfl
theorem dX8_init_116 : decode cX8_init 116 = .ok (.arraylength, 1) := all_d dX8_init_all0 58 rfl
theorem dX8_init_117 : decode cX8_init 117 = .ok (.if_icmp .ge 22, 3) := all_d dX8_init_all0 59 rfl
theorem dX8_init_120 : decode cX8_init 120 = .ok (.aload_n 0, 1) := all_d dX8_init_all0 60 rfl
theorem dX8_init_121 : decode cX8_init 121 = .ok (.getfield 11, 3) := all_d dX8_init_all0 61 rfl
theorem dX8_init_124 : decode cX8_init 124 = .ok (.iload_n 1, 1) := all_d dX8_init_all0 62 rfl
theorem dX8_init_125 : decode cX8_init 125 = .ok (.new 9, 3) := all_d dX8_init_all0 63 rfl
theorem dX8_init_128 : decode cX8_init 128 = .ok (.dup, 1) := all_d dX8_init_all0 64 rfl
theorem dX8_init_129 : decode cX8_init 129 = .ok (.invokespecial 72, 3) := all_d dX8_init_all0 65 rfl
theorem dX8_init_132 : decode cX8_init 132 = .ok (.aastore, 1) := all_d dX8_init_all0 66 rfl
theorem dX8_init_133 : decode cX8_init 133 = .ok (.iinc 1 1, 3) := all_d dX8_init_all0 67 rfl
theorem dX8_init_136 : decode cX8_init 136 = .ok (.goto (-25), 3) := all_d dX8_init_all0 68 rfl
theorem dX8_init_139 : decode cX8_init 139 = .ok (.iconst 0, 1) := all_d dX8_init_all0 69 rfl
theorem dX8_init_140 : decode cX8_init 140 = .ok (.istore_n 1, 1) := all_d dX8_init_all0 70 rfl
theorem dX8_init_141 : decode cX8_init 141 = .ok (.iload_n 1, 1) := all_d dX8_init_all0 71 rfl
theorem dX8_init_142 : decode cX8_init 142 = .ok (.aload_n 0, 1) := all_d dX8_init_all0 72 rfl
theorem dX8_init_143 : decode cX8_init 143 = .ok (.getfield 31, 3) := all_d dX8_init_all0 73 rfl
theorem dX8_init_146 : decode cX8_init 146 = .ok (.arraylength, 1) := all_d dX8_init_all0 74 rfl
theorem dX8_init_147 : decode cX8_init 147 = .ok (.if_icmp .ge 22, 3) := all_d dX8_init_all0 75 rfl
theorem dX8_init_150 : decode cX8_init 150 = .ok (.aload_n 0, 1) := all_d dX8_init_all0 76 rfl
theorem dX8_init_151 : decode cX8_init 151 = .ok (.getfield 31, 3) := all_d dX8_init_all0 77 rfl
theorem dX8_init_154 : decode cX8_init 154 = .ok (.iload_n 1, 1) := all_d dX8_init_all0 78 rfl
theorem dX8_init_155 : decode cX8_init 155 = .ok (.new 29, 3) := all_d dX8_init_all0 79 rfl
set_option maxRecDepth 100000 in
theorem dX8_init_all1 : ([(158, (.dup : Instr), 1), (159, (.invokespecial 73 : Instr), 3), (162, (.aastore : Instr), 1), (163, (.iinc 1 1 : Instr), 3), (166, (.goto (-25) : Instr), 3), (169, (.return_ : Instr), 1)] : List (Nat × Instr × Nat)).all (fun q => decide (decode cX8_init q.1 = .ok (q.2.1, q.2.2))) = true := by decide +kernel
theorem dX8_init_158 : decode cX8_init 158 = .ok (.dup, 1) := all_d dX8_init_all1 0 rfl
theorem dX8_init_159 : decode cX8_init 159 = .ok (.invokespecial 73, 3) := all_d dX8_init_all1 1 rfl
theorem dX8_init_162 : decode cX8_init 162 = .ok (.aastore, 1) := all_d dX8_init_all1 2 rfl
theorem dX8_init_163 : decode cX8_init 163 = .ok (.iinc 1 1, 3) := all_d dX8_init_all1 3 rfl
theorem dX8_init_166 : decode cX8_init 166 = .ok (.goto (-25), 3) := all_d dX8_init_all1 4 rfl
theorem dX8_init_169 : decode cX8_init 169 = .ok (.return_, 1) := all_d dX8_init_all1 5 rfl
set_option maxRecDepth 100000 in
theorem dX8_range_all0 : ([(0, (.aload_n 0 : Instr), 1), (1, (.iload_n 1 : Instr), 1), (2, (.iconst 1 : Instr), 1), (3, (.if_icmp .lt 10 : Instr), 3), (6, (.iload_n 1 : Instr), 1), (7, (.sipush 4095 : Instr), 3), (10, (.if_icmp .le 7 : Instr), 3), (13, (.iconst 1 : Instr), 1), (14, (.goto 4 : Instr), 3), (17, (.iconst 0 : Instr), 1), (18, (.putfield 66 : Instr), 3), (21, (.aload_n 0 : Instr), 1), (22, (.getfield 66 : Instr), 3), (25, (.ifCond .eq 5 : Instr), 3), (28, (.iconst 0 : Instr), 1), (29, (.ireturn : Instr), 1), (30, (.aload_n 0 : Instr), 1), (31, (.iconst 0 : Instr), 1), (32, (.iconst (-1) : Instr), 1), (33, (.iconst (-1) : Instr), 1), (34, (.invokevirtual 74 : Instr), 3), (37, (.astore_n 2 : Instr), 1), (38, (.aload_n 2 : Instr), 1), (39, (.ifnull 11 : Instr), 3), (42, (.aload_n 2 : Instr), 1), (43, (.aload_n 0 : Instr), 1), (44, (.getfield 56 : Instr), 3), (47, (.putfield 78 : Instr), 3), (50, (.aload_n 0 : Instr), 1), (51, (.iload_n 1 : Instr), 1), (52, (.putfield 56 : Instr), 3), (55, (.iconst 1 : Instr), 1), (56, (.ireturn : Instr), 1)] : List (Nat × Instr × Nat)).all (fun q => decide (decode cX8_range q.1 = .ok (q.2.1, q.2.2))) = true := by decide +kernel
theorem dX8_range_0 : decode cX8_range 0 = .ok (.aload_n 0, 1) := all_d dX8_range_all0 0 rfl
theorem dX8_range_1 : decode cX8_range 1 = .ok (.iload_n 1, 1) := all_d dX8_range_all0 1 rfl
theorem dX8_range_2 : decode cX8_range 2 = .ok (.iconst 1, 1) := all_d dX8_range_all0 2 rfl
theorem dX8_range_3 : decode cX8_range 3 = .ok (.if_icmp .lt 10, 3) := all_d dX8_range_all0 3 rfl
theorem dX8_range_6 : decode cX8_range 6 = .ok (.iload_n 1, 1) := all_d dX8_range_all0 4 rfl
theorem dX8_range_7 : decode cX8_range 7 = .ok (.sipush 4095, 3) := all_d dX8_range_all0 5 rfl
theorem dX8_range_10 : decode cX8_range 10 = .ok (.if_icmp .le 7, 3) := all_d dX8_range_all0 6 rfl
theorem dX8_range_13 : decode cX8_range 13 = .ok (.iconst 1, 1) := all_d dX8_range_all0 7 rfl
theorem dX8_range_14 : decode cX8_range 14 = .ok (.goto 4, 3) := all_d dX8_range_all0 8 rfl
theorem dX8_range_17 : decode cX8_range 17 = .ok (.iconst 0, 1) := all_d dX8_range_all0 9 rfl
theorem dX8_range_18 : decode cX8_range 18 = .ok (.putfield 66, 3) := all_d dX8_range_all0 10 rfl
theorem dX8_range_21 : decode cX8_range 21 = .ok (.aload_n 0, 1) := all_d dX8_range_all0 11 rfl
theorem dX8_range_22 : decode cX8_range 22 = .ok (.getfield 66, 3) := all_d dX8_range_all0 12 rfl
theorem dX8_range_25 : decode cX8_range 25 = .ok (.ifCond .eq 5, 3) := all_d dX8_range_all0 13 rfl
theorem dX8_range_28 : decode cX8_range 28 = .ok (.iconst 0, 1) := all_d dX8_range_all0 14 rfl
theorem dX8_range_29 : decode cX8_range 29 = .ok (.ireturn, 1) := all_d dX8_range_all0 15 rfl
theorem dX8_range_30 : decode cX8_range 30 = .ok (.aload_n 0, 1) := all_d dX8_range_all0 16 rfl
theorem dX8_range_31 : decode cX8_range 31 = .ok (.iconst 0, 1) := all_d dX8_range_all0 17 rfl
theorem dX8_range_32 : decode cX8_range 32 = .ok (.iconst (-1), 1) := all_d dX8_range_all0 18 rfl
theorem dX8_range_33 : decode cX8_range 33 = .ok (.iconst (-1), 1) := all_d dX8_range_all0 19 rfl
theorem dX8_range_34 : decode cX8_range 34 = .ok (.invokevirtual 74, 3) := all_d dX8_range_all0 20 rfl
theorem dX8_range_37 : decode cX8_range 37 = .ok (.astore_n 2, 1) := all_d dX8_range_all0 21 rfl
theorem dX8_range_38 : decode cX8_range 38 = .ok (.aload_n 2, 1) := all_d dX8_range_all0 22 rfl
theorem dX8_range_39 : decode cX8_range 39 = .ok (.ifnull 11, 3) := all_d dX8_range_all0 23 rfl
theorem dX8_range_42 : decode cX8_range 42 = .ok (.aload_n 2, 1) := all_d dX8_range_all0 24 rfl
theorem dX8_range_43 : decode cX8_range 43 = .ok (.aload_n 0, 1) := all_d dX8_range_all0 25 rfl
theorem dX8_range_44 : decode cX8_range 44 = .ok (.getfield 56, 3) := all_d dX8_range_all0 26 rfl
theorem dX8_range_47 : decode cX8_range 47 = .ok (.putfield 78, 3) := all_d dX8_range_all0 27 rfl
theorem dX8_range_50 : decode cX8_range 50 = .ok (.aload_n 0, 1) := all_d dX8_range_all0 28 rfl
theorem dX8_range_51 : decode cX8_range 51 = .ok (.iload_n 1, 1) := all_d dX8_range_all0 29 rfl
theorem dX8_range_52 : decode cX8_range 52 = .ok (.putfield 56, 3) := all_d dX8_range_all0 30 rfl
theorem dX8_range_55 : decode cX8_range 55 = .ok (.iconst 1, 1) := all_d dX8_range_all0 31 rfl
theorem dX8_range_56 : decode cX8_range 56 = .ok (.ireturn, 1) := all_d dX8_range_all0 32 rfl
set_option maxRecDepth 100000 in
theorem dX8_meter_all0 : ([(0, (.aload_n 0 : Instr), 1), (1, (.iload_n 1 : Instr), 1), (2, (.ifCond .lt 8 : Instr), 3), (5, (.iload_n 1 : Instr), 1), (6, (.iconst 4 : Instr), 1), (7, (.if_icmp .le 7 : Instr), 3), (10, (.iconst 1 : Instr), 1), (11, (.goto 17 : Instr), 3), (14, (.aload_n 0 : Instr), 1), (15, (.getfield 60 : Instr), 3), (18, (.bipush 8 : Instr), 2), (20, (.if_icmp .lt 7 : Instr), 3), (23, (.iconst 3 : Instr), 1), (24, (.goto 4 : Instr), 3), (27, (.iconst 0 : Instr), 1), (28, (.putfield 66 : Instr), 3), (31, (.aload_n 0 : Instr), 1), (32, (.getfield 66 : Instr), 3), (35, (.ifCond .eq 5 : Instr), 3), (38, (.iconst (-1) : Instr), 1), (39, (.ireturn : Instr), 1), (40, (.aload_n 0 : Instr), 1), (41, (.iconst 1 : Instr), 1), (42, (.aload_n 0 : Instr), 1), (43, (.getfield 60 : Instr), 3), (46, (.iconst (-1) : Instr), 1), (47, (.invokevirtual 74 : Instr), 3), (50, (.pop : Instr), 1), (51, (.aload_n 0 : Instr), 1), (52, (.dup : Instr), 1), (53, (.getfield 60 : Instr), 3), (56, (.iconst 1 : Instr), 1), (57, (.iadd : Instr), 1), (58, (.putfield 60 : Instr), 3), (61, (.aload_n 0 : Instr), 1), (62, (.aload_n 0 : Instr), 1), (63, (.getfield 60 : Instr), 3), (66, (.iconst 1 : Instr), 1), (67, (.isub : Instr), 1), (68, (.invokevirtual 83 : Instr), 3), (71, (.astore_n 2 : Instr), 1), (72, (.aload_n 2 : Instr), 1), (73, (.ifnull 8 : Instr), 3), (76, (.aload_n 2 : Instr), 1), (77, (.iload_n 1 : Instr), 1), (78, (.invokevirtual 87 : Instr), 3), (81, (.aload_n 0 : Instr), 1), (82, (.getfield 60 : Instr), 3), (85, (.iconst 1 : Instr), 1), (86, (.isub : Instr), 1), (87, (.ireturn : Instr), 1)] : List (Nat × Instr × Nat)).all (fun q => decide (decode cX8_meter q.1 = .ok (q.2.1, q.2.2))) = true := by decide +kernel
theorem dX8_meter_0 : decode cX8_meter 0 = .ok (.aload_n 0, 1) := all_d dX8_meter_all0 0 rfl
theorem dX8_meter_1 : decode cX8_meter 1 = .ok (.iload_n 1, 1) := all_d dX8_meter_all0 1 rfl
theorem dX8_meter_2 : decode cX8_meter 2 = .ok (.ifCond .lt 8, 3) := all_d dX8_meter_all0 2 rfl
theorem dX8_meter_5 : decode cX8_meter 5 = .ok (.iload_n 1, 1) := all_d dX8_meter_all0 3 rfl
theorem dX8_meter_6 : decode cX8_meter 6 = .ok (.iconst 4, 1) := all_d dX8_meter_all0 4 rfl
theorem dX8_meter_7 : decode cX8_meter 7 = .ok (.if_icmp .le 7, 3) := all_d dX8_meter_all0 5 rfl
theorem dX8_meter_10 : decode cX8_meter 10 = .ok (.iconst 1, 1) := all_d dX8_meter_all0 6 rfl
theorem dX8_meter_11 : decode cX8_meter 11 = .ok (.goto 17, 3) := all_d dX8_meter_all0 7 rfl
theorem dX8_meter_14 : decode cX8_meter 14 = .ok (.aload_n 0, 1) := all_d dX8_meter_all0 8 rfl
theorem dX8_meter_15 : decode cX8_meter 15 = .ok (.getfield 60, 3) := all_d dX8_meter_all0 9 rfl
theorem dX8_meter_18 : decode cX8_meter 18 = .ok (.bipush 8, 2) := all_d dX8_meter_all0 10 rfl
theorem dX8_meter_20 : decode cX8_meter 20 = .ok (.if_icmp .lt 7, 3) := all_d dX8_meter_all0 11 rfl
theorem dX8_meter_23 : decode cX8_meter 23 = .ok (.iconst 3, 1) := all_d dX8_meter_all0 12 rfl
theorem dX8_meter_24 : decode cX8_meter 24 = .ok (.goto 4, 3) := all_d dX8_meter_all0 13 rfl
theorem dX8_meter_27 : decode cX8_meter 27 = .ok (.iconst 0, 1) := all_d dX8_meter_all0 14 rfl
theorem dX8_meter_28 : decode cX8_meter 28 = .ok (.putfield 66, 3) := all_d dX8_meter_all0 15 rfl
theorem dX8_meter_31 : decode cX8_meter 31 = .ok (.aload_n 0, 1) := all_d dX8_meter_all0 16 rfl
theorem dX8_meter_32 : decode cX8_meter 32 = .ok (.getfield 66, 3) := all_d dX8_meter_all0 17 rfl
theorem dX8_meter_35 : decode cX8_meter 35 = .ok (.ifCond .eq 5, 3) := all_d dX8_meter_all0 18 rfl
theorem dX8_meter_38 : decode cX8_meter 38 = .ok (.iconst (-1), 1) := all_d dX8_meter_all0 19 rfl
theorem dX8_meter_39 : decode cX8_meter 39 = .ok (.ireturn, 1) := all_d dX8_meter_all0 20 rfl
theorem dX8_meter_40 : decode cX8_meter 40 = .ok (.aload_n 0, 1) := all_d dX8_meter_all0 21 rfl
theorem dX8_meter_41 : decode cX8_meter 41 = .ok (.iconst 1, 1) := all_d dX8_meter_all0 22 rfl
theorem dX8_meter_42 : decode cX8_meter 42 = .ok (.aload_n 0, 1) := all_d dX8_meter_all0 23 rfl
theorem dX8_meter_43 : decode cX8_meter 43 = .ok (.getfield 60, 3) := all_d dX8_meter_all0 24 rfl
theorem dX8_meter_46 : decode cX8_meter 46 = .ok (.iconst (-1), 1) := all_d dX8_meter_all0 25 rfl
theorem dX8_meter_47 : decode cX8_meter 47 = .ok (.invokevirtual 74, 3) := all_d dX8_meter_all0 26 rfl
theorem dX8_meter_50 : decode cX8_meter 50 = .ok (.pop, 1) := all_d dX8_meter_all0 27 rfl
theorem dX8_meter_51 : decode cX8_meter 51 = .ok (.aload_n 0, 1) := all_d dX8_meter_all0 28 rfl
theorem dX8_meter_52 : decode cX8_meter 52 = .ok (.dup, 1) := all_d dX8_meter_all0 29 rfl
theorem dX8_meter_53 : decode cX8_meter 53 = .ok (.getfield 60, 3) := all_d dX8_meter_all0 30 rfl
theorem dX8_meter_56 : decode cX8_meter 56 = .ok (.iconst 1, 1) := all_d dX8_meter_all0 31 rfl
theorem dX8_meter_57 : decode cX8_meter 57 = .ok (.iadd, 1) := all_d dX8_meter_all0 32 rfl
theorem dX8_meter_58 : decode cX8_meter 58 = .ok (.putfield 60, 3) := all_d dX8_meter_all0 33 rfl
theorem dX8_meter_61 : decode cX8_meter 61 = .ok (.aload_n 0, 1) := all_d dX8_meter_all0 34 rfl
theorem dX8_meter_62 : decode cX8_meter 62 = .ok (.aload_n 0, 1) := all_d dX8_meter_all0 35 rfl
theorem dX8_meter_63 : decode cX8_meter 63 = .ok (.getfield 60, 3) := all_d dX8_meter_all0 36 rfl
theorem dX8_meter_66 : decode cX8_meter 66 = .ok (.iconst 1, 1) := all_d dX8_meter_all0 37 rfl
theorem dX8_meter_67 : decode cX8_meter 67 = .ok (.isub, 1) := all_d dX8_meter_all0 38 rfl
theorem dX8_meter_68 : decode cX8_meter 68 = .ok (.invokevirtual 83, 3) := all_d dX8_meter_all0 39 rfl
theorem dX8_meter_71 : decode cX8_meter 71 = .ok (.astore_n 2, 1) := all_d dX8_meter_all0 40 rfl
theorem dX8_meter_72 : decode cX8_meter 72 = .ok (.aload_n 2, 1) := all_d dX8_meter_all0 41 rfl
theorem dX8_meter_73 : decode cX8_meter 73 = .ok (.ifnull 8, 3) := all_d dX8_meter_all0 42 rfl
theorem dX8_meter_76 : decode cX8_meter 76 = .ok (.aload_n 2, 1) := all_d dX8_meter_all0 43 rfl
theorem dX8_meter_77 : decode cX8_meter 77 = .ok (.iload_n 1, 1) := all_d dX8_meter_all0 44 rfl
theorem dX8_meter_78 : decode cX8_meter 78 = .ok (.invokevirtual 87, 3) := all_d dX8_meter_all0 45 rfl
theorem dX8_meter_81 : decode cX8_meter 81 = .ok (.aload_n 0, 1) := all_d dX8_meter_all0 46 rfl
theorem dX8_meter_82 : decode cX8_meter 82 = .ok (.getfield 60, 3) := all_d dX8_meter_all0 47 rfl
theorem dX8_meter_85 : decode cX8_meter 85 = .ok (.iconst 1, 1) := all_d dX8_meter_all0 48 rfl
theorem dX8_meter_86 : decode cX8_meter 86 = .ok (.isub, 1) := all_d dX8_meter_all0 49 rfl
theorem dX8_meter_87 : decode cX8_meter 87 = .ok (.ireturn, 1) := all_d dX8_meter_all0 50 rfl
set_option maxRecDepth 100000 in
theorem dX8_part_all0 : ([(0, (.aload_n 0 : Instr), 1), (1, (.iload_n 1 : Instr), 1), (2, (.invokevirtual 83 : Instr), 3), (5, (.astore 4 : Instr), 2), (7, (.aload_n 0 : Instr), 1), (8, (.aload 4 : Instr), 2), (10, (.iload_n 2 : Instr), 1), (11, (.iload_n 3 : Instr), 1), (12, (.invokestatic 91 : Instr), 3), (15, (.putfield 66 : Instr), 3), (18, (.aload 4 : Instr), 2), (20, (.ifnull 10 : Instr), 3), (23, (.aload_n 0 : Instr), 1), (24, (.getfield 66 : Instr), 3), (27, (.ifCond .eq 5 : Instr), 3), (30, (.iconst (-1) : Instr), 1), (31, (.ireturn : Instr), 1), (32, (.aload_n 0 : Instr), 1), (33, (.iconst 2 : Instr), 1), (34, (.iload_n 1 : Instr), 1), (35, (.aload 4 : Instr), 2), (37, (.getfield 95 : Instr), 3), (40, (.invokevirtual 74 : Instr), 3), (43, (.astore 5 : Instr), 2), (45, (.aload 5 : Instr), 2), (47, (.ifnull 13 : Instr), 3), (50, (.aload 4 : Instr), 2), (52, (.aload 5 : Instr), 2), (54, (.getfield 98 : Instr), 3), (57, (.invokevirtual 101 : Instr), 3), (60, (.aload 4 : Instr), 2), (62, (.iload_n 2 : Instr), 1), (63, (.iload_n 3 : Instr), 1), (64, (.invokevirtual 105 : Instr), 3), (67, (.aload 4 : Instr), 2), (69, (.getfield 95 : Instr), 3), (72, (.ireturn : Instr), 1)] : List (Nat × Instr × Nat)).all (fun q => decide (decode cX8_part q.1 = .ok (q.2.1, q.2.2))) = true := by decide +kernel
theorem dX8_part_0 : decode cX8_part 0 = .ok (.aload_n 0, 1) := all_d dX8_part_all0 0 rfl
theorem dX8_part_1 : decode cX8_part 1 = .ok (.iload_n 1, 1) := all_d dX8_part_all0 1 rfl
theorem dX8_part_2 : decode cX8_part 2 = .ok (.invokevirtual 83, 3) := all_d dX8_part_all0 2 rfl
theorem dX8_part_5 : decode cX8_part 5 = .ok (.astore 4, 2) := all_d dX8_part_all0 3 rfl
theorem dX8_part_7 : decode cX8_part 7 = .ok (.aload_n 0, 1) := all_d dX8_part_all0 4 rfl
theorem dX8_part_8 : decode cX8_part 8 = .ok (.aload 4, 2) := all_d dX8_part_all0 5 rfl
theorem dX8_part_10 : decode cX8_part 10 = .ok (.iload_n 2, 1) := all_d dX8_part_all0 6 rfl
theorem dX8_part_11 : decode cX8_part 11 = .ok (.iload_n 3, 1) := all_d dX8_part_all0 7 rfl
theorem dX8_part_12 : decode cX8_part 12 = .ok (.invokestatic 91, 3) := all_d dX8_part_all0 8 rfl
theorem dX8_part_15 : decode cX8_part 15 = .ok (.putfield 66, 3) := all_d dX8_part_all0 9 rfl
theorem dX8_part_18 : decode cX8_part 18 = .ok (.aload 4, 2) := all_d dX8_part_all0 10 rfl
theorem dX8_part_20 : decode cX8_part 20 = .ok (.ifnull 10, 3) := all_d dX8_part_all0 11 rfl
theorem dX8_part_23 : decode cX8_part 23 = .ok (.aload_n 0, 1) := all_d dX8_part_all0 12 rfl
theorem dX8_part_24 : decode cX8_part 24 = .ok (.getfield 66, 3) := all_d dX8_part_all0 13 rfl
theorem dX8_part_27 : decode cX8_part 27 = .ok (.ifCond .eq 5, 3) := all_d dX8_part_all0 14 rfl
theorem dX8_part_30 : decode cX8_part 30 = .ok (.iconst (-1), 1) := all_d dX8_part_all0 15 rfl
theorem dX8_part_31 : decode cX8_part 31 = .ok (.ireturn, 1) := all_d dX8_part_all0 16 rfl
theorem dX8_part_32 : decode cX8_part 32 = .ok (.aload_n 0, 1) := all_d dX8_part_all0 17 rfl
theorem dX8_part_33 : decode cX8_part 33 = .ok (.iconst 2, 1) := all_d dX8_part_all0 18 rfl
theorem dX8_part_34 : decode cX8_part 34 = .ok (.iload_n 1, 1) := all_d dX8_part_all0 19 rfl
theorem dX8_part_35 : decode cX8_part 35 = .ok (.aload 4, 2) := all_d dX8_part_all0 20 rfl
theorem dX8_part_37 : decode cX8_part 37 = .ok (.getfield 95, 3) := all_d dX8_part_all0 21 rfl
theorem dX8_part_40 : decode cX8_part 40 = .ok (.invokevirtual 74, 3) := all_d dX8_part_all0 22 rfl
theorem dX8_part_43 : decode cX8_part 43 = .ok (.astore 5, 2) := all_d dX8_part_all0 23 rfl
theorem dX8_part_45 : decode cX8_part 45 = .ok (.aload 5, 2) := all_d dX8_part_all0 24 rfl
theorem dX8_part_47 : decode cX8_part 47 = .ok (.ifnull 13, 3) := all_d dX8_part_all0 25 rfl
theorem dX8_part_50 : decode cX8_part 50 = .ok (.aload 4, 2) := all_d dX8_part_all0 26 rfl
theorem dX8_part_52 : decode cX8_part 52 = .ok (.aload 5, 2) := all_d dX8_part_all0 27 rfl
theorem dX8_part_54 : decode cX8_part 54 = .ok (.getfield 98, 3) := all_d dX8_part_all0 28 rfl
theorem dX8_part_57 : decode cX8_part 57 = .ok (.invokevirtual 101, 3) := all_d dX8_part_all0 29 rfl
theorem dX8_part_60 : decode cX8_part 60 = .ok (.aload 4, 2) := all_d dX8_part_all0 30 rfl
theorem dX8_part_62 : decode cX8_part 62 = .ok (.iload_n 2, 1) := all_d dX8_part_all0 31 rfl
theorem dX8_part_63 : decode cX8_part 63 = .ok (.iload_n 3, 1) := all_d dX8_part_all0 32 rfl
theorem dX8_part_64 : decode cX8_part 64 = .ok (.invokevirtual 105, 3) := all_d dX8_part_all0 33 rfl
theorem dX8_part_67 : decode cX8_part 67 = .ok (.aload 4, 2) := all_d dX8_part_all0 34 rfl
theorem dX8_part_69 : decode cX8_part 69 = .ok (.getfield 95, 3) := all_d dX8_part_all0 35 rfl
theorem dX8_part_72 : decode cX8_part 72 = .ok (.ireturn, 1) := all_d dX8_part_all0 36 rfl
set_option maxRecDepth 100000 in
theorem dX8_miss_all0 : ([(0, (.aload_n 0 : Instr), 1), (1, (.iload_n 1 : Instr), 1), (2, (.iload_n 2 : Instr), 1), (3, (.invokevirtual 109 : Instr), 3), (6, (.astore 4 : Instr), 2), (8, (.aload_n 0 : Instr), 1), (9, (.aload 4 : Instr), 2), (11, (.ifnonnull 7 : Instr), 3), (14, (.iconst 2 : Instr), 1), (15, (.goto 18 : Instr), 3), (18, (.iload_n 3 : Instr), 1), (19, (.sipush 500 : Instr), 3), (22, (.invokestatic 113 : Instr), 3), (25, (.ifCond .eq 7 : Instr), 3), (28, (.iconst 0 : Instr), 1), (29, (.goto 4 : Instr), 3), (32, (.iconst 1 : Instr), 1), (33, (.putfield 66 : Instr), 3), (36, (.aload 4 : Instr), 2), (38, (.ifnull 10 : Instr), 3), (41, (.aload_n 0 : Instr), 1), (42, (.getfield 66 : Instr), 3), (45, (.ifCond .eq 5 : Instr), 3), (48, (.iconst 0 : Instr), 1), (49, (.ireturn : Instr), 1), (50, (.aload_n 0 : Instr), 1), (51, (.iconst 3 : Instr), 1), (52, (.iload_n 1 : Instr), 1), (53, (.iload_n 2 : Instr), 1), (54, (.invokevirtual 74 : Instr), 3), (57, (.astore 5 : Instr), 2), (59, (.aload 5 : Instr), 2), (61, (.ifnull 13 : Instr), 3), (64, (.aload 5 : Instr), 2), (66, (.aload 4 : Instr), 2), (68, (.getfield 117 : Instr), 3), (71, (.putfield 78 : Instr), 3), (74, (.aload 4 : Instr), 2), (76, (.iload_n 3 : Instr), 1), (77, (.putfield 117 : Instr), 3), (80, (.iconst 1 : Instr), 1), (81, (.ireturn : Instr), 1)] : List (Nat × Instr × Nat)).all (fun q => decide (decode cX8_miss q.1 = .ok (q.2.1, q.2.2))) = true := by decide +kernel
theorem dX8_miss_0 : decode cX8_miss 0 = .ok (.aload_n 0, 1) := all_d dX8_miss_all0 0 rfl
theorem dX8_miss_1 : decode cX8_miss 1 = .ok (.iload_n 1, 1) := all_d dX8_miss_all0 1 rfl
theorem dX8_miss_2 : decode cX8_miss 2 = .ok (.iload_n 2, 1) := all_d dX8_miss_all0 2 rfl
theorem dX8_miss_3 : decode cX8_miss 3 = .ok (.invokevirtual 109, 3) := all_d dX8_miss_all0 3 rfl
theorem dX8_miss_6 : decode cX8_miss 6 = .ok (.astore 4, 2) := all_d dX8_miss_all0 4 rfl
theorem dX8_miss_8 : decode cX8_miss 8 = .ok (.aload_n 0, 1) := all_d dX8_miss_all0 5 rfl
theorem dX8_miss_9 : decode cX8_miss 9 = .ok (.aload 4, 2) := all_d dX8_miss_all0 6 rfl
theorem dX8_miss_11 : decode cX8_miss 11 = .ok (.ifnonnull 7, 3) := all_d dX8_miss_all0 7 rfl
theorem dX8_miss_14 : decode cX8_miss 14 = .ok (.iconst 2, 1) := all_d dX8_miss_all0 8 rfl
theorem dX8_miss_15 : decode cX8_miss 15 = .ok (.goto 18, 3) := all_d dX8_miss_all0 9 rfl
theorem dX8_miss_18 : decode cX8_miss 18 = .ok (.iload_n 3, 1) := all_d dX8_miss_all0 10 rfl
theorem dX8_miss_19 : decode cX8_miss 19 = .ok (.sipush 500, 3) := all_d dX8_miss_all0 11 rfl
theorem dX8_miss_22 : decode cX8_miss 22 = .ok (.invokestatic 113, 3) := all_d dX8_miss_all0 12 rfl
theorem dX8_miss_25 : decode cX8_miss 25 = .ok (.ifCond .eq 7, 3) := all_d dX8_miss_all0 13 rfl
theorem dX8_miss_28 : decode cX8_miss 28 = .ok (.iconst 0, 1) := all_d dX8_miss_all0 14 rfl
theorem dX8_miss_29 : decode cX8_miss 29 = .ok (.goto 4, 3) := all_d dX8_miss_all0 15 rfl
theorem dX8_miss_32 : decode cX8_miss 32 = .ok (.iconst 1, 1) := all_d dX8_miss_all0 16 rfl
theorem dX8_miss_33 : decode cX8_miss 33 = .ok (.putfield 66, 3) := all_d dX8_miss_all0 17 rfl
theorem dX8_miss_36 : decode cX8_miss 36 = .ok (.aload 4, 2) := all_d dX8_miss_all0 18 rfl
theorem dX8_miss_38 : decode cX8_miss 38 = .ok (.ifnull 10, 3) := all_d dX8_miss_all0 19 rfl
theorem dX8_miss_41 : decode cX8_miss 41 = .ok (.aload_n 0, 1) := all_d dX8_miss_all0 20 rfl
theorem dX8_miss_42 : decode cX8_miss 42 = .ok (.getfield 66, 3) := all_d dX8_miss_all0 21 rfl
theorem dX8_miss_45 : decode cX8_miss 45 = .ok (.ifCond .eq 5, 3) := all_d dX8_miss_all0 22 rfl
theorem dX8_miss_48 : decode cX8_miss 48 = .ok (.iconst 0, 1) := all_d dX8_miss_all0 23 rfl
theorem dX8_miss_49 : decode cX8_miss 49 = .ok (.ireturn, 1) := all_d dX8_miss_all0 24 rfl
theorem dX8_miss_50 : decode cX8_miss 50 = .ok (.aload_n 0, 1) := all_d dX8_miss_all0 25 rfl
theorem dX8_miss_51 : decode cX8_miss 51 = .ok (.iconst 3, 1) := all_d dX8_miss_all0 26 rfl
theorem dX8_miss_52 : decode cX8_miss 52 = .ok (.iload_n 1, 1) := all_d dX8_miss_all0 27 rfl
theorem dX8_miss_53 : decode cX8_miss 53 = .ok (.iload_n 2, 1) := all_d dX8_miss_all0 28 rfl
theorem dX8_miss_54 : decode cX8_miss 54 = .ok (.invokevirtual 74, 3) := all_d dX8_miss_all0 29 rfl
theorem dX8_miss_57 : decode cX8_miss 57 = .ok (.astore 5, 2) := all_d dX8_miss_all0 30 rfl
theorem dX8_miss_59 : decode cX8_miss 59 = .ok (.aload 5, 2) := all_d dX8_miss_all0 31 rfl
theorem dX8_miss_61 : decode cX8_miss 61 = .ok (.ifnull 13, 3) := all_d dX8_miss_all0 32 rfl
theorem dX8_miss_64 : decode cX8_miss 64 = .ok (.aload 5, 2) := all_d dX8_miss_all0 33 rfl
theorem dX8_miss_66 : decode cX8_miss 66 = .ok (.aload 4, 2) := all_d dX8_miss_all0 34 rfl
theorem dX8_miss_68 : decode cX8_miss 68 = .ok (.getfield 117, 3) := all_d dX8_miss_all0 35 rfl
theorem dX8_miss_71 : decode cX8_miss 71 = .ok (.putfield 78, 3) := all_d dX8_miss_all0 36 rfl
theorem dX8_miss_74 : decode cX8_miss 74 = .ok (.aload 4, 2) := all_d dX8_miss_all0 37 rfl
theorem dX8_miss_76 : decode cX8_miss 76 = .ok (.iload_n 3, 1) := all_d dX8_miss_all0 38 rfl
theorem dX8_miss_77 : decode cX8_miss 77 = .ok (.putfield 117, 3) := all_d dX8_miss_all0 39 rfl
theorem dX8_miss_80 : decode cX8_miss 80 = .ok (.iconst 1, 1) := all_d dX8_miss_all0 40 rfl
theorem dX8_miss_81 : decode cX8_miss 81 = .ok (.ireturn, 1) := all_d dX8_miss_all0 41 rfl
set_option maxRecDepth 100000 in
theorem dX8_worth_all0 : ([(0, (.aload_n 0 : Instr), 1), (1, (.iload_n 1 : Instr), 1), (2, (.invokevirtual 83 : Instr), 3), (5, (.astore 4 : Instr), 2), (7, (.aload_n 0 : Instr), 1), (8, (.iload_n 1 : Instr), 1), (9, (.iload_n 2 : Instr), 1), (10, (.invokevirtual 109 : Instr), 3), (13, (.astore 5 : Instr), 2), (15, (.aload_n 0 : Instr), 1), (16, (.aload 4 : Instr), 2), (18, (.ifnull 8 : Instr), 3), (21, (.aload 5 : Instr), 2), (23, (.ifnonnull 7 : Instr), 3), (26, (.iconst 2 : Instr), 1), (27, (.goto 39 : Instr), 3), (30, (.aload 4 : Instr), 2), (32, (.getfield 122 : Instr), 3), (35, (.ifCond .eq 12 : Instr), 3), (38, (.aload 4 : Instr), 2), (40, (.getfield 122 : Instr), 3), (43, (.iconst 1 : Instr), 1), (44, (.if_icmp .ne 7 : Instr), 3), (47, (.iconst 4 : Instr), 1), (48, (.goto 18 : Instr), 3), (51, (.iload_n 3 : Instr), 1), (52, (.sipush 8000 : Instr), 3), (55, (.invokestatic 113 : Instr), 3), (58, (.ifCond .eq 7 : Instr), 3), (61, (.iconst 0 : Instr), 1), (62, (.goto 4 : Instr), 3), (65, (.iconst 1 : Instr), 1), (66, (.putfield 66 : Instr), 3), (69, (.aload 5 : Instr), 2), (71, (.ifnull 10 : Instr), 3), (74, (.aload_n 0 : Instr), 1), (75, (.getfield 66 : Instr), 3), (78, (.ifCond .eq 5 : Instr), 3), (81, (.iconst 0 : Instr), 1), (82, (.ireturn : Instr), 1), (83, (.aload_n 0 : Instr), 1), (84, (.iconst 4 : Instr), 1), (85, (.iload_n 1 : Instr), 1), (86, (.iload_n 2 : Instr), 1), (87, (.invokevirtual 74 : Instr), 3), (90, (.astore 6 : Instr), 2), (92, (.aload 6 : Instr), 2), (94, (.ifnull 13 : Instr), 3), (97, (.aload 6 : Instr), 2), (99, (.aload 5 : Instr), 2), (101, (.getfield 125 : Instr), 3), (104, (.putfield 78 : Instr), 3), (107, (.aload 5 : Instr), 2), (109, (.iload_n 3 : Instr), 1), (110, (.putfield 125 : Instr), 3), (113, (.iconst 1 : Instr), 1), (114, (.ireturn : Instr), 1)] : List (Nat × Instr × Nat)).all (fun q => decide (decode cX8_worth q.1 = .ok (q.2.1, q.2.2))) = true := by decide +kernel
theorem dX8_worth_0 : decode cX8_worth 0 = .ok (.aload_n 0, 1) := all_d dX8_worth_all0 0 rfl
theorem dX8_worth_1 : decode cX8_worth 1 = .ok (.iload_n 1, 1) := all_d dX8_worth_all0 1 rfl
theorem dX8_worth_2 : decode cX8_worth 2 = .ok (.invokevirtual 83, 3) := all_d dX8_worth_all0 2 rfl
theorem dX8_worth_5 : decode cX8_worth 5 = .ok (.astore 4, 2) := all_d dX8_worth_all0 3 rfl
theorem dX8_worth_7 : decode cX8_worth 7 = .ok (.aload_n 0, 1) := all_d dX8_worth_all0 4 rfl
theorem dX8_worth_8 : decode cX8_worth 8 = .ok (.iload_n 1, 1) := all_d dX8_worth_all0 5 rfl
theorem dX8_worth_9 : decode cX8_worth 9 = .ok (.iload_n 2, 1) := all_d dX8_worth_all0 6 rfl
theorem dX8_worth_10 : decode cX8_worth 10 = .ok (.invokevirtual 109, 3) := all_d dX8_worth_all0 7 rfl
theorem dX8_worth_13 : decode cX8_worth 13 = .ok (.astore 5, 2) := all_d dX8_worth_all0 8 rfl
theorem dX8_worth_15 : decode cX8_worth 15 = .ok (.aload_n 0, 1) := all_d dX8_worth_all0 9 rfl
theorem dX8_worth_16 : decode cX8_worth 16 = .ok (.aload 4, 2) := all_d dX8_worth_all0 10 rfl
theorem dX8_worth_18 : decode cX8_worth 18 = .ok (.ifnull 8, 3) := all_d dX8_worth_all0 11 rfl
theorem dX8_worth_21 : decode cX8_worth 21 = .ok (.aload 5, 2) := all_d dX8_worth_all0 12 rfl
theorem dX8_worth_23 : decode cX8_worth 23 = .ok (.ifnonnull 7, 3) := all_d dX8_worth_all0 13 rfl
theorem dX8_worth_26 : decode cX8_worth 26 = .ok (.iconst 2, 1) := all_d dX8_worth_all0 14 rfl
theorem dX8_worth_27 : decode cX8_worth 27 = .ok (.goto 39, 3) := all_d dX8_worth_all0 15 rfl
theorem dX8_worth_30 : decode cX8_worth 30 = .ok (.aload 4, 2) := all_d dX8_worth_all0 16 rfl
theorem dX8_worth_32 : decode cX8_worth 32 = .ok (.getfield 122, 3) := all_d dX8_worth_all0 17 rfl
theorem dX8_worth_35 : decode cX8_worth 35 = .ok (.ifCond .eq 12, 3) := all_d dX8_worth_all0 18 rfl
theorem dX8_worth_38 : decode cX8_worth 38 = .ok (.aload 4, 2) := all_d dX8_worth_all0 19 rfl
theorem dX8_worth_40 : decode cX8_worth 40 = .ok (.getfield 122, 3) := all_d dX8_worth_all0 20 rfl
theorem dX8_worth_43 : decode cX8_worth 43 = .ok (.iconst 1, 1) := all_d dX8_worth_all0 21 rfl
theorem dX8_worth_44 : decode cX8_worth 44 = .ok (.if_icmp .ne 7, 3) := all_d dX8_worth_all0 22 rfl
theorem dX8_worth_47 : decode cX8_worth 47 = .ok (.iconst 4, 1) := all_d dX8_worth_all0 23 rfl
theorem dX8_worth_48 : decode cX8_worth 48 = .ok (.goto 18, 3) := all_d dX8_worth_all0 24 rfl
theorem dX8_worth_51 : decode cX8_worth 51 = .ok (.iload_n 3, 1) := all_d dX8_worth_all0 25 rfl
theorem dX8_worth_52 : decode cX8_worth 52 = .ok (.sipush 8000, 3) := all_d dX8_worth_all0 26 rfl
theorem dX8_worth_55 : decode cX8_worth 55 = .ok (.invokestatic 113, 3) := all_d dX8_worth_all0 27 rfl
theorem dX8_worth_58 : decode cX8_worth 58 = .ok (.ifCond .eq 7, 3) := all_d dX8_worth_all0 28 rfl
theorem dX8_worth_61 : decode cX8_worth 61 = .ok (.iconst 0, 1) := all_d dX8_worth_all0 29 rfl
theorem dX8_worth_62 : decode cX8_worth 62 = .ok (.goto 4, 3) := all_d dX8_worth_all0 30 rfl
theorem dX8_worth_65 : decode cX8_worth 65 = .ok (.iconst 1, 1) := all_d dX8_worth_all0 31 rfl
theorem dX8_worth_66 : decode cX8_worth 66 = .ok (.putfield 66, 3) := all_d dX8_worth_all0 32 rfl
theorem dX8_worth_69 : decode cX8_worth 69 = .ok (.aload 5, 2) := all_d dX8_worth_all0 33 rfl
theorem dX8_worth_71 : decode cX8_worth 71 = .ok (.ifnull 10, 3) := all_d dX8_worth_all0 34 rfl
theorem dX8_worth_74 : decode cX8_worth 74 = .ok (.aload_n 0, 1) := all_d dX8_worth_all0 35 rfl
theorem dX8_worth_75 : decode cX8_worth 75 = .ok (.getfield 66, 3) := all_d dX8_worth_all0 36 rfl
theorem dX8_worth_78 : decode cX8_worth 78 = .ok (.ifCond .eq 5, 3) := all_d dX8_worth_all0 37 rfl
theorem dX8_worth_81 : decode cX8_worth 81 = .ok (.iconst 0, 1) := all_d dX8_worth_all0 38 rfl
theorem dX8_worth_82 : decode cX8_worth 82 = .ok (.ireturn, 1) := all_d dX8_worth_all0 39 rfl
theorem dX8_worth_83 : decode cX8_worth 83 = .ok (.aload_n 0, 1) := all_d dX8_worth_all0 40 rfl
theorem dX8_worth_84 : decode cX8_worth 84 = .ok (.iconst 4, 1) := all_d dX8_worth_all0 41 rfl
theorem dX8_worth_85 : decode cX8_worth 85 = .ok (.iload_n 1, 1) := all_d dX8_worth_all0 42 rfl
theorem dX8_worth_86 : decode cX8_worth 86 = .ok (.iload_n 2, 1) := all_d dX8_worth_all0 43 rfl
theorem dX8_worth_87 : decode cX8_worth 87 = .ok (.invokevirtual 74, 3) := all_d dX8_worth_all0 44 rfl
theorem dX8_worth_90 : decode cX8_worth 90 = .ok (.astore 6, 2) := all_d dX8_worth_all0 45 rfl
theorem dX8_worth_92 : decode cX8_worth 92 = .ok (.aload 6, 2) := all_d dX8_worth_all0 46 rfl
theorem dX8_worth_94 : decode cX8_worth 94 = .ok (.ifnull 13, 3) := all_d dX8_worth_all0 47 rfl
theorem dX8_worth_97 : decode cX8_worth 97 = .ok (.aload 6, 2) := all_d dX8_worth_all0 48 rfl
theorem dX8_worth_99 : decode cX8_worth 99 = .ok (.aload 5, 2) := all_d dX8_worth_all0 49 rfl
theorem dX8_worth_101 : decode cX8_worth 101 = .ok (.getfield 125, 3) := all_d dX8_worth_all0 50 rfl
theorem dX8_worth_104 : decode cX8_worth 104 = .ok (.putfield 78, 3) := all_d dX8_worth_all0 51 rfl
theorem dX8_worth_107 : decode cX8_worth 107 = .ok (.aload 5, 2) := all_d dX8_worth_all0 52 rfl
theorem dX8_worth_109 : decode cX8_worth 109 = .ok (.iload_n 3, 1) := all_d dX8_worth_all0 53 rfl
theorem dX8_worth_110 : decode cX8_worth 110 = .ok (.putfield 125, 3) := all_d dX8_worth_all0 54 rfl
theorem dX8_worth_113 : decode cX8_worth 113 = .ok (.iconst 1, 1) := all_d dX8_worth_all0 55 rfl
theorem dX8_worth_114 : decode cX8_worth 114 = .ok (.ireturn, 1) := all_d dX8_worth_all0 56 rfl
set_option maxRecDepth 100000 in
theorem dX8_partOf_all0 : ([(0, (.aload_n 0 : Instr), 1), (1, (.iload_n 1 : Instr), 1), (2, (.iload_n 2 : Instr), 1), (3, (.invokevirtual 109 : Instr), 3), (6, (.astore 4 : Instr), 2), (8, (.aload 4 : Instr), 2), (10, (.ifnonnull 7 : Instr), 3), (13, (.sipush (-10000) : Instr), 3), (16, (.ireturn : Instr), 1), (17, (.iload_n 3 : Instr), 1), (18, (.tableswitch 54 0 3 #[30, 36, 42, 48] : Instr), 30), (48, (.aload 4 : Instr), 2), (50, (.getfield 128 : Instr), 3), (53, (.ireturn : Instr), 1), (54, (.aload 4 : Instr), 2), (56, (.getfield 117 : Instr), 3), (59, (.ireturn : Instr), 1), (60, (.aload 4 : Instr), 2), (62, (.getfield 125 : Instr), 3), (65, (.ireturn : Instr), 1), (66, (.aload 4 : Instr), 2), (68, (.getfield 131 : Instr), 3), (71, (.ireturn : Instr), 1), (72, (.sipush (-10000) : Instr), 3), (75, (.ireturn : Instr), 1)] : List (Nat × Instr × Nat)).all (fun q => decide (decode cX8_partOf q.1 = .ok (q.2.1, q.2.2))) = true := by decide +kernel
theorem dX8_partOf_0 : decode cX8_partOf 0 = .ok (.aload_n 0, 1) := all_d dX8_partOf_all0 0 rfl
theorem dX8_partOf_1 : decode cX8_partOf 1 = .ok (.iload_n 1, 1) := all_d dX8_partOf_all0 1 rfl
theorem dX8_partOf_2 : decode cX8_partOf 2 = .ok (.iload_n 2, 1) := all_d dX8_partOf_all0 2 rfl
theorem dX8_partOf_3 : decode cX8_partOf 3 = .ok (.invokevirtual 109, 3) := all_d dX8_partOf_all0 3 rfl
theorem dX8_partOf_6 : decode cX8_partOf 6 = .ok (.astore 4, 2) := all_d dX8_partOf_all0 4 rfl
theorem dX8_partOf_8 : decode cX8_partOf 8 = .ok (.aload 4, 2) := all_d dX8_partOf_all0 5 rfl
theorem dX8_partOf_10 : decode cX8_partOf 10 = .ok (.ifnonnull 7, 3) := all_d dX8_partOf_all0 6 rfl
theorem dX8_partOf_13 : decode cX8_partOf 13 = .ok (.sipush (-10000), 3) := all_d dX8_partOf_all0 7 rfl
theorem dX8_partOf_16 : decode cX8_partOf 16 = .ok (.ireturn, 1) := all_d dX8_partOf_all0 8 rfl
theorem dX8_partOf_17 : decode cX8_partOf 17 = .ok (.iload_n 3, 1) := all_d dX8_partOf_all0 9 rfl
theorem dX8_partOf_18 : decode cX8_partOf 18 = .ok (.tableswitch 54 0 3 #[30, 36, 42, 48], 30) := all_d dX8_partOf_all0 10 rfl
theorem dX8_partOf_48 : decode cX8_partOf 48 = .ok (.aload 4, 2) := all_d dX8_partOf_all0 11 rfl
theorem dX8_partOf_50 : decode cX8_partOf 50 = .ok (.getfield 128, 3) := all_d dX8_partOf_all0 12 rfl
theorem dX8_partOf_53 : decode cX8_partOf 53 = .ok (.ireturn, 1) := all_d dX8_partOf_all0 13 rfl
theorem dX8_partOf_54 : decode cX8_partOf 54 = .ok (.aload 4, 2) := all_d dX8_partOf_all0 14 rfl
theorem dX8_partOf_56 : decode cX8_partOf 56 = .ok (.getfield 117, 3) := all_d dX8_partOf_all0 15 rfl
theorem dX8_partOf_59 : decode cX8_partOf 59 = .ok (.ireturn, 1) := all_d dX8_partOf_all0 16 rfl
theorem dX8_partOf_60 : decode cX8_partOf 60 = .ok (.aload 4, 2) := all_d dX8_partOf_all0 17 rfl
theorem dX8_partOf_62 : decode cX8_partOf 62 = .ok (.getfield 125, 3) := all_d dX8_partOf_all0 18 rfl
theorem dX8_partOf_65 : decode cX8_partOf 65 = .ok (.ireturn, 1) := all_d dX8_partOf_all0 19 rfl
theorem dX8_partOf_66 : decode cX8_partOf 66 = .ok (.aload 4, 2) := all_d dX8_partOf_all0 20 rfl
theorem dX8_partOf_68 : decode cX8_partOf 68 = .ok (.getfield 131, 3) := all_d dX8_partOf_all0 21 rfl
theorem dX8_partOf_71 : decode cX8_partOf 71 = .ok (.ireturn, 1) := all_d dX8_partOf_all0 22 rfl
theorem dX8_partOf_72 : decode cX8_partOf 72 = .ok (.sipush (-10000), 3) := all_d dX8_partOf_all0 23 rfl
theorem dX8_partOf_75 : decode cX8_partOf 75 = .ok (.ireturn, 1) := all_d dX8_partOf_all0 24 rfl
set_option maxRecDepth 100000 in
theorem dX8_kind_all0 : ([(0, (.aload_n 0 : Instr), 1), (1, (.iload_n 1 : Instr), 1), (2, (.invokevirtual 83 : Instr), 3), (5, (.astore_n 3 : Instr), 1), (6, (.aload_n 3 : Instr), 1), (7, (.ifnull 12 : Instr), 3), (10, (.iload_n 2 : Instr), 1), (11, (.ifCond .lt 8 : Instr), 3), (14, (.iload_n 2 : Instr), 1), (15, (.iconst 1 : Instr), 1), (16, (.if_icmp .le 5 : Instr), 3), (19, (.iconst (-1) : Instr), 1), (20, (.ireturn : Instr), 1), (21, (.iload_n 2 : Instr), 1), (22, (.ifCond .ne 10 : Instr), 3), (25, (.aload_n 3 : Instr), 1), (26, (.getfield 122 : Instr), 3), (29, (.goto 7 : Instr), 3), (32, (.aload_n 3 : Instr), 1), (33, (.getfield 95 : Instr), 3), (36, (.ireturn : Instr), 1)] : List (Nat × Instr × Nat)).all (fun q => decide (decode cX8_kind q.1 = .ok (q.2.1, q.2.2))) = true := by decide +kernel
theorem dX8_kind_0 : decode cX8_kind 0 = .ok (.aload_n 0, 1) := all_d dX8_kind_all0 0 rfl
theorem dX8_kind_1 : decode cX8_kind 1 = .ok (.iload_n 1, 1) := all_d dX8_kind_all0 1 rfl
theorem dX8_kind_2 : decode cX8_kind 2 = .ok (.invokevirtual 83, 3) := all_d dX8_kind_all0 2 rfl
theorem dX8_kind_5 : decode cX8_kind 5 = .ok (.astore_n 3, 1) := all_d dX8_kind_all0 3 rfl
theorem dX8_kind_6 : decode cX8_kind 6 = .ok (.aload_n 3, 1) := all_d dX8_kind_all0 4 rfl
theorem dX8_kind_7 : decode cX8_kind 7 = .ok (.ifnull 12, 3) := all_d dX8_kind_all0 5 rfl
theorem dX8_kind_10 : decode cX8_kind 10 = .ok (.iload_n 2, 1) := all_d dX8_kind_all0 6 rfl
theorem dX8_kind_11 : decode cX8_kind 11 = .ok (.ifCond .lt 8, 3) := all_d dX8_kind_all0 7 rfl
theorem dX8_kind_14 : decode cX8_kind 14 = .ok (.iload_n 2, 1) := all_d dX8_kind_all0 8 rfl
theorem dX8_kind_15 : decode cX8_kind 15 = .ok (.iconst 1, 1) := all_d dX8_kind_all0 9 rfl
theorem dX8_kind_16 : decode cX8_kind 16 = .ok (.if_icmp .le 5, 3) := all_d dX8_kind_all0 10 rfl
theorem dX8_kind_19 : decode cX8_kind 19 = .ok (.iconst (-1), 1) := all_d dX8_kind_all0 11 rfl
theorem dX8_kind_20 : decode cX8_kind 20 = .ok (.ireturn, 1) := all_d dX8_kind_all0 12 rfl
theorem dX8_kind_21 : decode cX8_kind 21 = .ok (.iload_n 2, 1) := all_d dX8_kind_all0 13 rfl
theorem dX8_kind_22 : decode cX8_kind 22 = .ok (.ifCond .ne 10, 3) := all_d dX8_kind_all0 14 rfl
theorem dX8_kind_25 : decode cX8_kind 25 = .ok (.aload_n 3, 1) := all_d dX8_kind_all0 15 rfl
theorem dX8_kind_26 : decode cX8_kind 26 = .ok (.getfield 122, 3) := all_d dX8_kind_all0 16 rfl
theorem dX8_kind_29 : decode cX8_kind 29 = .ok (.goto 7, 3) := all_d dX8_kind_all0 17 rfl
theorem dX8_kind_32 : decode cX8_kind 32 = .ok (.aload_n 3, 1) := all_d dX8_kind_all0 18 rfl
theorem dX8_kind_33 : decode cX8_kind 33 = .ok (.getfield 95, 3) := all_d dX8_kind_all0 19 rfl
theorem dX8_kind_36 : decode cX8_kind 36 = .ok (.ireturn, 1) := all_d dX8_kind_all0 20 rfl
set_option maxRecDepth 100000 in
theorem dX8_read_all0 : ([(0, (.aload_n 0 : Instr), 1), (1, (.iload_n 1 : Instr), 1), (2, (.invokevirtual 83 : Instr), 3), (5, (.astore_n 3 : Instr), 1), (6, (.aload_n 3 : Instr), 1), (7, (.ifnull 11 : Instr), 3), (10, (.aload_n 0 : Instr), 1), (11, (.iload_n 2 : Instr), 1), (12, (.invokevirtual 134 : Instr), 3), (15, (.ifCond .ne 8 : Instr), 3), (18, (.ldc 138 : Instr), 2), (20, (.goto 8 : Instr), 3), (23, (.aload_n 3 : Instr), 1), (24, (.iload_n 2 : Instr), 1), (25, (.invokevirtual 139 : Instr), 3), (28, (.ireturn : Instr), 1)] : List (Nat × Instr × Nat)).all (fun q => decide (decode cX8_read q.1 = .ok (q.2.1, q.2.2))) = true := by decide +kernel
theorem dX8_read_0 : decode cX8_read 0 = .ok (.aload_n 0, 1) := all_d dX8_read_all0 0 rfl
theorem dX8_read_1 : decode cX8_read 1 = .ok (.iload_n 1, 1) := all_d dX8_read_all0 1 rfl
theorem dX8_read_2 : decode cX8_read 2 = .ok (.invokevirtual 83, 3) := all_d dX8_read_all0 2 rfl
theorem dX8_read_5 : decode cX8_read 5 = .ok (.astore_n 3, 1) := all_d dX8_read_all0 3 rfl
theorem dX8_read_6 : decode cX8_read 6 = .ok (.aload_n 3, 1) := all_d dX8_read_all0 4 rfl
theorem dX8_read_7 : decode cX8_read 7 = .ok (.ifnull 11, 3) := all_d dX8_read_all0 5 rfl
theorem dX8_read_10 : decode cX8_read 10 = .ok (.aload_n 0, 1) := all_d dX8_read_all0 6 rfl
theorem dX8_read_11 : decode cX8_read 11 = .ok (.iload_n 2, 1) := all_d dX8_read_all0 7 rfl
theorem dX8_read_12 : decode cX8_read 12 = .ok (.invokevirtual 134, 3) := all_d dX8_read_all0 8 rfl
theorem dX8_read_15 : decode cX8_read 15 = .ok (.ifCond .ne 8, 3) := all_d dX8_read_all0 9 rfl
theorem dX8_read_18 : decode cX8_read 18 = .ok (.ldc 138, 2) := all_d dX8_read_all0 10 rfl
theorem dX8_read_20 : decode cX8_read 20 = .ok (.goto 8, 3) := all_d dX8_read_all0 11 rfl
theorem dX8_read_23 : decode cX8_read 23 = .ok (.aload_n 3, 1) := all_d dX8_read_all0 12 rfl
theorem dX8_read_24 : decode cX8_read 24 = .ok (.iload_n 2, 1) := all_d dX8_read_all0 13 rfl
theorem dX8_read_25 : decode cX8_read 25 = .ok (.invokevirtual 139, 3) := all_d dX8_read_all0 14 rfl
theorem dX8_read_28 : decode cX8_read 28 = .ok (.ireturn, 1) := all_d dX8_read_all0 15 rfl
set_option maxRecDepth 100000 in
theorem dX8_trail_all0 : ([(0, (.aload_n 0 : Instr), 1), (1, (.iload_n 1 : Instr), 1), (2, (.invokevirtual 83 : Instr), 3), (5, (.astore_n 3 : Instr), 1), (6, (.aload_n 3 : Instr), 1), (7, (.ifnull 11 : Instr), 3), (10, (.aload_n 0 : Instr), 1), (11, (.iload_n 2 : Instr), 1), (12, (.invokevirtual 134 : Instr), 3), (15, (.ifCond .ne 5 : Instr), 3), (18, (.iconst (-1) : Instr), 1), (19, (.ireturn : Instr), 1), (20, (.aload_n 3 : Instr), 1), (21, (.iload_n 2 : Instr), 1), (22, (.invokevirtual 139 : Instr), 3), (25, (.pop : Instr), 1), (26, (.aload_n 3 : Instr), 1), (27, (.getfield 143 : Instr), 3), (30, (.ireturn : Instr), 1)] : List (Nat × Instr × Nat)).all (fun q => decide (decode cX8_trail q.1 = .ok (q.2.1, q.2.2))) = true := by decide +kernel
theorem dX8_trail_0 : decode cX8_trail 0 = .ok (.aload_n 0, 1) := all_d dX8_trail_all0 0 rfl
theorem dX8_trail_1 : decode cX8_trail 1 = .ok (.iload_n 1, 1) := all_d dX8_trail_all0 1 rfl
theorem dX8_trail_2 : decode cX8_trail 2 = .ok (.invokevirtual 83, 3) := all_d dX8_trail_all0 2 rfl
theorem dX8_trail_5 : decode cX8_trail 5 = .ok (.astore_n 3, 1) := all_d dX8_trail_all0 3 rfl
theorem dX8_trail_6 : decode cX8_trail 6 = .ok (.aload_n 3, 1) := all_d dX8_trail_all0 4 rfl
theorem dX8_trail_7 : decode cX8_trail 7 = .ok (.ifnull 11, 3) := all_d dX8_trail_all0 5 rfl
theorem dX8_trail_10 : decode cX8_trail 10 = .ok (.aload_n 0, 1) := all_d dX8_trail_all0 6 rfl
theorem dX8_trail_11 : decode cX8_trail 11 = .ok (.iload_n 2, 1) := all_d dX8_trail_all0 7 rfl
theorem dX8_trail_12 : decode cX8_trail 12 = .ok (.invokevirtual 134, 3) := all_d dX8_trail_all0 8 rfl
theorem dX8_trail_15 : decode cX8_trail 15 = .ok (.ifCond .ne 5, 3) := all_d dX8_trail_all0 9 rfl
theorem dX8_trail_18 : decode cX8_trail 18 = .ok (.iconst (-1), 1) := all_d dX8_trail_all0 10 rfl
theorem dX8_trail_19 : decode cX8_trail 19 = .ok (.ireturn, 1) := all_d dX8_trail_all0 11 rfl
theorem dX8_trail_20 : decode cX8_trail 20 = .ok (.aload_n 3, 1) := all_d dX8_trail_all0 12 rfl
theorem dX8_trail_21 : decode cX8_trail 21 = .ok (.iload_n 2, 1) := all_d dX8_trail_all0 13 rfl
theorem dX8_trail_22 : decode cX8_trail 22 = .ok (.invokevirtual 139, 3) := all_d dX8_trail_all0 14 rfl
theorem dX8_trail_25 : decode cX8_trail 25 = .ok (.pop, 1) := all_d dX8_trail_all0 15 rfl
theorem dX8_trail_26 : decode cX8_trail 26 = .ok (.aload_n 3, 1) := all_d dX8_trail_all0 16 rfl
theorem dX8_trail_27 : decode cX8_trail 27 = .ok (.getfield 143, 3) := all_d dX8_trail_all0 17 rfl
theorem dX8_trail_30 : decode cX8_trail 30 = .ok (.ireturn, 1) := all_d dX8_trail_all0 18 rfl
set_option maxRecDepth 100000 in
theorem dX8_rest_all0 : ([(0, (.aload_n 0 : Instr), 1), (1, (.iload_n 1 : Instr), 1), (2, (.invokevirtual 83 : Instr), 3), (5, (.astore_n 3 : Instr), 1), (6, (.aload_n 3 : Instr), 1), (7, (.ifnull 11 : Instr), 3), (10, (.aload_n 0 : Instr), 1), (11, (.iload_n 2 : Instr), 1), (12, (.invokevirtual 134 : Instr), 3), (15, (.ifCond .ne 6 : Instr), 3), (18, (.ldc 138 : Instr), 2), (20, (.ireturn : Instr), 1), (21, (.aload_n 3 : Instr), 1), (22, (.iload_n 2 : Instr), 1), (23, (.invokevirtual 139 : Instr), 3), (26, (.pop : Instr), 1), (27, (.aload_n 3 : Instr), 1), (28, (.getfield 146 : Instr), 3), (31, (.ireturn : Instr), 1)] : List (Nat × Instr × Nat)).all (fun q => decide (decode cX8_rest q.1 = .ok (q.2.1, q.2.2))) = true := by decide +kernel
theorem dX8_rest_0 : decode cX8_rest 0 = .ok (.aload_n 0, 1) := all_d dX8_rest_all0 0 rfl
theorem dX8_rest_1 : decode cX8_rest 1 = .ok (.iload_n 1, 1) := all_d dX8_rest_all0 1 rfl
theorem dX8_rest_2 : decode cX8_rest 2 = .ok (.invokevirtual 83, 3) := all_d dX8_rest_all0 2 rfl
theorem dX8_rest_5 : decode cX8_rest 5 = .ok (.astore_n 3, 1) := all_d dX8_rest_all0 3 rfl
theorem dX8_rest_6 : decode cX8_rest 6 = .ok (.aload_n 3, 1) := all_d dX8_rest_all0 4 rfl
theorem dX8_rest_7 : decode cX8_rest 7 = .ok (.ifnull 11, 3) := all_d dX8_rest_all0 5 rfl
theorem dX8_rest_10 : decode cX8_rest 10 = .ok (.aload_n 0, 1) := all_d dX8_rest_all0 6 rfl
theorem dX8_rest_11 : decode cX8_rest 11 = .ok (.iload_n 2, 1) := all_d dX8_rest_all0 7 rfl
theorem dX8_rest_12 : decode cX8_rest 12 = .ok (.invokevirtual 134, 3) := all_d dX8_rest_all0 8 rfl
theorem dX8_rest_15 : decode cX8_rest 15 = .ok (.ifCond .ne 6, 3) := all_d dX8_rest_all0 9 rfl
theorem dX8_rest_18 : decode cX8_rest 18 = .ok (.ldc 138, 2) := all_d dX8_rest_all0 10 rfl
theorem dX8_rest_20 : decode cX8_rest 20 = .ok (.ireturn, 1) := all_d dX8_rest_all0 11 rfl
theorem dX8_rest_21 : decode cX8_rest 21 = .ok (.aload_n 3, 1) := all_d dX8_rest_all0 12 rfl
theorem dX8_rest_22 : decode cX8_rest 22 = .ok (.iload_n 2, 1) := all_d dX8_rest_all0 13 rfl
theorem dX8_rest_23 : decode cX8_rest 23 = .ok (.invokevirtual 139, 3) := all_d dX8_rest_all0 14 rfl
theorem dX8_rest_26 : decode cX8_rest 26 = .ok (.pop, 1) := all_d dX8_rest_all0 15 rfl
theorem dX8_rest_27 : decode cX8_rest 27 = .ok (.aload_n 3, 1) := all_d dX8_rest_all0 16 rfl
theorem dX8_rest_28 : decode cX8_rest 28 = .ok (.getfield 146, 3) := all_d dX8_rest_all0 17 rfl
theorem dX8_rest_31 : decode cX8_rest 31 = .ok (.ireturn, 1) := all_d dX8_rest_all0 18 rfl
set_option maxRecDepth 100000 in
theorem dX8_spans_all0 : ([(0, (.aload_n 0 : Instr), 1), (1, (.iload_n 1 : Instr), 1), (2, (.invokevirtual 149 : Instr), 3), (5, (.ifCond .eq 13 : Instr), 3), (8, (.aload_n 0 : Instr), 1), (9, (.getfield 18 : Instr), 3), (12, (.invokevirtual 152 : Instr), 3), (15, (.goto 4 : Instr), 3), (18, (.iconst (-1) : Instr), 1), (19, (.ireturn : Instr), 1)] : List (Nat × Instr × Nat)).all (fun q => decide (decode cX8_spans q.1 = .ok (q.2.1, q.2.2))) = true := by decide +kernel
theorem dX8_spans_0 : decode cX8_spans 0 = .ok (.aload_n 0, 1) := all_d dX8_spans_all0 0 rfl
theorem dX8_spans_1 : decode cX8_spans 1 = .ok (.iload_n 1, 1) := all_d dX8_spans_all0 1 rfl
theorem dX8_spans_2 : decode cX8_spans 2 = .ok (.invokevirtual 149, 3) := all_d dX8_spans_all0 2 rfl
theorem dX8_spans_5 : decode cX8_spans 5 = .ok (.ifCond .eq 13, 3) := all_d dX8_spans_all0 3 rfl
theorem dX8_spans_8 : decode cX8_spans 8 = .ok (.aload_n 0, 1) := all_d dX8_spans_all0 4 rfl
theorem dX8_spans_9 : decode cX8_spans 9 = .ok (.getfield 18, 3) := all_d dX8_spans_all0 5 rfl
theorem dX8_spans_12 : decode cX8_spans 12 = .ok (.invokevirtual 152, 3) := all_d dX8_spans_all0 6 rfl
theorem dX8_spans_15 : decode cX8_spans 15 = .ok (.goto 4, 3) := all_d dX8_spans_all0 7 rfl
theorem dX8_spans_18 : decode cX8_spans 18 = .ok (.iconst (-1), 1) := all_d dX8_spans_all0 8 rfl
theorem dX8_spans_19 : decode cX8_spans 19 = .ok (.ireturn, 1) := all_d dX8_spans_all0 9 rfl
set_option maxRecDepth 100000 in
theorem dX8_span_all0 : ([(0, (.iload_n 3 : Instr), 1), (1, (.ifCond .lt 16 : Instr), 3), (4, (.iload_n 3 : Instr), 1), (5, (.iconst 2 : Instr), 1), (6, (.if_icmp .gt 11 : Instr), 3), (9, (.aload_n 0 : Instr), 1), (10, (.iload_n 1 : Instr), 1), (11, (.invokevirtual 156 : Instr), 3), (14, (.ifCond .ne 6 : Instr), 3), (17, (.ldc 138 : Instr), 2), (19, (.ireturn : Instr), 1), (20, (.aload_n 0 : Instr), 1), (21, (.getfield 18 : Instr), 3), (24, (.iload_n 2 : Instr), 1), (25, (.invokevirtual 159 : Instr), 3), (28, (.istore 4 : Instr), 2), (30, (.iload 4 : Instr), 2), (32, (.iconst (-1) : Instr), 1), (33, (.if_icmp .ne 6 : Instr), 3), (36, (.ldc 138 : Instr), 2), (38, (.ireturn : Instr), 1), (39, (.iload_n 3 : Instr), 1), (40, (.ifCond .ne 8 : Instr), 3), (43, (.iload 4 : Instr), 2), (45, (.goto 29 : Instr), 3), (48, (.iload_n 3 : Instr), 1), (49, (.iconst 1 : Instr), 1), (50, (.if_icmp .ne 15 : Instr), 3), (53, (.aload_n 0 : Instr), 1), (54, (.getfield 18 : Instr), 3), (57, (.iload 4 : Instr), 2), (59, (.invokevirtual 162 : Instr), 3), (62, (.goto 12 : Instr), 3), (65, (.aload_n 0 : Instr), 1), (66, (.getfield 18 : Instr), 3), (69, (.iload 4 : Instr), 2), (71, (.invokevirtual 165 : Instr), 3), (74, (.ireturn : Instr), 1)] : List (Nat × Instr × Nat)).all (fun q => decide (decode cX8_span q.1 = .ok (q.2.1, q.2.2))) = true := by decide +kernel
theorem dX8_span_0 : decode cX8_span 0 = .ok (.iload_n 3, 1) := all_d dX8_span_all0 0 rfl
theorem dX8_span_1 : decode cX8_span 1 = .ok (.ifCond .lt 16, 3) := all_d dX8_span_all0 1 rfl
theorem dX8_span_4 : decode cX8_span 4 = .ok (.iload_n 3, 1) := all_d dX8_span_all0 2 rfl
theorem dX8_span_5 : decode cX8_span 5 = .ok (.iconst 2, 1) := all_d dX8_span_all0 3 rfl
theorem dX8_span_6 : decode cX8_span 6 = .ok (.if_icmp .gt 11, 3) := all_d dX8_span_all0 4 rfl
theorem dX8_span_9 : decode cX8_span 9 = .ok (.aload_n 0, 1) := all_d dX8_span_all0 5 rfl
theorem dX8_span_10 : decode cX8_span 10 = .ok (.iload_n 1, 1) := all_d dX8_span_all0 6 rfl
theorem dX8_span_11 : decode cX8_span 11 = .ok (.invokevirtual 156, 3) := all_d dX8_span_all0 7 rfl
theorem dX8_span_14 : decode cX8_span 14 = .ok (.ifCond .ne 6, 3) := all_d dX8_span_all0 8 rfl
theorem dX8_span_17 : decode cX8_span 17 = .ok (.ldc 138, 2) := all_d dX8_span_all0 9 rfl
theorem dX8_span_19 : decode cX8_span 19 = .ok (.ireturn, 1) := all_d dX8_span_all0 10 rfl
theorem dX8_span_20 : decode cX8_span 20 = .ok (.aload_n 0, 1) := all_d dX8_span_all0 11 rfl
theorem dX8_span_21 : decode cX8_span 21 = .ok (.getfield 18, 3) := all_d dX8_span_all0 12 rfl
theorem dX8_span_24 : decode cX8_span 24 = .ok (.iload_n 2, 1) := all_d dX8_span_all0 13 rfl
theorem dX8_span_25 : decode cX8_span 25 = .ok (.invokevirtual 159, 3) := all_d dX8_span_all0 14 rfl
theorem dX8_span_28 : decode cX8_span 28 = .ok (.istore 4, 2) := all_d dX8_span_all0 15 rfl
theorem dX8_span_30 : decode cX8_span 30 = .ok (.iload 4, 2) := all_d dX8_span_all0 16 rfl
theorem dX8_span_32 : decode cX8_span 32 = .ok (.iconst (-1), 1) := all_d dX8_span_all0 17 rfl
theorem dX8_span_33 : decode cX8_span 33 = .ok (.if_icmp .ne 6, 3) := all_d dX8_span_all0 18 rfl
theorem dX8_span_36 : decode cX8_span 36 = .ok (.ldc 138, 2) := all_d dX8_span_all0 19 rfl
theorem dX8_span_38 : decode cX8_span 38 = .ok (.ireturn, 1) := all_d dX8_span_all0 20 rfl
theorem dX8_span_39 : decode cX8_span 39 = .ok (.iload_n 3, 1) := all_d dX8_span_all0 21 rfl
theorem dX8_span_40 : decode cX8_span 40 = .ok (.ifCond .ne 8, 3) := all_d dX8_span_all0 22 rfl
theorem dX8_span_43 : decode cX8_span 43 = .ok (.iload 4, 2) := all_d dX8_span_all0 23 rfl
theorem dX8_span_45 : decode cX8_span 45 = .ok (.goto 29, 3) := all_d dX8_span_all0 24 rfl
theorem dX8_span_48 : decode cX8_span 48 = .ok (.iload_n 3, 1) := all_d dX8_span_all0 25 rfl
theorem dX8_span_49 : decode cX8_span 49 = .ok (.iconst 1, 1) := all_d dX8_span_all0 26 rfl
theorem dX8_span_50 : decode cX8_span 50 = .ok (.if_icmp .ne 15, 3) := all_d dX8_span_all0 27 rfl
theorem dX8_span_53 : decode cX8_span 53 = .ok (.aload_n 0, 1) := all_d dX8_span_all0 28 rfl
theorem dX8_span_54 : decode cX8_span 54 = .ok (.getfield 18, 3) := all_d dX8_span_all0 29 rfl
theorem dX8_span_57 : decode cX8_span 57 = .ok (.iload 4, 2) := all_d dX8_span_all0 30 rfl
theorem dX8_span_59 : decode cX8_span 59 = .ok (.invokevirtual 162, 3) := all_d dX8_span_all0 31 rfl
theorem dX8_span_62 : decode cX8_span 62 = .ok (.goto 12, 3) := all_d dX8_span_all0 32 rfl
theorem dX8_span_65 : decode cX8_span 65 = .ok (.aload_n 0, 1) := all_d dX8_span_all0 33 rfl
theorem dX8_span_66 : decode cX8_span 66 = .ok (.getfield 18, 3) := all_d dX8_span_all0 34 rfl
theorem dX8_span_69 : decode cX8_span 69 = .ok (.iload 4, 2) := all_d dX8_span_all0 35 rfl
theorem dX8_span_71 : decode cX8_span 71 = .ok (.invokevirtual 165, 3) := all_d dX8_span_all0 36 rfl
theorem dX8_span_74 : decode cX8_span 74 = .ok (.ireturn, 1) := all_d dX8_span_all0 37 rfl
set_option maxRecDepth 100000 in
theorem dX8_codes_all0 : ([(0, (.aload_n 0 : Instr), 1), (1, (.iload_n 1 : Instr), 1), (2, (.invokevirtual 149 : Instr), 3), (5, (.ifCond .eq 15 : Instr), 3), (8, (.aload_n 0 : Instr), 1), (9, (.getfield 18 : Instr), 3), (12, (.ldc 168 : Instr), 2), (14, (.invokevirtual 169 : Instr), 3), (17, (.goto 4 : Instr), 3), (20, (.iconst (-1) : Instr), 1), (21, (.ireturn : Instr), 1)] : List (Nat × Instr × Nat)).all (fun q => decide (decode cX8_codes q.1 = .ok (q.2.1, q.2.2))) = true := by decide +kernel
theorem dX8_codes_0 : decode cX8_codes 0 = .ok (.aload_n 0, 1) := all_d dX8_codes_all0 0 rfl
theorem dX8_codes_1 : decode cX8_codes 1 = .ok (.iload_n 1, 1) := all_d dX8_codes_all0 1 rfl
theorem dX8_codes_2 : decode cX8_codes 2 = .ok (.invokevirtual 149, 3) := all_d dX8_codes_all0 2 rfl
theorem dX8_codes_5 : decode cX8_codes 5 = .ok (.ifCond .eq 15, 3) := all_d dX8_codes_all0 3 rfl
theorem dX8_codes_8 : decode cX8_codes 8 = .ok (.aload_n 0, 1) := all_d dX8_codes_all0 4 rfl
theorem dX8_codes_9 : decode cX8_codes 9 = .ok (.getfield 18, 3) := all_d dX8_codes_all0 5 rfl
theorem dX8_codes_12 : decode cX8_codes 12 = .ok (.ldc 168, 2) := all_d dX8_codes_all0 6 rfl
theorem dX8_codes_14 : decode cX8_codes 14 = .ok (.invokevirtual 169, 3) := all_d dX8_codes_all0 7 rfl
theorem dX8_codes_17 : decode cX8_codes 17 = .ok (.goto 4, 3) := all_d dX8_codes_all0 8 rfl
theorem dX8_codes_20 : decode cX8_codes 20 = .ok (.iconst (-1), 1) := all_d dX8_codes_all0 9 rfl
theorem dX8_codes_21 : decode cX8_codes 21 = .ok (.ireturn, 1) := all_d dX8_codes_all0 10 rfl
set_option maxRecDepth 100000 in
theorem dX8_lacks_all0 : ([(0, (.aload_n 0 : Instr), 1), (1, (.iload_n 1 : Instr), 1), (2, (.invokevirtual 149 : Instr), 3), (5, (.ifCond .ne 5 : Instr), 3), (8, (.iconst (-1) : Instr), 1), (9, (.ireturn : Instr), 1), (10, (.iconst 0 : Instr), 1), (11, (.aload_n 0 : Instr), 1), (12, (.getfield 18 : Instr), 3), (15, (.invokevirtual 172 : Instr), 3), (18, (.iconst 1 : Instr), 1), (19, (.iadd : Instr), 1), (20, (.invokestatic 175 : Instr), 3), (23, (.aload_n 0 : Instr), 1), (24, (.getfield 18 : Instr), 3), (27, (.iconst 0 : Instr), 1), (28, (.invokevirtual 169 : Instr), 3), (31, (.isub : Instr), 1), (32, (.ireturn : Instr), 1)] : List (Nat × Instr × Nat)).all (fun q => decide (decode cX8_lacks q.1 = .ok (q.2.1, q.2.2))) = true := by decide +kernel
theorem dX8_lacks_0 : decode cX8_lacks 0 = .ok (.aload_n 0, 1) := all_d dX8_lacks_all0 0 rfl
theorem dX8_lacks_1 : decode cX8_lacks 1 = .ok (.iload_n 1, 1) := all_d dX8_lacks_all0 1 rfl
theorem dX8_lacks_2 : decode cX8_lacks 2 = .ok (.invokevirtual 149, 3) := all_d dX8_lacks_all0 2 rfl
theorem dX8_lacks_5 : decode cX8_lacks 5 = .ok (.ifCond .ne 5, 3) := all_d dX8_lacks_all0 3 rfl
theorem dX8_lacks_8 : decode cX8_lacks 8 = .ok (.iconst (-1), 1) := all_d dX8_lacks_all0 4 rfl
theorem dX8_lacks_9 : decode cX8_lacks 9 = .ok (.ireturn, 1) := all_d dX8_lacks_all0 5 rfl
theorem dX8_lacks_10 : decode cX8_lacks 10 = .ok (.iconst 0, 1) := all_d dX8_lacks_all0 6 rfl
theorem dX8_lacks_11 : decode cX8_lacks 11 = .ok (.aload_n 0, 1) := all_d dX8_lacks_all0 7 rfl
theorem dX8_lacks_12 : decode cX8_lacks 12 = .ok (.getfield 18, 3) := all_d dX8_lacks_all0 8 rfl
theorem dX8_lacks_15 : decode cX8_lacks 15 = .ok (.invokevirtual 172, 3) := all_d dX8_lacks_all0 9 rfl
theorem dX8_lacks_18 : decode cX8_lacks 18 = .ok (.iconst 1, 1) := all_d dX8_lacks_all0 10 rfl
theorem dX8_lacks_19 : decode cX8_lacks 19 = .ok (.iadd, 1) := all_d dX8_lacks_all0 11 rfl
theorem dX8_lacks_20 : decode cX8_lacks 20 = .ok (.invokestatic 175, 3) := all_d dX8_lacks_all0 12 rfl
theorem dX8_lacks_23 : decode cX8_lacks 23 = .ok (.aload_n 0, 1) := all_d dX8_lacks_all0 13 rfl
theorem dX8_lacks_24 : decode cX8_lacks 24 = .ok (.getfield 18, 3) := all_d dX8_lacks_all0 14 rfl
theorem dX8_lacks_27 : decode cX8_lacks 27 = .ok (.iconst 0, 1) := all_d dX8_lacks_all0 15 rfl
theorem dX8_lacks_28 : decode cX8_lacks 28 = .ok (.invokevirtual 169, 3) := all_d dX8_lacks_all0 16 rfl
theorem dX8_lacks_31 : decode cX8_lacks 31 = .ok (.isub, 1) := all_d dX8_lacks_all0 17 rfl
theorem dX8_lacks_32 : decode cX8_lacks 32 = .ok (.ireturn, 1) := all_d dX8_lacks_all0 18 rfl
set_option maxRecDepth 100000 in
theorem dX8_back_all0 : ([(0, (.aload_n 0 : Instr), 1), (1, (.iload_n 1 : Instr), 1), (2, (.invokevirtual 149 : Instr), 3), (5, (.ifCond .eq 13 : Instr), 3), (8, (.aload_n 0 : Instr), 1), (9, (.getfield 18 : Instr), 3), (12, (.invokevirtual 181 : Instr), 3), (15, (.goto 4 : Instr), 3), (18, (.iconst (-1) : Instr), 1), (19, (.ireturn : Instr), 1)] : List (Nat × Instr × Nat)).all (fun q => decide (decode cX8_back q.1 = .ok (q.2.1, q.2.2))) = true := by decide +kernel
theorem dX8_back_0 : decode cX8_back 0 = .ok (.aload_n 0, 1) := all_d dX8_back_all0 0 rfl
theorem dX8_back_1 : decode cX8_back 1 = .ok (.iload_n 1, 1) := all_d dX8_back_all0 1 rfl
theorem dX8_back_2 : decode cX8_back 2 = .ok (.invokevirtual 149, 3) := all_d dX8_back_all0 2 rfl
theorem dX8_back_5 : decode cX8_back 5 = .ok (.ifCond .eq 13, 3) := all_d dX8_back_all0 3 rfl
theorem dX8_back_8 : decode cX8_back 8 = .ok (.aload_n 0, 1) := all_d dX8_back_all0 4 rfl
theorem dX8_back_9 : decode cX8_back 9 = .ok (.getfield 18, 3) := all_d dX8_back_all0 5 rfl
theorem dX8_back_12 : decode cX8_back 12 = .ok (.invokevirtual 181, 3) := all_d dX8_back_all0 6 rfl
theorem dX8_back_15 : decode cX8_back 15 = .ok (.goto 4, 3) := all_d dX8_back_all0 7 rfl
theorem dX8_back_18 : decode cX8_back 18 = .ok (.iconst (-1), 1) := all_d dX8_back_all0 8 rfl
theorem dX8_back_19 : decode cX8_back 19 = .ok (.ireturn, 1) := all_d dX8_back_all0 9 rfl
set_option maxRecDepth 100000 in
theorem dX8_widest_all0 : ([(0, (.aload_n 0 : Instr), 1), (1, (.iload_n 1 : Instr), 1), (2, (.invokevirtual 149 : Instr), 3), (5, (.ifCond .eq 13 : Instr), 3), (8, (.aload_n 0 : Instr), 1), (9, (.getfield 18 : Instr), 3), (12, (.invokevirtual 184 : Instr), 3), (15, (.goto 4 : Instr), 3), (18, (.iconst (-1) : Instr), 1), (19, (.ireturn : Instr), 1)] : List (Nat × Instr × Nat)).all (fun q => decide (decode cX8_widest q.1 = .ok (q.2.1, q.2.2))) = true := by decide +kernel
theorem dX8_widest_0 : decode cX8_widest 0 = .ok (.aload_n 0, 1) := all_d dX8_widest_all0 0 rfl
theorem dX8_widest_1 : decode cX8_widest 1 = .ok (.iload_n 1, 1) := all_d dX8_widest_all0 1 rfl
theorem dX8_widest_2 : decode cX8_widest 2 = .ok (.invokevirtual 149, 3) := all_d dX8_widest_all0 2 rfl
theorem dX8_widest_5 : decode cX8_widest 5 = .ok (.ifCond .eq 13, 3) := all_d dX8_widest_all0 3 rfl
theorem dX8_widest_8 : decode cX8_widest 8 = .ok (.aload_n 0, 1) := all_d dX8_widest_all0 4 rfl
theorem dX8_widest_9 : decode cX8_widest 9 = .ok (.getfield 18, 3) := all_d dX8_widest_all0 5 rfl
theorem dX8_widest_12 : decode cX8_widest 12 = .ok (.invokevirtual 184, 3) := all_d dX8_widest_all0 6 rfl
theorem dX8_widest_15 : decode cX8_widest 15 = .ok (.goto 4, 3) := all_d dX8_widest_all0 7 rfl
theorem dX8_widest_18 : decode cX8_widest 18 = .ok (.iconst (-1), 1) := all_d dX8_widest_all0 8 rfl
theorem dX8_widest_19 : decode cX8_widest 19 = .ok (.ireturn, 1) := all_d dX8_widest_all0 9 rfl
set_option maxRecDepth 100000 in
theorem dX8_edge_all0 : ([(0, (.aload_n 0 : Instr), 1), (1, (.iload_n 1 : Instr), 1), (2, (.invokevirtual 149 : Instr), 3), (5, (.ifCond .eq 14 : Instr), 3), (8, (.aload_n 0 : Instr), 1), (9, (.getfield 18 : Instr), 3), (12, (.iload_n 2 : Instr), 1), (13, (.invokevirtual 187 : Instr), 3), (16, (.goto 4 : Instr), 3), (19, (.iconst (-1) : Instr), 1), (20, (.ireturn : Instr), 1)] : List (Nat × Instr × Nat)).all (fun q => decide (decode cX8_edge q.1 = .ok (q.2.1, q.2.2))) = true := by decide +kernel
theorem dX8_edge_0 : decode cX8_edge 0 = .ok (.aload_n 0, 1) := all_d dX8_edge_all0 0 rfl
theorem dX8_edge_1 : decode cX8_edge 1 = .ok (.iload_n 1, 1) := all_d dX8_edge_all0 1 rfl
theorem dX8_edge_2 : decode cX8_edge 2 = .ok (.invokevirtual 149, 3) := all_d dX8_edge_all0 2 rfl
theorem dX8_edge_5 : decode cX8_edge 5 = .ok (.ifCond .eq 14, 3) := all_d dX8_edge_all0 3 rfl
theorem dX8_edge_8 : decode cX8_edge 8 = .ok (.aload_n 0, 1) := all_d dX8_edge_all0 4 rfl
theorem dX8_edge_9 : decode cX8_edge 9 = .ok (.getfield 18, 3) := all_d dX8_edge_all0 5 rfl
theorem dX8_edge_12 : decode cX8_edge 12 = .ok (.iload_n 2, 1) := all_d dX8_edge_all0 6 rfl
theorem dX8_edge_13 : decode cX8_edge 13 = .ok (.invokevirtual 187, 3) := all_d dX8_edge_all0 7 rfl
theorem dX8_edge_16 : decode cX8_edge 16 = .ok (.goto 4, 3) := all_d dX8_edge_all0 8 rfl
theorem dX8_edge_19 : decode cX8_edge 19 = .ok (.iconst (-1), 1) := all_d dX8_edge_all0 9 rfl
theorem dX8_edge_20 : decode cX8_edge 20 = .ok (.ireturn, 1) := all_d dX8_edge_all0 10 rfl
set_option maxRecDepth 100000 in
theorem dX8_line_all0 : ([(0, (.aload_n 0 : Instr), 1), (1, (.iload_n 1 : Instr), 1), (2, (.invokevirtual 149 : Instr), 3), (5, (.ifCond .ne 5 : Instr), 3), (8, (.iconst (-1) : Instr), 1), (9, (.ireturn : Instr), 1), (10, (.aload_n 0 : Instr), 1), (11, (.getfield 18 : Instr), 3), (14, (.invokevirtual 172 : Instr), 3), (17, (.istore_n 3 : Instr), 1), (18, (.aload_n 0 : Instr), 1), (19, (.iload_n 2 : Instr), 1), (20, (.ifCond .lt 8 : Instr), 3), (23, (.iload_n 2 : Instr), 1), (24, (.iconst 1 : Instr), 1), (25, (.if_icmp .le 7 : Instr), 3), (28, (.iconst 1 : Instr), 1), (29, (.goto 25 : Instr), 3), (32, (.iload_n 3 : Instr), 1), (33, (.iconst 2 : Instr), 1), (34, (.if_icmp .lt 15 : Instr), 3), (37, (.aload_n 0 : Instr), 1), (38, (.getfield 18 : Instr), 3), (41, (.invokevirtual 181 : Instr), 3), (44, (.bipush (-2) : Instr), 2), (46, (.if_icmp .eq 7 : Instr), 3), (49, (.iconst 5 : Instr), 1), (50, (.goto 4 : Instr), 3), (53, (.iconst 0 : Instr), 1), (54, (.putfield 66 : Instr), 3), (57, (.aload_n 0 : Instr), 1), (58, (.getfield 66 : Instr), 3), (61, (.ifCond .ne 24 : Instr), 3), (64, (.aload_n 0 : Instr), 1), (65, (.getfield 18 : Instr), 3), (68, (.iload_n 3 : Instr), 1), (69, (.iload_n 2 : Instr), 1), (70, (.iconst 1 : Instr), 1), (71, (.if_icmp .ne 7 : Instr), 3), (74, (.iconst 1 : Instr), 1), (75, (.goto 4 : Instr), 3), (78, (.iconst 0 : Instr), 1), (79, (.invokevirtual 190 : Instr), 3), (82, (.goto 4 : Instr), 3), (85, (.iconst (-1) : Instr), 1), (86, (.ireturn : Instr), 1)] : List (Nat × Instr × Nat)).all (fun q => decide (decode cX8_line q.1 = .ok (q.2.1, q.2.2))) = true := by decide +kernel
theorem dX8_line_0 : decode cX8_line 0 = .ok (.aload_n 0, 1) := all_d dX8_line_all0 0 rfl
theorem dX8_line_1 : decode cX8_line 1 = .ok (.iload_n 1, 1) := all_d dX8_line_all0 1 rfl
theorem dX8_line_2 : decode cX8_line 2 = .ok (.invokevirtual 149, 3) := all_d dX8_line_all0 2 rfl
theorem dX8_line_5 : decode cX8_line 5 = .ok (.ifCond .ne 5, 3) := all_d dX8_line_all0 3 rfl
theorem dX8_line_8 : decode cX8_line 8 = .ok (.iconst (-1), 1) := all_d dX8_line_all0 4 rfl
theorem dX8_line_9 : decode cX8_line 9 = .ok (.ireturn, 1) := all_d dX8_line_all0 5 rfl
theorem dX8_line_10 : decode cX8_line 10 = .ok (.aload_n 0, 1) := all_d dX8_line_all0 6 rfl
theorem dX8_line_11 : decode cX8_line 11 = .ok (.getfield 18, 3) := all_d dX8_line_all0 7 rfl
theorem dX8_line_14 : decode cX8_line 14 = .ok (.invokevirtual 172, 3) := all_d dX8_line_all0 8 rfl
theorem dX8_line_17 : decode cX8_line 17 = .ok (.istore_n 3, 1) := all_d dX8_line_all0 9 rfl
theorem dX8_line_18 : decode cX8_line 18 = .ok (.aload_n 0, 1) := all_d dX8_line_all0 10 rfl
theorem dX8_line_19 : decode cX8_line 19 = .ok (.iload_n 2, 1) := all_d dX8_line_all0 11 rfl
theorem dX8_line_20 : decode cX8_line 20 = .ok (.ifCond .lt 8, 3) := all_d dX8_line_all0 12 rfl
theorem dX8_line_23 : decode cX8_line 23 = .ok (.iload_n 2, 1) := all_d dX8_line_all0 13 rfl
theorem dX8_line_24 : decode cX8_line 24 = .ok (.iconst 1, 1) := all_d dX8_line_all0 14 rfl
theorem dX8_line_25 : decode cX8_line 25 = .ok (.if_icmp .le 7, 3) := all_d dX8_line_all0 15 rfl
theorem dX8_line_28 : decode cX8_line 28 = .ok (.iconst 1, 1) := all_d dX8_line_all0 16 rfl
theorem dX8_line_29 : decode cX8_line 29 = .ok (.goto 25, 3) := all_d dX8_line_all0 17 rfl
theorem dX8_line_32 : decode cX8_line 32 = .ok (.iload_n 3, 1) := all_d dX8_line_all0 18 rfl
theorem dX8_line_33 : decode cX8_line 33 = .ok (.iconst 2, 1) := all_d dX8_line_all0 19 rfl
theorem dX8_line_34 : decode cX8_line 34 = .ok (.if_icmp .lt 15, 3) := all_d dX8_line_all0 20 rfl
theorem dX8_line_37 : decode cX8_line 37 = .ok (.aload_n 0, 1) := all_d dX8_line_all0 21 rfl
theorem dX8_line_38 : decode cX8_line 38 = .ok (.getfield 18, 3) := all_d dX8_line_all0 22 rfl
theorem dX8_line_41 : decode cX8_line 41 = .ok (.invokevirtual 181, 3) := all_d dX8_line_all0 23 rfl
theorem dX8_line_44 : decode cX8_line 44 = .ok (.bipush (-2), 2) := all_d dX8_line_all0 24 rfl
theorem dX8_line_46 : decode cX8_line 46 = .ok (.if_icmp .eq 7, 3) := all_d dX8_line_all0 25 rfl
theorem dX8_line_49 : decode cX8_line 49 = .ok (.iconst 5, 1) := all_d dX8_line_all0 26 rfl
theorem dX8_line_50 : decode cX8_line 50 = .ok (.goto 4, 3) := all_d dX8_line_all0 27 rfl
theorem dX8_line_53 : decode cX8_line 53 = .ok (.iconst 0, 1) := all_d dX8_line_all0 28 rfl
theorem dX8_line_54 : decode cX8_line 54 = .ok (.putfield 66, 3) := all_d dX8_line_all0 29 rfl
theorem dX8_line_57 : decode cX8_line 57 = .ok (.aload_n 0, 1) := all_d dX8_line_all0 30 rfl
theorem dX8_line_58 : decode cX8_line 58 = .ok (.getfield 66, 3) := all_d dX8_line_all0 31 rfl
theorem dX8_line_61 : decode cX8_line 61 = .ok (.ifCond .ne 24, 3) := all_d dX8_line_all0 32 rfl
theorem dX8_line_64 : decode cX8_line 64 = .ok (.aload_n 0, 1) := all_d dX8_line_all0 33 rfl
theorem dX8_line_65 : decode cX8_line 65 = .ok (.getfield 18, 3) := all_d dX8_line_all0 34 rfl
theorem dX8_line_68 : decode cX8_line 68 = .ok (.iload_n 3, 1) := all_d dX8_line_all0 35 rfl
theorem dX8_line_69 : decode cX8_line 69 = .ok (.iload_n 2, 1) := all_d dX8_line_all0 36 rfl
theorem dX8_line_70 : decode cX8_line 70 = .ok (.iconst 1, 1) := all_d dX8_line_all0 37 rfl
theorem dX8_line_71 : decode cX8_line 71 = .ok (.if_icmp .ne 7, 3) := all_d dX8_line_all0 38 rfl
theorem dX8_line_74 : decode cX8_line 74 = .ok (.iconst 1, 1) := all_d dX8_line_all0 39 rfl
theorem dX8_line_75 : decode cX8_line 75 = .ok (.goto 4, 3) := all_d dX8_line_all0 40 rfl
theorem dX8_line_78 : decode cX8_line 78 = .ok (.iconst 0, 1) := all_d dX8_line_all0 41 rfl
theorem dX8_line_79 : decode cX8_line 79 = .ok (.invokevirtual 190, 3) := all_d dX8_line_all0 42 rfl
theorem dX8_line_82 : decode cX8_line 82 = .ok (.goto 4, 3) := all_d dX8_line_all0 43 rfl
theorem dX8_line_85 : decode cX8_line 85 = .ok (.iconst (-1), 1) := all_d dX8_line_all0 44 rfl
theorem dX8_line_86 : decode cX8_line 86 = .ok (.ireturn, 1) := all_d dX8_line_all0 45 rfl
set_option maxRecDepth 100000 in
theorem dX8_covered_all0 : ([(0, (.aload_n 0 : Instr), 1), (1, (.iload_n 1 : Instr), 1), (2, (.invokevirtual 83 : Instr), 3), (5, (.astore_n 2 : Instr), 1), (6, (.aload_n 0 : Instr), 1), (7, (.aload_n 2 : Instr), 1), (8, (.invokestatic 194 : Instr), 3), (11, (.putfield 66 : Instr), 3), (14, (.aload_n 2 : Instr), 1), (15, (.ifnull 10 : Instr), 3), (18, (.aload_n 0 : Instr), 1), (19, (.getfield 66 : Instr), 3), (22, (.ifCond .eq 7 : Instr), 3), (25, (.iconst (-1) : Instr), 1), (26, (.goto 7 : Instr), 3), (29, (.aload_n 2 : Instr), 1), (30, (.invokevirtual 198 : Instr), 3), (33, (.ireturn : Instr), 1)] : List (Nat × Instr × Nat)).all (fun q => decide (decode cX8_covered q.1 = .ok (q.2.1, q.2.2))) = true := by decide +kernel
theorem dX8_covered_0 : decode cX8_covered 0 = .ok (.aload_n 0, 1) := all_d dX8_covered_all0 0 rfl
theorem dX8_covered_1 : decode cX8_covered 1 = .ok (.iload_n 1, 1) := all_d dX8_covered_all0 1 rfl
theorem dX8_covered_2 : decode cX8_covered 2 = .ok (.invokevirtual 83, 3) := all_d dX8_covered_all0 2 rfl
theorem dX8_covered_5 : decode cX8_covered 5 = .ok (.astore_n 2, 1) := all_d dX8_covered_all0 3 rfl
theorem dX8_covered_6 : decode cX8_covered 6 = .ok (.aload_n 0, 1) := all_d dX8_covered_all0 4 rfl
theorem dX8_covered_7 : decode cX8_covered 7 = .ok (.aload_n 2, 1) := all_d dX8_covered_all0 5 rfl
theorem dX8_covered_8 : decode cX8_covered 8 = .ok (.invokestatic 194, 3) := all_d dX8_covered_all0 6 rfl
theorem dX8_covered_11 : decode cX8_covered 11 = .ok (.putfield 66, 3) := all_d dX8_covered_all0 7 rfl
theorem dX8_covered_14 : decode cX8_covered 14 = .ok (.aload_n 2, 1) := all_d dX8_covered_all0 8 rfl
theorem dX8_covered_15 : decode cX8_covered 15 = .ok (.ifnull 10, 3) := all_d dX8_covered_all0 9 rfl
theorem dX8_covered_18 : decode cX8_covered 18 = .ok (.aload_n 0, 1) := all_d dX8_covered_all0 10 rfl
theorem dX8_covered_19 : decode cX8_covered 19 = .ok (.getfield 66, 3) := all_d dX8_covered_all0 11 rfl
theorem dX8_covered_22 : decode cX8_covered 22 = .ok (.ifCond .eq 7, 3) := all_d dX8_covered_all0 12 rfl
theorem dX8_covered_25 : decode cX8_covered 25 = .ok (.iconst (-1), 1) := all_d dX8_covered_all0 13 rfl
theorem dX8_covered_26 : decode cX8_covered 26 = .ok (.goto 7, 3) := all_d dX8_covered_all0 14 rfl
theorem dX8_covered_29 : decode cX8_covered 29 = .ok (.aload_n 2, 1) := all_d dX8_covered_all0 15 rfl
theorem dX8_covered_30 : decode cX8_covered 30 = .ok (.invokevirtual 198, 3) := all_d dX8_covered_all0 16 rfl
theorem dX8_covered_33 : decode cX8_covered 33 = .ok (.ireturn, 1) := all_d dX8_covered_all0 17 rfl
set_option maxRecDepth 100000 in
theorem dX8_tail_all0 : ([(0, (.aload_n 0 : Instr), 1), (1, (.iload_n 1 : Instr), 1), (2, (.invokevirtual 83 : Instr), 3), (5, (.astore_n 2 : Instr), 1), (6, (.aload_n 0 : Instr), 1), (7, (.aload_n 2 : Instr), 1), (8, (.invokestatic 194 : Instr), 3), (11, (.putfield 66 : Instr), 3), (14, (.aload_n 2 : Instr), 1), (15, (.ifnull 10 : Instr), 3), (18, (.aload_n 0 : Instr), 1), (19, (.getfield 66 : Instr), 3), (22, (.ifCond .eq 5 : Instr), 3), (25, (.iconst (-1) : Instr), 1), (26, (.ireturn : Instr), 1), (27, (.iconst 0 : Instr), 1), (28, (.aload_n 0 : Instr), 1), (29, (.getfield 56 : Instr), 3), (32, (.aload_n 2 : Instr), 1), (33, (.invokevirtual 201 : Instr), 3), (36, (.invokestatic 204 : Instr), 3), (39, (.invokestatic 175 : Instr), 3), (42, (.istore_n 3 : Instr), 1), (43, (.aload_n 2 : Instr), 1), (44, (.iconst 0 : Instr), 1), (45, (.invokevirtual 139 : Instr), 3), (48, (.ineg : Instr), 1), (49, (.istore 4 : Instr), 2), (51, (.iconst 1 : Instr), 1), (52, (.istore 5 : Instr), 2), (54, (.iload 5 : Instr), 2), (56, (.iload_n 3 : Instr), 1), (57, (.if_icmp .gt 25 : Instr), 3), (60, (.iload 4 : Instr), 2), (62, (.iload 5 : Instr), 2), (64, (.aload_n 2 : Instr), 1), (65, (.iload 5 : Instr), 2), (67, (.invokevirtual 139 : Instr), 3), (70, (.isub : Instr), 1), (71, (.invokestatic 175 : Instr), 3), (74, (.istore 4 : Instr), 2), (76, (.iinc 5 1 : Instr), 3), (79, (.goto (-25) : Instr), 3), (82, (.iload 4 : Instr), 2), (84, (.ireturn : Instr), 1)] : List (Nat × Instr × Nat)).all (fun q => decide (decode cX8_tail q.1 = .ok (q.2.1, q.2.2))) = true := by decide +kernel
theorem dX8_tail_0 : decode cX8_tail 0 = .ok (.aload_n 0, 1) := all_d dX8_tail_all0 0 rfl
theorem dX8_tail_1 : decode cX8_tail 1 = .ok (.iload_n 1, 1) := all_d dX8_tail_all0 1 rfl
theorem dX8_tail_2 : decode cX8_tail 2 = .ok (.invokevirtual 83, 3) := all_d dX8_tail_all0 2 rfl
theorem dX8_tail_5 : decode cX8_tail 5 = .ok (.astore_n 2, 1) := all_d dX8_tail_all0 3 rfl
theorem dX8_tail_6 : decode cX8_tail 6 = .ok (.aload_n 0, 1) := all_d dX8_tail_all0 4 rfl
theorem dX8_tail_7 : decode cX8_tail 7 = .ok (.aload_n 2, 1) := all_d dX8_tail_all0 5 rfl
theorem dX8_tail_8 : decode cX8_tail 8 = .ok (.invokestatic 194, 3) := all_d dX8_tail_all0 6 rfl
theorem dX8_tail_11 : decode cX8_tail 11 = .ok (.putfield 66, 3) := all_d dX8_tail_all0 7 rfl
theorem dX8_tail_14 : decode cX8_tail 14 = .ok (.aload_n 2, 1) := all_d dX8_tail_all0 8 rfl
theorem dX8_tail_15 : decode cX8_tail 15 = .ok (.ifnull 10, 3) := all_d dX8_tail_all0 9 rfl
theorem dX8_tail_18 : decode cX8_tail 18 = .ok (.aload_n 0, 1) := all_d dX8_tail_all0 10 rfl
theorem dX8_tail_19 : decode cX8_tail 19 = .ok (.getfield 66, 3) := all_d dX8_tail_all0 11 rfl
theorem dX8_tail_22 : decode cX8_tail 22 = .ok (.ifCond .eq 5, 3) := all_d dX8_tail_all0 12 rfl
theorem dX8_tail_25 : decode cX8_tail 25 = .ok (.iconst (-1), 1) := all_d dX8_tail_all0 13 rfl
theorem dX8_tail_26 : decode cX8_tail 26 = .ok (.ireturn, 1) := all_d dX8_tail_all0 14 rfl
theorem dX8_tail_27 : decode cX8_tail 27 = .ok (.iconst 0, 1) := all_d dX8_tail_all0 15 rfl
theorem dX8_tail_28 : decode cX8_tail 28 = .ok (.aload_n 0, 1) := all_d dX8_tail_all0 16 rfl
theorem dX8_tail_29 : decode cX8_tail 29 = .ok (.getfield 56, 3) := all_d dX8_tail_all0 17 rfl
theorem dX8_tail_32 : decode cX8_tail 32 = .ok (.aload_n 2, 1) := all_d dX8_tail_all0 18 rfl
theorem dX8_tail_33 : decode cX8_tail 33 = .ok (.invokevirtual 201, 3) := all_d dX8_tail_all0 19 rfl
theorem dX8_tail_36 : decode cX8_tail 36 = .ok (.invokestatic 204, 3) := all_d dX8_tail_all0 20 rfl
theorem dX8_tail_39 : decode cX8_tail 39 = .ok (.invokestatic 175, 3) := all_d dX8_tail_all0 21 rfl
theorem dX8_tail_42 : decode cX8_tail 42 = .ok (.istore_n 3, 1) := all_d dX8_tail_all0 22 rfl
theorem dX8_tail_43 : decode cX8_tail 43 = .ok (.aload_n 2, 1) := all_d dX8_tail_all0 23 rfl
theorem dX8_tail_44 : decode cX8_tail 44 = .ok (.iconst 0, 1) := all_d dX8_tail_all0 24 rfl
theorem dX8_tail_45 : decode cX8_tail 45 = .ok (.invokevirtual 139, 3) := all_d dX8_tail_all0 25 rfl
theorem dX8_tail_48 : decode cX8_tail 48 = .ok (.ineg, 1) := all_d dX8_tail_all0 26 rfl
theorem dX8_tail_49 : decode cX8_tail 49 = .ok (.istore 4, 2) := all_d dX8_tail_all0 27 rfl
theorem dX8_tail_51 : decode cX8_tail 51 = .ok (.iconst 1, 1) := all_d dX8_tail_all0 28 rfl
theorem dX8_tail_52 : decode cX8_tail 52 = .ok (.istore 5, 2) := all_d dX8_tail_all0 29 rfl
theorem dX8_tail_54 : decode cX8_tail 54 = .ok (.iload 5, 2) := all_d dX8_tail_all0 30 rfl
theorem dX8_tail_56 : decode cX8_tail 56 = .ok (.iload_n 3, 1) := all_d dX8_tail_all0 31 rfl
theorem dX8_tail_57 : decode cX8_tail 57 = .ok (.if_icmp .gt 25, 3) := all_d dX8_tail_all0 32 rfl
theorem dX8_tail_60 : decode cX8_tail 60 = .ok (.iload 4, 2) := all_d dX8_tail_all0 33 rfl
theorem dX8_tail_62 : decode cX8_tail 62 = .ok (.iload 5, 2) := all_d dX8_tail_all0 34 rfl
theorem dX8_tail_64 : decode cX8_tail 64 = .ok (.aload_n 2, 1) := all_d dX8_tail_all0 35 rfl
theorem dX8_tail_65 : decode cX8_tail 65 = .ok (.iload 5, 2) := all_d dX8_tail_all0 36 rfl
theorem dX8_tail_67 : decode cX8_tail 67 = .ok (.invokevirtual 139, 3) := all_d dX8_tail_all0 37 rfl
theorem dX8_tail_70 : decode cX8_tail 70 = .ok (.isub, 1) := all_d dX8_tail_all0 38 rfl
theorem dX8_tail_71 : decode cX8_tail 71 = .ok (.invokestatic 175, 3) := all_d dX8_tail_all0 39 rfl
theorem dX8_tail_74 : decode cX8_tail 74 = .ok (.istore 4, 2) := all_d dX8_tail_all0 40 rfl
theorem dX8_tail_76 : decode cX8_tail 76 = .ok (.iinc 5 1, 3) := all_d dX8_tail_all0 41 rfl
theorem dX8_tail_79 : decode cX8_tail 79 = .ok (.goto (-25), 3) := all_d dX8_tail_all0 42 rfl
theorem dX8_tail_82 : decode cX8_tail 82 = .ok (.iload 4, 2) := all_d dX8_tail_all0 43 rfl
theorem dX8_tail_84 : decode cX8_tail 84 = .ok (.ireturn, 1) := all_d dX8_tail_all0 44 rfl
set_option maxRecDepth 100000 in
theorem dX8_mend_all0 : ([(0, (.aload_n 0 : Instr), 1), (1, (.iload_n 1 : Instr), 1), (2, (.invokevirtual 83 : Instr), 3), (5, (.astore_n 2 : Instr), 1), (6, (.aload_n 0 : Instr), 1), (7, (.aload_n 2 : Instr), 1), (8, (.invokestatic 194 : Instr), 3), (11, (.putfield 66 : Instr), 3), (14, (.aload_n 2 : Instr), 1), (15, (.ifnull 10 : Instr), 3), (18, (.aload_n 0 : Instr), 1), (19, (.getfield 66 : Instr), 3), (22, (.ifCond .eq 5 : Instr), 3), (25, (.iconst 0 : Instr), 1), (26, (.ireturn : Instr), 1), (27, (.aload_n 0 : Instr), 1), (28, (.iconst 5 : Instr), 1), (29, (.iload_n 1 : Instr), 1), (30, (.iconst (-1) : Instr), 1), (31, (.invokevirtual 74 : Instr), 3), (34, (.astore_n 3 : Instr), 1), (35, (.aload_n 3 : Instr), 1), (36, (.ifnull 11 : Instr), 3), (39, (.aload_n 2 : Instr), 1), (40, (.aload_n 3 : Instr), 1), (41, (.getfield 98 : Instr), 3), (44, (.invokevirtual 101 : Instr), 3), (47, (.aload_n 2 : Instr), 1), (48, (.invokevirtual 207 : Instr), 3), (51, (.iconst 1 : Instr), 1), (52, (.ireturn : Instr), 1)] : List (Nat × Instr × Nat)).all (fun q => decide (decode cX8_mend q.1 = .ok (q.2.1, q.2.2))) = true := by decide +kernel
theorem dX8_mend_0 : decode cX8_mend 0 = .ok (.aload_n 0, 1) := all_d dX8_mend_all0 0 rfl
theorem dX8_mend_1 : decode cX8_mend 1 = .ok (.iload_n 1, 1) := all_d dX8_mend_all0 1 rfl
theorem dX8_mend_2 : decode cX8_mend 2 = .ok (.invokevirtual 83, 3) := all_d dX8_mend_all0 2 rfl
theorem dX8_mend_5 : decode cX8_mend 5 = .ok (.astore_n 2, 1) := all_d dX8_mend_all0 3 rfl
theorem dX8_mend_6 : decode cX8_mend 6 = .ok (.aload_n 0, 1) := all_d dX8_mend_all0 4 rfl
theorem dX8_mend_7 : decode cX8_mend 7 = .ok (.aload_n 2, 1) := all_d dX8_mend_all0 5 rfl
theorem dX8_mend_8 : decode cX8_mend 8 = .ok (.invokestatic 194, 3) := all_d dX8_mend_all0 6 rfl
theorem dX8_mend_11 : decode cX8_mend 11 = .ok (.putfield 66, 3) := all_d dX8_mend_all0 7 rfl
theorem dX8_mend_14 : decode cX8_mend 14 = .ok (.aload_n 2, 1) := all_d dX8_mend_all0 8 rfl
theorem dX8_mend_15 : decode cX8_mend 15 = .ok (.ifnull 10, 3) := all_d dX8_mend_all0 9 rfl
theorem dX8_mend_18 : decode cX8_mend 18 = .ok (.aload_n 0, 1) := all_d dX8_mend_all0 10 rfl
theorem dX8_mend_19 : decode cX8_mend 19 = .ok (.getfield 66, 3) := all_d dX8_mend_all0 11 rfl
theorem dX8_mend_22 : decode cX8_mend 22 = .ok (.ifCond .eq 5, 3) := all_d dX8_mend_all0 12 rfl
theorem dX8_mend_25 : decode cX8_mend 25 = .ok (.iconst 0, 1) := all_d dX8_mend_all0 13 rfl
theorem dX8_mend_26 : decode cX8_mend 26 = .ok (.ireturn, 1) := all_d dX8_mend_all0 14 rfl
theorem dX8_mend_27 : decode cX8_mend 27 = .ok (.aload_n 0, 1) := all_d dX8_mend_all0 15 rfl
theorem dX8_mend_28 : decode cX8_mend 28 = .ok (.iconst 5, 1) := all_d dX8_mend_all0 16 rfl
theorem dX8_mend_29 : decode cX8_mend 29 = .ok (.iload_n 1, 1) := all_d dX8_mend_all0 17 rfl
theorem dX8_mend_30 : decode cX8_mend 30 = .ok (.iconst (-1), 1) := all_d dX8_mend_all0 18 rfl
theorem dX8_mend_31 : decode cX8_mend 31 = .ok (.invokevirtual 74, 3) := all_d dX8_mend_all0 19 rfl
theorem dX8_mend_34 : decode cX8_mend 34 = .ok (.astore_n 3, 1) := all_d dX8_mend_all0 20 rfl
theorem dX8_mend_35 : decode cX8_mend 35 = .ok (.aload_n 3, 1) := all_d dX8_mend_all0 21 rfl
theorem dX8_mend_36 : decode cX8_mend 36 = .ok (.ifnull 11, 3) := all_d dX8_mend_all0 22 rfl
theorem dX8_mend_39 : decode cX8_mend 39 = .ok (.aload_n 2, 1) := all_d dX8_mend_all0 23 rfl
theorem dX8_mend_40 : decode cX8_mend 40 = .ok (.aload_n 3, 1) := all_d dX8_mend_all0 24 rfl
theorem dX8_mend_41 : decode cX8_mend 41 = .ok (.getfield 98, 3) := all_d dX8_mend_all0 25 rfl
theorem dX8_mend_44 : decode cX8_mend 44 = .ok (.invokevirtual 101, 3) := all_d dX8_mend_all0 26 rfl
theorem dX8_mend_47 : decode cX8_mend 47 = .ok (.aload_n 2, 1) := all_d dX8_mend_all0 27 rfl
theorem dX8_mend_48 : decode cX8_mend 48 = .ok (.invokevirtual 207, 3) := all_d dX8_mend_all0 28 rfl
theorem dX8_mend_51 : decode cX8_mend 51 = .ok (.iconst 1, 1) := all_d dX8_mend_all0 29 rfl
theorem dX8_mend_52 : decode cX8_mend 52 = .ok (.ireturn, 1) := all_d dX8_mend_all0 30 rfl
set_option maxRecDepth 100000 in
theorem dX8_count_all0 : ([(0, (.aload_n 0 : Instr), 1), (1, (.iload_n 1 : Instr), 1), (2, (.invokevirtual 83 : Instr), 3), (5, (.astore 6 : Instr), 2), (7, (.iconst 0 : Instr), 1), (8, (.iload_n 2 : Instr), 1), (9, (.if_icmp .gt 26 : Instr), 3), (12, (.iload_n 2 : Instr), 1), (13, (.iload_n 3 : Instr), 1), (14, (.if_icmp .gt 21 : Instr), 3), (17, (.iload_n 3 : Instr), 1), (18, (.aload_n 0 : Instr), 1), (19, (.getfield 56 : Instr), 3), (22, (.if_icmp .gt 13 : Instr), 3), (25, (.iload 4 : Instr), 2), (27, (.iconst 1 : Instr), 1), (28, (.if_icmp .lt 7 : Instr), 3), (31, (.iconst 1 : Instr), 1), (32, (.goto 4 : Instr), 3), (35, (.iconst 0 : Instr), 1), (36, (.istore 7 : Instr), 2), (38, (.aload_n 0 : Instr), 1), (39, (.aload 6 : Instr), 2), (41, (.ifnonnull 7 : Instr), 3), (44, (.iconst 2 : Instr), 1), (45, (.goto 13 : Instr), 3), (48, (.iload 7 : Instr), 2), (50, (.ifCond .eq 7 : Instr), 3), (53, (.iconst 0 : Instr), 1), (54, (.goto 4 : Instr), 3), (57, (.iconst 1 : Instr), 1), (58, (.putfield 66 : Instr), 3), (61, (.aload 6 : Instr), 2), (63, (.ifnull 10 : Instr), 3), (66, (.aload_n 0 : Instr), 1), (67, (.getfield 66 : Instr), 3), (70, (.ifCond .eq 5 : Instr), 3), (73, (.iconst (-1) : Instr), 1), (74, (.ireturn : Instr), 1), (75, (.iconst 0 : Instr), 1), (76, (.istore 8 : Instr), 2), (78, (.iload_n 2 : Instr), 1), (79, (.i2l : Instr), 1), (80, (.lstore 9 : Instr), 2), (82, (.lload 9 : Instr), 2), (84, (.iload_n 3 : Instr), 1), (85, (.i2l : Instr), 1), (86, (.lcmp : Instr), 1), (87, (.ifCond .gt 30 : Instr), 3), (90, (.aload 6 : Instr), 2), (92, (.lload 9 : Instr), 2), (94, (.l2i : Instr), 1), (95, (.invokevirtual 139 : Instr), 3), (98, (.iload 5 : Instr), 2), (100, (.if_icmp .ne 6 : Instr), 3), (103, (.iinc 8 1 : Instr), 3), (106, (.lload 9 : Instr), 2), (108, (.iload 4 : Instr), 2), (110, (.i2l : Instr), 1), (111, (.ladd : Instr), 1), (112, (.lstore 9 : Instr), 2), (114, (.goto (-32) : Instr), 3), (117, (.iload 8 : Instr), 2), (119, (.ireturn : Instr), 1)] : List (Nat × Instr × Nat)).all (fun q => decide (decode cX8_count q.1 = .ok (q.2.1, q.2.2))) = true := by decide +kernel
theorem dX8_count_0 : decode cX8_count 0 = .ok (.aload_n 0, 1) := all_d dX8_count_all0 0 rfl
theorem dX8_count_1 : decode cX8_count 1 = .ok (.iload_n 1, 1) := all_d dX8_count_all0 1 rfl
theorem dX8_count_2 : decode cX8_count 2 = .ok (.invokevirtual 83, 3) := all_d dX8_count_all0 2 rfl
theorem dX8_count_5 : decode cX8_count 5 = .ok (.astore 6, 2) := all_d dX8_count_all0 3 rfl
theorem dX8_count_7 : decode cX8_count 7 = .ok (.iconst 0, 1) := all_d dX8_count_all0 4 rfl
theorem dX8_count_8 : decode cX8_count 8 = .ok (.iload_n 2, 1) := all_d dX8_count_all0 5 rfl
theorem dX8_count_9 : decode cX8_count 9 = .ok (.if_icmp .gt 26, 3) := all_d dX8_count_all0 6 rfl
theorem dX8_count_12 : decode cX8_count 12 = .ok (.iload_n 2, 1) := all_d dX8_count_all0 7 rfl
theorem dX8_count_13 : decode cX8_count 13 = .ok (.iload_n 3, 1) := all_d dX8_count_all0 8 rfl
theorem dX8_count_14 : decode cX8_count 14 = .ok (.if_icmp .gt 21, 3) := all_d dX8_count_all0 9 rfl
theorem dX8_count_17 : decode cX8_count 17 = .ok (.iload_n 3, 1) := all_d dX8_count_all0 10 rfl
theorem dX8_count_18 : decode cX8_count 18 = .ok (.aload_n 0, 1) := all_d dX8_count_all0 11 rfl
theorem dX8_count_19 : decode cX8_count 19 = .ok (.getfield 56, 3) := all_d dX8_count_all0 12 rfl
theorem dX8_count_22 : decode cX8_count 22 = .ok (.if_icmp .gt 13, 3) := all_d dX8_count_all0 13 rfl
theorem dX8_count_25 : decode cX8_count 25 = .ok (.iload 4, 2) := all_d dX8_count_all0 14 rfl
theorem dX8_count_27 : decode cX8_count 27 = .ok (.iconst 1, 1) := all_d dX8_count_all0 15 rfl
theorem dX8_count_28 : decode cX8_count 28 = .ok (.if_icmp .lt 7, 3) := all_d dX8_count_all0 16 rfl
theorem dX8_count_31 : decode cX8_count 31 = .ok (.iconst 1, 1) := all_d dX8_count_all0 17 rfl
theorem dX8_count_32 : decode cX8_count 32 = .ok (.goto 4, 3) := all_d dX8_count_all0 18 rfl
theorem dX8_count_35 : decode cX8_count 35 = .ok (.iconst 0, 1) := all_d dX8_count_all0 19 rfl
theorem dX8_count_36 : decode cX8_count 36 = .ok (.istore 7, 2) := all_d dX8_count_all0 20 rfl
theorem dX8_count_38 : decode cX8_count 38 = .ok (.aload_n 0, 1) := all_d dX8_count_all0 21 rfl
theorem dX8_count_39 : decode cX8_count 39 = .ok (.aload 6, 2) := all_d dX8_count_all0 22 rfl
theorem dX8_count_41 : decode cX8_count 41 = .ok (.ifnonnull 7, 3) := all_d dX8_count_all0 23 rfl
theorem dX8_count_44 : decode cX8_count 44 = .ok (.iconst 2, 1) := all_d dX8_count_all0 24 rfl
theorem dX8_count_45 : decode cX8_count 45 = .ok (.goto 13, 3) := all_d dX8_count_all0 25 rfl
theorem dX8_count_48 : decode cX8_count 48 = .ok (.iload 7, 2) := all_d dX8_count_all0 26 rfl
theorem dX8_count_50 : decode cX8_count 50 = .ok (.ifCond .eq 7, 3) := all_d dX8_count_all0 27 rfl
theorem dX8_count_53 : decode cX8_count 53 = .ok (.iconst 0, 1) := all_d dX8_count_all0 28 rfl
theorem dX8_count_54 : decode cX8_count 54 = .ok (.goto 4, 3) := all_d dX8_count_all0 29 rfl
theorem dX8_count_57 : decode cX8_count 57 = .ok (.iconst 1, 1) := all_d dX8_count_all0 30 rfl
theorem dX8_count_58 : decode cX8_count 58 = .ok (.putfield 66, 3) := all_d dX8_count_all0 31 rfl
theorem dX8_count_61 : decode cX8_count 61 = .ok (.aload 6, 2) := all_d dX8_count_all0 32 rfl
theorem dX8_count_63 : decode cX8_count 63 = .ok (.ifnull 10, 3) := all_d dX8_count_all0 33 rfl
theorem dX8_count_66 : decode cX8_count 66 = .ok (.aload_n 0, 1) := all_d dX8_count_all0 34 rfl
theorem dX8_count_67 : decode cX8_count 67 = .ok (.getfield 66, 3) := all_d dX8_count_all0 35 rfl
theorem dX8_count_70 : decode cX8_count 70 = .ok (.ifCond .eq 5, 3) := all_d dX8_count_all0 36 rfl
theorem dX8_count_73 : decode cX8_count 73 = .ok (.iconst (-1), 1) := all_d dX8_count_all0 37 rfl
theorem dX8_count_74 : decode cX8_count 74 = .ok (.ireturn, 1) := all_d dX8_count_all0 38 rfl
theorem dX8_count_75 : decode cX8_count 75 = .ok (.iconst 0, 1) := all_d dX8_count_all0 39 rfl
theorem dX8_count_76 : decode cX8_count 76 = .ok (.istore 8, 2) := all_d dX8_count_all0 40 rfl
theorem dX8_count_78 : decode cX8_count 78 = .ok (.iload_n 2, 1) := all_d dX8_count_all0 41 rfl
theorem dX8_count_79 : decode cX8_count 79 = .ok (.i2l, 1) := all_d dX8_count_all0 42 rfl
theorem dX8_count_80 : decode cX8_count 80 = .ok (.lstore 9, 2) := all_d dX8_count_all0 43 rfl
theorem dX8_count_82 : decode cX8_count 82 = .ok (.lload 9, 2) := all_d dX8_count_all0 44 rfl
theorem dX8_count_84 : decode cX8_count 84 = .ok (.iload_n 3, 1) := all_d dX8_count_all0 45 rfl
theorem dX8_count_85 : decode cX8_count 85 = .ok (.i2l, 1) := all_d dX8_count_all0 46 rfl
theorem dX8_count_86 : decode cX8_count 86 = .ok (.lcmp, 1) := all_d dX8_count_all0 47 rfl
theorem dX8_count_87 : decode cX8_count 87 = .ok (.ifCond .gt 30, 3) := all_d dX8_count_all0 48 rfl
theorem dX8_count_90 : decode cX8_count 90 = .ok (.aload 6, 2) := all_d dX8_count_all0 49 rfl
theorem dX8_count_92 : decode cX8_count 92 = .ok (.lload 9, 2) := all_d dX8_count_all0 50 rfl
theorem dX8_count_94 : decode cX8_count 94 = .ok (.l2i, 1) := all_d dX8_count_all0 51 rfl
theorem dX8_count_95 : decode cX8_count 95 = .ok (.invokevirtual 139, 3) := all_d dX8_count_all0 52 rfl
theorem dX8_count_98 : decode cX8_count 98 = .ok (.iload 5, 2) := all_d dX8_count_all0 53 rfl
theorem dX8_count_100 : decode cX8_count 100 = .ok (.if_icmp .ne 6, 3) := all_d dX8_count_all0 54 rfl
theorem dX8_count_103 : decode cX8_count 103 = .ok (.iinc 8 1, 3) := all_d dX8_count_all0 55 rfl
theorem dX8_count_106 : decode cX8_count 106 = .ok (.lload 9, 2) := all_d dX8_count_all0 56 rfl
theorem dX8_count_108 : decode cX8_count 108 = .ok (.iload 4, 2) := all_d dX8_count_all0 57 rfl
theorem dX8_count_110 : decode cX8_count 110 = .ok (.i2l, 1) := all_d dX8_count_all0 58 rfl
theorem dX8_count_111 : decode cX8_count 111 = .ok (.ladd, 1) := all_d dX8_count_all0 59 rfl
theorem dX8_count_112 : decode cX8_count 112 = .ok (.lstore 9, 2) := all_d dX8_count_all0 60 rfl
theorem dX8_count_114 : decode cX8_count 114 = .ok (.goto (-32), 3) := all_d dX8_count_all0 61 rfl
theorem dX8_count_117 : decode cX8_count 117 = .ok (.iload 8, 2) := all_d dX8_count_all0 62 rfl
theorem dX8_count_119 : decode cX8_count 119 = .ok (.ireturn, 1) := all_d dX8_count_all0 63 rfl
set_option maxRecDepth 100000 in
theorem dX8_noise_all0 : ([(0, (.iload_n 1 : Instr), 1), (1, (.bipush 100 : Instr), 2), (3, (.invokestatic 113 : Instr), 3), (6, (.ifCond .eq 19 : Instr), 3), (9, (.iload_n 2 : Instr), 1), (10, (.iconst 1 : Instr), 1), (11, (.if_icmp .lt 14 : Instr), 3), (14, (.iload_n 2 : Instr), 1), (15, (.sipush 1000 : Instr), 3), (18, (.if_icmp .gt 7 : Instr), 3), (21, (.iconst 1 : Instr), 1), (22, (.goto 4 : Instr), 3), (25, (.iconst 0 : Instr), 1), (26, (.istore_n 3 : Instr), 1), (27, (.aload_n 0 : Instr), 1), (28, (.iload_n 3 : Instr), 1), (29, (.ifCond .ne 7 : Instr), 3), (32, (.iconst 1 : Instr), 1), (33, (.goto 20 : Instr), 3), (36, (.aload_n 0 : Instr), 1), (37, (.getfield 25 : Instr), 3), (40, (.getfield 210 : Instr), 3), (43, (.bipush 8 : Instr), 2), (45, (.if_icmp .lt 7 : Instr), 3), (48, (.iconst 3 : Instr), 1), (49, (.goto 4 : Instr), 3), (52, (.iconst 0 : Instr), 1), (53, (.putfield 66 : Instr), 3), (56, (.aload_n 0 : Instr), 1), (57, (.getfield 66 : Instr), 3), (60, (.ifCond .eq 5 : Instr), 3), (63, (.iconst (-1) : Instr), 1), (64, (.ireturn : Instr), 1), (65, (.aload_n 0 : Instr), 1), (66, (.getfield 25 : Instr), 3), (69, (.iload_n 1 : Instr), 1), (70, (.iload_n 2 : Instr), 1), (71, (.invokevirtual 213 : Instr), 3), (74, (.aload_n 0 : Instr), 1), (75, (.getfield 25 : Instr), 3), (78, (.getfield 210 : Instr), 3), (81, (.ireturn : Instr), 1)] : List (Nat × Instr × Nat)).all (fun q => decide (decode cX8_noise q.1 = .ok (q.2.1, q.2.2))) = true := by decide +kernel
theorem dX8_noise_0 : decode cX8_noise 0 = .ok (.iload_n 1, 1) := all_d dX8_noise_all0 0 rfl
theorem dX8_noise_1 : decode cX8_noise 1 = .ok (.bipush 100, 2) := all_d dX8_noise_all0 1 rfl
theorem dX8_noise_3 : decode cX8_noise 3 = .ok (.invokestatic 113, 3) := all_d dX8_noise_all0 2 rfl
theorem dX8_noise_6 : decode cX8_noise 6 = .ok (.ifCond .eq 19, 3) := all_d dX8_noise_all0 3 rfl
theorem dX8_noise_9 : decode cX8_noise 9 = .ok (.iload_n 2, 1) := all_d dX8_noise_all0 4 rfl
theorem dX8_noise_10 : decode cX8_noise 10 = .ok (.iconst 1, 1) := all_d dX8_noise_all0 5 rfl
theorem dX8_noise_11 : decode cX8_noise 11 = .ok (.if_icmp .lt 14, 3) := all_d dX8_noise_all0 6 rfl
theorem dX8_noise_14 : decode cX8_noise 14 = .ok (.iload_n 2, 1) := all_d dX8_noise_all0 7 rfl
theorem dX8_noise_15 : decode cX8_noise 15 = .ok (.sipush 1000, 3) := all_d dX8_noise_all0 8 rfl
theorem dX8_noise_18 : decode cX8_noise 18 = .ok (.if_icmp .gt 7, 3) := all_d dX8_noise_all0 9 rfl
theorem dX8_noise_21 : decode cX8_noise 21 = .ok (.iconst 1, 1) := all_d dX8_noise_all0 10 rfl
theorem dX8_noise_22 : decode cX8_noise 22 = .ok (.goto 4, 3) := all_d dX8_noise_all0 11 rfl
theorem dX8_noise_25 : decode cX8_noise 25 = .ok (.iconst 0, 1) := all_d dX8_noise_all0 12 rfl
theorem dX8_noise_26 : decode cX8_noise 26 = .ok (.istore_n 3, 1) := all_d dX8_noise_all0 13 rfl
theorem dX8_noise_27 : decode cX8_noise 27 = .ok (.aload_n 0, 1) := all_d dX8_noise_all0 14 rfl
theorem dX8_noise_28 : decode cX8_noise 28 = .ok (.iload_n 3, 1) := all_d dX8_noise_all0 15 rfl
theorem dX8_noise_29 : decode cX8_noise 29 = .ok (.ifCond .ne 7, 3) := all_d dX8_noise_all0 16 rfl
theorem dX8_noise_32 : decode cX8_noise 32 = .ok (.iconst 1, 1) := all_d dX8_noise_all0 17 rfl
theorem dX8_noise_33 : decode cX8_noise 33 = .ok (.goto 20, 3) := all_d dX8_noise_all0 18 rfl
theorem dX8_noise_36 : decode cX8_noise 36 = .ok (.aload_n 0, 1) := all_d dX8_noise_all0 19 rfl
theorem dX8_noise_37 : decode cX8_noise 37 = .ok (.getfield 25, 3) := all_d dX8_noise_all0 20 rfl
theorem dX8_noise_40 : decode cX8_noise 40 = .ok (.getfield 210, 3) := all_d dX8_noise_all0 21 rfl
theorem dX8_noise_43 : decode cX8_noise 43 = .ok (.bipush 8, 2) := all_d dX8_noise_all0 22 rfl
theorem dX8_noise_45 : decode cX8_noise 45 = .ok (.if_icmp .lt 7, 3) := all_d dX8_noise_all0 23 rfl
theorem dX8_noise_48 : decode cX8_noise 48 = .ok (.iconst 3, 1) := all_d dX8_noise_all0 24 rfl
theorem dX8_noise_49 : decode cX8_noise 49 = .ok (.goto 4, 3) := all_d dX8_noise_all0 25 rfl
theorem dX8_noise_52 : decode cX8_noise 52 = .ok (.iconst 0, 1) := all_d dX8_noise_all0 26 rfl
theorem dX8_noise_53 : decode cX8_noise 53 = .ok (.putfield 66, 3) := all_d dX8_noise_all0 27 rfl
theorem dX8_noise_56 : decode cX8_noise 56 = .ok (.aload_n 0, 1) := all_d dX8_noise_all0 28 rfl
theorem dX8_noise_57 : decode cX8_noise 57 = .ok (.getfield 66, 3) := all_d dX8_noise_all0 29 rfl
theorem dX8_noise_60 : decode cX8_noise 60 = .ok (.ifCond .eq 5, 3) := all_d dX8_noise_all0 30 rfl
theorem dX8_noise_63 : decode cX8_noise 63 = .ok (.iconst (-1), 1) := all_d dX8_noise_all0 31 rfl
theorem dX8_noise_64 : decode cX8_noise 64 = .ok (.ireturn, 1) := all_d dX8_noise_all0 32 rfl
theorem dX8_noise_65 : decode cX8_noise 65 = .ok (.aload_n 0, 1) := all_d dX8_noise_all0 33 rfl
theorem dX8_noise_66 : decode cX8_noise 66 = .ok (.getfield 25, 3) := all_d dX8_noise_all0 34 rfl
theorem dX8_noise_69 : decode cX8_noise 69 = .ok (.iload_n 1, 1) := all_d dX8_noise_all0 35 rfl
theorem dX8_noise_70 : decode cX8_noise 70 = .ok (.iload_n 2, 1) := all_d dX8_noise_all0 36 rfl
theorem dX8_noise_71 : decode cX8_noise 71 = .ok (.invokevirtual 213, 3) := all_d dX8_noise_all0 37 rfl
theorem dX8_noise_74 : decode cX8_noise 74 = .ok (.aload_n 0, 1) := all_d dX8_noise_all0 38 rfl
theorem dX8_noise_75 : decode cX8_noise 75 = .ok (.getfield 25, 3) := all_d dX8_noise_all0 39 rfl
theorem dX8_noise_78 : decode cX8_noise 78 = .ok (.getfield 210, 3) := all_d dX8_noise_all0 40 rfl
theorem dX8_noise_81 : decode cX8_noise 81 = .ok (.ireturn, 1) := all_d dX8_noise_all0 41 rfl
set_option maxRecDepth 100000 in
theorem dX8_still_all0 : ([(0, (.aload_n 0 : Instr), 1), (1, (.getfield 25 : Instr), 3), (4, (.getfield 210 : Instr), 3), (7, (.istore_n 1 : Instr), 1), (8, (.aload_n 0 : Instr), 1), (9, (.getfield 25 : Instr), 3), (12, (.iconst 0 : Instr), 1), (13, (.putfield 210 : Instr), 3), (16, (.iload_n 1 : Instr), 1), (17, (.ireturn : Instr), 1)] : List (Nat × Instr × Nat)).all (fun q => decide (decode cX8_still q.1 = .ok (q.2.1, q.2.2))) = true := by decide +kernel
theorem dX8_still_0 : decode cX8_still 0 = .ok (.aload_n 0, 1) := all_d dX8_still_all0 0 rfl
theorem dX8_still_1 : decode cX8_still 1 = .ok (.getfield 25, 3) := all_d dX8_still_all0 1 rfl
theorem dX8_still_4 : decode cX8_still 4 = .ok (.getfield 210, 3) := all_d dX8_still_all0 2 rfl
theorem dX8_still_7 : decode cX8_still 7 = .ok (.istore_n 1, 1) := all_d dX8_still_all0 3 rfl
theorem dX8_still_8 : decode cX8_still 8 = .ok (.aload_n 0, 1) := all_d dX8_still_all0 4 rfl
theorem dX8_still_9 : decode cX8_still 9 = .ok (.getfield 25, 3) := all_d dX8_still_all0 5 rfl
theorem dX8_still_12 : decode cX8_still 12 = .ok (.iconst 0, 1) := all_d dX8_still_all0 6 rfl
theorem dX8_still_13 : decode cX8_still 13 = .ok (.putfield 210, 3) := all_d dX8_still_all0 7 rfl
theorem dX8_still_16 : decode cX8_still 16 = .ok (.iload_n 1, 1) := all_d dX8_still_all0 8 rfl
theorem dX8_still_17 : decode cX8_still 17 = .ok (.ireturn, 1) := all_d dX8_still_all0 9 rfl
set_option maxRecDepth 100000 in
theorem dX8_mean_all0 : ([(0, (.aload_n 0 : Instr), 1), (1, (.iload_n 1 : Instr), 1), (2, (.invokevirtual 83 : Instr), 3), (5, (.astore 4 : Instr), 2), (7, (.aload_n 0 : Instr), 1), (8, (.aload 4 : Instr), 2), (10, (.ifnull 11 : Instr), 3), (13, (.aload_n 0 : Instr), 1), (14, (.iload_n 2 : Instr), 1), (15, (.invokevirtual 134 : Instr), 3), (18, (.ifCond .ne 7 : Instr), 3), (21, (.iconst 2 : Instr), 1), (22, (.goto 4 : Instr), 3), (25, (.iconst 0 : Instr), 1), (26, (.putfield 66 : Instr), 3), (29, (.aload 4 : Instr), 2), (31, (.ifnull 10 : Instr), 3), (34, (.aload_n 0 : Instr), 1), (35, (.getfield 66 : Instr), 3), (38, (.ifCond .eq 5 : Instr), 3), (41, (.iconst (-1) : Instr), 1), (42, (.ireturn : Instr), 1), (43, (.aload_n 0 : Instr), 1), (44, (.getfield 25 : Instr), 3), (47, (.getfield 210 : Instr), 3), (50, (.ifCond .ne 18 : Instr), 3), (53, (.iload_n 3 : Instr), 1), (54, (.ifCond .eq 7 : Instr), 3), (57, (.iconst 1 : Instr), 1), (58, (.goto 9 : Instr), 3), (61, (.aload 4 : Instr), 2), (63, (.iload_n 2 : Instr), 1), (64, (.invokevirtual 139 : Instr), 3), (67, (.ireturn : Instr), 1), (68, (.aload_n 0 : Instr), 1), (69, (.getfield 25 : Instr), 3), (72, (.aload 4 : Instr), 2), (74, (.iload_n 2 : Instr), 1), (75, (.aload_n 0 : Instr), 1), (76, (.getfield 56 : Instr), 3), (79, (.invokevirtual 216 : Instr), 3), (82, (.istore 5 : Instr), 2), (84, (.aload_n 0 : Instr), 1), (85, (.getfield 25 : Instr), 3), (88, (.invokevirtual 219 : Instr), 3), (91, (.istore 6 : Instr), 2), (93, (.iconst 1 : Instr), 1), (94, (.iload 5 : Instr), 2), (96, (.iload 6 : Instr), 2), (98, (.invokestatic 222 : Instr), 3), (101, (.invokestatic 175 : Instr), 3), (104, (.istore 7 : Instr), 2), (106, (.iload_n 3 : Instr), 1), (107, (.ifCond .eq 8 : Instr), 3), (110, (.iload 6 : Instr), 2), (112, (.goto 5 : Instr), 3), (115, (.iload 5 : Instr), 2), (117, (.iload 7 : Instr), 2), (119, (.idiv : Instr), 1), (120, (.ireturn : Instr), 1)] : List (Nat × Instr × Nat)).all (fun q => decide (decode cX8_mean q.1 = .ok (q.2.1, q.2.2))) = true := by decide +kernel
theorem dX8_mean_0 : decode cX8_mean 0 = .ok (.aload_n 0, 1) := all_d dX8_mean_all0 0 rfl
theorem dX8_mean_1 : decode cX8_mean 1 = .ok (.iload_n 1, 1) := all_d dX8_mean_all0 1 rfl
theorem dX8_mean_2 : decode cX8_mean 2 = .ok (.invokevirtual 83, 3) := all_d dX8_mean_all0 2 rfl
theorem dX8_mean_5 : decode cX8_mean 5 = .ok (.astore 4, 2) := all_d dX8_mean_all0 3 rfl
theorem dX8_mean_7 : decode cX8_mean 7 = .ok (.aload_n 0, 1) := all_d dX8_mean_all0 4 rfl
theorem dX8_mean_8 : decode cX8_mean 8 = .ok (.aload 4, 2) := all_d dX8_mean_all0 5 rfl
theorem dX8_mean_10 : decode cX8_mean 10 = .ok (.ifnull 11, 3) := all_d dX8_mean_all0 6 rfl
theorem dX8_mean_13 : decode cX8_mean 13 = .ok (.aload_n 0, 1) := all_d dX8_mean_all0 7 rfl
theorem dX8_mean_14 : decode cX8_mean 14 = .ok (.iload_n 2, 1) := all_d dX8_mean_all0 8 rfl
theorem dX8_mean_15 : decode cX8_mean 15 = .ok (.invokevirtual 134, 3) := all_d dX8_mean_all0 9 rfl
theorem dX8_mean_18 : decode cX8_mean 18 = .ok (.ifCond .ne 7, 3) := all_d dX8_mean_all0 10 rfl
theorem dX8_mean_21 : decode cX8_mean 21 = .ok (.iconst 2, 1) := all_d dX8_mean_all0 11 rfl
theorem dX8_mean_22 : decode cX8_mean 22 = .ok (.goto 4, 3) := all_d dX8_mean_all0 12 rfl
theorem dX8_mean_25 : decode cX8_mean 25 = .ok (.iconst 0, 1) := all_d dX8_mean_all0 13 rfl
theorem dX8_mean_26 : decode cX8_mean 26 = .ok (.putfield 66, 3) := all_d dX8_mean_all0 14 rfl
theorem dX8_mean_29 : decode cX8_mean 29 = .ok (.aload 4, 2) := all_d dX8_mean_all0 15 rfl
theorem dX8_mean_31 : decode cX8_mean 31 = .ok (.ifnull 10, 3) := all_d dX8_mean_all0 16 rfl
theorem dX8_mean_34 : decode cX8_mean 34 = .ok (.aload_n 0, 1) := all_d dX8_mean_all0 17 rfl
theorem dX8_mean_35 : decode cX8_mean 35 = .ok (.getfield 66, 3) := all_d dX8_mean_all0 18 rfl
theorem dX8_mean_38 : decode cX8_mean 38 = .ok (.ifCond .eq 5, 3) := all_d dX8_mean_all0 19 rfl
theorem dX8_mean_41 : decode cX8_mean 41 = .ok (.iconst (-1), 1) := all_d dX8_mean_all0 20 rfl
theorem dX8_mean_42 : decode cX8_mean 42 = .ok (.ireturn, 1) := all_d dX8_mean_all0 21 rfl
theorem dX8_mean_43 : decode cX8_mean 43 = .ok (.aload_n 0, 1) := all_d dX8_mean_all0 22 rfl
theorem dX8_mean_44 : decode cX8_mean 44 = .ok (.getfield 25, 3) := all_d dX8_mean_all0 23 rfl
theorem dX8_mean_47 : decode cX8_mean 47 = .ok (.getfield 210, 3) := all_d dX8_mean_all0 24 rfl
theorem dX8_mean_50 : decode cX8_mean 50 = .ok (.ifCond .ne 18, 3) := all_d dX8_mean_all0 25 rfl
theorem dX8_mean_53 : decode cX8_mean 53 = .ok (.iload_n 3, 1) := all_d dX8_mean_all0 26 rfl
theorem dX8_mean_54 : decode cX8_mean 54 = .ok (.ifCond .eq 7, 3) := all_d dX8_mean_all0 27 rfl
theorem dX8_mean_57 : decode cX8_mean 57 = .ok (.iconst 1, 1) := all_d dX8_mean_all0 28 rfl
theorem dX8_mean_58 : decode cX8_mean 58 = .ok (.goto 9, 3) := all_d dX8_mean_all0 29 rfl
theorem dX8_mean_61 : decode cX8_mean 61 = .ok (.aload 4, 2) := all_d dX8_mean_all0 30 rfl
theorem dX8_mean_63 : decode cX8_mean 63 = .ok (.iload_n 2, 1) := all_d dX8_mean_all0 31 rfl
theorem dX8_mean_64 : decode cX8_mean 64 = .ok (.invokevirtual 139, 3) := all_d dX8_mean_all0 32 rfl
theorem dX8_mean_67 : decode cX8_mean 67 = .ok (.ireturn, 1) := all_d dX8_mean_all0 33 rfl
theorem dX8_mean_68 : decode cX8_mean 68 = .ok (.aload_n 0, 1) := all_d dX8_mean_all0 34 rfl
theorem dX8_mean_69 : decode cX8_mean 69 = .ok (.getfield 25, 3) := all_d dX8_mean_all0 35 rfl
theorem dX8_mean_72 : decode cX8_mean 72 = .ok (.aload 4, 2) := all_d dX8_mean_all0 36 rfl
theorem dX8_mean_74 : decode cX8_mean 74 = .ok (.iload_n 2, 1) := all_d dX8_mean_all0 37 rfl
theorem dX8_mean_75 : decode cX8_mean 75 = .ok (.aload_n 0, 1) := all_d dX8_mean_all0 38 rfl
theorem dX8_mean_76 : decode cX8_mean 76 = .ok (.getfield 56, 3) := all_d dX8_mean_all0 39 rfl
theorem dX8_mean_79 : decode cX8_mean 79 = .ok (.invokevirtual 216, 3) := all_d dX8_mean_all0 40 rfl
theorem dX8_mean_82 : decode cX8_mean 82 = .ok (.istore 5, 2) := all_d dX8_mean_all0 41 rfl
theorem dX8_mean_84 : decode cX8_mean 84 = .ok (.aload_n 0, 1) := all_d dX8_mean_all0 42 rfl
theorem dX8_mean_85 : decode cX8_mean 85 = .ok (.getfield 25, 3) := all_d dX8_mean_all0 43 rfl
theorem dX8_mean_88 : decode cX8_mean 88 = .ok (.invokevirtual 219, 3) := all_d dX8_mean_all0 44 rfl
theorem dX8_mean_91 : decode cX8_mean 91 = .ok (.istore 6, 2) := all_d dX8_mean_all0 45 rfl
theorem dX8_mean_93 : decode cX8_mean 93 = .ok (.iconst 1, 1) := all_d dX8_mean_all0 46 rfl
theorem dX8_mean_94 : decode cX8_mean 94 = .ok (.iload 5, 2) := all_d dX8_mean_all0 47 rfl
theorem dX8_mean_96 : decode cX8_mean 96 = .ok (.iload 6, 2) := all_d dX8_mean_all0 48 rfl
theorem dX8_mean_98 : decode cX8_mean 98 = .ok (.invokestatic 222, 3) := all_d dX8_mean_all0 49 rfl
theorem dX8_mean_101 : decode cX8_mean 101 = .ok (.invokestatic 175, 3) := all_d dX8_mean_all0 50 rfl
theorem dX8_mean_104 : decode cX8_mean 104 = .ok (.istore 7, 2) := all_d dX8_mean_all0 51 rfl
theorem dX8_mean_106 : decode cX8_mean 106 = .ok (.iload_n 3, 1) := all_d dX8_mean_all0 52 rfl
theorem dX8_mean_107 : decode cX8_mean 107 = .ok (.ifCond .eq 8, 3) := all_d dX8_mean_all0 53 rfl
theorem dX8_mean_110 : decode cX8_mean 110 = .ok (.iload 6, 2) := all_d dX8_mean_all0 54 rfl
theorem dX8_mean_112 : decode cX8_mean 112 = .ok (.goto 5, 3) := all_d dX8_mean_all0 55 rfl
theorem dX8_mean_115 : decode cX8_mean 115 = .ok (.iload 5, 2) := all_d dX8_mean_all0 56 rfl
theorem dX8_mean_117 : decode cX8_mean 117 = .ok (.iload 7, 2) := all_d dX8_mean_all0 57 rfl
theorem dX8_mean_119 : decode cX8_mean 119 = .ok (.idiv, 1) := all_d dX8_mean_all0 58 rfl
theorem dX8_mean_120 : decode cX8_mean 120 = .ok (.ireturn, 1) := all_d dX8_mean_all0 59 rfl
set_option maxRecDepth 100000 in
theorem dX8_fault_all0 : ([(0, (.aload_n 0 : Instr), 1), (1, (.aload_n 0 : Instr), 1), (2, (.iload_n 1 : Instr), 1), (3, (.iload_n 2 : Instr), 1), (4, (.invokevirtual 109 : Instr), 3), (7, (.ifnonnull 7 : Instr), 3), (10, (.iconst 2 : Instr), 1), (11, (.goto 31 : Instr), 3), (14, (.iload_n 3 : Instr), 1), (15, (.sipush 500 : Instr), 3), (18, (.invokestatic 113 : Instr), 3), (21, (.ifCond .ne 7 : Instr), 3), (24, (.iconst 1 : Instr), 1), (25, (.goto 17 : Instr), 3), (28, (.aload_n 0 : Instr), 1), (29, (.getfield 63 : Instr), 3), (32, (.bipush 10 : Instr), 2), (34, (.if_icmp .lt 7 : Instr), 3), (37, (.iconst 3 : Instr), 1), (38, (.goto 4 : Instr), 3), (41, (.iconst 0 : Instr), 1), (42, (.putfield 66 : Instr), 3), (45, (.aload_n 0 : Instr), 1), (46, (.getfield 66 : Instr), 3), (49, (.ifCond .eq 5 : Instr), 3), (52, (.iconst (-1) : Instr), 1), (53, (.ireturn : Instr), 1), (54, (.aload_n 0 : Instr), 1), (55, (.dup : Instr), 1), (56, (.getfield 63 : Instr), 3), (59, (.iconst 1 : Instr), 1), (60, (.iadd : Instr), 1), (61, (.putfield 63 : Instr), 3), (64, (.aload_n 0 : Instr), 1), (65, (.aload_n 0 : Instr), 1), (66, (.getfield 63 : Instr), 3), (69, (.iconst 1 : Instr), 1), (70, (.isub : Instr), 1), (71, (.invokevirtual 225 : Instr), 3), (74, (.astore 4 : Instr), 2), (76, (.aload 4 : Instr), 2), (78, (.ifnull 11 : Instr), 3), (81, (.aload 4 : Instr), 2), (83, (.iload_n 1 : Instr), 1), (84, (.iload_n 2 : Instr), 1), (85, (.iload_n 3 : Instr), 1), (86, (.invokevirtual 229 : Instr), 3), (89, (.aload_n 0 : Instr), 1), (90, (.getfield 63 : Instr), 3), (93, (.ireturn : Instr), 1)] : List (Nat × Instr × Nat)).all (fun q => decide (decode cX8_fault q.1 = .ok (q.2.1, q.2.2))) = true := by decide +kernel
theorem dX8_fault_0 : decode cX8_fault 0 = .ok (.aload_n 0, 1) := all_d dX8_fault_all0 0 rfl
theorem dX8_fault_1 : decode cX8_fault 1 = .ok (.aload_n 0, 1) := all_d dX8_fault_all0 1 rfl
theorem dX8_fault_2 : decode cX8_fault 2 = .ok (.iload_n 1, 1) := all_d dX8_fault_all0 2 rfl
theorem dX8_fault_3 : decode cX8_fault 3 = .ok (.iload_n 2, 1) := all_d dX8_fault_all0 3 rfl
theorem dX8_fault_4 : decode cX8_fault 4 = .ok (.invokevirtual 109, 3) := all_d dX8_fault_all0 4 rfl
theorem dX8_fault_7 : decode cX8_fault 7 = .ok (.ifnonnull 7, 3) := all_d dX8_fault_all0 5 rfl
theorem dX8_fault_10 : decode cX8_fault 10 = .ok (.iconst 2, 1) := all_d dX8_fault_all0 6 rfl
theorem dX8_fault_11 : decode cX8_fault 11 = .ok (.goto 31, 3) := all_d dX8_fault_all0 7 rfl
theorem dX8_fault_14 : decode cX8_fault 14 = .ok (.iload_n 3, 1) := all_d dX8_fault_all0 8 rfl
theorem dX8_fault_15 : decode cX8_fault 15 = .ok (.sipush 500, 3) := all_d dX8_fault_all0 9 rfl
theorem dX8_fault_18 : decode cX8_fault 18 = .ok (.invokestatic 113, 3) := all_d dX8_fault_all0 10 rfl
theorem dX8_fault_21 : decode cX8_fault 21 = .ok (.ifCond .ne 7, 3) := all_d dX8_fault_all0 11 rfl
theorem dX8_fault_24 : decode cX8_fault 24 = .ok (.iconst 1, 1) := all_d dX8_fault_all0 12 rfl
theorem dX8_fault_25 : decode cX8_fault 25 = .ok (.goto 17, 3) := all_d dX8_fault_all0 13 rfl
theorem dX8_fault_28 : decode cX8_fault 28 = .ok (.aload_n 0, 1) := all_d dX8_fault_all0 14 rfl
theorem dX8_fault_29 : decode cX8_fault 29 = .ok (.getfield 63, 3) := all_d dX8_fault_all0 15 rfl
theorem dX8_fault_32 : decode cX8_fault 32 = .ok (.bipush 10, 2) := all_d dX8_fault_all0 16 rfl
theorem dX8_fault_34 : decode cX8_fault 34 = .ok (.if_icmp .lt 7, 3) := all_d dX8_fault_all0 17 rfl
theorem dX8_fault_37 : decode cX8_fault 37 = .ok (.iconst 3, 1) := all_d dX8_fault_all0 18 rfl
theorem dX8_fault_38 : decode cX8_fault 38 = .ok (.goto 4, 3) := all_d dX8_fault_all0 19 rfl
theorem dX8_fault_41 : decode cX8_fault 41 = .ok (.iconst 0, 1) := all_d dX8_fault_all0 20 rfl
theorem dX8_fault_42 : decode cX8_fault 42 = .ok (.putfield 66, 3) := all_d dX8_fault_all0 21 rfl
theorem dX8_fault_45 : decode cX8_fault 45 = .ok (.aload_n 0, 1) := all_d dX8_fault_all0 22 rfl
theorem dX8_fault_46 : decode cX8_fault 46 = .ok (.getfield 66, 3) := all_d dX8_fault_all0 23 rfl
theorem dX8_fault_49 : decode cX8_fault 49 = .ok (.ifCond .eq 5, 3) := all_d dX8_fault_all0 24 rfl
theorem dX8_fault_52 : decode cX8_fault 52 = .ok (.iconst (-1), 1) := all_d dX8_fault_all0 25 rfl
theorem dX8_fault_53 : decode cX8_fault 53 = .ok (.ireturn, 1) := all_d dX8_fault_all0 26 rfl
theorem dX8_fault_54 : decode cX8_fault 54 = .ok (.aload_n 0, 1) := all_d dX8_fault_all0 27 rfl
theorem dX8_fault_55 : decode cX8_fault 55 = .ok (.dup, 1) := all_d dX8_fault_all0 28 rfl
theorem dX8_fault_56 : decode cX8_fault 56 = .ok (.getfield 63, 3) := all_d dX8_fault_all0 29 rfl
theorem dX8_fault_59 : decode cX8_fault 59 = .ok (.iconst 1, 1) := all_d dX8_fault_all0 30 rfl
theorem dX8_fault_60 : decode cX8_fault 60 = .ok (.iadd, 1) := all_d dX8_fault_all0 31 rfl
theorem dX8_fault_61 : decode cX8_fault 61 = .ok (.putfield 63, 3) := all_d dX8_fault_all0 32 rfl
theorem dX8_fault_64 : decode cX8_fault 64 = .ok (.aload_n 0, 1) := all_d dX8_fault_all0 33 rfl
theorem dX8_fault_65 : decode cX8_fault 65 = .ok (.aload_n 0, 1) := all_d dX8_fault_all0 34 rfl
theorem dX8_fault_66 : decode cX8_fault 66 = .ok (.getfield 63, 3) := all_d dX8_fault_all0 35 rfl
theorem dX8_fault_69 : decode cX8_fault 69 = .ok (.iconst 1, 1) := all_d dX8_fault_all0 36 rfl
theorem dX8_fault_70 : decode cX8_fault 70 = .ok (.isub, 1) := all_d dX8_fault_all0 37 rfl
theorem dX8_fault_71 : decode cX8_fault 71 = .ok (.invokevirtual 225, 3) := all_d dX8_fault_all0 38 rfl
theorem dX8_fault_74 : decode cX8_fault 74 = .ok (.astore 4, 2) := all_d dX8_fault_all0 39 rfl
theorem dX8_fault_76 : decode cX8_fault 76 = .ok (.aload 4, 2) := all_d dX8_fault_all0 40 rfl
theorem dX8_fault_78 : decode cX8_fault 78 = .ok (.ifnull 11, 3) := all_d dX8_fault_all0 41 rfl
theorem dX8_fault_81 : decode cX8_fault 81 = .ok (.aload 4, 2) := all_d dX8_fault_all0 42 rfl
theorem dX8_fault_83 : decode cX8_fault 83 = .ok (.iload_n 1, 1) := all_d dX8_fault_all0 43 rfl
theorem dX8_fault_84 : decode cX8_fault 84 = .ok (.iload_n 2, 1) := all_d dX8_fault_all0 44 rfl
theorem dX8_fault_85 : decode cX8_fault 85 = .ok (.iload_n 3, 1) := all_d dX8_fault_all0 45 rfl
theorem dX8_fault_86 : decode cX8_fault 86 = .ok (.invokevirtual 229, 3) := all_d dX8_fault_all0 46 rfl
theorem dX8_fault_89 : decode cX8_fault 89 = .ok (.aload_n 0, 1) := all_d dX8_fault_all0 47 rfl
theorem dX8_fault_90 : decode cX8_fault 90 = .ok (.getfield 63, 3) := all_d dX8_fault_all0 48 rfl
theorem dX8_fault_93 : decode cX8_fault 93 = .ok (.ireturn, 1) := all_d dX8_fault_all0 49 rfl
set_option maxRecDepth 100000 in
theorem dX8_clear_all0 : ([(0, (.aload_n 0 : Instr), 1), (1, (.getfield 63 : Instr), 3), (4, (.istore_n 1 : Instr), 1), (5, (.aload_n 0 : Instr), 1), (6, (.iconst 0 : Instr), 1), (7, (.putfield 63 : Instr), 3), (10, (.iload_n 1 : Instr), 1), (11, (.ireturn : Instr), 1)] : List (Nat × Instr × Nat)).all (fun q => decide (decode cX8_clear q.1 = .ok (q.2.1, q.2.2))) = true := by decide +kernel
theorem dX8_clear_0 : decode cX8_clear 0 = .ok (.aload_n 0, 1) := all_d dX8_clear_all0 0 rfl
theorem dX8_clear_1 : decode cX8_clear 1 = .ok (.getfield 63, 3) := all_d dX8_clear_all0 1 rfl
theorem dX8_clear_4 : decode cX8_clear 4 = .ok (.istore_n 1, 1) := all_d dX8_clear_all0 2 rfl
theorem dX8_clear_5 : decode cX8_clear 5 = .ok (.aload_n 0, 1) := all_d dX8_clear_all0 3 rfl
theorem dX8_clear_6 : decode cX8_clear 6 = .ok (.iconst 0, 1) := all_d dX8_clear_all0 4 rfl
theorem dX8_clear_7 : decode cX8_clear 7 = .ok (.putfield 63, 3) := all_d dX8_clear_all0 5 rfl
theorem dX8_clear_10 : decode cX8_clear 10 = .ok (.iload_n 1, 1) := all_d dX8_clear_all0 6 rfl
theorem dX8_clear_11 : decode cX8_clear 11 = .ok (.ireturn, 1) := all_d dX8_clear_all0 7 rfl
set_option maxRecDepth 100000 in
theorem dX8_shown_all0 : ([(0, (.aload_n 0 : Instr), 1), (1, (.iload_n 1 : Instr), 1), (2, (.invokevirtual 225 : Instr), 3), (5, (.astore_n 2 : Instr), 1), (6, (.aload_n 0 : Instr), 1), (7, (.aload_n 2 : Instr), 1), (8, (.ifnonnull 7 : Instr), 3), (11, (.iconst 2 : Instr), 1), (12, (.goto 4 : Instr), 3), (15, (.iconst 0 : Instr), 1), (16, (.putfield 66 : Instr), 3), (19, (.aload_n 2 : Instr), 1), (20, (.ifnonnull 5 : Instr), 3), (23, (.iconst (-1) : Instr), 1), (24, (.ireturn : Instr), 1), (25, (.iconst 0 : Instr), 1), (26, (.istore_n 3 : Instr), 1), (27, (.iload_n 3 : Instr), 1), (28, (.aload_n 0 : Instr), 1), (29, (.getfield 56 : Instr), 3), (32, (.if_icmp .gt 20 : Instr), 3), (35, (.aload_n 0 : Instr), 1), (36, (.aload_n 2 : Instr), 1), (37, (.iload_n 3 : Instr), 1), (38, (.invokevirtual 233 : Instr), 3), (41, (.ifCond .eq 5 : Instr), 3), (44, (.iload_n 3 : Instr), 1), (45, (.ireturn : Instr), 1), (46, (.iinc 3 1 : Instr), 3), (49, (.goto (-22) : Instr), 3), (52, (.bipush (-2) : Instr), 2), (54, (.ireturn : Instr), 1)] : List (Nat × Instr × Nat)).all (fun q => decide (decode cX8_shown q.1 = .ok (q.2.1, q.2.2))) = true := by decide +kernel
theorem dX8_shown_0 : decode cX8_shown 0 = .ok (.aload_n 0, 1) := all_d dX8_shown_all0 0 rfl
theorem dX8_shown_1 : decode cX8_shown 1 = .ok (.iload_n 1, 1) := all_d dX8_shown_all0 1 rfl
theorem dX8_shown_2 : decode cX8_shown 2 = .ok (.invokevirtual 225, 3) := all_d dX8_shown_all0 2 rfl
theorem dX8_shown_5 : decode cX8_shown 5 = .ok (.astore_n 2, 1) := all_d dX8_shown_all0 3 rfl
theorem dX8_shown_6 : decode cX8_shown 6 = .ok (.aload_n 0, 1) := all_d dX8_shown_all0 4 rfl
theorem dX8_shown_7 : decode cX8_shown 7 = .ok (.aload_n 2, 1) := all_d dX8_shown_all0 5 rfl
theorem dX8_shown_8 : decode cX8_shown 8 = .ok (.ifnonnull 7, 3) := all_d dX8_shown_all0 6 rfl
theorem dX8_shown_11 : decode cX8_shown 11 = .ok (.iconst 2, 1) := all_d dX8_shown_all0 7 rfl
theorem dX8_shown_12 : decode cX8_shown 12 = .ok (.goto 4, 3) := all_d dX8_shown_all0 8 rfl
theorem dX8_shown_15 : decode cX8_shown 15 = .ok (.iconst 0, 1) := all_d dX8_shown_all0 9 rfl
theorem dX8_shown_16 : decode cX8_shown 16 = .ok (.putfield 66, 3) := all_d dX8_shown_all0 10 rfl
theorem dX8_shown_19 : decode cX8_shown 19 = .ok (.aload_n 2, 1) := all_d dX8_shown_all0 11 rfl
theorem dX8_shown_20 : decode cX8_shown 20 = .ok (.ifnonnull 5, 3) := all_d dX8_shown_all0 12 rfl
theorem dX8_shown_23 : decode cX8_shown 23 = .ok (.iconst (-1), 1) := all_d dX8_shown_all0 13 rfl
theorem dX8_shown_24 : decode cX8_shown 24 = .ok (.ireturn, 1) := all_d dX8_shown_all0 14 rfl
theorem dX8_shown_25 : decode cX8_shown 25 = .ok (.iconst 0, 1) := all_d dX8_shown_all0 15 rfl
theorem dX8_shown_26 : decode cX8_shown 26 = .ok (.istore_n 3, 1) := all_d dX8_shown_all0 16 rfl
theorem dX8_shown_27 : decode cX8_shown 27 = .ok (.iload_n 3, 1) := all_d dX8_shown_all0 17 rfl
theorem dX8_shown_28 : decode cX8_shown 28 = .ok (.aload_n 0, 1) := all_d dX8_shown_all0 18 rfl
theorem dX8_shown_29 : decode cX8_shown 29 = .ok (.getfield 56, 3) := all_d dX8_shown_all0 19 rfl
theorem dX8_shown_32 : decode cX8_shown 32 = .ok (.if_icmp .gt 20, 3) := all_d dX8_shown_all0 20 rfl
theorem dX8_shown_35 : decode cX8_shown 35 = .ok (.aload_n 0, 1) := all_d dX8_shown_all0 21 rfl
theorem dX8_shown_36 : decode cX8_shown 36 = .ok (.aload_n 2, 1) := all_d dX8_shown_all0 22 rfl
theorem dX8_shown_37 : decode cX8_shown 37 = .ok (.iload_n 3, 1) := all_d dX8_shown_all0 23 rfl
theorem dX8_shown_38 : decode cX8_shown 38 = .ok (.invokevirtual 233, 3) := all_d dX8_shown_all0 24 rfl
theorem dX8_shown_41 : decode cX8_shown 41 = .ok (.ifCond .eq 5, 3) := all_d dX8_shown_all0 25 rfl
theorem dX8_shown_44 : decode cX8_shown 44 = .ok (.iload_n 3, 1) := all_d dX8_shown_all0 26 rfl
theorem dX8_shown_45 : decode cX8_shown 45 = .ok (.ireturn, 1) := all_d dX8_shown_all0 27 rfl
theorem dX8_shown_46 : decode cX8_shown 46 = .ok (.iinc 3 1, 3) := all_d dX8_shown_all0 28 rfl
theorem dX8_shown_49 : decode cX8_shown 49 = .ok (.goto (-22), 3) := all_d dX8_shown_all0 29 rfl
theorem dX8_shown_52 : decode cX8_shown 52 = .ok (.bipush (-2), 2) := all_d dX8_shown_all0 30 rfl
theorem dX8_shown_54 : decode cX8_shown 54 = .ok (.ireturn, 1) := all_d dX8_shown_all0 31 rfl
set_option maxRecDepth 100000 in
theorem dX8_shows_all0 : ([(0, (.aload_n 0 : Instr), 1), (1, (.getfield 63 : Instr), 3), (4, (.ifCond .ne 5 : Instr), 3), (7, (.iconst 0 : Instr), 1), (8, (.ireturn : Instr), 1), (9, (.aload_n 0 : Instr), 1), (10, (.getfield 45 : Instr), 3), (13, (.invokevirtual 237 : Instr), 3), (16, (.iconst 0 : Instr), 1), (17, (.istore_n 1 : Instr), 1), (18, (.iload_n 1 : Instr), 1), (19, (.aload_n 0 : Instr), 1), (20, (.getfield 56 : Instr), 3), (23, (.if_icmp .gt 21 : Instr), 3), (26, (.aload_n 0 : Instr), 1), (27, (.getfield 45 : Instr), 3), (30, (.aload_n 0 : Instr), 1), (31, (.iload_n 1 : Instr), 1), (32, (.invokevirtual 239 : Instr), 3), (35, (.invokevirtual 242 : Instr), 3), (38, (.iinc 1 1 : Instr), 3), (41, (.goto (-23) : Instr), 3), (44, (.aload_n 0 : Instr), 1), (45, (.getfield 45 : Instr), 3), (48, (.invokevirtual 245 : Instr), 3), (51, (.ireturn : Instr), 1)] : List (Nat × Instr × Nat)).all (fun q => decide (decode cX8_shows q.1 = .ok (q.2.1, q.2.2))) = true := by decide +kernel
theorem dX8_shows_0 : decode cX8_shows 0 = .ok (.aload_n 0, 1) := all_d dX8_shows_all0 0 rfl
theorem dX8_shows_1 : decode cX8_shows 1 = .ok (.getfield 63, 3) := all_d dX8_shows_all0 1 rfl
theorem dX8_shows_4 : decode cX8_shows 4 = .ok (.ifCond .ne 5, 3) := all_d dX8_shows_all0 2 rfl
theorem dX8_shows_7 : decode cX8_shows 7 = .ok (.iconst 0, 1) := all_d dX8_shows_all0 3 rfl
theorem dX8_shows_8 : decode cX8_shows 8 = .ok (.ireturn, 1) := all_d dX8_shows_all0 4 rfl
theorem dX8_shows_9 : decode cX8_shows 9 = .ok (.aload_n 0, 1) := all_d dX8_shows_all0 5 rfl
theorem dX8_shows_10 : decode cX8_shows 10 = .ok (.getfield 45, 3) := all_d dX8_shows_all0 6 rfl
theorem dX8_shows_13 : decode cX8_shows 13 = .ok (.invokevirtual 237, 3) := all_d dX8_shows_all0 7 rfl
theorem dX8_shows_16 : decode cX8_shows 16 = .ok (.iconst 0, 1) := all_d dX8_shows_all0 8 rfl
theorem dX8_shows_17 : decode cX8_shows 17 = .ok (.istore_n 1, 1) := all_d dX8_shows_all0 9 rfl
theorem dX8_shows_18 : decode cX8_shows 18 = .ok (.iload_n 1, 1) := all_d dX8_shows_all0 10 rfl
theorem dX8_shows_19 : decode cX8_shows 19 = .ok (.aload_n 0, 1) := all_d dX8_shows_all0 11 rfl
theorem dX8_shows_20 : decode cX8_shows 20 = .ok (.getfield 56, 3) := all_d dX8_shows_all0 12 rfl
theorem dX8_shows_23 : decode cX8_shows 23 = .ok (.if_icmp .gt 21, 3) := all_d dX8_shows_all0 13 rfl
theorem dX8_shows_26 : decode cX8_shows 26 = .ok (.aload_n 0, 1) := all_d dX8_shows_all0 14 rfl
theorem dX8_shows_27 : decode cX8_shows 27 = .ok (.getfield 45, 3) := all_d dX8_shows_all0 15 rfl
theorem dX8_shows_30 : decode cX8_shows 30 = .ok (.aload_n 0, 1) := all_d dX8_shows_all0 16 rfl
theorem dX8_shows_31 : decode cX8_shows 31 = .ok (.iload_n 1, 1) := all_d dX8_shows_all0 17 rfl
theorem dX8_shows_32 : decode cX8_shows 32 = .ok (.invokevirtual 239, 3) := all_d dX8_shows_all0 18 rfl
theorem dX8_shows_35 : decode cX8_shows 35 = .ok (.invokevirtual 242, 3) := all_d dX8_shows_all0 19 rfl
theorem dX8_shows_38 : decode cX8_shows 38 = .ok (.iinc 1 1, 3) := all_d dX8_shows_all0 20 rfl
theorem dX8_shows_41 : decode cX8_shows 41 = .ok (.goto (-23), 3) := all_d dX8_shows_all0 21 rfl
theorem dX8_shows_44 : decode cX8_shows 44 = .ok (.aload_n 0, 1) := all_d dX8_shows_all0 22 rfl
theorem dX8_shows_45 : decode cX8_shows 45 = .ok (.getfield 45, 3) := all_d dX8_shows_all0 23 rfl
theorem dX8_shows_48 : decode cX8_shows 48 = .ok (.invokevirtual 245, 3) := all_d dX8_shows_all0 24 rfl
theorem dX8_shows_51 : decode cX8_shows 51 = .ok (.ireturn, 1) := all_d dX8_shows_all0 25 rfl
set_option maxRecDepth 100000 in
theorem dX8_showing_all0 : ([(0, (.aload_n 0 : Instr), 1), (1, (.iload_n 1 : Instr), 1), (2, (.invokevirtual 134 : Instr), 3), (5, (.ifCond .eq 11 : Instr), 3), (8, (.aload_n 0 : Instr), 1), (9, (.iload_n 1 : Instr), 1), (10, (.invokevirtual 239 : Instr), 3), (13, (.goto 4 : Instr), 3), (16, (.iconst (-1) : Instr), 1), (17, (.ireturn : Instr), 1)] : List (Nat × Instr × Nat)).all (fun q => decide (decode cX8_showing q.1 = .ok (q.2.1, q.2.2))) = true := by decide +kernel
theorem dX8_showing_0 : decode cX8_showing 0 = .ok (.aload_n 0, 1) := all_d dX8_showing_all0 0 rfl
theorem dX8_showing_1 : decode cX8_showing 1 = .ok (.iload_n 1, 1) := all_d dX8_showing_all0 1 rfl
theorem dX8_showing_2 : decode cX8_showing 2 = .ok (.invokevirtual 134, 3) := all_d dX8_showing_all0 2 rfl
theorem dX8_showing_5 : decode cX8_showing 5 = .ok (.ifCond .eq 11, 3) := all_d dX8_showing_all0 3 rfl
theorem dX8_showing_8 : decode cX8_showing 8 = .ok (.aload_n 0, 1) := all_d dX8_showing_all0 4 rfl
theorem dX8_showing_9 : decode cX8_showing 9 = .ok (.iload_n 1, 1) := all_d dX8_showing_all0 5 rfl
theorem dX8_showing_10 : decode cX8_showing 10 = .ok (.invokevirtual 239, 3) := all_d dX8_showing_all0 6 rfl
theorem dX8_showing_13 : decode cX8_showing 13 = .ok (.goto 4, 3) := all_d dX8_showing_all0 7 rfl
theorem dX8_showing_16 : decode cX8_showing 16 = .ok (.iconst (-1), 1) := all_d dX8_showing_all0 8 rfl
theorem dX8_showing_17 : decode cX8_showing 17 = .ok (.ireturn, 1) := all_d dX8_showing_all0 9 rfl
set_option maxRecDepth 100000 in
theorem dX8_alike_all0 : ([(0, (.aload_n 0 : Instr), 1), (1, (.getfield 63 : Instr), 3), (4, (.iconst 2 : Instr), 1), (5, (.if_icmp .ge 5 : Instr), 3), (8, (.iconst 0 : Instr), 1), (9, (.ireturn : Instr), 1), (10, (.aload_n 0 : Instr), 1), (11, (.getfield 39 : Instr), 3), (14, (.iconst 0 : Instr), 1), (15, (.invokestatic 248 : Instr), 3), (18, (.iconst 0 : Instr), 1), (19, (.istore_n 1 : Instr), 1), (20, (.iload_n 1 : Instr), 1), (21, (.aload_n 0 : Instr), 1), (22, (.getfield 56 : Instr), 3), (25, (.if_icmp .gt 14 : Instr), 3), (28, (.aload_n 0 : Instr), 1), (29, (.iload_n 1 : Instr), 1), (30, (.invokevirtual 254 : Instr), 3), (33, (.iinc 1 1 : Instr), 3), (36, (.goto (-16) : Instr), 3), (39, (.iconst 0 : Instr), 1), (40, (.istore_n 1 : Instr), 1), (41, (.iconst 0 : Instr), 1), (42, (.istore_n 2 : Instr), 1), (43, (.iload_n 2 : Instr), 1), (44, (.aload_n 0 : Instr), 1), (45, (.getfield 63 : Instr), 3), (48, (.if_icmp .ge 39 : Instr), 3), (51, (.iload_n 2 : Instr), 1), (52, (.iconst 1 : Instr), 1), (53, (.iadd : Instr), 1), (54, (.istore_n 3 : Instr), 1), (55, (.iload_n 3 : Instr), 1), (56, (.aload_n 0 : Instr), 1), (57, (.getfield 63 : Instr), 3), (60, (.if_icmp .ge 21 : Instr), 3), (63, (.aload_n 0 : Instr), 1), (64, (.iload_n 2 : Instr), 1), (65, (.iload_n 3 : Instr), 1), (66, (.invokevirtual 257 : Instr), 3), (69, (.ifCond .eq 6 : Instr), 3), (72, (.iinc 1 1 : Instr), 3), (75, (.iinc 3 1 : Instr), 3), (78, (.goto (-23) : Instr), 3), (81, (.iinc 2 1 : Instr), 3), (84, (.goto (-41) : Instr), 3), (87, (.iload_n 1 : Instr), 1), (88, (.ireturn : Instr), 1)] : List (Nat × Instr × Nat)).all (fun q => decide (decode cX8_alike q.1 = .ok (q.2.1, q.2.2))) = true := by decide +kernel
theorem dX8_alike_0 : decode cX8_alike 0 = .ok (.aload_n 0, 1) := all_d dX8_alike_all0 0 rfl
theorem dX8_alike_1 : decode cX8_alike 1 = .ok (.getfield 63, 3) := all_d dX8_alike_all0 1 rfl
theorem dX8_alike_4 : decode cX8_alike 4 = .ok (.iconst 2, 1) := all_d dX8_alike_all0 2 rfl
theorem dX8_alike_5 : decode cX8_alike 5 = .ok (.if_icmp .ge 5, 3) := all_d dX8_alike_all0 3 rfl
theorem dX8_alike_8 : decode cX8_alike 8 = .ok (.iconst 0, 1) := all_d dX8_alike_all0 4 rfl
theorem dX8_alike_9 : decode cX8_alike 9 = .ok (.ireturn, 1) := all_d dX8_alike_all0 5 rfl
theorem dX8_alike_10 : decode cX8_alike 10 = .ok (.aload_n 0, 1) := all_d dX8_alike_all0 6 rfl
theorem dX8_alike_11 : decode cX8_alike 11 = .ok (.getfield 39, 3) := all_d dX8_alike_all0 7 rfl
theorem dX8_alike_14 : decode cX8_alike 14 = .ok (.iconst 0, 1) := all_d dX8_alike_all0 8 rfl
theorem dX8_alike_15 : decode cX8_alike 15 = .ok (.invokestatic 248, 3) := all_d dX8_alike_all0 9 rfl
theorem dX8_alike_18 : decode cX8_alike 18 = .ok (.iconst 0, 1) := all_d dX8_alike_all0 10 rfl
theorem dX8_alike_19 : decode cX8_alike 19 = .ok (.istore_n 1, 1) := all_d dX8_alike_all0 11 rfl
theorem dX8_alike_20 : decode cX8_alike 20 = .ok (.iload_n 1, 1) := all_d dX8_alike_all0 12 rfl
theorem dX8_alike_21 : decode cX8_alike 21 = .ok (.aload_n 0, 1) := all_d dX8_alike_all0 13 rfl
theorem dX8_alike_22 : decode cX8_alike 22 = .ok (.getfield 56, 3) := all_d dX8_alike_all0 14 rfl
theorem dX8_alike_25 : decode cX8_alike 25 = .ok (.if_icmp .gt 14, 3) := all_d dX8_alike_all0 15 rfl
theorem dX8_alike_28 : decode cX8_alike 28 = .ok (.aload_n 0, 1) := all_d dX8_alike_all0 16 rfl
theorem dX8_alike_29 : decode cX8_alike 29 = .ok (.iload_n 1, 1) := all_d dX8_alike_all0 17 rfl
theorem dX8_alike_30 : decode cX8_alike 30 = .ok (.invokevirtual 254, 3) := all_d dX8_alike_all0 18 rfl
theorem dX8_alike_33 : decode cX8_alike 33 = .ok (.iinc 1 1, 3) := all_d dX8_alike_all0 19 rfl
theorem dX8_alike_36 : decode cX8_alike 36 = .ok (.goto (-16), 3) := all_d dX8_alike_all0 20 rfl
theorem dX8_alike_39 : decode cX8_alike 39 = .ok (.iconst 0, 1) := all_d dX8_alike_all0 21 rfl
theorem dX8_alike_40 : decode cX8_alike 40 = .ok (.istore_n 1, 1) := all_d dX8_alike_all0 22 rfl
theorem dX8_alike_41 : decode cX8_alike 41 = .ok (.iconst 0, 1) := all_d dX8_alike_all0 23 rfl
theorem dX8_alike_42 : decode cX8_alike 42 = .ok (.istore_n 2, 1) := all_d dX8_alike_all0 24 rfl
theorem dX8_alike_43 : decode cX8_alike 43 = .ok (.iload_n 2, 1) := all_d dX8_alike_all0 25 rfl
theorem dX8_alike_44 : decode cX8_alike 44 = .ok (.aload_n 0, 1) := all_d dX8_alike_all0 26 rfl
theorem dX8_alike_45 : decode cX8_alike 45 = .ok (.getfield 63, 3) := all_d dX8_alike_all0 27 rfl
theorem dX8_alike_48 : decode cX8_alike 48 = .ok (.if_icmp .ge 39, 3) := all_d dX8_alike_all0 28 rfl
theorem dX8_alike_51 : decode cX8_alike 51 = .ok (.iload_n 2, 1) := all_d dX8_alike_all0 29 rfl
theorem dX8_alike_52 : decode cX8_alike 52 = .ok (.iconst 1, 1) := all_d dX8_alike_all0 30 rfl
theorem dX8_alike_53 : decode cX8_alike 53 = .ok (.iadd, 1) := all_d dX8_alike_all0 31 rfl
theorem dX8_alike_54 : decode cX8_alike 54 = .ok (.istore_n 3, 1) := all_d dX8_alike_all0 32 rfl
theorem dX8_alike_55 : decode cX8_alike 55 = .ok (.iload_n 3, 1) := all_d dX8_alike_all0 33 rfl
theorem dX8_alike_56 : decode cX8_alike 56 = .ok (.aload_n 0, 1) := all_d dX8_alike_all0 34 rfl
theorem dX8_alike_57 : decode cX8_alike 57 = .ok (.getfield 63, 3) := all_d dX8_alike_all0 35 rfl
theorem dX8_alike_60 : decode cX8_alike 60 = .ok (.if_icmp .ge 21, 3) := all_d dX8_alike_all0 36 rfl
theorem dX8_alike_63 : decode cX8_alike 63 = .ok (.aload_n 0, 1) := all_d dX8_alike_all0 37 rfl
theorem dX8_alike_64 : decode cX8_alike 64 = .ok (.iload_n 2, 1) := all_d dX8_alike_all0 38 rfl
theorem dX8_alike_65 : decode cX8_alike 65 = .ok (.iload_n 3, 1) := all_d dX8_alike_all0 39 rfl
theorem dX8_alike_66 : decode cX8_alike 66 = .ok (.invokevirtual 257, 3) := all_d dX8_alike_all0 40 rfl
theorem dX8_alike_69 : decode cX8_alike 69 = .ok (.ifCond .eq 6, 3) := all_d dX8_alike_all0 41 rfl
theorem dX8_alike_72 : decode cX8_alike 72 = .ok (.iinc 1 1, 3) := all_d dX8_alike_all0 42 rfl
theorem dX8_alike_75 : decode cX8_alike 75 = .ok (.iinc 3 1, 3) := all_d dX8_alike_all0 43 rfl
theorem dX8_alike_78 : decode cX8_alike 78 = .ok (.goto (-23), 3) := all_d dX8_alike_all0 44 rfl
theorem dX8_alike_81 : decode cX8_alike 81 = .ok (.iinc 2 1, 3) := all_d dX8_alike_all0 45 rfl
theorem dX8_alike_84 : decode cX8_alike 84 = .ok (.goto (-41), 3) := all_d dX8_alike_all0 46 rfl
theorem dX8_alike_87 : decode cX8_alike 87 = .ok (.iload_n 1, 1) := all_d dX8_alike_all0 47 rfl
theorem dX8_alike_88 : decode cX8_alike 88 = .ok (.ireturn, 1) := all_d dX8_alike_all0 48 rfl
set_option maxRecDepth 100000 in
theorem dX8_beyond_all0 : ([(0, (.aload_n 0 : Instr), 1), (1, (.iload_n 1 : Instr), 1), (2, (.invokevirtual 83 : Instr), 3), (5, (.astore_n 2 : Instr), 1), (6, (.aload_n 0 : Instr), 1), (7, (.aload_n 2 : Instr), 1), (8, (.ifnonnull 7 : Instr), 3), (11, (.iconst 2 : Instr), 1), (12, (.goto 4 : Instr), 3), (15, (.iconst 0 : Instr), 1), (16, (.putfield 66 : Instr), 3), (19, (.aload_n 2 : Instr), 1), (20, (.ifnonnull 5 : Instr), 3), (23, (.iconst (-1) : Instr), 1), (24, (.ireturn : Instr), 1), (25, (.iconst 0 : Instr), 1), (26, (.istore_n 3 : Instr), 1), (27, (.iload_n 3 : Instr), 1), (28, (.aload_n 0 : Instr), 1), (29, (.getfield 56 : Instr), 3), (32, (.if_icmp .gt 28 : Instr), 3), (35, (.aload_n 2 : Instr), 1), (36, (.iload_n 3 : Instr), 1), (37, (.invokevirtual 139 : Instr), 3), (40, (.pop : Instr), 1), (41, (.aload_n 0 : Instr), 1), (42, (.aload_n 2 : Instr), 1), (43, (.getfield 146 : Instr), 3), (46, (.invokevirtual 134 : Instr), 3), (49, (.ifCond .ne 5 : Instr), 3), (52, (.iload_n 3 : Instr), 1), (53, (.ireturn : Instr), 1), (54, (.iinc 3 1 : Instr), 3), (57, (.goto (-30) : Instr), 3), (60, (.bipush (-2) : Instr), 2), (62, (.ireturn : Instr), 1)] : List (Nat × Instr × Nat)).all (fun q => decide (decode cX8_beyond q.1 = .ok (q.2.1, q.2.2))) = true := by decide +kernel
theorem dX8_beyond_0 : decode cX8_beyond 0 = .ok (.aload_n 0, 1) := all_d dX8_beyond_all0 0 rfl
theorem dX8_beyond_1 : decode cX8_beyond 1 = .ok (.iload_n 1, 1) := all_d dX8_beyond_all0 1 rfl
theorem dX8_beyond_2 : decode cX8_beyond 2 = .ok (.invokevirtual 83, 3) := all_d dX8_beyond_all0 2 rfl
theorem dX8_beyond_5 : decode cX8_beyond 5 = .ok (.astore_n 2, 1) := all_d dX8_beyond_all0 3 rfl
theorem dX8_beyond_6 : decode cX8_beyond 6 = .ok (.aload_n 0, 1) := all_d dX8_beyond_all0 4 rfl
theorem dX8_beyond_7 : decode cX8_beyond 7 = .ok (.aload_n 2, 1) := all_d dX8_beyond_all0 5 rfl
theorem dX8_beyond_8 : decode cX8_beyond 8 = .ok (.ifnonnull 7, 3) := all_d dX8_beyond_all0 6 rfl
theorem dX8_beyond_11 : decode cX8_beyond 11 = .ok (.iconst 2, 1) := all_d dX8_beyond_all0 7 rfl
theorem dX8_beyond_12 : decode cX8_beyond 12 = .ok (.goto 4, 3) := all_d dX8_beyond_all0 8 rfl
theorem dX8_beyond_15 : decode cX8_beyond 15 = .ok (.iconst 0, 1) := all_d dX8_beyond_all0 9 rfl
theorem dX8_beyond_16 : decode cX8_beyond 16 = .ok (.putfield 66, 3) := all_d dX8_beyond_all0 10 rfl
theorem dX8_beyond_19 : decode cX8_beyond 19 = .ok (.aload_n 2, 1) := all_d dX8_beyond_all0 11 rfl
theorem dX8_beyond_20 : decode cX8_beyond 20 = .ok (.ifnonnull 5, 3) := all_d dX8_beyond_all0 12 rfl
theorem dX8_beyond_23 : decode cX8_beyond 23 = .ok (.iconst (-1), 1) := all_d dX8_beyond_all0 13 rfl
theorem dX8_beyond_24 : decode cX8_beyond 24 = .ok (.ireturn, 1) := all_d dX8_beyond_all0 14 rfl
theorem dX8_beyond_25 : decode cX8_beyond 25 = .ok (.iconst 0, 1) := all_d dX8_beyond_all0 15 rfl
theorem dX8_beyond_26 : decode cX8_beyond 26 = .ok (.istore_n 3, 1) := all_d dX8_beyond_all0 16 rfl
theorem dX8_beyond_27 : decode cX8_beyond 27 = .ok (.iload_n 3, 1) := all_d dX8_beyond_all0 17 rfl
theorem dX8_beyond_28 : decode cX8_beyond 28 = .ok (.aload_n 0, 1) := all_d dX8_beyond_all0 18 rfl
theorem dX8_beyond_29 : decode cX8_beyond 29 = .ok (.getfield 56, 3) := all_d dX8_beyond_all0 19 rfl
theorem dX8_beyond_32 : decode cX8_beyond 32 = .ok (.if_icmp .gt 28, 3) := all_d dX8_beyond_all0 20 rfl
theorem dX8_beyond_35 : decode cX8_beyond 35 = .ok (.aload_n 2, 1) := all_d dX8_beyond_all0 21 rfl
theorem dX8_beyond_36 : decode cX8_beyond 36 = .ok (.iload_n 3, 1) := all_d dX8_beyond_all0 22 rfl
theorem dX8_beyond_37 : decode cX8_beyond 37 = .ok (.invokevirtual 139, 3) := all_d dX8_beyond_all0 23 rfl
theorem dX8_beyond_40 : decode cX8_beyond 40 = .ok (.pop, 1) := all_d dX8_beyond_all0 24 rfl
theorem dX8_beyond_41 : decode cX8_beyond 41 = .ok (.aload_n 0, 1) := all_d dX8_beyond_all0 25 rfl
theorem dX8_beyond_42 : decode cX8_beyond 42 = .ok (.aload_n 2, 1) := all_d dX8_beyond_all0 26 rfl
theorem dX8_beyond_43 : decode cX8_beyond 43 = .ok (.getfield 146, 3) := all_d dX8_beyond_all0 27 rfl
theorem dX8_beyond_46 : decode cX8_beyond 46 = .ok (.invokevirtual 134, 3) := all_d dX8_beyond_all0 28 rfl
theorem dX8_beyond_49 : decode cX8_beyond 49 = .ok (.ifCond .ne 5, 3) := all_d dX8_beyond_all0 29 rfl
theorem dX8_beyond_52 : decode cX8_beyond 52 = .ok (.iload_n 3, 1) := all_d dX8_beyond_all0 30 rfl
theorem dX8_beyond_53 : decode cX8_beyond 53 = .ok (.ireturn, 1) := all_d dX8_beyond_all0 31 rfl
theorem dX8_beyond_54 : decode cX8_beyond 54 = .ok (.iinc 3 1, 3) := all_d dX8_beyond_all0 32 rfl
theorem dX8_beyond_57 : decode cX8_beyond 57 = .ok (.goto (-30), 3) := all_d dX8_beyond_all0 33 rfl
theorem dX8_beyond_60 : decode cX8_beyond 60 = .ok (.bipush (-2), 2) := all_d dX8_beyond_all0 34 rfl
theorem dX8_beyond_62 : decode cX8_beyond 62 = .ok (.ireturn, 1) := all_d dX8_beyond_all0 35 rfl
set_option maxRecDepth 100000 in
theorem dX8_joined_all0 : ([(0, (.aload_n 0 : Instr), 1), (1, (.iload_n 1 : Instr), 1), (2, (.invokevirtual 83 : Instr), 3), (5, (.astore 5 : Instr), 2), (7, (.aload_n 0 : Instr), 1), (8, (.iload_n 2 : Instr), 1), (9, (.invokevirtual 83 : Instr), 3), (12, (.astore 6 : Instr), 2), (14, (.aload_n 0 : Instr), 1), (15, (.aload 5 : Instr), 2), (17, (.ifnull 17 : Instr), 3), (20, (.aload 6 : Instr), 2), (22, (.ifnull 12 : Instr), 3), (25, (.aload_n 0 : Instr), 1), (26, (.iload 4 : Instr), 2), (28, (.invokevirtual 134 : Instr), 3), (31, (.ifCond .ne 7 : Instr), 3), (34, (.iconst 2 : Instr), 1), (35, (.goto 18 : Instr), 3), (38, (.iload_n 3 : Instr), 1), (39, (.sipush 1000 : Instr), 3), (42, (.invokestatic 113 : Instr), 3), (45, (.ifCond .eq 7 : Instr), 3), (48, (.iconst 0 : Instr), 1), (49, (.goto 4 : Instr), 3), (52, (.iconst 1 : Instr), 1), (53, (.putfield 66 : Instr), 3), (56, (.aload 5 : Instr), 2), (58, (.ifnull 15 : Instr), 3), (61, (.aload 6 : Instr), 2), (63, (.ifnull 10 : Instr), 3), (66, (.aload_n 0 : Instr), 1), (67, (.getfield 66 : Instr), 3), (70, (.ifCond .eq 6 : Instr), 3), (73, (.ldc 138 : Instr), 2), (75, (.ireturn : Instr), 1), (76, (.aload 5 : Instr), 2), (78, (.iload 4 : Instr), 2), (80, (.invokevirtual 139 : Instr), 3), (83, (.istore 7 : Instr), 2), (85, (.aload 5 : Instr), 2), (87, (.getfield 146 : Instr), 3), (90, (.istore 8 : Instr), 2), (92, (.aload_n 0 : Instr), 1), (93, (.iload 8 : Instr), 2), (95, (.invokevirtual 134 : Instr), 3), (98, (.ifCond .ne 11 : Instr), 3), (101, (.aload_n 0 : Instr), 1), (102, (.iconst 1 : Instr), 1), (103, (.putfield 66 : Instr), 3), (106, (.ldc 138 : Instr), 2), (108, (.ireturn : Instr), 1), (109, (.iload 7 : Instr), 2), (111, (.iload_n 3 : Instr), 1), (112, (.imul : Instr), 1), (113, (.aload 6 : Instr), 2), (115, (.iload 8 : Instr), 2), (117, (.invokevirtual 139 : Instr), 3), (120, (.iadd : Instr), 1), (121, (.ireturn : Instr), 1)] : List (Nat × Instr × Nat)).all (fun q => decide (decode cX8_joined q.1 = .ok (q.2.1, q.2.2))) = true := by decide +kernel
theorem dX8_joined_0 : decode cX8_joined 0 = .ok (.aload_n 0, 1) := all_d dX8_joined_all0 0 rfl
theorem dX8_joined_1 : decode cX8_joined 1 = .ok (.iload_n 1, 1) := all_d dX8_joined_all0 1 rfl
theorem dX8_joined_2 : decode cX8_joined 2 = .ok (.invokevirtual 83, 3) := all_d dX8_joined_all0 2 rfl
theorem dX8_joined_5 : decode cX8_joined 5 = .ok (.astore 5, 2) := all_d dX8_joined_all0 3 rfl
theorem dX8_joined_7 : decode cX8_joined 7 = .ok (.aload_n 0, 1) := all_d dX8_joined_all0 4 rfl
theorem dX8_joined_8 : decode cX8_joined 8 = .ok (.iload_n 2, 1) := all_d dX8_joined_all0 5 rfl
theorem dX8_joined_9 : decode cX8_joined 9 = .ok (.invokevirtual 83, 3) := all_d dX8_joined_all0 6 rfl
theorem dX8_joined_12 : decode cX8_joined 12 = .ok (.astore 6, 2) := all_d dX8_joined_all0 7 rfl
theorem dX8_joined_14 : decode cX8_joined 14 = .ok (.aload_n 0, 1) := all_d dX8_joined_all0 8 rfl
theorem dX8_joined_15 : decode cX8_joined 15 = .ok (.aload 5, 2) := all_d dX8_joined_all0 9 rfl
theorem dX8_joined_17 : decode cX8_joined 17 = .ok (.ifnull 17, 3) := all_d dX8_joined_all0 10 rfl
theorem dX8_joined_20 : decode cX8_joined 20 = .ok (.aload 6, 2) := all_d dX8_joined_all0 11 rfl
theorem dX8_joined_22 : decode cX8_joined 22 = .ok (.ifnull 12, 3) := all_d dX8_joined_all0 12 rfl
theorem dX8_joined_25 : decode cX8_joined 25 = .ok (.aload_n 0, 1) := all_d dX8_joined_all0 13 rfl
theorem dX8_joined_26 : decode cX8_joined 26 = .ok (.iload 4, 2) := all_d dX8_joined_all0 14 rfl
theorem dX8_joined_28 : decode cX8_joined 28 = .ok (.invokevirtual 134, 3) := all_d dX8_joined_all0 15 rfl
theorem dX8_joined_31 : decode cX8_joined 31 = .ok (.ifCond .ne 7, 3) := all_d dX8_joined_all0 16 rfl
theorem dX8_joined_34 : decode cX8_joined 34 = .ok (.iconst 2, 1) := all_d dX8_joined_all0 17 rfl
theorem dX8_joined_35 : decode cX8_joined 35 = .ok (.goto 18, 3) := all_d dX8_joined_all0 18 rfl
theorem dX8_joined_38 : decode cX8_joined 38 = .ok (.iload_n 3, 1) := all_d dX8_joined_all0 19 rfl
theorem dX8_joined_39 : decode cX8_joined 39 = .ok (.sipush 1000, 3) := all_d dX8_joined_all0 20 rfl
theorem dX8_joined_42 : decode cX8_joined 42 = .ok (.invokestatic 113, 3) := all_d dX8_joined_all0 21 rfl
theorem dX8_joined_45 : decode cX8_joined 45 = .ok (.ifCond .eq 7, 3) := all_d dX8_joined_all0 22 rfl
theorem dX8_joined_48 : decode cX8_joined 48 = .ok (.iconst 0, 1) := all_d dX8_joined_all0 23 rfl
theorem dX8_joined_49 : decode cX8_joined 49 = .ok (.goto 4, 3) := all_d dX8_joined_all0 24 rfl
theorem dX8_joined_52 : decode cX8_joined 52 = .ok (.iconst 1, 1) := all_d dX8_joined_all0 25 rfl
theorem dX8_joined_53 : decode cX8_joined 53 = .ok (.putfield 66, 3) := all_d dX8_joined_all0 26 rfl
theorem dX8_joined_56 : decode cX8_joined 56 = .ok (.aload 5, 2) := all_d dX8_joined_all0 27 rfl
theorem dX8_joined_58 : decode cX8_joined 58 = .ok (.ifnull 15, 3) := all_d dX8_joined_all0 28 rfl
theorem dX8_joined_61 : decode cX8_joined 61 = .ok (.aload 6, 2) := all_d dX8_joined_all0 29 rfl
theorem dX8_joined_63 : decode cX8_joined 63 = .ok (.ifnull 10, 3) := all_d dX8_joined_all0 30 rfl
theorem dX8_joined_66 : decode cX8_joined 66 = .ok (.aload_n 0, 1) := all_d dX8_joined_all0 31 rfl
theorem dX8_joined_67 : decode cX8_joined 67 = .ok (.getfield 66, 3) := all_d dX8_joined_all0 32 rfl
theorem dX8_joined_70 : decode cX8_joined 70 = .ok (.ifCond .eq 6, 3) := all_d dX8_joined_all0 33 rfl
theorem dX8_joined_73 : decode cX8_joined 73 = .ok (.ldc 138, 2) := all_d dX8_joined_all0 34 rfl
theorem dX8_joined_75 : decode cX8_joined 75 = .ok (.ireturn, 1) := all_d dX8_joined_all0 35 rfl
theorem dX8_joined_76 : decode cX8_joined 76 = .ok (.aload 5, 2) := all_d dX8_joined_all0 36 rfl
theorem dX8_joined_78 : decode cX8_joined 78 = .ok (.iload 4, 2) := all_d dX8_joined_all0 37 rfl
theorem dX8_joined_80 : decode cX8_joined 80 = .ok (.invokevirtual 139, 3) := all_d dX8_joined_all0 38 rfl
theorem dX8_joined_83 : decode cX8_joined 83 = .ok (.istore 7, 2) := all_d dX8_joined_all0 39 rfl
theorem dX8_joined_85 : decode cX8_joined 85 = .ok (.aload 5, 2) := all_d dX8_joined_all0 40 rfl
theorem dX8_joined_87 : decode cX8_joined 87 = .ok (.getfield 146, 3) := all_d dX8_joined_all0 41 rfl
theorem dX8_joined_90 : decode cX8_joined 90 = .ok (.istore 8, 2) := all_d dX8_joined_all0 42 rfl
theorem dX8_joined_92 : decode cX8_joined 92 = .ok (.aload_n 0, 1) := all_d dX8_joined_all0 43 rfl
theorem dX8_joined_93 : decode cX8_joined 93 = .ok (.iload 8, 2) := all_d dX8_joined_all0 44 rfl
theorem dX8_joined_95 : decode cX8_joined 95 = .ok (.invokevirtual 134, 3) := all_d dX8_joined_all0 45 rfl
theorem dX8_joined_98 : decode cX8_joined 98 = .ok (.ifCond .ne 11, 3) := all_d dX8_joined_all0 46 rfl
theorem dX8_joined_101 : decode cX8_joined 101 = .ok (.aload_n 0, 1) := all_d dX8_joined_all0 47 rfl
theorem dX8_joined_102 : decode cX8_joined 102 = .ok (.iconst 1, 1) := all_d dX8_joined_all0 48 rfl
theorem dX8_joined_103 : decode cX8_joined 103 = .ok (.putfield 66, 3) := all_d dX8_joined_all0 49 rfl
theorem dX8_joined_106 : decode cX8_joined 106 = .ok (.ldc 138, 2) := all_d dX8_joined_all0 50 rfl
theorem dX8_joined_108 : decode cX8_joined 108 = .ok (.ireturn, 1) := all_d dX8_joined_all0 51 rfl
theorem dX8_joined_109 : decode cX8_joined 109 = .ok (.iload 7, 2) := all_d dX8_joined_all0 52 rfl
theorem dX8_joined_111 : decode cX8_joined 111 = .ok (.iload_n 3, 1) := all_d dX8_joined_all0 53 rfl
theorem dX8_joined_112 : decode cX8_joined 112 = .ok (.imul, 1) := all_d dX8_joined_all0 54 rfl
theorem dX8_joined_113 : decode cX8_joined 113 = .ok (.aload 6, 2) := all_d dX8_joined_all0 55 rfl
theorem dX8_joined_115 : decode cX8_joined 115 = .ok (.iload 8, 2) := all_d dX8_joined_all0 56 rfl
theorem dX8_joined_117 : decode cX8_joined 117 = .ok (.invokevirtual 139, 3) := all_d dX8_joined_all0 57 rfl
theorem dX8_joined_120 : decode cX8_joined 120 = .ok (.iadd, 1) := all_d dX8_joined_all0 58 rfl
theorem dX8_joined_121 : decode cX8_joined 121 = .ok (.ireturn, 1) := all_d dX8_joined_all0 59 rfl
set_option maxRecDepth 100000 in
theorem dX8_undo_all0 : ([(0, (.aload_n 0 : Instr), 1), (1, (.getfield 52 : Instr), 3), (4, (.invokevirtual 260 : Instr), 3), (7, (.astore_n 1 : Instr), 1), (8, (.aload_n 1 : Instr), 1), (9, (.ifnonnull 5 : Instr), 3), (12, (.iconst 0 : Instr), 1), (13, (.ireturn : Instr), 1), (14, (.aload_n 0 : Instr), 1), (15, (.aload_n 1 : Instr), 1), (16, (.invokevirtual 264 : Instr), 3), (19, (.aload_n 0 : Instr), 1), (20, (.getfield 52 : Instr), 3), (23, (.invokevirtual 268 : Instr), 3), (26, (.aload_n 0 : Instr), 1), (27, (.invokevirtual 271 : Instr), 3), (30, (.aload_n 0 : Instr), 1), (31, (.iconst (-1) : Instr), 1), (32, (.putfield 69 : Instr), 3), (35, (.iconst 1 : Instr), 1), (36, (.ireturn : Instr), 1)] : List (Nat × Instr × Nat)).all (fun q => decide (decode cX8_undo q.1 = .ok (q.2.1, q.2.2))) = true := by decide +kernel
theorem dX8_undo_0 : decode cX8_undo 0 = .ok (.aload_n 0, 1) := all_d dX8_undo_all0 0 rfl
theorem dX8_undo_1 : decode cX8_undo 1 = .ok (.getfield 52, 3) := all_d dX8_undo_all0 1 rfl
theorem dX8_undo_4 : decode cX8_undo 4 = .ok (.invokevirtual 260, 3) := all_d dX8_undo_all0 2 rfl
theorem dX8_undo_7 : decode cX8_undo 7 = .ok (.astore_n 1, 1) := all_d dX8_undo_all0 3 rfl
theorem dX8_undo_8 : decode cX8_undo 8 = .ok (.aload_n 1, 1) := all_d dX8_undo_all0 4 rfl
theorem dX8_undo_9 : decode cX8_undo 9 = .ok (.ifnonnull 5, 3) := all_d dX8_undo_all0 5 rfl
theorem dX8_undo_12 : decode cX8_undo 12 = .ok (.iconst 0, 1) := all_d dX8_undo_all0 6 rfl
theorem dX8_undo_13 : decode cX8_undo 13 = .ok (.ireturn, 1) := all_d dX8_undo_all0 7 rfl
theorem dX8_undo_14 : decode cX8_undo 14 = .ok (.aload_n 0, 1) := all_d dX8_undo_all0 8 rfl
theorem dX8_undo_15 : decode cX8_undo 15 = .ok (.aload_n 1, 1) := all_d dX8_undo_all0 9 rfl
theorem dX8_undo_16 : decode cX8_undo 16 = .ok (.invokevirtual 264, 3) := all_d dX8_undo_all0 10 rfl
theorem dX8_undo_19 : decode cX8_undo 19 = .ok (.aload_n 0, 1) := all_d dX8_undo_all0 11 rfl
theorem dX8_undo_20 : decode cX8_undo 20 = .ok (.getfield 52, 3) := all_d dX8_undo_all0 12 rfl
theorem dX8_undo_23 : decode cX8_undo 23 = .ok (.invokevirtual 268, 3) := all_d dX8_undo_all0 13 rfl
theorem dX8_undo_26 : decode cX8_undo 26 = .ok (.aload_n 0, 1) := all_d dX8_undo_all0 14 rfl
theorem dX8_undo_27 : decode cX8_undo 27 = .ok (.invokevirtual 271, 3) := all_d dX8_undo_all0 15 rfl
theorem dX8_undo_30 : decode cX8_undo 30 = .ok (.aload_n 0, 1) := all_d dX8_undo_all0 16 rfl
theorem dX8_undo_31 : decode cX8_undo 31 = .ok (.iconst (-1), 1) := all_d dX8_undo_all0 17 rfl
theorem dX8_undo_32 : decode cX8_undo 32 = .ok (.putfield 69, 3) := all_d dX8_undo_all0 18 rfl
theorem dX8_undo_35 : decode cX8_undo 35 = .ok (.iconst 1, 1) := all_d dX8_undo_all0 19 rfl
theorem dX8_undo_36 : decode cX8_undo 36 = .ok (.ireturn, 1) := all_d dX8_undo_all0 20 rfl
set_option maxRecDepth 100000 in
theorem dX8_size_all0 : ([(0, (.iload_n 1 : Instr), 1), (1, (.tableswitch 66 0 4 #[35, 40, 45, 53, 58] : Instr), 35), (36, (.aload_n 0 : Instr), 1), (37, (.getfield 56 : Instr), 3), (40, (.ireturn : Instr), 1), (41, (.aload_n 0 : Instr), 1), (42, (.getfield 60 : Instr), 3), (45, (.ireturn : Instr), 1), (46, (.aload_n 0 : Instr), 1), (47, (.getfield 25 : Instr), 3), (50, (.getfield 210 : Instr), 3), (53, (.ireturn : Instr), 1), (54, (.aload_n 0 : Instr), 1), (55, (.getfield 63 : Instr), 3), (58, (.ireturn : Instr), 1), (59, (.aload_n 0 : Instr), 1), (60, (.getfield 52 : Instr), 3), (63, (.getfield 274 : Instr), 3), (66, (.ireturn : Instr), 1), (67, (.iconst (-1) : Instr), 1), (68, (.ireturn : Instr), 1)] : List (Nat × Instr × Nat)).all (fun q => decide (decode cX8_size q.1 = .ok (q.2.1, q.2.2))) = true := by decide +kernel
theorem dX8_size_0 : decode cX8_size 0 = .ok (.iload_n 1, 1) := all_d dX8_size_all0 0 rfl
theorem dX8_size_1 : decode cX8_size 1 = .ok (.tableswitch 66 0 4 #[35, 40, 45, 53, 58], 35) := all_d dX8_size_all0 1 rfl
theorem dX8_size_36 : decode cX8_size 36 = .ok (.aload_n 0, 1) := all_d dX8_size_all0 2 rfl
theorem dX8_size_37 : decode cX8_size 37 = .ok (.getfield 56, 3) := all_d dX8_size_all0 3 rfl
theorem dX8_size_40 : decode cX8_size 40 = .ok (.ireturn, 1) := all_d dX8_size_all0 4 rfl
theorem dX8_size_41 : decode cX8_size 41 = .ok (.aload_n 0, 1) := all_d dX8_size_all0 5 rfl
theorem dX8_size_42 : decode cX8_size 42 = .ok (.getfield 60, 3) := all_d dX8_size_all0 6 rfl
theorem dX8_size_45 : decode cX8_size 45 = .ok (.ireturn, 1) := all_d dX8_size_all0 7 rfl
theorem dX8_size_46 : decode cX8_size 46 = .ok (.aload_n 0, 1) := all_d dX8_size_all0 8 rfl
theorem dX8_size_47 : decode cX8_size 47 = .ok (.getfield 25, 3) := all_d dX8_size_all0 9 rfl
theorem dX8_size_50 : decode cX8_size 50 = .ok (.getfield 210, 3) := all_d dX8_size_all0 10 rfl
theorem dX8_size_53 : decode cX8_size 53 = .ok (.ireturn, 1) := all_d dX8_size_all0 11 rfl
theorem dX8_size_54 : decode cX8_size 54 = .ok (.aload_n 0, 1) := all_d dX8_size_all0 12 rfl
theorem dX8_size_55 : decode cX8_size 55 = .ok (.getfield 63, 3) := all_d dX8_size_all0 13 rfl
theorem dX8_size_58 : decode cX8_size 58 = .ok (.ireturn, 1) := all_d dX8_size_all0 14 rfl
theorem dX8_size_59 : decode cX8_size 59 = .ok (.aload_n 0, 1) := all_d dX8_size_all0 15 rfl
theorem dX8_size_60 : decode cX8_size 60 = .ok (.getfield 52, 3) := all_d dX8_size_all0 16 rfl
theorem dX8_size_63 : decode cX8_size 63 = .ok (.getfield 274, 3) := all_d dX8_size_all0 17 rfl
theorem dX8_size_66 : decode cX8_size 66 = .ok (.ireturn, 1) := all_d dX8_size_all0 18 rfl
theorem dX8_size_67 : decode cX8_size 67 = .ok (.iconst (-1), 1) := all_d dX8_size_all0 19 rfl
theorem dX8_size_68 : decode cX8_size 68 = .ok (.ireturn, 1) := all_d dX8_size_all0 20 rfl
set_option maxRecDepth 100000 in
theorem dX8_trouble_all0 : ([(0, (.aload_n 0 : Instr), 1), (1, (.getfield 66 : Instr), 3), (4, (.ireturn : Instr), 1)] : List (Nat × Instr × Nat)).all (fun q => decide (decode cX8_trouble q.1 = .ok (q.2.1, q.2.2))) = true := by decide +kernel
theorem dX8_trouble_0 : decode cX8_trouble 0 = .ok (.aload_n 0, 1) := all_d dX8_trouble_all0 0 rfl
theorem dX8_trouble_1 : decode cX8_trouble 1 = .ok (.getfield 66, 3) := all_d dX8_trouble_all0 1 rfl
theorem dX8_trouble_4 : decode cX8_trouble 4 = .ok (.ireturn, 1) := all_d dX8_trouble_all0 2 rfl
set_option maxRecDepth 100000 in
theorem dX8_isWithin_all0 : ([(0, (.iload_n 0 : Instr), 1), (1, (.iload_n 1 : Instr), 1), (2, (.ineg : Instr), 1), (3, (.if_icmp .lt 12 : Instr), 3), (6, (.iload_n 0 : Instr), 1), (7, (.iload_n 1 : Instr), 1), (8, (.if_icmp .gt 7 : Instr), 3), (11, (.iconst 1 : Instr), 1), (12, (.goto 4 : Instr), 3), (15, (.iconst 0 : Instr), 1), (16, (.ireturn : Instr), 1)] : List (Nat × Instr × Nat)).all (fun q => decide (decode cX8_isWithin q.1 = .ok (q.2.1, q.2.2))) = true := by decide +kernel
theorem dX8_isWithin_0 : decode cX8_isWithin 0 = .ok (.iload_n 0, 1) := all_d dX8_isWithin_all0 0 rfl
theorem dX8_isWithin_1 : decode cX8_isWithin 1 = .ok (.iload_n 1, 1) := all_d dX8_isWithin_all0 1 rfl
theorem dX8_isWithin_2 : decode cX8_isWithin 2 = .ok (.ineg, 1) := all_d dX8_isWithin_all0 2 rfl
theorem dX8_isWithin_3 : decode cX8_isWithin 3 = .ok (.if_icmp .lt 12, 3) := all_d dX8_isWithin_all0 3 rfl
theorem dX8_isWithin_6 : decode cX8_isWithin 6 = .ok (.iload_n 0, 1) := all_d dX8_isWithin_all0 4 rfl
theorem dX8_isWithin_7 : decode cX8_isWithin 7 = .ok (.iload_n 1, 1) := all_d dX8_isWithin_all0 5 rfl
theorem dX8_isWithin_8 : decode cX8_isWithin 8 = .ok (.if_icmp .gt 7, 3) := all_d dX8_isWithin_all0 6 rfl
theorem dX8_isWithin_11 : decode cX8_isWithin 11 = .ok (.iconst 1, 1) := all_d dX8_isWithin_all0 7 rfl
theorem dX8_isWithin_12 : decode cX8_isWithin 12 = .ok (.goto 4, 3) := all_d dX8_isWithin_all0 8 rfl
theorem dX8_isWithin_15 : decode cX8_isWithin 15 = .ok (.iconst 0, 1) := all_d dX8_isWithin_all0 9 rfl
theorem dX8_isWithin_16 : decode cX8_isWithin 16 = .ok (.ireturn, 1) := all_d dX8_isWithin_all0 10 rfl
set_option maxRecDepth 100000 in
theorem dX8_isNumber_all0 : ([(0, (.iload_n 1 : Instr), 1), (1, (.ifCond .lt 15 : Instr), 3), (4, (.iload_n 1 : Instr), 1), (5, (.aload_n 0 : Instr), 1), (6, (.getfield 56 : Instr), 3), (9, (.if_icmp .gt 7 : Instr), 3), (12, (.iconst 1 : Instr), 1), (13, (.goto 4 : Instr), 3), (16, (.iconst 0 : Instr), 1), (17, (.ireturn : Instr), 1)] : List (Nat × Instr × Nat)).all (fun q => decide (decode cX8_isNumber q.1 = .ok (q.2.1, q.2.2))) = true := by decide +kernel
theorem dX8_isNumber_0 : decode cX8_isNumber 0 = .ok (.iload_n 1, 1) := all_d dX8_isNumber_all0 0 rfl
theorem dX8_isNumber_1 : decode cX8_isNumber 1 = .ok (.ifCond .lt 15, 3) := all_d dX8_isNumber_all0 1 rfl
theorem dX8_isNumber_4 : decode cX8_isNumber 4 = .ok (.iload_n 1, 1) := all_d dX8_isNumber_all0 2 rfl
theorem dX8_isNumber_5 : decode cX8_isNumber 5 = .ok (.aload_n 0, 1) := all_d dX8_isNumber_all0 3 rfl
theorem dX8_isNumber_6 : decode cX8_isNumber 6 = .ok (.getfield 56, 3) := all_d dX8_isNumber_all0 4 rfl
theorem dX8_isNumber_9 : decode cX8_isNumber 9 = .ok (.if_icmp .gt 7, 3) := all_d dX8_isNumber_all0 5 rfl
theorem dX8_isNumber_12 : decode cX8_isNumber 12 = .ok (.iconst 1, 1) := all_d dX8_isNumber_all0 6 rfl
theorem dX8_isNumber_13 : decode cX8_isNumber 13 = .ok (.goto 4, 3) := all_d dX8_isNumber_all0 7 rfl
theorem dX8_isNumber_16 : decode cX8_isNumber 16 = .ok (.iconst 0, 1) := all_d dX8_isNumber_all0 8 rfl
theorem dX8_isNumber_17 : decode cX8_isNumber 17 = .ok (.ireturn, 1) := all_d dX8_isNumber_all0 9 rfl
set_option maxRecDepth 100000 in
theorem dX8_meterAt_all0 : ([(0, (.iload_n 1 : Instr), 1), (1, (.ifCond .lt 29 : Instr), 3), (4, (.iload_n 1 : Instr), 1), (5, (.aload_n 0 : Instr), 1), (6, (.getfield 60 : Instr), 3), (9, (.if_icmp .ge 21 : Instr), 3), (12, (.iload_n 1 : Instr), 1), (13, (.aload_n 0 : Instr), 1), (14, (.getfield 11 : Instr), 3), (17, (.arraylength : Instr), 1), (18, (.if_icmp .ge 12 : Instr), 3), (21, (.aload_n 0 : Instr), 1), (22, (.getfield 11 : Instr), 3), (25, (.iload_n 1 : Instr), 1), (26, (.aaload : Instr), 1), (27, (.goto 4 : Instr), 3), (30, (.aconst_null : Instr), 1), (31, (.areturn : Instr), 1)] : List (Nat × Instr × Nat)).all (fun q => decide (decode cX8_meterAt q.1 = .ok (q.2.1, q.2.2))) = true := by decide +kernel
theorem dX8_meterAt_0 : decode cX8_meterAt 0 = .ok (.iload_n 1, 1) := all_d dX8_meterAt_all0 0 rfl
theorem dX8_meterAt_1 : decode cX8_meterAt 1 = .ok (.ifCond .lt 29, 3) := all_d dX8_meterAt_all0 1 rfl
theorem dX8_meterAt_4 : decode cX8_meterAt 4 = .ok (.iload_n 1, 1) := all_d dX8_meterAt_all0 2 rfl
theorem dX8_meterAt_5 : decode cX8_meterAt 5 = .ok (.aload_n 0, 1) := all_d dX8_meterAt_all0 3 rfl
theorem dX8_meterAt_6 : decode cX8_meterAt 6 = .ok (.getfield 60, 3) := all_d dX8_meterAt_all0 4 rfl
theorem dX8_meterAt_9 : decode cX8_meterAt 9 = .ok (.if_icmp .ge 21, 3) := all_d dX8_meterAt_all0 5 rfl
theorem dX8_meterAt_12 : decode cX8_meterAt 12 = .ok (.iload_n 1, 1) := all_d dX8_meterAt_all0 6 rfl
theorem dX8_meterAt_13 : decode cX8_meterAt 13 = .ok (.aload_n 0, 1) := all_d dX8_meterAt_all0 7 rfl
theorem dX8_meterAt_14 : decode cX8_meterAt 14 = .ok (.getfield 11, 3) := all_d dX8_meterAt_all0 8 rfl
theorem dX8_meterAt_17 : decode cX8_meterAt 17 = .ok (.arraylength, 1) := all_d dX8_meterAt_all0 9 rfl
theorem dX8_meterAt_18 : decode cX8_meterAt 18 = .ok (.if_icmp .ge 12, 3) := all_d dX8_meterAt_all0 10 rfl
theorem dX8_meterAt_21 : decode cX8_meterAt 21 = .ok (.aload_n 0, 1) := all_d dX8_meterAt_all0 11 rfl
theorem dX8_meterAt_22 : decode cX8_meterAt 22 = .ok (.getfield 11, 3) := all_d dX8_meterAt_all0 12 rfl
theorem dX8_meterAt_25 : decode cX8_meterAt 25 = .ok (.iload_n 1, 1) := all_d dX8_meterAt_all0 13 rfl
theorem dX8_meterAt_26 : decode cX8_meterAt 26 = .ok (.aaload, 1) := all_d dX8_meterAt_all0 14 rfl
theorem dX8_meterAt_27 : decode cX8_meterAt 27 = .ok (.goto 4, 3) := all_d dX8_meterAt_all0 15 rfl
theorem dX8_meterAt_30 : decode cX8_meterAt 30 = .ok (.aconst_null, 1) := all_d dX8_meterAt_all0 16 rfl
theorem dX8_meterAt_31 : decode cX8_meterAt 31 = .ok (.areturn, 1) := all_d dX8_meterAt_all0 17 rfl
set_option maxRecDepth 100000 in
theorem dX8_partAt_all0 : ([(0, (.aload_n 0 : Instr), 1), (1, (.iload_n 1 : Instr), 1), (2, (.invokevirtual 83 : Instr), 3), (5, (.astore_n 3 : Instr), 1), (6, (.aload_n 3 : Instr), 1), (7, (.ifnonnull 7 : Instr), 3), (10, (.aconst_null : Instr), 1), (11, (.goto 8 : Instr), 3), (14, (.aload_n 3 : Instr), 1), (15, (.iload_n 2 : Instr), 1), (16, (.invokevirtual 275 : Instr), 3), (19, (.areturn : Instr), 1)] : List (Nat × Instr × Nat)).all (fun q => decide (decode cX8_partAt q.1 = .ok (q.2.1, q.2.2))) = true := by decide +kernel
theorem dX8_partAt_0 : decode cX8_partAt 0 = .ok (.aload_n 0, 1) := all_d dX8_partAt_all0 0 rfl
theorem dX8_partAt_1 : decode cX8_partAt 1 = .ok (.iload_n 1, 1) := all_d dX8_partAt_all0 1 rfl
theorem dX8_partAt_2 : decode cX8_partAt 2 = .ok (.invokevirtual 83, 3) := all_d dX8_partAt_all0 2 rfl
theorem dX8_partAt_5 : decode cX8_partAt 5 = .ok (.astore_n 3, 1) := all_d dX8_partAt_all0 3 rfl
theorem dX8_partAt_6 : decode cX8_partAt 6 = .ok (.aload_n 3, 1) := all_d dX8_partAt_all0 4 rfl
theorem dX8_partAt_7 : decode cX8_partAt 7 = .ok (.ifnonnull 7, 3) := all_d dX8_partAt_all0 5 rfl
theorem dX8_partAt_10 : decode cX8_partAt 10 = .ok (.aconst_null, 1) := all_d dX8_partAt_all0 6 rfl
theorem dX8_partAt_11 : decode cX8_partAt 11 = .ok (.goto 8, 3) := all_d dX8_partAt_all0 7 rfl
theorem dX8_partAt_14 : decode cX8_partAt 14 = .ok (.aload_n 3, 1) := all_d dX8_partAt_all0 8 rfl
theorem dX8_partAt_15 : decode cX8_partAt 15 = .ok (.iload_n 2, 1) := all_d dX8_partAt_all0 9 rfl
theorem dX8_partAt_16 : decode cX8_partAt 16 = .ok (.invokevirtual 275, 3) := all_d dX8_partAt_all0 10 rfl
theorem dX8_partAt_19 : decode cX8_partAt 19 = .ok (.areturn, 1) := all_d dX8_partAt_all0 11 rfl
set_option maxRecDepth 100000 in
theorem dX8_faultAt_all0 : ([(0, (.iload_n 1 : Instr), 1), (1, (.ifCond .lt 29 : Instr), 3), (4, (.iload_n 1 : Instr), 1), (5, (.aload_n 0 : Instr), 1), (6, (.getfield 63 : Instr), 3), (9, (.if_icmp .ge 21 : Instr), 3), (12, (.iload_n 1 : Instr), 1), (13, (.aload_n 0 : Instr), 1), (14, (.getfield 31 : Instr), 3), (17, (.arraylength : Instr), 1), (18, (.if_icmp .ge 12 : Instr), 3), (21, (.aload_n 0 : Instr), 1), (22, (.getfield 31 : Instr), 3), (25, (.iload_n 1 : Instr), 1), (26, (.aaload : Instr), 1), (27, (.goto 4 : Instr), 3), (30, (.aconst_null : Instr), 1), (31, (.areturn : Instr), 1)] : List (Nat × Instr × Nat)).all (fun q => decide (decode cX8_faultAt q.1 = .ok (q.2.1, q.2.2))) = true := by decide +kernel
theorem dX8_faultAt_0 : decode cX8_faultAt 0 = .ok (.iload_n 1, 1) := all_d dX8_faultAt_all0 0 rfl
theorem dX8_faultAt_1 : decode cX8_faultAt 1 = .ok (.ifCond .lt 29, 3) := all_d dX8_faultAt_all0 1 rfl
theorem dX8_faultAt_4 : decode cX8_faultAt 4 = .ok (.iload_n 1, 1) := all_d dX8_faultAt_all0 2 rfl
theorem dX8_faultAt_5 : decode cX8_faultAt 5 = .ok (.aload_n 0, 1) := all_d dX8_faultAt_all0 3 rfl
theorem dX8_faultAt_6 : decode cX8_faultAt 6 = .ok (.getfield 63, 3) := all_d dX8_faultAt_all0 4 rfl
theorem dX8_faultAt_9 : decode cX8_faultAt 9 = .ok (.if_icmp .ge 21, 3) := all_d dX8_faultAt_all0 5 rfl
theorem dX8_faultAt_12 : decode cX8_faultAt 12 = .ok (.iload_n 1, 1) := all_d dX8_faultAt_all0 6 rfl
theorem dX8_faultAt_13 : decode cX8_faultAt 13 = .ok (.aload_n 0, 1) := all_d dX8_faultAt_all0 7 rfl
theorem dX8_faultAt_14 : decode cX8_faultAt 14 = .ok (.getfield 31, 3) := all_d dX8_faultAt_all0 8 rfl
theorem dX8_faultAt_17 : decode cX8_faultAt 17 = .ok (.arraylength, 1) := all_d dX8_faultAt_all0 9 rfl
theorem dX8_faultAt_18 : decode cX8_faultAt 18 = .ok (.if_icmp .ge 12, 3) := all_d dX8_faultAt_all0 10 rfl
theorem dX8_faultAt_21 : decode cX8_faultAt 21 = .ok (.aload_n 0, 1) := all_d dX8_faultAt_all0 11 rfl
theorem dX8_faultAt_22 : decode cX8_faultAt 22 = .ok (.getfield 31, 3) := all_d dX8_faultAt_all0 12 rfl
theorem dX8_faultAt_25 : decode cX8_faultAt 25 = .ok (.iload_n 1, 1) := all_d dX8_faultAt_all0 13 rfl
theorem dX8_faultAt_26 : decode cX8_faultAt 26 = .ok (.aaload, 1) := all_d dX8_faultAt_all0 14 rfl
theorem dX8_faultAt_27 : decode cX8_faultAt 27 = .ok (.goto 4, 3) := all_d dX8_faultAt_all0 15 rfl
theorem dX8_faultAt_30 : decode cX8_faultAt 30 = .ok (.aconst_null, 1) := all_d dX8_faultAt_all0 16 rfl
theorem dX8_faultAt_31 : decode cX8_faultAt 31 = .ok (.areturn, 1) := all_d dX8_faultAt_all0 17 rfl
set_option maxRecDepth 100000 in
theorem dX8_whyNoPart_all0 : ([(0, (.aload_n 0 : Instr), 1), (1, (.ifnonnull 5 : Instr), 3), (4, (.iconst 2 : Instr), 1), (5, (.ireturn : Instr), 1), (6, (.iload_n 1 : Instr), 1), (7, (.sipush 8000 : Instr), 3), (10, (.invokestatic 113 : Instr), 3), (13, (.ifCond .eq 20 : Instr), 3), (16, (.aload_n 0 : Instr), 1), (17, (.invokevirtual 278 : Instr), 3), (20, (.ifCond .eq 15 : Instr), 3), (23, (.iload_n 2 : Instr), 1), (24, (.sipush 8000 : Instr), 3), (27, (.invokestatic 113 : Instr), 3), (30, (.ifCond .ne 5 : Instr), 3), (33, (.iconst 1 : Instr), 1), (34, (.ireturn : Instr), 1), (35, (.aload_n 0 : Instr), 1), (36, (.getfield 95 : Instr), 3), (39, (.bipush 16 : Instr), 2), (41, (.if_icmp .lt 7 : Instr), 3), (44, (.iconst 3 : Instr), 1), (45, (.goto 4 : Instr), 3), (48, (.iconst 0 : Instr), 1), (49, (.ireturn : Instr), 1)] : List (Nat × Instr × Nat)).all (fun q => decide (decode cX8_whyNoPart q.1 = .ok (q.2.1, q.2.2))) = true := by decide +kernel
theorem dX8_whyNoPart_0 : decode cX8_whyNoPart 0 = .ok (.aload_n 0, 1) := all_d dX8_whyNoPart_all0 0 rfl
theorem dX8_whyNoPart_1 : decode cX8_whyNoPart 1 = .ok (.ifnonnull 5, 3) := all_d dX8_whyNoPart_all0 1 rfl
theorem dX8_whyNoPart_4 : decode cX8_whyNoPart 4 = .ok (.iconst 2, 1) := all_d dX8_whyNoPart_all0 2 rfl
theorem dX8_whyNoPart_5 : decode cX8_whyNoPart 5 = .ok (.ireturn, 1) := all_d dX8_whyNoPart_all0 3 rfl
theorem dX8_whyNoPart_6 : decode cX8_whyNoPart 6 = .ok (.iload_n 1, 1) := all_d dX8_whyNoPart_all0 4 rfl
theorem dX8_whyNoPart_7 : decode cX8_whyNoPart 7 = .ok (.sipush 8000, 3) := all_d dX8_whyNoPart_all0 5 rfl
theorem dX8_whyNoPart_10 : decode cX8_whyNoPart 10 = .ok (.invokestatic 113, 3) := all_d dX8_whyNoPart_all0 6 rfl
theorem dX8_whyNoPart_13 : decode cX8_whyNoPart 13 = .ok (.ifCond .eq 20, 3) := all_d dX8_whyNoPart_all0 7 rfl
theorem dX8_whyNoPart_16 : decode cX8_whyNoPart 16 = .ok (.aload_n 0, 1) := all_d dX8_whyNoPart_all0 8 rfl
theorem dX8_whyNoPart_17 : decode cX8_whyNoPart 17 = .ok (.invokevirtual 278, 3) := all_d dX8_whyNoPart_all0 9 rfl
theorem dX8_whyNoPart_20 : decode cX8_whyNoPart 20 = .ok (.ifCond .eq 15, 3) := all_d dX8_whyNoPart_all0 10 rfl
theorem dX8_whyNoPart_23 : decode cX8_whyNoPart 23 = .ok (.iload_n 2, 1) := all_d dX8_whyNoPart_all0 11 rfl
theorem dX8_whyNoPart_24 : decode cX8_whyNoPart 24 = .ok (.sipush 8000, 3) := all_d dX8_whyNoPart_all0 12 rfl
theorem dX8_whyNoPart_27 : decode cX8_whyNoPart 27 = .ok (.invokestatic 113, 3) := all_d dX8_whyNoPart_all0 13 rfl
theorem dX8_whyNoPart_30 : decode cX8_whyNoPart 30 = .ok (.ifCond .ne 5, 3) := all_d dX8_whyNoPart_all0 14 rfl
theorem dX8_whyNoPart_33 : decode cX8_whyNoPart 33 = .ok (.iconst 1, 1) := all_d dX8_whyNoPart_all0 15 rfl
theorem dX8_whyNoPart_34 : decode cX8_whyNoPart 34 = .ok (.ireturn, 1) := all_d dX8_whyNoPart_all0 16 rfl
theorem dX8_whyNoPart_35 : decode cX8_whyNoPart 35 = .ok (.aload_n 0, 1) := all_d dX8_whyNoPart_all0 17 rfl
theorem dX8_whyNoPart_36 : decode cX8_whyNoPart 36 = .ok (.getfield 95, 3) := all_d dX8_whyNoPart_all0 18 rfl
theorem dX8_whyNoPart_39 : decode cX8_whyNoPart 39 = .ok (.bipush 16, 2) := all_d dX8_whyNoPart_all0 19 rfl
theorem dX8_whyNoPart_41 : decode cX8_whyNoPart 41 = .ok (.if_icmp .lt 7, 3) := all_d dX8_whyNoPart_all0 20 rfl
theorem dX8_whyNoPart_44 : decode cX8_whyNoPart 44 = .ok (.iconst 3, 1) := all_d dX8_whyNoPart_all0 21 rfl
theorem dX8_whyNoPart_45 : decode cX8_whyNoPart 45 = .ok (.goto 4, 3) := all_d dX8_whyNoPart_all0 22 rfl
theorem dX8_whyNoPart_48 : decode cX8_whyNoPart 48 = .ok (.iconst 0, 1) := all_d dX8_whyNoPart_all0 23 rfl
theorem dX8_whyNoPart_49 : decode cX8_whyNoPart 49 = .ok (.ireturn, 1) := all_d dX8_whyNoPart_all0 24 rfl
set_option maxRecDepth 100000 in
theorem dX8_whyNoBalance_all0 : ([(0, (.aload_n 0 : Instr), 1), (1, (.ifnonnull 7 : Instr), 3), (4, (.iconst 2 : Instr), 1), (5, (.goto 16 : Instr), 3), (8, (.aload_n 0 : Instr), 1), (9, (.getfield 122 : Instr), 3), (12, (.iconst 2 : Instr), 1), (13, (.if_icmp .eq 7 : Instr), 3), (16, (.iconst 4 : Instr), 1), (17, (.goto 4 : Instr), 3), (20, (.iconst 0 : Instr), 1), (21, (.ireturn : Instr), 1)] : List (Nat × Instr × Nat)).all (fun q => decide (decode cX8_whyNoBalance q.1 = .ok (q.2.1, q.2.2))) = true := by decide +kernel
theorem dX8_whyNoBalance_0 : decode cX8_whyNoBalance 0 = .ok (.aload_n 0, 1) := all_d dX8_whyNoBalance_all0 0 rfl
theorem dX8_whyNoBalance_1 : decode cX8_whyNoBalance 1 = .ok (.ifnonnull 7, 3) := all_d dX8_whyNoBalance_all0 1 rfl
theorem dX8_whyNoBalance_4 : decode cX8_whyNoBalance 4 = .ok (.iconst 2, 1) := all_d dX8_whyNoBalance_all0 2 rfl
theorem dX8_whyNoBalance_5 : decode cX8_whyNoBalance 5 = .ok (.goto 16, 3) := all_d dX8_whyNoBalance_all0 3 rfl
theorem dX8_whyNoBalance_8 : decode cX8_whyNoBalance 8 = .ok (.aload_n 0, 1) := all_d dX8_whyNoBalance_all0 4 rfl
theorem dX8_whyNoBalance_9 : decode cX8_whyNoBalance 9 = .ok (.getfield 122, 3) := all_d dX8_whyNoBalance_all0 5 rfl
theorem dX8_whyNoBalance_12 : decode cX8_whyNoBalance 12 = .ok (.iconst 2, 1) := all_d dX8_whyNoBalance_all0 6 rfl
theorem dX8_whyNoBalance_13 : decode cX8_whyNoBalance 13 = .ok (.if_icmp .eq 7, 3) := all_d dX8_whyNoBalance_all0 7 rfl
theorem dX8_whyNoBalance_16 : decode cX8_whyNoBalance 16 = .ok (.iconst 4, 1) := all_d dX8_whyNoBalance_all0 8 rfl
theorem dX8_whyNoBalance_17 : decode cX8_whyNoBalance 17 = .ok (.goto 4, 3) := all_d dX8_whyNoBalance_all0 9 rfl
theorem dX8_whyNoBalance_20 : decode cX8_whyNoBalance 20 = .ok (.iconst 0, 1) := all_d dX8_whyNoBalance_all0 10 rfl
theorem dX8_whyNoBalance_21 : decode cX8_whyNoBalance 21 = .ok (.ireturn, 1) := all_d dX8_whyNoBalance_all0 11 rfl
set_option maxRecDepth 100000 in
theorem dX8_fillTable_all0 : ([(0, (.aload_n 0 : Instr), 1), (1, (.iload_n 1 : Instr), 1), (2, (.invokevirtual 83 : Instr), 3), (5, (.astore_n 2 : Instr), 1), (6, (.aload_n 2 : Instr), 1), (7, (.ifnonnull 5 : Instr), 3), (10, (.iconst 0 : Instr), 1), (11, (.ireturn : Instr), 1), (12, (.aload_n 0 : Instr), 1), (13, (.getfield 69 : Instr), 3), (16, (.iload_n 1 : Instr), 1), (17, (.if_icmp .eq 20 : Instr), 3), (20, (.aload_n 0 : Instr), 1), (21, (.getfield 18 : Instr), 3), (24, (.aload_n 2 : Instr), 1), (25, (.aload_n 0 : Instr), 1), (26, (.getfield 56 : Instr), 3), (29, (.invokevirtual 282 : Instr), 3), (32, (.aload_n 0 : Instr), 1), (33, (.iload_n 1 : Instr), 1), (34, (.putfield 69 : Instr), 3), (37, (.iconst 1 : Instr), 1), (38, (.ireturn : Instr), 1)] : List (Nat × Instr × Nat)).all (fun q => decide (decode cX8_fillTable q.1 = .ok (q.2.1, q.2.2))) = true := by decide +kernel
theorem dX8_fillTable_0 : decode cX8_fillTable 0 = .ok (.aload_n 0, 1) := all_d dX8_fillTable_all0 0 rfl
theorem dX8_fillTable_1 : decode cX8_fillTable 1 = .ok (.iload_n 1, 1) := all_d dX8_fillTable_all0 1 rfl
theorem dX8_fillTable_2 : decode cX8_fillTable 2 = .ok (.invokevirtual 83, 3) := all_d dX8_fillTable_all0 2 rfl
theorem dX8_fillTable_5 : decode cX8_fillTable 5 = .ok (.astore_n 2, 1) := all_d dX8_fillTable_all0 3 rfl
theorem dX8_fillTable_6 : decode cX8_fillTable 6 = .ok (.aload_n 2, 1) := all_d dX8_fillTable_all0 4 rfl
theorem dX8_fillTable_7 : decode cX8_fillTable 7 = .ok (.ifnonnull 5, 3) := all_d dX8_fillTable_all0 5 rfl
theorem dX8_fillTable_10 : decode cX8_fillTable 10 = .ok (.iconst 0, 1) := all_d dX8_fillTable_all0 6 rfl
theorem dX8_fillTable_11 : decode cX8_fillTable 11 = .ok (.ireturn, 1) := all_d dX8_fillTable_all0 7 rfl
theorem dX8_fillTable_12 : decode cX8_fillTable 12 = .ok (.aload_n 0, 1) := all_d dX8_fillTable_all0 8 rfl
theorem dX8_fillTable_13 : decode cX8_fillTable 13 = .ok (.getfield 69, 3) := all_d dX8_fillTable_all0 9 rfl
theorem dX8_fillTable_16 : decode cX8_fillTable 16 = .ok (.iload_n 1, 1) := all_d dX8_fillTable_all0 10 rfl
theorem dX8_fillTable_17 : decode cX8_fillTable 17 = .ok (.if_icmp .eq 20, 3) := all_d dX8_fillTable_all0 11 rfl
theorem dX8_fillTable_20 : decode cX8_fillTable 20 = .ok (.aload_n 0, 1) := all_d dX8_fillTable_all0 12 rfl
theorem dX8_fillTable_21 : decode cX8_fillTable 21 = .ok (.getfield 18, 3) := all_d dX8_fillTable_all0 13 rfl
theorem dX8_fillTable_24 : decode cX8_fillTable 24 = .ok (.aload_n 2, 1) := all_d dX8_fillTable_all0 14 rfl
theorem dX8_fillTable_25 : decode cX8_fillTable 25 = .ok (.aload_n 0, 1) := all_d dX8_fillTable_all0 15 rfl
theorem dX8_fillTable_26 : decode cX8_fillTable 26 = .ok (.getfield 56, 3) := all_d dX8_fillTable_all0 16 rfl
theorem dX8_fillTable_29 : decode cX8_fillTable 29 = .ok (.invokevirtual 282, 3) := all_d dX8_fillTable_all0 17 rfl
theorem dX8_fillTable_32 : decode cX8_fillTable 32 = .ok (.aload_n 0, 1) := all_d dX8_fillTable_all0 18 rfl
theorem dX8_fillTable_33 : decode cX8_fillTable 33 = .ok (.iload_n 1, 1) := all_d dX8_fillTable_all0 19 rfl
theorem dX8_fillTable_34 : decode cX8_fillTable 34 = .ok (.putfield 69, 3) := all_d dX8_fillTable_all0 20 rfl
theorem dX8_fillTable_37 : decode cX8_fillTable 37 = .ok (.iconst 1, 1) := all_d dX8_fillTable_all0 21 rfl
theorem dX8_fillTable_38 : decode cX8_fillTable 38 = .ok (.ireturn, 1) := all_d dX8_fillTable_all0 22 rfl
set_option maxRecDepth 100000 in
theorem dX8_isTabled_all0 : ([(0, (.aload_n 0 : Instr), 1), (1, (.iload_n 1 : Instr), 1), (2, (.invokevirtual 156 : Instr), 3), (5, (.istore_n 2 : Instr), 1), (6, (.aload_n 0 : Instr), 1), (7, (.iload_n 2 : Instr), 1), (8, (.ifCond .eq 7 : Instr), 3), (11, (.iconst 0 : Instr), 1), (12, (.goto 4 : Instr), 3), (15, (.iconst 2 : Instr), 1), (16, (.putfield 66 : Instr), 3), (19, (.iload_n 2 : Instr), 1), (20, (.ireturn : Instr), 1)] : List (Nat × Instr × Nat)).all (fun q => decide (decode cX8_isTabled q.1 = .ok (q.2.1, q.2.2))) = true := by decide +kernel
theorem dX8_isTabled_0 : decode cX8_isTabled 0 = .ok (.aload_n 0, 1) := all_d dX8_isTabled_all0 0 rfl
theorem dX8_isTabled_1 : decode cX8_isTabled 1 = .ok (.iload_n 1, 1) := all_d dX8_isTabled_all0 1 rfl
theorem dX8_isTabled_2 : decode cX8_isTabled 2 = .ok (.invokevirtual 156, 3) := all_d dX8_isTabled_all0 2 rfl
theorem dX8_isTabled_5 : decode cX8_isTabled 5 = .ok (.istore_n 2, 1) := all_d dX8_isTabled_all0 3 rfl
theorem dX8_isTabled_6 : decode cX8_isTabled 6 = .ok (.aload_n 0, 1) := all_d dX8_isTabled_all0 4 rfl
theorem dX8_isTabled_7 : decode cX8_isTabled 7 = .ok (.iload_n 2, 1) := all_d dX8_isTabled_all0 5 rfl
theorem dX8_isTabled_8 : decode cX8_isTabled 8 = .ok (.ifCond .eq 7, 3) := all_d dX8_isTabled_all0 6 rfl
theorem dX8_isTabled_11 : decode cX8_isTabled 11 = .ok (.iconst 0, 1) := all_d dX8_isTabled_all0 7 rfl
theorem dX8_isTabled_12 : decode cX8_isTabled 12 = .ok (.goto 4, 3) := all_d dX8_isTabled_all0 8 rfl
theorem dX8_isTabled_15 : decode cX8_isTabled 15 = .ok (.iconst 2, 1) := all_d dX8_isTabled_all0 9 rfl
theorem dX8_isTabled_16 : decode cX8_isTabled 16 = .ok (.putfield 66, 3) := all_d dX8_isTabled_all0 10 rfl
theorem dX8_isTabled_19 : decode cX8_isTabled 19 = .ok (.iload_n 2, 1) := all_d dX8_isTabled_all0 11 rfl
theorem dX8_isTabled_20 : decode cX8_isTabled 20 = .ok (.ireturn, 1) := all_d dX8_isTabled_all0 12 rfl
set_option maxRecDepth 100000 in
theorem dX8_commonDivisor_all0 : ([(0, (.iload_n 0 : Instr), 1), (1, (.invokestatic 286 : Instr), 3), (4, (.istore_n 2 : Instr), 1), (5, (.iload_n 1 : Instr), 1), (6, (.invokestatic 286 : Instr), 3), (9, (.istore_n 3 : Instr), 1), (10, (.iconst 0 : Instr), 1), (11, (.istore 4 : Instr), 2), (13, (.iload 4 : Instr), 2), (15, (.bipush 100 : Instr), 2), (17, (.if_icmp .ge 23 : Instr), 3), (20, (.iload_n 3 : Instr), 1), (21, (.ifCond .eq 19 : Instr), 3), (24, (.iload_n 2 : Instr), 1), (25, (.iload_n 3 : Instr), 1), (26, (.irem : Instr), 1), (27, (.istore 5 : Instr), 2), (29, (.iload_n 3 : Instr), 1), (30, (.istore_n 2 : Instr), 1), (31, (.iload 5 : Instr), 2), (33, (.istore_n 3 : Instr), 1), (34, (.iinc 4 1 : Instr), 3), (37, (.goto (-24) : Instr), 3), (40, (.iload_n 2 : Instr), 1), (41, (.ireturn : Instr), 1)] : List (Nat × Instr × Nat)).all (fun q => decide (decode cX8_commonDivisor q.1 = .ok (q.2.1, q.2.2))) = true := by decide +kernel
theorem dX8_commonDivisor_0 : decode cX8_commonDivisor 0 = .ok (.iload_n 0, 1) := all_d dX8_commonDivisor_all0 0 rfl
theorem dX8_commonDivisor_1 : decode cX8_commonDivisor 1 = .ok (.invokestatic 286, 3) := all_d dX8_commonDivisor_all0 1 rfl
theorem dX8_commonDivisor_4 : decode cX8_commonDivisor 4 = .ok (.istore_n 2, 1) := all_d dX8_commonDivisor_all0 2 rfl
theorem dX8_commonDivisor_5 : decode cX8_commonDivisor 5 = .ok (.iload_n 1, 1) := all_d dX8_commonDivisor_all0 3 rfl
theorem dX8_commonDivisor_6 : decode cX8_commonDivisor 6 = .ok (.invokestatic 286, 3) := all_d dX8_commonDivisor_all0 4 rfl
theorem dX8_commonDivisor_9 : decode cX8_commonDivisor 9 = .ok (.istore_n 3, 1) := all_d dX8_commonDivisor_all0 5 rfl
theorem dX8_commonDivisor_10 : decode cX8_commonDivisor 10 = .ok (.iconst 0, 1) := all_d dX8_commonDivisor_all0 6 rfl
theorem dX8_commonDivisor_11 : decode cX8_commonDivisor 11 = .ok (.istore 4, 2) := all_d dX8_commonDivisor_all0 7 rfl
theorem dX8_commonDivisor_13 : decode cX8_commonDivisor 13 = .ok (.iload 4, 2) := all_d dX8_commonDivisor_all0 8 rfl
theorem dX8_commonDivisor_15 : decode cX8_commonDivisor 15 = .ok (.bipush 100, 2) := all_d dX8_commonDivisor_all0 9 rfl
theorem dX8_commonDivisor_17 : decode cX8_commonDivisor 17 = .ok (.if_icmp .ge 23, 3) := all_d dX8_commonDivisor_all0 10 rfl
theorem dX8_commonDivisor_20 : decode cX8_commonDivisor 20 = .ok (.iload_n 3, 1) := all_d dX8_commonDivisor_all0 11 rfl
theorem dX8_commonDivisor_21 : decode cX8_commonDivisor 21 = .ok (.ifCond .eq 19, 3) := all_d dX8_commonDivisor_all0 12 rfl
theorem dX8_commonDivisor_24 : decode cX8_commonDivisor 24 = .ok (.iload_n 2, 1) := all_d dX8_commonDivisor_all0 13 rfl
theorem dX8_commonDivisor_25 : decode cX8_commonDivisor 25 = .ok (.iload_n 3, 1) := all_d dX8_commonDivisor_all0 14 rfl
theorem dX8_commonDivisor_26 : decode cX8_commonDivisor 26 = .ok (.irem, 1) := all_d dX8_commonDivisor_all0 15 rfl
theorem dX8_commonDivisor_27 : decode cX8_commonDivisor 27 = .ok (.istore 5, 2) := all_d dX8_commonDivisor_all0 16 rfl
theorem dX8_commonDivisor_29 : decode cX8_commonDivisor 29 = .ok (.iload_n 3, 1) := all_d dX8_commonDivisor_all0 17 rfl
theorem dX8_commonDivisor_30 : decode cX8_commonDivisor 30 = .ok (.istore_n 2, 1) := all_d dX8_commonDivisor_all0 18 rfl
theorem dX8_commonDivisor_31 : decode cX8_commonDivisor 31 = .ok (.iload 5, 2) := all_d dX8_commonDivisor_all0 19 rfl
theorem dX8_commonDivisor_33 : decode cX8_commonDivisor 33 = .ok (.istore_n 3, 1) := all_d dX8_commonDivisor_all0 20 rfl
theorem dX8_commonDivisor_34 : decode cX8_commonDivisor 34 = .ok (.iinc 4 1, 3) := all_d dX8_commonDivisor_all0 21 rfl
theorem dX8_commonDivisor_37 : decode cX8_commonDivisor 37 = .ok (.goto (-24), 3) := all_d dX8_commonDivisor_all0 22 rfl
theorem dX8_commonDivisor_40 : decode cX8_commonDivisor 40 = .ok (.iload_n 2, 1) := all_d dX8_commonDivisor_all0 23 rfl
theorem dX8_commonDivisor_41 : decode cX8_commonDivisor 41 = .ok (.ireturn, 1) := all_d dX8_commonDivisor_all0 24 rfl
set_option maxRecDepth 100000 in
theorem dX8_isShownBy_all0 : ([(0, (.aload_n 0 : Instr), 1), (1, (.aload_n 1 : Instr), 1), (2, (.getfield 289 : Instr), 3), (5, (.invokevirtual 83 : Instr), 3), (8, (.astore_n 3 : Instr), 1), (9, (.aload_n 3 : Instr), 1), (10, (.ifnull 21 : Instr), 3), (13, (.aload_n 0 : Instr), 1), (14, (.aload_n 1 : Instr), 1), (15, (.iload_n 2 : Instr), 1), (16, (.invokevirtual 292 : Instr), 3), (19, (.aload_n 3 : Instr), 1), (20, (.iload_n 2 : Instr), 1), (21, (.invokevirtual 139 : Instr), 3), (24, (.if_icmp .eq 7 : Instr), 3), (27, (.iconst 1 : Instr), 1), (28, (.goto 4 : Instr), 3), (31, (.iconst 0 : Instr), 1), (32, (.ireturn : Instr), 1)] : List (Nat × Instr × Nat)).all (fun q => decide (decode cX8_isShownBy q.1 = .ok (q.2.1, q.2.2))) = true := by decide +kernel
theorem dX8_isShownBy_0 : decode cX8_isShownBy 0 = .ok (.aload_n 0, 1) := all_d dX8_isShownBy_all0 0 rfl
theorem dX8_isShownBy_1 : decode cX8_isShownBy 1 = .ok (.aload_n 1, 1) := all_d dX8_isShownBy_all0 1 rfl
theorem dX8_isShownBy_2 : decode cX8_isShownBy 2 = .ok (.getfield 289, 3) := all_d dX8_isShownBy_all0 2 rfl
theorem dX8_isShownBy_5 : decode cX8_isShownBy 5 = .ok (.invokevirtual 83, 3) := all_d dX8_isShownBy_all0 3 rfl
theorem dX8_isShownBy_8 : decode cX8_isShownBy 8 = .ok (.astore_n 3, 1) := all_d dX8_isShownBy_all0 4 rfl
theorem dX8_isShownBy_9 : decode cX8_isShownBy 9 = .ok (.aload_n 3, 1) := all_d dX8_isShownBy_all0 5 rfl
theorem dX8_isShownBy_10 : decode cX8_isShownBy 10 = .ok (.ifnull 21, 3) := all_d dX8_isShownBy_all0 6 rfl
theorem dX8_isShownBy_13 : decode cX8_isShownBy 13 = .ok (.aload_n 0, 1) := all_d dX8_isShownBy_all0 7 rfl
theorem dX8_isShownBy_14 : decode cX8_isShownBy 14 = .ok (.aload_n 1, 1) := all_d dX8_isShownBy_all0 8 rfl
theorem dX8_isShownBy_15 : decode cX8_isShownBy 15 = .ok (.iload_n 2, 1) := all_d dX8_isShownBy_all0 9 rfl
theorem dX8_isShownBy_16 : decode cX8_isShownBy 16 = .ok (.invokevirtual 292, 3) := all_d dX8_isShownBy_all0 10 rfl
theorem dX8_isShownBy_19 : decode cX8_isShownBy 19 = .ok (.aload_n 3, 1) := all_d dX8_isShownBy_all0 11 rfl
theorem dX8_isShownBy_20 : decode cX8_isShownBy 20 = .ok (.iload_n 2, 1) := all_d dX8_isShownBy_all0 12 rfl
theorem dX8_isShownBy_21 : decode cX8_isShownBy 21 = .ok (.invokevirtual 139, 3) := all_d dX8_isShownBy_all0 13 rfl
theorem dX8_isShownBy_24 : decode cX8_isShownBy 24 = .ok (.if_icmp .eq 7, 3) := all_d dX8_isShownBy_all0 14 rfl
theorem dX8_isShownBy_27 : decode cX8_isShownBy 27 = .ok (.iconst 1, 1) := all_d dX8_isShownBy_all0 15 rfl
theorem dX8_isShownBy_28 : decode cX8_isShownBy 28 = .ok (.goto 4, 3) := all_d dX8_isShownBy_all0 16 rfl
theorem dX8_isShownBy_31 : decode cX8_isShownBy 31 = .ok (.iconst 0, 1) := all_d dX8_isShownBy_all0 17 rfl
theorem dX8_isShownBy_32 : decode cX8_isShownBy 32 = .ok (.ireturn, 1) := all_d dX8_isShownBy_all0 18 rfl
set_option maxRecDepth 100000 in
theorem dX8_codeWith_all0 : ([(0, (.aload_n 0 : Instr), 1), (1, (.aload_n 1 : Instr), 1), (2, (.getfield 289 : Instr), 3), (5, (.invokevirtual 83 : Instr), 3), (8, (.astore_n 3 : Instr), 1), (9, (.aload_n 0 : Instr), 1), (10, (.aload_n 1 : Instr), 1), (11, (.getfield 289 : Instr), 3), (14, (.aload_n 1 : Instr), 1), (15, (.getfield 296 : Instr), 3), (18, (.invokevirtual 109 : Instr), 3), (21, (.astore 4 : Instr), 2), (23, (.aload_n 3 : Instr), 1), (24, (.ifnull 8 : Instr), 3), (27, (.aload 4 : Instr), 2), (29, (.ifnonnull 5 : Instr), 3), (32, (.iconst 0 : Instr), 1), (33, (.ireturn : Instr), 1), (34, (.aload 4 : Instr), 2), (36, (.getfield 117 : Instr), 3), (39, (.istore 5 : Instr), 2), (41, (.aload 4 : Instr), 2), (43, (.aload_n 1 : Instr), 1), (44, (.getfield 299 : Instr), 3), (47, (.putfield 117 : Instr), 3), (50, (.aload_n 3 : Instr), 1), (51, (.iload_n 2 : Instr), 1), (52, (.invokevirtual 139 : Instr), 3), (55, (.istore 6 : Instr), 2), (57, (.aload 4 : Instr), 2), (59, (.iload 5 : Instr), 2), (61, (.putfield 117 : Instr), 3), (64, (.iload 6 : Instr), 2), (66, (.ireturn : Instr), 1)] : List (Nat × Instr × Nat)).all (fun q => decide (decode cX8_codeWith q.1 = .ok (q.2.1, q.2.2))) = true := by decide +kernel
theorem dX8_codeWith_0 : decode cX8_codeWith 0 = .ok (.aload_n 0, 1) := all_d dX8_codeWith_all0 0 rfl
theorem dX8_codeWith_1 : decode cX8_codeWith 1 = .ok (.aload_n 1, 1) := all_d dX8_codeWith_all0 1 rfl
theorem dX8_codeWith_2 : decode cX8_codeWith 2 = .ok (.getfield 289, 3) := all_d dX8_codeWith_all0 2 rfl
theorem dX8_codeWith_5 : decode cX8_codeWith 5 = .ok (.invokevirtual 83, 3) := all_d dX8_codeWith_all0 3 rfl
theorem dX8_codeWith_8 : decode cX8_codeWith 8 = .ok (.astore_n 3, 1) := all_d dX8_codeWith_all0 4 rfl
theorem dX8_codeWith_9 : decode cX8_codeWith 9 = .ok (.aload_n 0, 1) := all_d dX8_codeWith_all0 5 rfl
theorem dX8_codeWith_10 : decode cX8_codeWith 10 = .ok (.aload_n 1, 1) := all_d dX8_codeWith_all0 6 rfl
theorem dX8_codeWith_11 : decode cX8_codeWith 11 = .ok (.getfield 289, 3) := all_d dX8_codeWith_all0 7 rfl
theorem dX8_codeWith_14 : decode cX8_codeWith 14 = .ok (.aload_n 1, 1) := all_d dX8_codeWith_all0 8 rfl
theorem dX8_codeWith_15 : decode cX8_codeWith 15 = .ok (.getfield 296, 3) := all_d dX8_codeWith_all0 9 rfl
theorem dX8_codeWith_18 : decode cX8_codeWith 18 = .ok (.invokevirtual 109, 3) := all_d dX8_codeWith_all0 10 rfl
theorem dX8_codeWith_21 : decode cX8_codeWith 21 = .ok (.astore 4, 2) := all_d dX8_codeWith_all0 11 rfl
theorem dX8_codeWith_23 : decode cX8_codeWith 23 = .ok (.aload_n 3, 1) := all_d dX8_codeWith_all0 12 rfl
theorem dX8_codeWith_24 : decode cX8_codeWith 24 = .ok (.ifnull 8, 3) := all_d dX8_codeWith_all0 13 rfl
theorem dX8_codeWith_27 : decode cX8_codeWith 27 = .ok (.aload 4, 2) := all_d dX8_codeWith_all0 14 rfl
theorem dX8_codeWith_29 : decode cX8_codeWith 29 = .ok (.ifnonnull 5, 3) := all_d dX8_codeWith_all0 15 rfl
theorem dX8_codeWith_32 : decode cX8_codeWith 32 = .ok (.iconst 0, 1) := all_d dX8_codeWith_all0 16 rfl
theorem dX8_codeWith_33 : decode cX8_codeWith 33 = .ok (.ireturn, 1) := all_d dX8_codeWith_all0 17 rfl
theorem dX8_codeWith_34 : decode cX8_codeWith 34 = .ok (.aload 4, 2) := all_d dX8_codeWith_all0 18 rfl
theorem dX8_codeWith_36 : decode cX8_codeWith 36 = .ok (.getfield 117, 3) := all_d dX8_codeWith_all0 19 rfl
theorem dX8_codeWith_39 : decode cX8_codeWith 39 = .ok (.istore 5, 2) := all_d dX8_codeWith_all0 20 rfl
theorem dX8_codeWith_41 : decode cX8_codeWith 41 = .ok (.aload 4, 2) := all_d dX8_codeWith_all0 21 rfl
theorem dX8_codeWith_43 : decode cX8_codeWith 43 = .ok (.aload_n 1, 1) := all_d dX8_codeWith_all0 22 rfl
theorem dX8_codeWith_44 : decode cX8_codeWith 44 = .ok (.getfield 299, 3) := all_d dX8_codeWith_all0 23 rfl
theorem dX8_codeWith_47 : decode cX8_codeWith 47 = .ok (.putfield 117, 3) := all_d dX8_codeWith_all0 24 rfl
theorem dX8_codeWith_50 : decode cX8_codeWith 50 = .ok (.aload_n 3, 1) := all_d dX8_codeWith_all0 25 rfl
theorem dX8_codeWith_51 : decode cX8_codeWith 51 = .ok (.iload_n 2, 1) := all_d dX8_codeWith_all0 26 rfl
theorem dX8_codeWith_52 : decode cX8_codeWith 52 = .ok (.invokevirtual 139, 3) := all_d dX8_codeWith_all0 27 rfl
theorem dX8_codeWith_55 : decode cX8_codeWith 55 = .ok (.istore 6, 2) := all_d dX8_codeWith_all0 28 rfl
theorem dX8_codeWith_57 : decode cX8_codeWith 57 = .ok (.aload 4, 2) := all_d dX8_codeWith_all0 29 rfl
theorem dX8_codeWith_59 : decode cX8_codeWith 59 = .ok (.iload 5, 2) := all_d dX8_codeWith_all0 30 rfl
theorem dX8_codeWith_61 : decode cX8_codeWith 61 = .ok (.putfield 117, 3) := all_d dX8_codeWith_all0 31 rfl
theorem dX8_codeWith_64 : decode cX8_codeWith 64 = .ok (.iload 6, 2) := all_d dX8_codeWith_all0 32 rfl
theorem dX8_codeWith_66 : decode cX8_codeWith 66 = .ok (.ireturn, 1) := all_d dX8_codeWith_all0 33 rfl
set_option maxRecDepth 100000 in
theorem dX8_faultsShownBy_all0 : ([(0, (.iconst 0 : Instr), 1), (1, (.istore_n 2 : Instr), 1), (2, (.iconst 0 : Instr), 1), (3, (.istore_n 3 : Instr), 1), (4, (.iload_n 3 : Instr), 1), (5, (.aload_n 0 : Instr), 1), (6, (.getfield 63 : Instr), 3), (9, (.if_icmp .ge 37 : Instr), 3), (12, (.aload_n 0 : Instr), 1), (13, (.iload_n 3 : Instr), 1), (14, (.invokevirtual 225 : Instr), 3), (17, (.astore 4 : Instr), 2), (19, (.aload 4 : Instr), 2), (21, (.ifnull 19 : Instr), 3), (24, (.aload_n 0 : Instr), 1), (25, (.aload 4 : Instr), 2), (27, (.iload_n 1 : Instr), 1), (28, (.invokevirtual 233 : Instr), 3), (31, (.ifCond .eq 9 : Instr), 3), (34, (.iload_n 2 : Instr), 1), (35, (.iconst 1 : Instr), 1), (36, (.iload_n 3 : Instr), 1), (37, (.ishl : Instr), 1), (38, (.ior : Instr), 1), (39, (.istore_n 2 : Instr), 1), (40, (.iinc 3 1 : Instr), 3), (43, (.goto (-39) : Instr), 3), (46, (.iload_n 2 : Instr), 1), (47, (.ireturn : Instr), 1)] : List (Nat × Instr × Nat)).all (fun q => decide (decode cX8_faultsShownBy q.1 = .ok (q.2.1, q.2.2))) = true := by decide +kernel
theorem dX8_faultsShownBy_0 : decode cX8_faultsShownBy 0 = .ok (.iconst 0, 1) := all_d dX8_faultsShownBy_all0 0 rfl
theorem dX8_faultsShownBy_1 : decode cX8_faultsShownBy 1 = .ok (.istore_n 2, 1) := all_d dX8_faultsShownBy_all0 1 rfl
theorem dX8_faultsShownBy_2 : decode cX8_faultsShownBy 2 = .ok (.iconst 0, 1) := all_d dX8_faultsShownBy_all0 2 rfl
theorem dX8_faultsShownBy_3 : decode cX8_faultsShownBy 3 = .ok (.istore_n 3, 1) := all_d dX8_faultsShownBy_all0 3 rfl
theorem dX8_faultsShownBy_4 : decode cX8_faultsShownBy 4 = .ok (.iload_n 3, 1) := all_d dX8_faultsShownBy_all0 4 rfl
theorem dX8_faultsShownBy_5 : decode cX8_faultsShownBy 5 = .ok (.aload_n 0, 1) := all_d dX8_faultsShownBy_all0 5 rfl
theorem dX8_faultsShownBy_6 : decode cX8_faultsShownBy 6 = .ok (.getfield 63, 3) := all_d dX8_faultsShownBy_all0 6 rfl
theorem dX8_faultsShownBy_9 : decode cX8_faultsShownBy 9 = .ok (.if_icmp .ge 37, 3) := all_d dX8_faultsShownBy_all0 7 rfl
theorem dX8_faultsShownBy_12 : decode cX8_faultsShownBy 12 = .ok (.aload_n 0, 1) := all_d dX8_faultsShownBy_all0 8 rfl
theorem dX8_faultsShownBy_13 : decode cX8_faultsShownBy 13 = .ok (.iload_n 3, 1) := all_d dX8_faultsShownBy_all0 9 rfl
theorem dX8_faultsShownBy_14 : decode cX8_faultsShownBy 14 = .ok (.invokevirtual 225, 3) := all_d dX8_faultsShownBy_all0 10 rfl
theorem dX8_faultsShownBy_17 : decode cX8_faultsShownBy 17 = .ok (.astore 4, 2) := all_d dX8_faultsShownBy_all0 11 rfl
theorem dX8_faultsShownBy_19 : decode cX8_faultsShownBy 19 = .ok (.aload 4, 2) := all_d dX8_faultsShownBy_all0 12 rfl
theorem dX8_faultsShownBy_21 : decode cX8_faultsShownBy 21 = .ok (.ifnull 19, 3) := all_d dX8_faultsShownBy_all0 13 rfl
theorem dX8_faultsShownBy_24 : decode cX8_faultsShownBy 24 = .ok (.aload_n 0, 1) := all_d dX8_faultsShownBy_all0 14 rfl
theorem dX8_faultsShownBy_25 : decode cX8_faultsShownBy 25 = .ok (.aload 4, 2) := all_d dX8_faultsShownBy_all0 15 rfl
theorem dX8_faultsShownBy_27 : decode cX8_faultsShownBy 27 = .ok (.iload_n 1, 1) := all_d dX8_faultsShownBy_all0 16 rfl
theorem dX8_faultsShownBy_28 : decode cX8_faultsShownBy 28 = .ok (.invokevirtual 233, 3) := all_d dX8_faultsShownBy_all0 17 rfl
theorem dX8_faultsShownBy_31 : decode cX8_faultsShownBy 31 = .ok (.ifCond .eq 9, 3) := all_d dX8_faultsShownBy_all0 18 rfl
theorem dX8_faultsShownBy_34 : decode cX8_faultsShownBy 34 = .ok (.iload_n 2, 1) := all_d dX8_faultsShownBy_all0 19 rfl
theorem dX8_faultsShownBy_35 : decode cX8_faultsShownBy 35 = .ok (.iconst 1, 1) := all_d dX8_faultsShownBy_all0 20 rfl
theorem dX8_faultsShownBy_36 : decode cX8_faultsShownBy 36 = .ok (.iload_n 3, 1) := all_d dX8_faultsShownBy_all0 21 rfl
theorem dX8_faultsShownBy_37 : decode cX8_faultsShownBy 37 = .ok (.ishl, 1) := all_d dX8_faultsShownBy_all0 22 rfl
theorem dX8_faultsShownBy_38 : decode cX8_faultsShownBy 38 = .ok (.ior, 1) := all_d dX8_faultsShownBy_all0 23 rfl
theorem dX8_faultsShownBy_39 : decode cX8_faultsShownBy 39 = .ok (.istore_n 2, 1) := all_d dX8_faultsShownBy_all0 24 rfl
theorem dX8_faultsShownBy_40 : decode cX8_faultsShownBy 40 = .ok (.iinc 3 1, 3) := all_d dX8_faultsShownBy_all0 25 rfl
theorem dX8_faultsShownBy_43 : decode cX8_faultsShownBy 43 = .ok (.goto (-39), 3) := all_d dX8_faultsShownBy_all0 26 rfl
theorem dX8_faultsShownBy_46 : decode cX8_faultsShownBy 46 = .ok (.iload_n 2, 1) := all_d dX8_faultsShownBy_all0 27 rfl
theorem dX8_faultsShownBy_47 : decode cX8_faultsShownBy 47 = .ok (.ireturn, 1) := all_d dX8_faultsShownBy_all0 28 rfl
set_option maxRecDepth 100000 in
theorem dX8_tellApart_all0 : ([(0, (.iconst 0 : Instr), 1), (1, (.istore_n 2 : Instr), 1), (2, (.iload_n 2 : Instr), 1), (3, (.aload_n 0 : Instr), 1), (4, (.getfield 63 : Instr), 3), (7, (.if_icmp .ge 44 : Instr), 3), (10, (.iload_n 2 : Instr), 1), (11, (.aload_n 0 : Instr), 1), (12, (.getfield 35 : Instr), 3), (15, (.arraylength : Instr), 1), (16, (.if_icmp .ge 35 : Instr), 3), (19, (.aload_n 0 : Instr), 1), (20, (.iload_n 2 : Instr), 1), (21, (.invokevirtual 225 : Instr), 3), (24, (.astore_n 3 : Instr), 1), (25, (.aload_n 0 : Instr), 1), (26, (.getfield 35 : Instr), 3), (29, (.iload_n 2 : Instr), 1), (30, (.aload_n 3 : Instr), 1), (31, (.ifnonnull 7 : Instr), 3), (34, (.iconst 0 : Instr), 1), (35, (.goto 9 : Instr), 3), (38, (.aload_n 0 : Instr), 1), (39, (.aload_n 3 : Instr), 1), (40, (.iload_n 1 : Instr), 1), (41, (.invokevirtual 292 : Instr), 3), (44, (.iastore : Instr), 1), (45, (.iinc 2 1 : Instr), 3), (48, (.goto (-46) : Instr), 3), (51, (.iconst 0 : Instr), 1), (52, (.istore_n 2 : Instr), 1), (53, (.iload_n 2 : Instr), 1), (54, (.aload_n 0 : Instr), 1), (55, (.getfield 63 : Instr), 3), (58, (.if_icmp .ge 81 : Instr), 3), (61, (.iload_n 2 : Instr), 1), (62, (.aload_n 0 : Instr), 1), (63, (.getfield 35 : Instr), 3), (66, (.arraylength : Instr), 1), (67, (.if_icmp .ge 72 : Instr), 3), (70, (.iload_n 2 : Instr), 1), (71, (.aload_n 0 : Instr), 1), (72, (.getfield 39 : Instr), 3), (75, (.arraylength : Instr), 1), (76, (.if_icmp .ge 63 : Instr), 3), (79, (.iload_n 2 : Instr), 1), (80, (.iconst 1 : Instr), 1), (81, (.iadd : Instr), 1), (82, (.istore_n 3 : Instr), 1), (83, (.iload_n 3 : Instr), 1), (84, (.aload_n 0 : Instr), 1), (85, (.getfield 63 : Instr), 3), (88, (.if_icmp .ge 45 : Instr), 3), (91, (.iload_n 3 : Instr), 1), (92, (.aload_n 0 : Instr), 1), (93, (.getfield 35 : Instr), 3), (96, (.arraylength : Instr), 1), (97, (.if_icmp .ge 36 : Instr), 3), (100, (.aload_n 0 : Instr), 1), (101, (.getfield 35 : Instr), 3), (104, (.iload_n 2 : Instr), 1), (105, (.iaload : Instr), 1), (106, (.aload_n 0 : Instr), 1), (107, (.getfield 35 : Instr), 3), (110, (.iload_n 3 : Instr), 1), (111, (.iaload : Instr), 1), (112, (.if_icmp .eq 15 : Instr), 3), (115, (.aload_n 0 : Instr), 1), (116, (.getfield 39 : Instr), 3), (119, (.iload_n 2 : Instr), 1), (120, (.dup2 : Instr), 1), (121, (.iaload : Instr), 1), (122, (.iconst 1 : Instr), 1), (123, (.iload_n 3 : Instr), 1), (124, (.ishl : Instr), 1), (125, (.ior : Instr), 1), (126, (.iastore : Instr), 1), (127, (.iinc 3 1 : Instr), 3), (130, (.goto (-47) : Instr), 3), (133, (.iinc 2 1 : Instr), 3)] : List (Nat × Instr × Nat)).all (fun q => decide (decode cX8_tellApart q.1 = .ok (q.2.1, q.2.2))) = true := by decide +kernel
theorem dX8_tellApart_0 : decode cX8_tellApart 0 = .ok (.iconst 0, 1) := all_d dX8_tellApart_all0 0 rfl
theorem dX8_tellApart_1 : decode cX8_tellApart 1 = .ok (.istore_n 2, 1) := all_d dX8_tellApart_all0 1 rfl
theorem dX8_tellApart_2 : decode cX8_tellApart 2 = .ok (.iload_n 2, 1) := all_d dX8_tellApart_all0 2 rfl
theorem dX8_tellApart_3 : decode cX8_tellApart 3 = .ok (.aload_n 0, 1) := all_d dX8_tellApart_all0 3 rfl
theorem dX8_tellApart_4 : decode cX8_tellApart 4 = .ok (.getfield 63, 3) := all_d dX8_tellApart_all0 4 rfl
theorem dX8_tellApart_7 : decode cX8_tellApart 7 = .ok (.if_icmp .ge 44, 3) := all_d dX8_tellApart_all0 5 rfl
theorem dX8_tellApart_10 : decode cX8_tellApart 10 = .ok (.iload_n 2, 1) := all_d dX8_tellApart_all0 6 rfl
theorem dX8_tellApart_11 : decode cX8_tellApart 11 = .ok (.aload_n 0, 1) := all_d dX8_tellApart_all0 7 rfl
theorem dX8_tellApart_12 : decode cX8_tellApart 12 = .ok (.getfield 35, 3) := all_d dX8_tellApart_all0 8 rfl
theorem dX8_tellApart_15 : decode cX8_tellApart 15 = .ok (.arraylength, 1) := all_d dX8_tellApart_all0 9 rfl
theorem dX8_tellApart_16 : decode cX8_tellApart 16 = .ok (.if_icmp .ge 35, 3) := all_d dX8_tellApart_all0 10 rfl
theorem dX8_tellApart_19 : decode cX8_tellApart 19 = .ok (.aload_n 0, 1) := all_d dX8_tellApart_all0 11 rfl
theorem dX8_tellApart_20 : decode cX8_tellApart 20 = .ok (.iload_n 2, 1) := all_d dX8_tellApart_all0 12 rfl
theorem dX8_tellApart_21 : decode cX8_tellApart 21 = .ok (.invokevirtual 225, 3) := all_d dX8_tellApart_all0 13 rfl
theorem dX8_tellApart_24 : decode cX8_tellApart 24 = .ok (.astore_n 3, 1) := all_d dX8_tellApart_all0 14 rfl
theorem dX8_tellApart_25 : decode cX8_tellApart 25 = .ok (.aload_n 0, 1) := all_d dX8_tellApart_all0 15 rfl
theorem dX8_tellApart_26 : decode cX8_tellApart 26 = .ok (.getfield 35, 3) := all_d dX8_tellApart_all0 16 rfl
theorem dX8_tellApart_29 : decode cX8_tellApart 29 = .ok (.iload_n 2, 1) := all_d dX8_tellApart_all0 17 rfl
theorem dX8_tellApart_30 : decode cX8_tellApart 30 = .ok (.aload_n 3, 1) := all_d dX8_tellApart_all0 18 rfl
theorem dX8_tellApart_31 : decode cX8_tellApart 31 = .ok (.ifnonnull 7, 3) := all_d dX8_tellApart_all0 19 rfl
theorem dX8_tellApart_34 : decode cX8_tellApart 34 = .ok (.iconst 0, 1) := all_d dX8_tellApart_all0 20 rfl
theorem dX8_tellApart_35 : decode cX8_tellApart 35 = .ok (.goto 9, 3) := all_d dX8_tellApart_all0 21 rfl
theorem dX8_tellApart_38 : decode cX8_tellApart 38 = .ok (.aload_n 0, 1) := all_d dX8_tellApart_all0 22 rfl
theorem dX8_tellApart_39 : decode cX8_tellApart 39 = .ok (.aload_n 3, 1) := all_d dX8_tellApart_all0 23 rfl
theorem dX8_tellApart_40 : decode cX8_tellApart 40 = .ok (.iload_n 1, 1) := all_d dX8_tellApart_all0 24 rfl
theorem dX8_tellApart_41 : decode cX8_tellApart 41 = .ok (.invokevirtual 292, 3) := all_d dX8_tellApart_all0 25 rfl
theorem dX8_tellApart_44 : decode cX8_tellApart 44 = .ok (.iastore, 1) := all_d dX8_tellApart_all0 26 rfl
theorem dX8_tellApart_45 : decode cX8_tellApart 45 = .ok (.iinc 2 1, 3) := all_d dX8_tellApart_all0 27 rfl
theorem dX8_tellApart_48 : decode cX8_tellApart 48 = .ok (.goto (-46), 3) := all_d dX8_tellApart_all0 28 rfl
theorem dX8_tellApart_51 : decode cX8_tellApart 51 = .ok (.iconst 0, 1) := all_d dX8_tellApart_all0 29 rfl
theorem dX8_tellApart_52 : decode cX8_tellApart 52 = .ok (.istore_n 2, 1) := all_d dX8_tellApart_all0 30 rfl
theorem dX8_tellApart_53 : decode cX8_tellApart 53 = .ok (.iload_n 2, 1) := all_d dX8_tellApart_all0 31 rfl
theorem dX8_tellApart_54 : decode cX8_tellApart 54 = .ok (.aload_n 0, 1) := all_d dX8_tellApart_all0 32 rfl
theorem dX8_tellApart_55 : decode cX8_tellApart 55 = .ok (.getfield 63, 3) := all_d dX8_tellApart_all0 33 rfl
theorem dX8_tellApart_58 : decode cX8_tellApart 58 = .ok (.if_icmp .ge 81, 3) := all_d dX8_tellApart_all0 34 rfl
theorem dX8_tellApart_61 : decode cX8_tellApart 61 = .ok (.iload_n 2, 1) := all_d dX8_tellApart_all0 35 rfl
theorem dX8_tellApart_62 : decode cX8_tellApart 62 = .ok (.aload_n 0, 1) := all_d dX8_tellApart_all0 36 rfl
theorem dX8_tellApart_63 : decode cX8_tellApart 63 = .ok (.getfield 35, 3) := all_d dX8_tellApart_all0 37 rfl
theorem dX8_tellApart_66 : decode cX8_tellApart 66 = .ok (.arraylength, 1) := all_d dX8_tellApart_all0 38 rfl
theorem dX8_tellApart_67 : decode cX8_tellApart 67 = .ok (.if_icmp .ge 72, 3) := all_d dX8_tellApart_all0 39 rfl
theorem dX8_tellApart_70 : decode cX8_tellApart 70 = .ok (.iload_n 2, 1) := all_d dX8_tellApart_all0 40 rfl
theorem dX8_tellApart_71 : decode cX8_tellApart 71 = .ok (.aload_n 0, 1) := all_d dX8_tellApart_all0 41 rfl
theorem dX8_tellApart_72 : decode cX8_tellApart 72 = .ok (.getfield 39, 3) := all_d dX8_tellApart_all0 42 rfl
theorem dX8_tellApart_75 : decode cX8_tellApart 75 = .ok (.arraylength, 1) := all_d dX8_tellApart_all0 43 rfl
theorem dX8_tellApart_76 : decode cX8_tellApart 76 = .ok (.if_icmp .ge 63, 3) := all_d dX8_tellApart_all0 44 rfl
theorem dX8_tellApart_79 : decode cX8_tellApart 79 = .ok (.iload_n 2, 1) := all_d dX8_tellApart_all0 45 rfl
theorem dX8_tellApart_80 : decode cX8_tellApart 80 = .ok (.iconst 1, 1) := all_d dX8_tellApart_all0 46 rfl
theorem dX8_tellApart_81 : decode cX8_tellApart 81 = .ok (.iadd, 1) := all_d dX8_tellApart_all0 47 rfl
theorem dX8_tellApart_82 : decode cX8_tellApart 82 = .ok (.istore_n 3, 1) := all_d dX8_tellApart_all0 48 rfl
theorem dX8_tellApart_83 : decode cX8_tellApart 83 = .ok (.iload_n 3, 1) := all_d dX8_tellApart_all0 49 rfl
theorem dX8_tellApart_84 : decode cX8_tellApart 84 = .ok (.aload_n 0, 1) := all_d dX8_tellApart_all0 50 rfl
theorem dX8_tellApart_85 : decode cX8_tellApart 85 = .ok (.getfield 63, 3) := all_d dX8_tellApart_all0 51 rfl
theorem dX8_tellApart_88 : decode cX8_tellApart 88 = .ok (.if_icmp .ge 45, 3) := all_d dX8_tellApart_all0 52 rfl
theorem dX8_tellApart_91 : decode cX8_tellApart 91 = .ok (.iload_n 3, 1) := all_d dX8_tellApart_all0 53 rfl
theorem dX8_tellApart_92 : decode cX8_tellApart 92 = .ok (.aload_n 0, 1) := all_d dX8_tellApart_all0 54 rfl
theorem dX8_tellApart_93 : decode cX8_tellApart 93 = .ok (.getfield 35, 3) := all_d dX8_tellApart_all0 55 rfl
theorem dX8_tellApart_96 : decode cX8_tellApart 96 = .ok (.arraylength, 1) := all_d dX8_tellApart_all0 56 rfl
theorem dX8_tellApart_97 : decode cX8_tellApart 97 = .ok (.if_icmp .ge 36, 3) := all_d dX8_tellApart_all0 57 rfl
theorem dX8_tellApart_100 : decode cX8_tellApart 100 = .ok (.aload_n 0, 1) := all_d dX8_tellApart_all0 58 rfl
theorem dX8_tellApart_101 : decode cX8_tellApart 101 = .ok (.getfield 35, 3) := all_d dX8_tellApart_all0 59 rfl
theorem dX8_tellApart_104 : decode cX8_tellApart 104 = .ok (.iload_n 2, 1) := all_d dX8_tellApart_all0 60 rfl
theorem dX8_tellApart_105 : decode cX8_tellApart 105 = .ok (.iaload, 1) := all_d dX8_tellApart_all0 61 rfl
theorem dX8_tellApart_106 : decode cX8_tellApart 106 = .ok (.aload_n 0, 1) := all_d dX8_tellApart_all0 62 rfl
theorem dX8_tellApart_107 : decode cX8_tellApart 107 = .ok (.getfield 35, 3) := all_d dX8_tellApart_all0 63 rfl
theorem dX8_tellApart_110 : decode cX8_tellApart 110 = .ok (.iload_n 3, 1) := all_d dX8_tellApart_all0 64 rfl
theorem dX8_tellApart_111 : decode cX8_tellApart 111 = .ok (.iaload, 1) := all_d dX8_tellApart_all0 65 rfl
theorem dX8_tellApart_112 : decode cX8_tellApart 112 = .ok (.if_icmp .eq 15, 3) := all_d dX8_tellApart_all0 66 rfl
theorem dX8_tellApart_115 : decode cX8_tellApart 115 = .ok (.aload_n 0, 1) := all_d dX8_tellApart_all0 67 rfl
theorem dX8_tellApart_116 : decode cX8_tellApart 116 = .ok (.getfield 39, 3) := all_d dX8_tellApart_all0 68 rfl
theorem dX8_tellApart_119 : decode cX8_tellApart 119 = .ok (.iload_n 2, 1) := all_d dX8_tellApart_all0 69 rfl
theorem dX8_tellApart_120 : decode cX8_tellApart 120 = .ok (.dup2, 1) := all_d dX8_tellApart_all0 70 rfl
theorem dX8_tellApart_121 : decode cX8_tellApart 121 = .ok (.iaload, 1) := all_d dX8_tellApart_all0 71 rfl
theorem dX8_tellApart_122 : decode cX8_tellApart 122 = .ok (.iconst 1, 1) := all_d dX8_tellApart_all0 72 rfl
theorem dX8_tellApart_123 : decode cX8_tellApart 123 = .ok (.iload_n 3, 1) := all_d dX8_tellApart_all0 73 rfl
theorem dX8_tellApart_124 : decode cX8_tellApart 124 = .ok (.ishl, 1) := all_d dX8_tellApart_all0 74 rfl
theorem dX8_tellApart_125 : decode cX8_tellApart 125 = .ok (.ior, 1) := all_d dX8_tellApart_all0 75 rfl
theorem dX8_tellApart_126 : decode cX8_tellApart 126 = .ok (.iastore, 1) := all_d dX8_tellApart_all0 76 rfl
theorem dX8_tellApart_127 : decode cX8_tellApart 127 = .ok (.iinc 3 1, 3) := all_d dX8_tellApart_all0 77 rfl
theorem dX8_tellApart_130 : decode cX8_tellApart 130 = .ok (.goto (-47), 3) := all_d dX8_tellApart_all0 78 rfl
theorem dX8_tellApart_133 : decode cX8_tellApart 133 = .ok (.iinc 2 1, 3) := all_d dX8_tellApart_all0 79 rfl
set_option maxRecDepth 100000 in
theorem dX8_tellApart_all1 : ([(136, (.goto (-83) : Instr), 3), (139, (.return_ : Instr), 1)] : List (Nat × Instr × Nat)).all (fun q => decide (decode cX8_tellApart q.1 = .ok (q.2.1, q.2.2))) = true := by decide +kernel
theorem dX8_tellApart_136 : decode cX8_tellApart 136 = .ok (.goto (-83), 3) := all_d dX8_tellApart_all1 0 rfl
theorem dX8_tellApart_139 : decode cX8_tellApart 139 = .ok (.return_, 1) := all_d dX8_tellApart_all1 1 rfl
set_option maxRecDepth 100000 in
theorem dX8_areAlike_all0 : ([(0, (.aload_n 0 : Instr), 1), (1, (.iload_n 1 : Instr), 1), (2, (.invokevirtual 225 : Instr), 3), (5, (.astore_n 3 : Instr), 1), (6, (.aload_n 0 : Instr), 1), (7, (.iload_n 2 : Instr), 1), (8, (.invokevirtual 225 : Instr), 3), (11, (.astore 4 : Instr), 2), (13, (.aload_n 3 : Instr), 1), (14, (.ifnull 46 : Instr), 3), (17, (.aload 4 : Instr), 2), (19, (.ifnull 41 : Instr), 3), (22, (.aload_n 3 : Instr), 1), (23, (.getfield 289 : Instr), 3), (26, (.aload 4 : Instr), 2), (28, (.getfield 289 : Instr), 3), (31, (.if_icmp .ne 29 : Instr), 3), (34, (.iload_n 1 : Instr), 1), (35, (.aload_n 0 : Instr), 1), (36, (.getfield 39 : Instr), 3), (39, (.arraylength : Instr), 1), (40, (.if_icmp .ge 20 : Instr), 3), (43, (.aload_n 0 : Instr), 1), (44, (.getfield 39 : Instr), 3), (47, (.iload_n 1 : Instr), 1), (48, (.iaload : Instr), 1), (49, (.iload_n 2 : Instr), 1), (50, (.ishr : Instr), 1), (51, (.iconst 1 : Instr), 1), (52, (.iand : Instr), 1), (53, (.ifCond .ne 7 : Instr), 3), (56, (.iconst 1 : Instr), 1), (57, (.goto 4 : Instr), 3), (60, (.iconst 0 : Instr), 1), (61, (.ireturn : Instr), 1)] : List (Nat × Instr × Nat)).all (fun q => decide (decode cX8_areAlike q.1 = .ok (q.2.1, q.2.2))) = true := by decide +kernel
theorem dX8_areAlike_0 : decode cX8_areAlike 0 = .ok (.aload_n 0, 1) := all_d dX8_areAlike_all0 0 rfl
theorem dX8_areAlike_1 : decode cX8_areAlike 1 = .ok (.iload_n 1, 1) := all_d dX8_areAlike_all0 1 rfl
theorem dX8_areAlike_2 : decode cX8_areAlike 2 = .ok (.invokevirtual 225, 3) := all_d dX8_areAlike_all0 2 rfl
theorem dX8_areAlike_5 : decode cX8_areAlike 5 = .ok (.astore_n 3, 1) := all_d dX8_areAlike_all0 3 rfl
theorem dX8_areAlike_6 : decode cX8_areAlike 6 = .ok (.aload_n 0, 1) := all_d dX8_areAlike_all0 4 rfl
theorem dX8_areAlike_7 : decode cX8_areAlike 7 = .ok (.iload_n 2, 1) := all_d dX8_areAlike_all0 5 rfl
theorem dX8_areAlike_8 : decode cX8_areAlike 8 = .ok (.invokevirtual 225, 3) := all_d dX8_areAlike_all0 6 rfl
theorem dX8_areAlike_11 : decode cX8_areAlike 11 = .ok (.astore 4, 2) := all_d dX8_areAlike_all0 7 rfl
theorem dX8_areAlike_13 : decode cX8_areAlike 13 = .ok (.aload_n 3, 1) := all_d dX8_areAlike_all0 8 rfl
theorem dX8_areAlike_14 : decode cX8_areAlike 14 = .ok (.ifnull 46, 3) := all_d dX8_areAlike_all0 9 rfl
theorem dX8_areAlike_17 : decode cX8_areAlike 17 = .ok (.aload 4, 2) := all_d dX8_areAlike_all0 10 rfl
theorem dX8_areAlike_19 : decode cX8_areAlike 19 = .ok (.ifnull 41, 3) := all_d dX8_areAlike_all0 11 rfl
theorem dX8_areAlike_22 : decode cX8_areAlike 22 = .ok (.aload_n 3, 1) := all_d dX8_areAlike_all0 12 rfl
theorem dX8_areAlike_23 : decode cX8_areAlike 23 = .ok (.getfield 289, 3) := all_d dX8_areAlike_all0 13 rfl
theorem dX8_areAlike_26 : decode cX8_areAlike 26 = .ok (.aload 4, 2) := all_d dX8_areAlike_all0 14 rfl
theorem dX8_areAlike_28 : decode cX8_areAlike 28 = .ok (.getfield 289, 3) := all_d dX8_areAlike_all0 15 rfl
theorem dX8_areAlike_31 : decode cX8_areAlike 31 = .ok (.if_icmp .ne 29, 3) := all_d dX8_areAlike_all0 16 rfl
theorem dX8_areAlike_34 : decode cX8_areAlike 34 = .ok (.iload_n 1, 1) := all_d dX8_areAlike_all0 17 rfl
theorem dX8_areAlike_35 : decode cX8_areAlike 35 = .ok (.aload_n 0, 1) := all_d dX8_areAlike_all0 18 rfl
theorem dX8_areAlike_36 : decode cX8_areAlike 36 = .ok (.getfield 39, 3) := all_d dX8_areAlike_all0 19 rfl
theorem dX8_areAlike_39 : decode cX8_areAlike 39 = .ok (.arraylength, 1) := all_d dX8_areAlike_all0 20 rfl
theorem dX8_areAlike_40 : decode cX8_areAlike 40 = .ok (.if_icmp .ge 20, 3) := all_d dX8_areAlike_all0 21 rfl
theorem dX8_areAlike_43 : decode cX8_areAlike 43 = .ok (.aload_n 0, 1) := all_d dX8_areAlike_all0 22 rfl
theorem dX8_areAlike_44 : decode cX8_areAlike 44 = .ok (.getfield 39, 3) := all_d dX8_areAlike_all0 23 rfl
theorem dX8_areAlike_47 : decode cX8_areAlike 47 = .ok (.iload_n 1, 1) := all_d dX8_areAlike_all0 24 rfl
theorem dX8_areAlike_48 : decode cX8_areAlike 48 = .ok (.iaload, 1) := all_d dX8_areAlike_all0 25 rfl
theorem dX8_areAlike_49 : decode cX8_areAlike 49 = .ok (.iload_n 2, 1) := all_d dX8_areAlike_all0 26 rfl
theorem dX8_areAlike_50 : decode cX8_areAlike 50 = .ok (.ishr, 1) := all_d dX8_areAlike_all0 27 rfl
theorem dX8_areAlike_51 : decode cX8_areAlike 51 = .ok (.iconst 1, 1) := all_d dX8_areAlike_all0 28 rfl
theorem dX8_areAlike_52 : decode cX8_areAlike 52 = .ok (.iand, 1) := all_d dX8_areAlike_all0 29 rfl
theorem dX8_areAlike_53 : decode cX8_areAlike 53 = .ok (.ifCond .ne 7, 3) := all_d dX8_areAlike_all0 30 rfl
theorem dX8_areAlike_56 : decode cX8_areAlike 56 = .ok (.iconst 1, 1) := all_d dX8_areAlike_all0 31 rfl
theorem dX8_areAlike_57 : decode cX8_areAlike 57 = .ok (.goto 4, 3) := all_d dX8_areAlike_all0 32 rfl
theorem dX8_areAlike_60 : decode cX8_areAlike 60 = .ok (.iconst 0, 1) := all_d dX8_areAlike_all0 33 rfl
theorem dX8_areAlike_61 : decode cX8_areAlike 61 = .ok (.ireturn, 1) := all_d dX8_areAlike_all0 34 rfl
set_option maxRecDepth 100000 in
theorem dX8_newAct_all0 : ([(0, (.aload_n 0 : Instr), 1), (1, (.iconst (-1) : Instr), 1), (2, (.putfield 69 : Instr), 3), (5, (.aload_n 0 : Instr), 1), (6, (.getfield 52 : Instr), 3), (9, (.iload_n 1 : Instr), 1), (10, (.iload_n 2 : Instr), 1), (11, (.iload_n 3 : Instr), 1), (12, (.invokevirtual 300 : Instr), 3), (15, (.areturn : Instr), 1)] : List (Nat × Instr × Nat)).all (fun q => decide (decode cX8_newAct q.1 = .ok (q.2.1, q.2.2))) = true := by decide +kernel
theorem dX8_newAct_0 : decode cX8_newAct 0 = .ok (.aload_n 0, 1) := all_d dX8_newAct_all0 0 rfl
theorem dX8_newAct_1 : decode cX8_newAct 1 = .ok (.iconst (-1), 1) := all_d dX8_newAct_all0 1 rfl
theorem dX8_newAct_2 : decode cX8_newAct 2 = .ok (.putfield 69, 3) := all_d dX8_newAct_all0 2 rfl
theorem dX8_newAct_5 : decode cX8_newAct 5 = .ok (.aload_n 0, 1) := all_d dX8_newAct_all0 3 rfl
theorem dX8_newAct_6 : decode cX8_newAct 6 = .ok (.getfield 52, 3) := all_d dX8_newAct_all0 4 rfl
theorem dX8_newAct_9 : decode cX8_newAct 9 = .ok (.iload_n 1, 1) := all_d dX8_newAct_all0 5 rfl
theorem dX8_newAct_10 : decode cX8_newAct 10 = .ok (.iload_n 2, 1) := all_d dX8_newAct_all0 6 rfl
theorem dX8_newAct_11 : decode cX8_newAct 11 = .ok (.iload_n 3, 1) := all_d dX8_newAct_all0 7 rfl
theorem dX8_newAct_12 : decode cX8_newAct 12 = .ok (.invokevirtual 300, 3) := all_d dX8_newAct_all0 8 rfl
theorem dX8_newAct_15 : decode cX8_newAct 15 = .ok (.areturn, 1) := all_d dX8_newAct_all0 9 rfl
set_option maxRecDepth 100000 in
theorem dX8_takeBack_all0 : ([(0, (.aload_n 0 : Instr), 1), (1, (.aload_n 1 : Instr), 1), (2, (.getfield 303 : Instr), 3), (5, (.invokevirtual 83 : Instr), 3), (8, (.astore_n 2 : Instr), 1), (9, (.aload_n 0 : Instr), 1), (10, (.aload_n 1 : Instr), 1), (11, (.getfield 303 : Instr), 3), (14, (.aload_n 1 : Instr), 1), (15, (.getfield 304 : Instr), 3), (18, (.invokevirtual 109 : Instr), 3), (21, (.astore_n 3 : Instr), 1), (22, (.aload_n 1 : Instr), 1), (23, (.getfield 305 : Instr), 3), (26, (.ifCond .ne 14 : Instr), 3), (29, (.aload_n 0 : Instr), 1), (30, (.aload_n 1 : Instr), 1), (31, (.getfield 78 : Instr), 3), (34, (.putfield 56 : Instr), 3), (37, (.goto 124 : Instr), 3), (40, (.aload_n 1 : Instr), 1), (41, (.getfield 305 : Instr), 3), (44, (.iconst 1 : Instr), 1), (45, (.if_icmp .ne 23 : Instr), 3), (48, (.aload_n 0 : Instr), 1), (49, (.getfield 60 : Instr), 3), (52, (.ifCond .le 16 : Instr), 3), (55, (.aload_n 0 : Instr), 1), (56, (.dup : Instr), 1), (57, (.getfield 60 : Instr), 3), (60, (.iconst 1 : Instr), 1), (61, (.isub : Instr), 1), (62, (.putfield 60 : Instr), 3), (65, (.goto 96 : Instr), 3), (68, (.aload_n 1 : Instr), 1), (69, (.getfield 305 : Instr), 3), (72, (.iconst 2 : Instr), 1), (73, (.if_icmp .ne 22 : Instr), 3), (76, (.aload_n 2 : Instr), 1), (77, (.ifnull 18 : Instr), 3), (80, (.aload_n 2 : Instr), 1), (81, (.invokevirtual 308 : Instr), 3), (84, (.aload_n 2 : Instr), 1), (85, (.aload_n 1 : Instr), 1), (86, (.getfield 98 : Instr), 3), (89, (.invokevirtual 311 : Instr), 3), (92, (.goto 69 : Instr), 3), (95, (.aload_n 1 : Instr), 1), (96, (.getfield 305 : Instr), 3), (99, (.iconst 3 : Instr), 1), (100, (.if_icmp .ne 18 : Instr), 3), (103, (.aload_n 3 : Instr), 1), (104, (.ifnull 14 : Instr), 3), (107, (.aload_n 3 : Instr), 1), (108, (.aload_n 1 : Instr), 1), (109, (.getfield 78 : Instr), 3), (112, (.putfield 117 : Instr), 3), (115, (.goto 46 : Instr), 3), (118, (.aload_n 1 : Instr), 1), (119, (.getfield 305 : Instr), 3), (122, (.iconst 4 : Instr), 1), (123, (.if_icmp .ne 18 : Instr), 3), (126, (.aload_n 3 : Instr), 1), (127, (.ifnull 14 : Instr), 3), (130, (.aload_n 3 : Instr), 1), (131, (.aload_n 1 : Instr), 1), (132, (.getfield 78 : Instr), 3), (135, (.putfield 125 : Instr), 3), (138, (.goto 23 : Instr), 3), (141, (.aload_n 1 : Instr), 1), (142, (.getfield 305 : Instr), 3), (145, (.iconst 5 : Instr), 1), (146, (.if_icmp .ne 15 : Instr), 3), (149, (.aload_n 2 : Instr), 1), (150, (.ifnull 11 : Instr), 3), (153, (.aload_n 2 : Instr), 1), (154, (.aload_n 1 : Instr), 1), (155, (.getfield 98 : Instr), 3), (158, (.invokevirtual 311 : Instr), 3), (161, (.return_ : Instr), 1)] : List (Nat × Instr × Nat)).all (fun q => decide (decode cX8_takeBack q.1 = .ok (q.2.1, q.2.2))) = true := by decide +kernel
theorem dX8_takeBack_0 : decode cX8_takeBack 0 = .ok (.aload_n 0, 1) := all_d dX8_takeBack_all0 0 rfl
theorem dX8_takeBack_1 : decode cX8_takeBack 1 = .ok (.aload_n 1, 1) := all_d dX8_takeBack_all0 1 rfl
theorem dX8_takeBack_2 : decode cX8_takeBack 2 = .ok (.getfield 303, 3) := all_d dX8_takeBack_all0 2 rfl
theorem dX8_takeBack_5 : decode cX8_takeBack 5 = .ok (.invokevirtual 83, 3) := all_d dX8_takeBack_all0 3 rfl
theorem dX8_takeBack_8 : decode cX8_takeBack 8 = .ok (.astore_n 2, 1) := all_d dX8_takeBack_all0 4 rfl
theorem dX8_takeBack_9 : decode cX8_takeBack 9 = .ok (.aload_n 0, 1) := all_d dX8_takeBack_all0 5 rfl
theorem dX8_takeBack_10 : decode cX8_takeBack 10 = .ok (.aload_n 1, 1) := all_d dX8_takeBack_all0 6 rfl
theorem dX8_takeBack_11 : decode cX8_takeBack 11 = .ok (.getfield 303, 3) := all_d dX8_takeBack_all0 7 rfl
theorem dX8_takeBack_14 : decode cX8_takeBack 14 = .ok (.aload_n 1, 1) := all_d dX8_takeBack_all0 8 rfl
theorem dX8_takeBack_15 : decode cX8_takeBack 15 = .ok (.getfield 304, 3) := all_d dX8_takeBack_all0 9 rfl
theorem dX8_takeBack_18 : decode cX8_takeBack 18 = .ok (.invokevirtual 109, 3) := all_d dX8_takeBack_all0 10 rfl
theorem dX8_takeBack_21 : decode cX8_takeBack 21 = .ok (.astore_n 3, 1) := all_d dX8_takeBack_all0 11 rfl
theorem dX8_takeBack_22 : decode cX8_takeBack 22 = .ok (.aload_n 1, 1) := all_d dX8_takeBack_all0 12 rfl
theorem dX8_takeBack_23 : decode cX8_takeBack 23 = .ok (.getfield 305, 3) := all_d dX8_takeBack_all0 13 rfl
theorem dX8_takeBack_26 : decode cX8_takeBack 26 = .ok (.ifCond .ne 14, 3) := all_d dX8_takeBack_all0 14 rfl
theorem dX8_takeBack_29 : decode cX8_takeBack 29 = .ok (.aload_n 0, 1) := all_d dX8_takeBack_all0 15 rfl
theorem dX8_takeBack_30 : decode cX8_takeBack 30 = .ok (.aload_n 1, 1) := all_d dX8_takeBack_all0 16 rfl
theorem dX8_takeBack_31 : decode cX8_takeBack 31 = .ok (.getfield 78, 3) := all_d dX8_takeBack_all0 17 rfl
theorem dX8_takeBack_34 : decode cX8_takeBack 34 = .ok (.putfield 56, 3) := all_d dX8_takeBack_all0 18 rfl
theorem dX8_takeBack_37 : decode cX8_takeBack 37 = .ok (.goto 124, 3) := all_d dX8_takeBack_all0 19 rfl
theorem dX8_takeBack_40 : decode cX8_takeBack 40 = .ok (.aload_n 1, 1) := all_d dX8_takeBack_all0 20 rfl
theorem dX8_takeBack_41 : decode cX8_takeBack 41 = .ok (.getfield 305, 3) := all_d dX8_takeBack_all0 21 rfl
theorem dX8_takeBack_44 : decode cX8_takeBack 44 = .ok (.iconst 1, 1) := all_d dX8_takeBack_all0 22 rfl
theorem dX8_takeBack_45 : decode cX8_takeBack 45 = .ok (.if_icmp .ne 23, 3) := all_d dX8_takeBack_all0 23 rfl
theorem dX8_takeBack_48 : decode cX8_takeBack 48 = .ok (.aload_n 0, 1) := all_d dX8_takeBack_all0 24 rfl
theorem dX8_takeBack_49 : decode cX8_takeBack 49 = .ok (.getfield 60, 3) := all_d dX8_takeBack_all0 25 rfl
theorem dX8_takeBack_52 : decode cX8_takeBack 52 = .ok (.ifCond .le 16, 3) := all_d dX8_takeBack_all0 26 rfl
theorem dX8_takeBack_55 : decode cX8_takeBack 55 = .ok (.aload_n 0, 1) := all_d dX8_takeBack_all0 27 rfl
theorem dX8_takeBack_56 : decode cX8_takeBack 56 = .ok (.dup, 1) := all_d dX8_takeBack_all0 28 rfl
theorem dX8_takeBack_57 : decode cX8_takeBack 57 = .ok (.getfield 60, 3) := all_d dX8_takeBack_all0 29 rfl
theorem dX8_takeBack_60 : decode cX8_takeBack 60 = .ok (.iconst 1, 1) := all_d dX8_takeBack_all0 30 rfl
theorem dX8_takeBack_61 : decode cX8_takeBack 61 = .ok (.isub, 1) := all_d dX8_takeBack_all0 31 rfl
theorem dX8_takeBack_62 : decode cX8_takeBack 62 = .ok (.putfield 60, 3) := all_d dX8_takeBack_all0 32 rfl
theorem dX8_takeBack_65 : decode cX8_takeBack 65 = .ok (.goto 96, 3) := all_d dX8_takeBack_all0 33 rfl
theorem dX8_takeBack_68 : decode cX8_takeBack 68 = .ok (.aload_n 1, 1) := all_d dX8_takeBack_all0 34 rfl
theorem dX8_takeBack_69 : decode cX8_takeBack 69 = .ok (.getfield 305, 3) := all_d dX8_takeBack_all0 35 rfl
theorem dX8_takeBack_72 : decode cX8_takeBack 72 = .ok (.iconst 2, 1) := all_d dX8_takeBack_all0 36 rfl
theorem dX8_takeBack_73 : decode cX8_takeBack 73 = .ok (.if_icmp .ne 22, 3) := all_d dX8_takeBack_all0 37 rfl
theorem dX8_takeBack_76 : decode cX8_takeBack 76 = .ok (.aload_n 2, 1) := all_d dX8_takeBack_all0 38 rfl
theorem dX8_takeBack_77 : decode cX8_takeBack 77 = .ok (.ifnull 18, 3) := all_d dX8_takeBack_all0 39 rfl
theorem dX8_takeBack_80 : decode cX8_takeBack 80 = .ok (.aload_n 2, 1) := all_d dX8_takeBack_all0 40 rfl
theorem dX8_takeBack_81 : decode cX8_takeBack 81 = .ok (.invokevirtual 308, 3) := all_d dX8_takeBack_all0 41 rfl
theorem dX8_takeBack_84 : decode cX8_takeBack 84 = .ok (.aload_n 2, 1) := all_d dX8_takeBack_all0 42 rfl
theorem dX8_takeBack_85 : decode cX8_takeBack 85 = .ok (.aload_n 1, 1) := all_d dX8_takeBack_all0 43 rfl
theorem dX8_takeBack_86 : decode cX8_takeBack 86 = .ok (.getfield 98, 3) := all_d dX8_takeBack_all0 44 rfl
theorem dX8_takeBack_89 : decode cX8_takeBack 89 = .ok (.invokevirtual 311, 3) := all_d dX8_takeBack_all0 45 rfl
theorem dX8_takeBack_92 : decode cX8_takeBack 92 = .ok (.goto 69, 3) := all_d dX8_takeBack_all0 46 rfl
theorem dX8_takeBack_95 : decode cX8_takeBack 95 = .ok (.aload_n 1, 1) := all_d dX8_takeBack_all0 47 rfl
theorem dX8_takeBack_96 : decode cX8_takeBack 96 = .ok (.getfield 305, 3) := all_d dX8_takeBack_all0 48 rfl
theorem dX8_takeBack_99 : decode cX8_takeBack 99 = .ok (.iconst 3, 1) := all_d dX8_takeBack_all0 49 rfl
theorem dX8_takeBack_100 : decode cX8_takeBack 100 = .ok (.if_icmp .ne 18, 3) := all_d dX8_takeBack_all0 50 rfl
theorem dX8_takeBack_103 : decode cX8_takeBack 103 = .ok (.aload_n 3, 1) := all_d dX8_takeBack_all0 51 rfl
theorem dX8_takeBack_104 : decode cX8_takeBack 104 = .ok (.ifnull 14, 3) := all_d dX8_takeBack_all0 52 rfl
theorem dX8_takeBack_107 : decode cX8_takeBack 107 = .ok (.aload_n 3, 1) := all_d dX8_takeBack_all0 53 rfl
theorem dX8_takeBack_108 : decode cX8_takeBack 108 = .ok (.aload_n 1, 1) := all_d dX8_takeBack_all0 54 rfl
theorem dX8_takeBack_109 : decode cX8_takeBack 109 = .ok (.getfield 78, 3) := all_d dX8_takeBack_all0 55 rfl
theorem dX8_takeBack_112 : decode cX8_takeBack 112 = .ok (.putfield 117, 3) := all_d dX8_takeBack_all0 56 rfl
theorem dX8_takeBack_115 : decode cX8_takeBack 115 = .ok (.goto 46, 3) := all_d dX8_takeBack_all0 57 rfl
theorem dX8_takeBack_118 : decode cX8_takeBack 118 = .ok (.aload_n 1, 1) := all_d dX8_takeBack_all0 58 rfl
theorem dX8_takeBack_119 : decode cX8_takeBack 119 = .ok (.getfield 305, 3) := all_d dX8_takeBack_all0 59 rfl
theorem dX8_takeBack_122 : decode cX8_takeBack 122 = .ok (.iconst 4, 1) := all_d dX8_takeBack_all0 60 rfl
theorem dX8_takeBack_123 : decode cX8_takeBack 123 = .ok (.if_icmp .ne 18, 3) := all_d dX8_takeBack_all0 61 rfl
theorem dX8_takeBack_126 : decode cX8_takeBack 126 = .ok (.aload_n 3, 1) := all_d dX8_takeBack_all0 62 rfl
theorem dX8_takeBack_127 : decode cX8_takeBack 127 = .ok (.ifnull 14, 3) := all_d dX8_takeBack_all0 63 rfl
theorem dX8_takeBack_130 : decode cX8_takeBack 130 = .ok (.aload_n 3, 1) := all_d dX8_takeBack_all0 64 rfl
theorem dX8_takeBack_131 : decode cX8_takeBack 131 = .ok (.aload_n 1, 1) := all_d dX8_takeBack_all0 65 rfl
theorem dX8_takeBack_132 : decode cX8_takeBack 132 = .ok (.getfield 78, 3) := all_d dX8_takeBack_all0 66 rfl
theorem dX8_takeBack_135 : decode cX8_takeBack 135 = .ok (.putfield 125, 3) := all_d dX8_takeBack_all0 67 rfl
theorem dX8_takeBack_138 : decode cX8_takeBack 138 = .ok (.goto 23, 3) := all_d dX8_takeBack_all0 68 rfl
theorem dX8_takeBack_141 : decode cX8_takeBack 141 = .ok (.aload_n 1, 1) := all_d dX8_takeBack_all0 69 rfl
theorem dX8_takeBack_142 : decode cX8_takeBack 142 = .ok (.getfield 305, 3) := all_d dX8_takeBack_all0 70 rfl
theorem dX8_takeBack_145 : decode cX8_takeBack 145 = .ok (.iconst 5, 1) := all_d dX8_takeBack_all0 71 rfl
theorem dX8_takeBack_146 : decode cX8_takeBack 146 = .ok (.if_icmp .ne 15, 3) := all_d dX8_takeBack_all0 72 rfl
theorem dX8_takeBack_149 : decode cX8_takeBack 149 = .ok (.aload_n 2, 1) := all_d dX8_takeBack_all0 73 rfl
theorem dX8_takeBack_150 : decode cX8_takeBack 150 = .ok (.ifnull 11, 3) := all_d dX8_takeBack_all0 74 rfl
theorem dX8_takeBack_153 : decode cX8_takeBack 153 = .ok (.aload_n 2, 1) := all_d dX8_takeBack_all0 75 rfl
theorem dX8_takeBack_154 : decode cX8_takeBack 154 = .ok (.aload_n 1, 1) := all_d dX8_takeBack_all0 76 rfl
theorem dX8_takeBack_155 : decode cX8_takeBack 155 = .ok (.getfield 98, 3) := all_d dX8_takeBack_all0 77 rfl
theorem dX8_takeBack_158 : decode cX8_takeBack 158 = .ok (.invokevirtual 311, 3) := all_d dX8_takeBack_all0 78 rfl
theorem dX8_takeBack_161 : decode cX8_takeBack 161 = .ok (.return_, 1) := all_d dX8_takeBack_all0 79 rfl
set_option maxRecDepth 100000 in
theorem dX8_dropGoneFaults_all0 : ([(0, (.aload_n 0 : Instr), 1), (1, (.getfield 63 : Instr), 3), (4, (.istore_n 1 : Instr), 1), (5, (.iconst 0 : Instr), 1), (6, (.istore_n 2 : Instr), 1), (7, (.iconst 0 : Instr), 1), (8, (.istore_n 3 : Instr), 1), (9, (.iload_n 3 : Instr), 1), (10, (.iload_n 1 : Instr), 1), (11, (.if_icmp .ge 82 : Instr), 3), (14, (.iload_n 3 : Instr), 1), (15, (.aload_n 0 : Instr), 1), (16, (.getfield 31 : Instr), 3), (19, (.arraylength : Instr), 1), (20, (.if_icmp .ge 73 : Instr), 3), (23, (.aload_n 0 : Instr), 1), (24, (.iload_n 3 : Instr), 1), (25, (.invokevirtual 225 : Instr), 3), (28, (.astore 4 : Instr), 2), (30, (.aload_n 0 : Instr), 1), (31, (.iload_n 2 : Instr), 1), (32, (.invokevirtual 225 : Instr), 3), (35, (.astore 5 : Instr), 2), (37, (.aload 4 : Instr), 2), (39, (.ifnull 48 : Instr), 3), (42, (.aload 5 : Instr), 2), (44, (.ifnull 43 : Instr), 3), (47, (.aload_n 0 : Instr), 1), (48, (.aload 4 : Instr), 2), (50, (.getfield 289 : Instr), 3), (53, (.aload 4 : Instr), 2), (55, (.getfield 296 : Instr), 3), (58, (.invokevirtual 109 : Instr), 3), (61, (.ifnull 26 : Instr), 3), (64, (.aload 5 : Instr), 2), (66, (.aload 4 : Instr), 2), (68, (.getfield 289 : Instr), 3), (71, (.aload 4 : Instr), 2), (73, (.getfield 296 : Instr), 3), (76, (.aload 4 : Instr), 2), (78, (.getfield 299 : Instr), 3), (81, (.invokevirtual 229 : Instr), 3), (84, (.iinc 2 1 : Instr), 3), (87, (.iinc 3 1 : Instr), 3), (90, (.goto (-81) : Instr), 3), (93, (.aload_n 0 : Instr), 1), (94, (.iload_n 2 : Instr), 1), (95, (.putfield 63 : Instr), 3), (98, (.return_ : Instr), 1)] : List (Nat × Instr × Nat)).all (fun q => decide (decode cX8_dropGoneFaults q.1 = .ok (q.2.1, q.2.2))) = true := by decide +kernel
theorem dX8_dropGoneFaults_0 : decode cX8_dropGoneFaults 0 = .ok (.aload_n 0, 1) := all_d dX8_dropGoneFaults_all0 0 rfl
theorem dX8_dropGoneFaults_1 : decode cX8_dropGoneFaults 1 = .ok (.getfield 63, 3) := all_d dX8_dropGoneFaults_all0 1 rfl
theorem dX8_dropGoneFaults_4 : decode cX8_dropGoneFaults 4 = .ok (.istore_n 1, 1) := all_d dX8_dropGoneFaults_all0 2 rfl
theorem dX8_dropGoneFaults_5 : decode cX8_dropGoneFaults 5 = .ok (.iconst 0, 1) := all_d dX8_dropGoneFaults_all0 3 rfl
theorem dX8_dropGoneFaults_6 : decode cX8_dropGoneFaults 6 = .ok (.istore_n 2, 1) := all_d dX8_dropGoneFaults_all0 4 rfl
theorem dX8_dropGoneFaults_7 : decode cX8_dropGoneFaults 7 = .ok (.iconst 0, 1) := all_d dX8_dropGoneFaults_all0 5 rfl
theorem dX8_dropGoneFaults_8 : decode cX8_dropGoneFaults 8 = .ok (.istore_n 3, 1) := all_d dX8_dropGoneFaults_all0 6 rfl
theorem dX8_dropGoneFaults_9 : decode cX8_dropGoneFaults 9 = .ok (.iload_n 3, 1) := all_d dX8_dropGoneFaults_all0 7 rfl
theorem dX8_dropGoneFaults_10 : decode cX8_dropGoneFaults 10 = .ok (.iload_n 1, 1) := all_d dX8_dropGoneFaults_all0 8 rfl
theorem dX8_dropGoneFaults_11 : decode cX8_dropGoneFaults 11 = .ok (.if_icmp .ge 82, 3) := all_d dX8_dropGoneFaults_all0 9 rfl
theorem dX8_dropGoneFaults_14 : decode cX8_dropGoneFaults 14 = .ok (.iload_n 3, 1) := all_d dX8_dropGoneFaults_all0 10 rfl
theorem dX8_dropGoneFaults_15 : decode cX8_dropGoneFaults 15 = .ok (.aload_n 0, 1) := all_d dX8_dropGoneFaults_all0 11 rfl
theorem dX8_dropGoneFaults_16 : decode cX8_dropGoneFaults 16 = .ok (.getfield 31, 3) := all_d dX8_dropGoneFaults_all0 12 rfl
theorem dX8_dropGoneFaults_19 : decode cX8_dropGoneFaults 19 = .ok (.arraylength, 1) := all_d dX8_dropGoneFaults_all0 13 rfl
theorem dX8_dropGoneFaults_20 : decode cX8_dropGoneFaults 20 = .ok (.if_icmp .ge 73, 3) := all_d dX8_dropGoneFaults_all0 14 rfl
theorem dX8_dropGoneFaults_23 : decode cX8_dropGoneFaults 23 = .ok (.aload_n 0, 1) := all_d dX8_dropGoneFaults_all0 15 rfl
theorem dX8_dropGoneFaults_24 : decode cX8_dropGoneFaults 24 = .ok (.iload_n 3, 1) := all_d dX8_dropGoneFaults_all0 16 rfl
theorem dX8_dropGoneFaults_25 : decode cX8_dropGoneFaults 25 = .ok (.invokevirtual 225, 3) := all_d dX8_dropGoneFaults_all0 17 rfl
theorem dX8_dropGoneFaults_28 : decode cX8_dropGoneFaults 28 = .ok (.astore 4, 2) := all_d dX8_dropGoneFaults_all0 18 rfl
theorem dX8_dropGoneFaults_30 : decode cX8_dropGoneFaults 30 = .ok (.aload_n 0, 1) := all_d dX8_dropGoneFaults_all0 19 rfl
theorem dX8_dropGoneFaults_31 : decode cX8_dropGoneFaults 31 = .ok (.iload_n 2, 1) := all_d dX8_dropGoneFaults_all0 20 rfl
theorem dX8_dropGoneFaults_32 : decode cX8_dropGoneFaults 32 = .ok (.invokevirtual 225, 3) := all_d dX8_dropGoneFaults_all0 21 rfl
theorem dX8_dropGoneFaults_35 : decode cX8_dropGoneFaults 35 = .ok (.astore 5, 2) := all_d dX8_dropGoneFaults_all0 22 rfl
theorem dX8_dropGoneFaults_37 : decode cX8_dropGoneFaults 37 = .ok (.aload 4, 2) := all_d dX8_dropGoneFaults_all0 23 rfl
theorem dX8_dropGoneFaults_39 : decode cX8_dropGoneFaults 39 = .ok (.ifnull 48, 3) := all_d dX8_dropGoneFaults_all0 24 rfl
theorem dX8_dropGoneFaults_42 : decode cX8_dropGoneFaults 42 = .ok (.aload 5, 2) := all_d dX8_dropGoneFaults_all0 25 rfl
theorem dX8_dropGoneFaults_44 : decode cX8_dropGoneFaults 44 = .ok (.ifnull 43, 3) := all_d dX8_dropGoneFaults_all0 26 rfl
theorem dX8_dropGoneFaults_47 : decode cX8_dropGoneFaults 47 = .ok (.aload_n 0, 1) := all_d dX8_dropGoneFaults_all0 27 rfl
theorem dX8_dropGoneFaults_48 : decode cX8_dropGoneFaults 48 = .ok (.aload 4, 2) := all_d dX8_dropGoneFaults_all0 28 rfl
theorem dX8_dropGoneFaults_50 : decode cX8_dropGoneFaults 50 = .ok (.getfield 289, 3) := all_d dX8_dropGoneFaults_all0 29 rfl
theorem dX8_dropGoneFaults_53 : decode cX8_dropGoneFaults 53 = .ok (.aload 4, 2) := all_d dX8_dropGoneFaults_all0 30 rfl
theorem dX8_dropGoneFaults_55 : decode cX8_dropGoneFaults 55 = .ok (.getfield 296, 3) := all_d dX8_dropGoneFaults_all0 31 rfl
theorem dX8_dropGoneFaults_58 : decode cX8_dropGoneFaults 58 = .ok (.invokevirtual 109, 3) := all_d dX8_dropGoneFaults_all0 32 rfl
theorem dX8_dropGoneFaults_61 : decode cX8_dropGoneFaults 61 = .ok (.ifnull 26, 3) := all_d dX8_dropGoneFaults_all0 33 rfl
theorem dX8_dropGoneFaults_64 : decode cX8_dropGoneFaults 64 = .ok (.aload 5, 2) := all_d dX8_dropGoneFaults_all0 34 rfl
theorem dX8_dropGoneFaults_66 : decode cX8_dropGoneFaults 66 = .ok (.aload 4, 2) := all_d dX8_dropGoneFaults_all0 35 rfl
theorem dX8_dropGoneFaults_68 : decode cX8_dropGoneFaults 68 = .ok (.getfield 289, 3) := all_d dX8_dropGoneFaults_all0 36 rfl
theorem dX8_dropGoneFaults_71 : decode cX8_dropGoneFaults 71 = .ok (.aload 4, 2) := all_d dX8_dropGoneFaults_all0 37 rfl
theorem dX8_dropGoneFaults_73 : decode cX8_dropGoneFaults 73 = .ok (.getfield 296, 3) := all_d dX8_dropGoneFaults_all0 38 rfl
theorem dX8_dropGoneFaults_76 : decode cX8_dropGoneFaults 76 = .ok (.aload 4, 2) := all_d dX8_dropGoneFaults_all0 39 rfl
theorem dX8_dropGoneFaults_78 : decode cX8_dropGoneFaults 78 = .ok (.getfield 299, 3) := all_d dX8_dropGoneFaults_all0 40 rfl
theorem dX8_dropGoneFaults_81 : decode cX8_dropGoneFaults 81 = .ok (.invokevirtual 229, 3) := all_d dX8_dropGoneFaults_all0 41 rfl
theorem dX8_dropGoneFaults_84 : decode cX8_dropGoneFaults 84 = .ok (.iinc 2 1, 3) := all_d dX8_dropGoneFaults_all0 42 rfl
theorem dX8_dropGoneFaults_87 : decode cX8_dropGoneFaults 87 = .ok (.iinc 3 1, 3) := all_d dX8_dropGoneFaults_all0 43 rfl
theorem dX8_dropGoneFaults_90 : decode cX8_dropGoneFaults 90 = .ok (.goto (-81), 3) := all_d dX8_dropGoneFaults_all0 44 rfl
theorem dX8_dropGoneFaults_93 : decode cX8_dropGoneFaults 93 = .ok (.aload_n 0, 1) := all_d dX8_dropGoneFaults_all0 45 rfl
theorem dX8_dropGoneFaults_94 : decode cX8_dropGoneFaults 94 = .ok (.iload_n 2, 1) := all_d dX8_dropGoneFaults_all0 46 rfl
theorem dX8_dropGoneFaults_95 : decode cX8_dropGoneFaults 95 = .ok (.putfield 63, 3) := all_d dX8_dropGoneFaults_all0 47 rfl
theorem dX8_dropGoneFaults_98 : decode cX8_dropGoneFaults 98 = .ok (.return_, 1) := all_d dX8_dropGoneFaults_all0 48 rfl
set_option maxRecDepth 100000 in
theorem dJ9_abs_0f7a4_all0 : ([(0, (.iload_n 0 : Instr), 1), (1, (.ifCond .ge 8 : Instr), 3), (4, (.iload_n 0 : Instr), 1), (5, (.ineg : Instr), 1), (6, (.goto 4 : Instr), 3), (9, (.iload_n 0 : Instr), 1), (10, (.ireturn : Instr), 1)] : List (Nat × Instr × Nat)).all (fun q => decide (decode cJ9_abs_0f7a4 q.1 = .ok (q.2.1, q.2.2))) = true := by decide +kernel
theorem dJ9_abs_0f7a4_0 : decode cJ9_abs_0f7a4 0 = .ok (.iload_n 0, 1) := all_d dJ9_abs_0f7a4_all0 0 rfl
theorem dJ9_abs_0f7a4_1 : decode cJ9_abs_0f7a4 1 = .ok (.ifCond .ge 8, 3) := all_d dJ9_abs_0f7a4_all0 1 rfl
theorem dJ9_abs_0f7a4_4 : decode cJ9_abs_0f7a4 4 = .ok (.iload_n 0, 1) := all_d dJ9_abs_0f7a4_all0 2 rfl
theorem dJ9_abs_0f7a4_5 : decode cJ9_abs_0f7a4 5 = .ok (.ineg, 1) := all_d dJ9_abs_0f7a4_all0 3 rfl
theorem dJ9_abs_0f7a4_6 : decode cJ9_abs_0f7a4 6 = .ok (.goto 4, 3) := all_d dJ9_abs_0f7a4_all0 4 rfl
theorem dJ9_abs_0f7a4_9 : decode cJ9_abs_0f7a4 9 = .ok (.iload_n 0, 1) := all_d dJ9_abs_0f7a4_all0 5 rfl
theorem dJ9_abs_0f7a4_10 : decode cJ9_abs_0f7a4 10 = .ok (.ireturn, 1) := all_d dJ9_abs_0f7a4_all0 6 rfl
set_option maxRecDepth 100000 in
theorem dJ9_max_7cf53_all0 : ([(0, (.iload_n 0 : Instr), 1), (1, (.iload_n 1 : Instr), 1), (2, (.if_icmp .lt 7 : Instr), 3), (5, (.iload_n 0 : Instr), 1), (6, (.goto 4 : Instr), 3), (9, (.iload_n 1 : Instr), 1), (10, (.ireturn : Instr), 1)] : List (Nat × Instr × Nat)).all (fun q => decide (decode cJ9_max_7cf53 q.1 = .ok (q.2.1, q.2.2))) = true := by decide +kernel
theorem dJ9_max_7cf53_0 : decode cJ9_max_7cf53 0 = .ok (.iload_n 0, 1) := all_d dJ9_max_7cf53_all0 0 rfl
theorem dJ9_max_7cf53_1 : decode cJ9_max_7cf53 1 = .ok (.iload_n 1, 1) := all_d dJ9_max_7cf53_all0 1 rfl
theorem dJ9_max_7cf53_2 : decode cJ9_max_7cf53 2 = .ok (.if_icmp .lt 7, 3) := all_d dJ9_max_7cf53_all0 2 rfl
theorem dJ9_max_7cf53_5 : decode cJ9_max_7cf53 5 = .ok (.iload_n 0, 1) := all_d dJ9_max_7cf53_all0 3 rfl
theorem dJ9_max_7cf53_6 : decode cJ9_max_7cf53 6 = .ok (.goto 4, 3) := all_d dJ9_max_7cf53_all0 4 rfl
theorem dJ9_max_7cf53_9 : decode cJ9_max_7cf53 9 = .ok (.iload_n 1, 1) := all_d dJ9_max_7cf53_all0 5 rfl
theorem dJ9_max_7cf53_10 : decode cJ9_max_7cf53 10 = .ok (.ireturn, 1) := all_d dJ9_max_7cf53_all0 6 rfl
set_option maxRecDepth 100000 in
theorem dJ9_min_7cf53_all0 : ([(0, (.iload_n 0 : Instr), 1), (1, (.iload_n 1 : Instr), 1), (2, (.if_icmp .gt 7 : Instr), 3), (5, (.iload_n 0 : Instr), 1), (6, (.goto 4 : Instr), 3), (9, (.iload_n 1 : Instr), 1), (10, (.ireturn : Instr), 1)] : List (Nat × Instr × Nat)).all (fun q => decide (decode cJ9_min_7cf53 q.1 = .ok (q.2.1, q.2.2))) = true := by decide +kernel
theorem dJ9_min_7cf53_0 : decode cJ9_min_7cf53 0 = .ok (.iload_n 0, 1) := all_d dJ9_min_7cf53_all0 0 rfl
theorem dJ9_min_7cf53_1 : decode cJ9_min_7cf53 1 = .ok (.iload_n 1, 1) := all_d dJ9_min_7cf53_all0 1 rfl
theorem dJ9_min_7cf53_2 : decode cJ9_min_7cf53 2 = .ok (.if_icmp .gt 7, 3) := all_d dJ9_min_7cf53_all0 2 rfl
theorem dJ9_min_7cf53_5 : decode cJ9_min_7cf53 5 = .ok (.iload_n 0, 1) := all_d dJ9_min_7cf53_all0 3 rfl
theorem dJ9_min_7cf53_6 : decode cJ9_min_7cf53 6 = .ok (.goto 4, 3) := all_d dJ9_min_7cf53_all0 4 rfl
theorem dJ9_min_7cf53_9 : decode cJ9_min_7cf53 9 = .ok (.iload_n 1, 1) := all_d dJ9_min_7cf53_all0 5 rfl
theorem dJ9_min_7cf53_10 : decode cJ9_min_7cf53 10 = .ok (.ireturn, 1) := all_d dJ9_min_7cf53_all0 6 rfl
set_option maxRecDepth 100000 in
theorem dJ7_fill_d0a16_all0 : ([(0, (.iconst 0 : Instr), 1), (1, (.istore_n 3 : Instr), 1), (2, (.aload_n 0 : Instr), 1), (3, (.arraylength : Instr), 1), (4, (.istore 4 : Instr), 2), (6, (.iload_n 3 : Instr), 1), (7, (.iload 4 : Instr), 2), (9, (.if_icmp .ge 13 : Instr), 3), (12, (.aload_n 0 : Instr), 1), (13, (.iload_n 3 : Instr), 1), (14, (.lload_n 1 : Instr), 1), (15, (.lastore : Instr), 1), (16, (.iinc 3 1 : Instr), 3), (19, (.goto (-13) : Instr), 3), (22, (.return_ : Instr), 1)] : List (Nat × Instr × Nat)).all (fun q => decide (decode cJ7_fill_d0a16 q.1 = .ok (q.2.1, q.2.2))) = true := by decide +kernel
theorem dJ7_fill_d0a16_0 : decode cJ7_fill_d0a16 0 = .ok (.iconst 0, 1) := all_d dJ7_fill_d0a16_all0 0 rfl
theorem dJ7_fill_d0a16_1 : decode cJ7_fill_d0a16 1 = .ok (.istore_n 3, 1) := all_d dJ7_fill_d0a16_all0 1 rfl
theorem dJ7_fill_d0a16_2 : decode cJ7_fill_d0a16 2 = .ok (.aload_n 0, 1) := all_d dJ7_fill_d0a16_all0 2 rfl
theorem dJ7_fill_d0a16_3 : decode cJ7_fill_d0a16 3 = .ok (.arraylength, 1) := all_d dJ7_fill_d0a16_all0 3 rfl
theorem dJ7_fill_d0a16_4 : decode cJ7_fill_d0a16 4 = .ok (.istore 4, 2) := all_d dJ7_fill_d0a16_all0 4 rfl
theorem dJ7_fill_d0a16_6 : decode cJ7_fill_d0a16 6 = .ok (.iload_n 3, 1) := all_d dJ7_fill_d0a16_all0 5 rfl
theorem dJ7_fill_d0a16_7 : decode cJ7_fill_d0a16 7 = .ok (.iload 4, 2) := all_d dJ7_fill_d0a16_all0 6 rfl
theorem dJ7_fill_d0a16_9 : decode cJ7_fill_d0a16 9 = .ok (.if_icmp .ge 13, 3) := all_d dJ7_fill_d0a16_all0 7 rfl
theorem dJ7_fill_d0a16_12 : decode cJ7_fill_d0a16 12 = .ok (.aload_n 0, 1) := all_d dJ7_fill_d0a16_all0 8 rfl
theorem dJ7_fill_d0a16_13 : decode cJ7_fill_d0a16 13 = .ok (.iload_n 3, 1) := all_d dJ7_fill_d0a16_all0 9 rfl
theorem dJ7_fill_d0a16_14 : decode cJ7_fill_d0a16 14 = .ok (.lload_n 1, 1) := all_d dJ7_fill_d0a16_all0 10 rfl
theorem dJ7_fill_d0a16_15 : decode cJ7_fill_d0a16 15 = .ok (.lastore, 1) := all_d dJ7_fill_d0a16_all0 11 rfl
theorem dJ7_fill_d0a16_16 : decode cJ7_fill_d0a16 16 = .ok (.iinc 3 1, 3) := all_d dJ7_fill_d0a16_all0 12 rfl
theorem dJ7_fill_d0a16_19 : decode cJ7_fill_d0a16 19 = .ok (.goto (-13), 3) := all_d dJ7_fill_d0a16_all0 13 rfl
theorem dJ7_fill_d0a16_22 : decode cJ7_fill_d0a16 22 = .ok (.return_, 1) := all_d dJ7_fill_d0a16_all0 14 rfl
set_option maxRecDepth 100000 in
theorem dJ7_fill_53178_all0 : ([(0, (.iconst 0 : Instr), 1), (1, (.istore_n 2 : Instr), 1), (2, (.aload_n 0 : Instr), 1), (3, (.arraylength : Instr), 1), (4, (.istore_n 3 : Instr), 1), (5, (.iload_n 2 : Instr), 1), (6, (.iload_n 3 : Instr), 1), (7, (.if_icmp .ge 13 : Instr), 3), (10, (.aload_n 0 : Instr), 1), (11, (.iload_n 2 : Instr), 1), (12, (.iload_n 1 : Instr), 1), (13, (.iastore : Instr), 1), (14, (.iinc 2 1 : Instr), 3), (17, (.goto (-12) : Instr), 3), (20, (.return_ : Instr), 1)] : List (Nat × Instr × Nat)).all (fun q => decide (decode cJ7_fill_53178 q.1 = .ok (q.2.1, q.2.2))) = true := by decide +kernel
theorem dJ7_fill_53178_0 : decode cJ7_fill_53178 0 = .ok (.iconst 0, 1) := all_d dJ7_fill_53178_all0 0 rfl
theorem dJ7_fill_53178_1 : decode cJ7_fill_53178 1 = .ok (.istore_n 2, 1) := all_d dJ7_fill_53178_all0 1 rfl
theorem dJ7_fill_53178_2 : decode cJ7_fill_53178 2 = .ok (.aload_n 0, 1) := all_d dJ7_fill_53178_all0 2 rfl
theorem dJ7_fill_53178_3 : decode cJ7_fill_53178 3 = .ok (.arraylength, 1) := all_d dJ7_fill_53178_all0 3 rfl
theorem dJ7_fill_53178_4 : decode cJ7_fill_53178 4 = .ok (.istore_n 3, 1) := all_d dJ7_fill_53178_all0 4 rfl
theorem dJ7_fill_53178_5 : decode cJ7_fill_53178 5 = .ok (.iload_n 2, 1) := all_d dJ7_fill_53178_all0 5 rfl
theorem dJ7_fill_53178_6 : decode cJ7_fill_53178 6 = .ok (.iload_n 3, 1) := all_d dJ7_fill_53178_all0 6 rfl
theorem dJ7_fill_53178_7 : decode cJ7_fill_53178 7 = .ok (.if_icmp .ge 13, 3) := all_d dJ7_fill_53178_all0 7 rfl
theorem dJ7_fill_53178_10 : decode cJ7_fill_53178 10 = .ok (.aload_n 0, 1) := all_d dJ7_fill_53178_all0 8 rfl
theorem dJ7_fill_53178_11 : decode cJ7_fill_53178 11 = .ok (.iload_n 2, 1) := all_d dJ7_fill_53178_all0 9 rfl
theorem dJ7_fill_53178_12 : decode cJ7_fill_53178 12 = .ok (.iload_n 1, 1) := all_d dJ7_fill_53178_all0 10 rfl
theorem dJ7_fill_53178_13 : decode cJ7_fill_53178 13 = .ok (.iastore, 1) := all_d dJ7_fill_53178_all0 11 rfl
theorem dJ7_fill_53178_14 : decode cJ7_fill_53178 14 = .ok (.iinc 2 1, 3) := all_d dJ7_fill_53178_all0 12 rfl
theorem dJ7_fill_53178_17 : decode cJ7_fill_53178 17 = .ok (.goto (-12), 3) := all_d dJ7_fill_53178_all0 13 rfl
theorem dJ7_fill_53178_20 : decode cJ7_fill_53178 20 = .ok (.return_, 1) := all_d dJ7_fill_53178_all0 14 rfl
