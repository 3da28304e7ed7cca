theorem dX0_init_0 : decode cX0_init 0 = .ok (.aload_n 0, 1) := by decide +kernel
theorem dX0_init_1 : decode cX0_init 1 = .ok (.invokespecial 3, 3) := by decide +kernel
theorem dX0_init_4 : decode cX0_init 4 = .ok (.aload_n 0, 1) := by decide +kernel
theorem dX0_init_5 : decode cX0_init 5 = .ok (.iconst 0, 1) := by decide +kernel
theorem dX0_init_6 : decode cX0_init 6 = .ok (.putfield 9, 3) := by decide +kernel
theorem dX0_init_9 : decode cX0_init 9 = .ok (.aload_n 0, 1) := by decide +kernel
theorem dX0_init_10 : decode cX0_init 10 = .ok (.bipush 6, 2) := by decide +kernel
theorem dX0_init_12 : decode cX0_init 12 = .ok (.newarray .int, 2) := by decide +kernel
theorem dX0_init_14 : decode cX0_init 14 = .ok (.putfield 15, 3) := by decide +kernel
theorem dX0_init_17 : decode cX0_init 17 = .ok (.aload_n 0, 1) := by decide +kernel
theorem dX0_init_18 : decode cX0_init 18 = .ok (.bipush 6, 2) := by decide +kernel
theorem dX0_init_20 : decode cX0_init 20 = .ok (.newarray .int, 2) := by decide +kernel
theorem dX0_init_22 : decode cX0_init 22 = .ok (.putfield 19, 3) := by decide +kernel
theorem dX0_init_25 : decode cX0_init 25 = .ok (.aload_n 0, 1) := by decide +kernel
theorem dX0_init_26 : decode cX0_init 26 = .ok (.bipush 6, 2) := by decide +kernel
theorem dX0_init_28 : decode cX0_init 28 = .ok (.newarray .int, 2) := by decide +kernel
theorem dX0_init_30 : decode cX0_init 30 = .ok (.putfield 22, 3) := by decide +kernel
theorem dX0_init_33 : decode cX0_init 33 = .ok (.aload_n 0, 1) := by decide +kernel
theorem dX0_init_34 : decode cX0_init 34 = .ok (.bipush 6, 2) := by decide +kernel
theorem dX0_init_36 : decode cX0_init 36 = .ok (.newarray .int, 2) := by decide +kernel
theorem dX0_init_38 : decode cX0_init 38 = .ok (.putfield 25, 3) := by decide +kernel
theorem dX0_init_41 : decode cX0_init 41 = .ok (.aload_n 0, 1) := by decide +kernel
theorem dX0_init_42 : decode cX0_init 42 = .ok (.bipush 6, 2) := by decide +kernel
theorem dX0_init_44 : decode cX0_init 44 = .ok (.newarray .int, 2) := by decide +kernel
theorem dX0_init_46 : decode cX0_init 46 = .ok (.putfield 28, 3) := by decide +kernel
theorem dX0_init_49 : decode cX0_init 49 = .ok (.aload_n 0, 1) := by decide +kernel
theorem dX0_init_50 : decode cX0_init 50 = .ok (.bipush 6, 2) := by decide +kernel
theorem dX0_init_52 : decode cX0_init 52 = .ok (.newarray .int, 2) := by decide +kernel
theorem dX0_init_54 : decode cX0_init 54 = .ok (.putfield 31, 3) := by decide +kernel
theorem dX0_init_57 : decode cX0_init 57 = .ok (.aload_n 0, 1) := by decide +kernel
theorem dX0_init_58 : decode cX0_init 58 = .ok (.bipush 6, 2) := by decide +kernel
theorem dX0_init_60 : decode cX0_init 60 = .ok (.newarray .int, 2) := by decide +kernel
theorem dX0_init_62 : decode cX0_init 62 = .ok (.putfield 34, 3) := by decide +kernel
theorem dX0_init_65 : decode cX0_init 65 = .ok (.aload_n 0, 1) := by decide +kernel
theorem dX0_init_66 : decode cX0_init 66 = .ok (.bipush 6, 2) := by decide +kernel
theorem dX0_init_68 : decode cX0_init 68 = .ok (.newarray .int, 2) := by decide +kernel
theorem dX0_init_70 : decode cX0_init 70 = .ok (.putfield 37, 3) := by decide +kernel
theorem dX0_init_73 : decode cX0_init 73 = .ok (.return_, 1) := by decide +kernel
theorem dX0_has_0 : decode cX0_has 0 = .ok (.iload_n 1, 1) := by decide +kernel
theorem dX0_has_1 : decode cX0_has 1 = .ok (.ifCond .lt 15, 3) := by decide +kernel
theorem dX0_has_4 : decode cX0_has 4 = .ok (.iload_n 1, 1) := by decide +kernel
theorem dX0_has_5 : decode cX0_has 5 = .ok (.aload_n 0, 1) := by decide +kernel
theorem dX0_has_6 : decode cX0_has 6 = .ok (.getfield 9, 3) := by decide +kernel
theorem dX0_has_9 : decode cX0_has 9 = .ok (.if_icmp .ge 7, 3) := by decide +kernel
theorem dX0_has_12 : decode cX0_has 12 = .ok (.iconst 1, 1) := by decide +kernel
theorem dX0_has_13 : decode cX0_has 13 = .ok (.goto 4, 3) := by decide +kernel
theorem dX0_has_16 : decode cX0_has 16 = .ok (.iconst 0, 1) := by decide +kernel
theorem dX0_has_17 : decode cX0_has 17 = .ok (.ireturn, 1) := by decide +kernel
theorem dX0_areUnlike_0 : decode cX0_areUnlike 0 = .ok (.aload_n 0, 1) := by decide +kernel
theorem dX0_areUnlike_1 : decode cX0_areUnlike 1 = .ok (.iload_n 1, 1) := by decide +kernel
theorem dX0_areUnlike_2 : decode cX0_areUnlike 2 = .ok (.invokevirtual 40, 3) := by decide +kernel
theorem dX0_areUnlike_5 : decode cX0_areUnlike 5 = .ok (.ifCond .eq 20, 3) := by decide +kernel
theorem dX0_areUnlike_8 : decode cX0_areUnlike 8 = .ok (.aload_n 0, 1) := by decide +kernel
theorem dX0_areUnlike_9 : decode cX0_areUnlike 9 = .ok (.iload_n 2, 1) := by decide +kernel
theorem dX0_areUnlike_10 : decode cX0_areUnlike 10 = .ok (.invokevirtual 40, 3) := by decide +kernel
theorem dX0_areUnlike_13 : decode cX0_areUnlike 13 = .ok (.ifCond .eq 12, 3) := by decide +kernel
theorem dX0_areUnlike_16 : decode cX0_areUnlike 16 = .ok (.iload_n 1, 1) := by decide +kernel
theorem dX0_areUnlike_17 : decode cX0_areUnlike 17 = .ok (.iload_n 2, 1) := by decide +kernel
theorem dX0_areUnlike_18 : decode cX0_areUnlike 18 = .ok (.if_icmp .eq 7, 3) := by decide +kernel
theorem dX0_areUnlike_21 : decode cX0_areUnlike 21 = .ok (.iconst 1, 1) := by decide +kernel
theorem dX0_areUnlike_22 : decode cX0_areUnlike 22 = .ok (.goto 4, 3) := by decide +kernel
theorem dX0_areUnlike_25 : decode cX0_areUnlike 25 = .ok (.iconst 0, 1) := by decide +kernel
theorem dX0_areUnlike_26 : decode cX0_areUnlike 26 = .ok (.ireturn, 1) := by decide +kernel
theorem dX0_placeOf_0 : decode cX0_placeOf 0 = .ok (.aload_n 0, 1) := by decide +kernel
theorem dX0_placeOf_1 : decode cX0_placeOf 1 = .ok (.getfield 34, 3) := by decide +kernel
theorem dX0_placeOf_4 : decode cX0_placeOf 4 = .ok (.iload_n 1, 1) := by decide +kernel
theorem dX0_placeOf_5 : decode cX0_placeOf 5 = .ok (.invokestatic 44, 3) := by decide +kernel
theorem dX0_placeOf_8 : decode cX0_placeOf 8 = .ok (.ireturn, 1) := by decide +kernel
theorem dX0_add_0 : decode cX0_add 0 = .ok (.aload_n 0, 1) := by decide +kernel
theorem dX0_add_1 : decode cX0_add 1 = .ok (.getfield 9, 3) := by decide +kernel
theorem dX0_add_4 : decode cX0_add 4 = .ok (.istore 5, 2) := by decide +kernel
theorem dX0_add_6 : decode cX0_add 6 = .ok (.aload_n 0, 1) := by decide +kernel
theorem dX0_add_7 : decode cX0_add 7 = .ok (.getfield 15, 3) := by decide +kernel
theorem dX0_add_10 : decode cX0_add 10 = .ok (.iload 5, 2) := by decide +kernel
theorem dX0_add_12 : decode cX0_add 12 = .ok (.iload_n 1, 1) := by decide +kernel
theorem dX0_add_13 : decode cX0_add 13 = .ok (.invokestatic 50, 3) := by decide +kernel
theorem dX0_add_16 : decode cX0_add 16 = .ok (.aload_n 0, 1) := by decide +kernel
theorem dX0_add_17 : decode cX0_add 17 = .ok (.getfield 19, 3) := by decide +kernel
theorem dX0_add_20 : decode cX0_add 20 = .ok (.iload 5, 2) := by decide +kernel
theorem dX0_add_22 : decode cX0_add 22 = .ok (.iload_n 2, 1) := by decide +kernel
theorem dX0_add_23 : decode cX0_add 23 = .ok (.invokestatic 50, 3) := by decide +kernel
theorem dX0_add_26 : decode cX0_add 26 = .ok (.aload_n 0, 1) := by decide +kernel
theorem dX0_add_27 : decode cX0_add 27 = .ok (.getfield 22, 3) := by decide +kernel
theorem dX0_add_30 : decode cX0_add 30 = .ok (.iload 5, 2) := by decide +kernel
theorem dX0_add_32 : decode cX0_add 32 = .ok (.iload_n 3, 1) := by decide +kernel
theorem dX0_add_33 : decode cX0_add 33 = .ok (.invokestatic 50, 3) := by decide +kernel
theorem dX0_add_36 : decode cX0_add 36 = .ok (.aload_n 0, 1) := by decide +kernel
theorem dX0_add_37 : decode cX0_add 37 = .ok (.getfield 25, 3) := by decide +kernel
theorem dX0_add_40 : decode cX0_add 40 = .ok (.iload 5, 2) := by decide +kernel
theorem dX0_add_42 : decode cX0_add 42 = .ok (.iload 4, 2) := by decide +kernel
theorem dX0_add_44 : decode cX0_add 44 = .ok (.invokestatic 50, 3) := by decide +kernel
theorem dX0_add_47 : decode cX0_add 47 = .ok (.aload_n 0, 1) := by decide +kernel
theorem dX0_add_48 : decode cX0_add 48 = .ok (.getfield 37, 3) := by decide +kernel
theorem dX0_add_51 : decode cX0_add 51 = .ok (.iload 5, 2) := by decide +kernel
theorem dX0_add_53 : decode cX0_add 53 = .ok (.iconst 0, 1) := by decide +kernel
theorem dX0_add_54 : decode cX0_add 54 = .ok (.invokestatic 50, 3) := by decide +kernel
theorem dX0_add_57 : decode cX0_add 57 = .ok (.aload_n 0, 1) := by decide +kernel
theorem dX0_add_58 : decode cX0_add 58 = .ok (.iload 5, 2) := by decide +kernel
theorem dX0_add_60 : decode cX0_add 60 = .ok (.iconst 0, 1) := by decide +kernel
theorem dX0_add_61 : decode cX0_add 61 = .ok (.iconst 0, 1) := by decide +kernel
theorem dX0_add_62 : decode cX0_add 62 = .ok (.invokevirtual 54, 3) := by decide +kernel
theorem dX0_add_65 : decode cX0_add 65 = .ok (.aload_n 0, 1) := by decide +kernel
theorem dX0_add_66 : decode cX0_add 66 = .ok (.iload 5, 2) := by decide +kernel
theorem dX0_add_68 : decode cX0_add 68 = .ok (.iconst 1, 1) := by decide +kernel
theorem dX0_add_69 : decode cX0_add 69 = .ok (.iadd, 1) := by decide +kernel
theorem dX0_add_70 : decode cX0_add 70 = .ok (.putfield 9, 3) := by decide +kernel
theorem dX0_add_73 : decode cX0_add 73 = .ok (.iload 5, 2) := by decide +kernel
theorem dX0_add_75 : decode cX0_add 75 = .ok (.ireturn, 1) := by decide +kernel
theorem dX0_move_0 : decode cX0_move 0 = .ok (.aload_n 0, 1) := by decide +kernel
theorem dX0_move_1 : decode cX0_move 1 = .ok (.getfield 28, 3) := by decide +kernel
theorem dX0_move_4 : decode cX0_move 4 = .ok (.iload_n 1, 1) := by decide +kernel
theorem dX0_move_5 : decode cX0_move 5 = .ok (.iload_n 2, 1) := by decide +kernel
theorem dX0_move_6 : decode cX0_move 6 = .ok (.invokestatic 50, 3) := by decide +kernel
theorem dX0_move_9 : decode cX0_move 9 = .ok (.aload_n 0, 1) := by decide +kernel
theorem dX0_move_10 : decode cX0_move 10 = .ok (.getfield 31, 3) := by decide +kernel
theorem dX0_move_13 : decode cX0_move 13 = .ok (.iload_n 1, 1) := by decide +kernel
theorem dX0_move_14 : decode cX0_move 14 = .ok (.iload_n 3, 1) := by decide +kernel
theorem dX0_move_15 : decode cX0_move 15 = .ok (.invokestatic 50, 3) := by decide +kernel
theorem dX0_move_18 : decode cX0_move 18 = .ok (.aload_n 0, 1) := by decide +kernel
theorem dX0_move_19 : decode cX0_move 19 = .ok (.getfield 34, 3) := by decide +kernel
theorem dX0_move_22 : decode cX0_move 22 = .ok (.iload_n 1, 1) := by decide +kernel
theorem dX0_move_23 : decode cX0_move 23 = .ok (.aload_n 0, 1) := by decide +kernel
theorem dX0_move_24 : decode cX0_move 24 = .ok (.getfield 25, 3) := by decide +kernel
theorem dX0_move_27 : decode cX0_move 27 = .ok (.iload_n 1, 1) := by decide +kernel
theorem dX0_move_28 : decode cX0_move 28 = .ok (.invokestatic 44, 3) := by decide +kernel
theorem dX0_move_31 : decode cX0_move 31 = .ok (.iload_n 2, 1) := by decide +kernel
theorem dX0_move_32 : decode cX0_move 32 = .ok (.iload_n 3, 1) := by decide +kernel
theorem dX0_move_33 : decode cX0_move 33 = .ok (.invokestatic 58, 3) := by decide +kernel
theorem dX0_move_36 : decode cX0_move 36 = .ok (.invokestatic 50, 3) := by decide +kernel
theorem dX0_move_39 : decode cX0_move 39 = .ok (.return_, 1) := by decide +kernel
theorem dX0_tellBehind_0 : decode cX0_tellBehind 0 = .ok (.aload_n 0, 1) := by decide +kernel
theorem dX0_tellBehind_1 : decode cX0_tellBehind 1 = .ok (.getfield 37, 3) := by decide +kernel
theorem dX0_tellBehind_4 : decode cX0_tellBehind 4 = .ok (.iload_n 1, 1) := by decide +kernel
theorem dX0_tellBehind_5 : decode cX0_tellBehind 5 = .ok (.invokestatic 44, 3) := by decide +kernel
theorem dX0_tellBehind_8 : decode cX0_tellBehind 8 = .ok (.istore 4, 2) := by decide +kernel
theorem dX0_tellBehind_10 : decode cX0_tellBehind 10 = .ok (.aload_n 0, 1) := by decide +kernel
theorem dX0_tellBehind_11 : decode cX0_tellBehind 11 = .ok (.getfield 37, 3) := by decide +kernel
theorem dX0_tellBehind_14 : decode cX0_tellBehind 14 = .ok (.iload_n 1, 1) := by decide +kernel
theorem dX0_tellBehind_15 : decode cX0_tellBehind 15 = .ok (.iload 4, 2) := by decide +kernel
theorem dX0_tellBehind_17 : decode cX0_tellBehind 17 = .ok (.iconst 1, 1) := by decide +kernel
theorem dX0_tellBehind_18 : decode cX0_tellBehind 18 = .ok (.iload_n 2, 1) := by decide +kernel
theorem dX0_tellBehind_19 : decode cX0_tellBehind 19 = .ok (.ishl, 1) := by decide +kernel
theorem dX0_tellBehind_20 : decode cX0_tellBehind 20 = .ok (.iconst (-1), 1) := by decide +kernel
theorem dX0_tellBehind_21 : decode cX0_tellBehind 21 = .ok (.ixor, 1) := by decide +kernel
theorem dX0_tellBehind_22 : decode cX0_tellBehind 22 = .ok (.iand, 1) := by decide +kernel
theorem dX0_tellBehind_23 : decode cX0_tellBehind 23 = .ok (.iload_n 3, 1) := by decide +kernel
theorem dX0_tellBehind_24 : decode cX0_tellBehind 24 = .ok (.iload_n 2, 1) := by decide +kernel
theorem dX0_tellBehind_25 : decode cX0_tellBehind 25 = .ok (.ishl, 1) := by decide +kernel
theorem dX0_tellBehind_26 : decode cX0_tellBehind 26 = .ok (.ior, 1) := by decide +kernel
theorem dX0_tellBehind_27 : decode cX0_tellBehind 27 = .ok (.invokestatic 50, 3) := by decide +kernel
theorem dX0_tellBehind_30 : decode cX0_tellBehind 30 = .ok (.iload 4, 2) := by decide +kernel
theorem dX0_tellBehind_32 : decode cX0_tellBehind 32 = .ok (.iload_n 2, 1) := by decide +kernel
theorem dX0_tellBehind_33 : decode cX0_tellBehind 33 = .ok (.iushr, 1) := by decide +kernel
theorem dX0_tellBehind_34 : decode cX0_tellBehind 34 = .ok (.iconst 1, 1) := by decide +kernel
theorem dX0_tellBehind_35 : decode cX0_tellBehind 35 = .ok (.iand, 1) := by decide +kernel
theorem dX0_tellBehind_36 : decode cX0_tellBehind 36 = .ok (.ireturn, 1) := by decide +kernel
theorem dX0_mayFollow_0 : decode cX0_mayFollow 0 = .ok (.aload_n 0, 1) := by decide +kernel
theorem dX0_mayFollow_1 : decode cX0_mayFollow 1 = .ok (.getfield 37, 3) := by decide +kernel
theorem dX0_mayFollow_4 : decode cX0_mayFollow 4 = .ok (.iload_n 1, 1) := by decide +kernel
theorem dX0_mayFollow_5 : decode cX0_mayFollow 5 = .ok (.invokestatic 44, 3) := by decide +kernel
theorem dX0_mayFollow_8 : decode cX0_mayFollow 8 = .ok (.iload_n 2, 1) := by decide +kernel
theorem dX0_mayFollow_9 : decode cX0_mayFollow 9 = .ok (.iconst (-1), 1) := by decide +kernel
theorem dX0_mayFollow_10 : decode cX0_mayFollow 10 = .ok (.ixor, 1) := by decide +kernel
theorem dX0_mayFollow_11 : decode cX0_mayFollow 11 = .ok (.iand, 1) := by decide +kernel
theorem dX0_mayFollow_12 : decode cX0_mayFollow 12 = .ok (.ifCond .ne 7, 3) := by decide +kernel
theorem dX0_mayFollow_15 : decode cX0_mayFollow 15 = .ok (.iconst 1, 1) := by decide +kernel
theorem dX0_mayFollow_16 : decode cX0_mayFollow 16 = .ok (.goto 4, 3) := by decide +kernel
theorem dX0_mayFollow_19 : decode cX0_mayFollow 19 = .ok (.iconst 0, 1) := by decide +kernel
theorem dX0_mayFollow_20 : decode cX0_mayFollow 20 = .ok (.ireturn, 1) := by decide +kernel
theorem dX0_printOn_0 : decode cX0_printOn 0 = .ok (.aload_n 1, 1) := by decide +kernel
theorem dX0_printOn_1 : decode cX0_printOn 1 = .ok (.aload_n 0, 1) := by decide +kernel
theorem dX0_printOn_2 : decode cX0_printOn 2 = .ok (.getfield 15, 3) := by decide +kernel
theorem dX0_printOn_5 : decode cX0_printOn 5 = .ok (.iload_n 2, 1) := by decide +kernel
theorem dX0_printOn_6 : decode cX0_printOn 6 = .ok (.invokestatic 44, 3) := by decide +kernel
theorem dX0_printOn_9 : decode cX0_printOn 9 = .ok (.aload_n 0, 1) := by decide +kernel
theorem dX0_printOn_10 : decode cX0_printOn 10 = .ok (.getfield 19, 3) := by decide +kernel
theorem dX0_printOn_13 : decode cX0_printOn 13 = .ok (.iload_n 2, 1) := by decide +kernel
theorem dX0_printOn_14 : decode cX0_printOn 14 = .ok (.invokestatic 44, 3) := by decide +kernel
theorem dX0_printOn_17 : decode cX0_printOn 17 = .ok (.aload_n 0, 1) := by decide +kernel
theorem dX0_printOn_18 : decode cX0_printOn 18 = .ok (.iload_n 2, 1) := by decide +kernel
theorem dX0_printOn_19 : decode cX0_printOn 19 = .ok (.invokevirtual 64, 3) := by decide +kernel
theorem dX0_printOn_22 : decode cX0_printOn 22 = .ok (.invokevirtual 68, 3) := by decide +kernel
theorem dX0_printOn_25 : decode cX0_printOn 25 = .ok (.return_, 1) := by decide +kernel
theorem dX0_smearBy_0 : decode cX0_smearBy 0 = .ok (.aload_n 0, 1) := by decide +kernel
theorem dX0_smearBy_1 : decode cX0_smearBy 1 = .ok (.getfield 22, 3) := by decide +kernel
theorem dX0_smearBy_4 : decode cX0_smearBy 4 = .ok (.iload_n 1, 1) := by decide +kernel
theorem dX0_smearBy_5 : decode cX0_smearBy 5 = .ok (.invokestatic 44, 3) := by decide +kernel
theorem dX0_smearBy_8 : decode cX0_smearBy 8 = .ok (.iload_n 2, 1) := by decide +kernel
theorem dX0_smearBy_9 : decode cX0_smearBy 9 = .ok (.isub, 1) := by decide +kernel
theorem dX0_smearBy_10 : decode cX0_smearBy 10 = .ok (.istore 4, 2) := by decide +kernel
theorem dX0_smearBy_12 : decode cX0_smearBy 12 = .ok (.iload 4, 2) := by decide +kernel
theorem dX0_smearBy_14 : decode cX0_smearBy 14 = .ok (.ifCond .le 13, 3) := by decide +kernel
theorem dX0_smearBy_17 : decode cX0_smearBy 17 = .ok (.iload 4, 2) := by decide +kernel
theorem dX0_smearBy_19 : decode cX0_smearBy 19 = .ok (.iload_n 3, 1) := by decide +kernel
theorem dX0_smearBy_20 : decode cX0_smearBy 20 = .ok (.invokestatic 73, 3) := by decide +kernel
theorem dX0_smearBy_23 : decode cX0_smearBy 23 = .ok (.imul, 1) := by decide +kernel
theorem dX0_smearBy_24 : decode cX0_smearBy 24 = .ok (.goto 4, 3) := by decide +kernel
theorem dX0_smearBy_27 : decode cX0_smearBy 27 = .ok (.iconst 0, 1) := by decide +kernel
theorem dX0_smearBy_28 : decode cX0_smearBy 28 = .ok (.ireturn, 1) := by decide +kernel
theorem dX0_copyFrom_0 : decode cX0_copyFrom 0 = .ok (.aload_n 0, 1) := by decide +kernel
theorem dX0_copyFrom_1 : decode cX0_copyFrom 1 = .ok (.aload_n 1, 1) := by decide +kernel
theorem dX0_copyFrom_2 : decode cX0_copyFrom 2 = .ok (.getfield 9, 3) := by decide +kernel
theorem dX0_copyFrom_5 : decode cX0_copyFrom 5 = .ok (.putfield 9, 3) := by decide +kernel
theorem dX0_copyFrom_8 : decode cX0_copyFrom 8 = .ok (.aload_n 1, 1) := by decide +kernel
theorem dX0_copyFrom_9 : decode cX0_copyFrom 9 = .ok (.getfield 15, 3) := by decide +kernel
theorem dX0_copyFrom_12 : decode cX0_copyFrom 12 = .ok (.aload_n 0, 1) := by decide +kernel
theorem dX0_copyFrom_13 : decode cX0_copyFrom 13 = .ok (.getfield 15, 3) := by decide +kernel
theorem dX0_copyFrom_16 : decode cX0_copyFrom 16 = .ok (.invokestatic 78, 3) := by decide +kernel
theorem dX0_copyFrom_19 : decode cX0_copyFrom 19 = .ok (.aload_n 1, 1) := by decide +kernel
theorem dX0_copyFrom_20 : decode cX0_copyFrom 20 = .ok (.getfield 19, 3) := by decide +kernel
theorem dX0_copyFrom_23 : decode cX0_copyFrom 23 = .ok (.aload_n 0, 1) := by decide +kernel
theorem dX0_copyFrom_24 : decode cX0_copyFrom 24 = .ok (.getfield 19, 3) := by decide +kernel
theorem dX0_copyFrom_27 : decode cX0_copyFrom 27 = .ok (.invokestatic 78, 3) := by decide +kernel
theorem dX0_copyFrom_30 : decode cX0_copyFrom 30 = .ok (.aload_n 1, 1) := by decide +kernel
theorem dX0_copyFrom_31 : decode cX0_copyFrom 31 = .ok (.getfield 22, 3) := by decide +kernel
theorem dX0_copyFrom_34 : decode cX0_copyFrom 34 = .ok (.aload_n 0, 1) := by decide +kernel
theorem dX0_copyFrom_35 : decode cX0_copyFrom 35 = .ok (.getfield 22, 3) := by decide +kernel
theorem dX0_copyFrom_38 : decode cX0_copyFrom 38 = .ok (.invokestatic 78, 3) := by decide +kernel
theorem dX0_copyFrom_41 : decode cX0_copyFrom 41 = .ok (.aload_n 1, 1) := by decide +kernel
theorem dX0_copyFrom_42 : decode cX0_copyFrom 42 = .ok (.getfield 25, 3) := by decide +kernel
theorem dX0_copyFrom_45 : decode cX0_copyFrom 45 = .ok (.aload_n 0, 1) := by decide +kernel
theorem dX0_copyFrom_46 : decode cX0_copyFrom 46 = .ok (.getfield 25, 3) := by decide +kernel
theorem dX0_copyFrom_49 : decode cX0_copyFrom 49 = .ok (.invokestatic 78, 3) := by decide +kernel
theorem dX0_copyFrom_52 : decode cX0_copyFrom 52 = .ok (.aload_n 1, 1) := by decide +kernel
theorem dX0_copyFrom_53 : decode cX0_copyFrom 53 = .ok (.getfield 28, 3) := by decide +kernel
theorem dX0_copyFrom_56 : decode cX0_copyFrom 56 = .ok (.aload_n 0, 1) := by decide +kernel
theorem dX0_copyFrom_57 : decode cX0_copyFrom 57 = .ok (.getfield 28, 3) := by decide +kernel
theorem dX0_copyFrom_60 : decode cX0_copyFrom 60 = .ok (.invokestatic 78, 3) := by decide +kernel
theorem dX0_copyFrom_63 : decode cX0_copyFrom 63 = .ok (.aload_n 1, 1) := by decide +kernel
theorem dX0_copyFrom_64 : decode cX0_copyFrom 64 = .ok (.getfield 31, 3) := by decide +kernel
theorem dX0_copyFrom_67 : decode cX0_copyFrom 67 = .ok (.aload_n 0, 1) := by decide +kernel
theorem dX0_copyFrom_68 : decode cX0_copyFrom 68 = .ok (.getfield 31, 3) := by decide +kernel
theorem dX0_copyFrom_71 : decode cX0_copyFrom 71 = .ok (.invokestatic 78, 3) := by decide +kernel
theorem dX0_copyFrom_74 : decode cX0_copyFrom 74 = .ok (.aload_n 1, 1) := by decide +kernel
theorem dX0_copyFrom_75 : decode cX0_copyFrom 75 = .ok (.getfield 34, 3) := by decide +kernel
theorem dX0_copyFrom_78 : decode cX0_copyFrom 78 = .ok (.aload_n 0, 1) := by decide +kernel
theorem dX0_copyFrom_79 : decode cX0_copyFrom 79 = .ok (.getfield 34, 3) := by decide +kernel
theorem dX0_copyFrom_82 : decode cX0_copyFrom 82 = .ok (.invokestatic 78, 3) := by decide +kernel
theorem dX0_copyFrom_85 : decode cX0_copyFrom 85 = .ok (.aload_n 1, 1) := by decide +kernel
theorem dX0_copyFrom_86 : decode cX0_copyFrom 86 = .ok (.getfield 37, 3) := by decide +kernel
theorem dX0_copyFrom_89 : decode cX0_copyFrom 89 = .ok (.aload_n 0, 1) := by decide +kernel
theorem dX0_copyFrom_90 : decode cX0_copyFrom 90 = .ok (.getfield 37, 3) := by decide +kernel
theorem dX0_copyFrom_93 : decode cX0_copyFrom 93 = .ok (.invokestatic 78, 3) := by decide +kernel
theorem dX0_copyFrom_96 : decode cX0_copyFrom 96 = .ok (.return_, 1) := by decide +kernel
theorem dX1_nibble_0 : decode cX1_nibble 0 = .ok (.lload_n 0, 1) := by decide +kernel
theorem dX1_nibble_1 : decode cX1_nibble 1 = .ok (.iconst 4, 1) := by decide +kernel
theorem dX1_nibble_2 : decode cX1_nibble 2 = .ok (.iload_n 2, 1) := by decide +kernel
theorem dX1_nibble_3 : decode cX1_nibble 3 = .ok (.imul, 1) := by decide +kernel
theorem dX1_nibble_4 : decode cX1_nibble 4 = .ok (.lushr, 1) := by decide +kernel
theorem dX1_nibble_5 : decode cX1_nibble 5 = .ok (.l2i, 1) := by decide +kernel
theorem dX1_nibble_6 : decode cX1_nibble 6 = .ok (.bipush 15, 2) := by decide +kernel
theorem dX1_nibble_8 : decode cX1_nibble 8 = .ok (.iand, 1) := by decide +kernel
theorem dX1_nibble_9 : decode cX1_nibble 9 = .ok (.ireturn, 1) := by decide +kernel
theorem dX1_withNibble_0 : decode cX1_withNibble 0 = .ok (.lload_n 0, 1) := by decide +kernel
theorem dX1_withNibble_1 : decode cX1_withNibble 1 = .ok (.ldc2_w 9, 3) := by decide +kernel
theorem dX1_withNibble_4 : decode cX1_withNibble 4 = .ok (.iconst 4, 1) := by decide +kernel
theorem dX1_withNibble_5 : decode cX1_withNibble 5 = .ok (.iload_n 2, 1) := by decide +kernel
theorem dX1_withNibble_6 : decode cX1_withNibble 6 = .ok (.imul, 1) := by decide +kernel
theorem dX1_withNibble_7 : decode cX1_withNibble 7 = .ok (.lshl, 1) := by decide +kernel
theorem dX1_withNibble_8 : decode cX1_withNibble 8 = .ok (.ldc2_w 11, 3) := by decide +kernel
theorem dX1_withNibble_11 : decode cX1_withNibble 11 = .ok (.lxor, 1) := by decide +kernel
theorem dX1_withNibble_12 : decode cX1_withNibble 12 = .ok (.land, 1) := by decide +kernel
theorem dX1_withNibble_13 : decode cX1_withNibble 13 = .ok (.iload_n 3, 1) := by decide +kernel
theorem dX1_withNibble_14 : decode cX1_withNibble 14 = .ok (.i2l, 1) := by decide +kernel
theorem dX1_withNibble_15 : decode cX1_withNibble 15 = .ok (.iconst 4, 1) := by decide +kernel
theorem dX1_withNibble_16 : decode cX1_withNibble 16 = .ok (.iload_n 2, 1) := by decide +kernel
theorem dX1_withNibble_17 : decode cX1_withNibble 17 = .ok (.imul, 1) := by decide +kernel
theorem dX1_withNibble_18 : decode cX1_withNibble 18 = .ok (.lshl, 1) := by decide +kernel
theorem dX1_withNibble_19 : decode cX1_withNibble 19 = .ok (.lor, 1) := by decide +kernel
theorem dX1_withNibble_20 : decode cX1_withNibble 20 = .ok (.lreturn, 1) := by decide +kernel
theorem dX1_spread_0 : decode cX1_spread 0 = .ok (.iload_n 0, 1) := by decide +kernel
theorem dX1_spread_1 : decode cX1_spread 1 = .ok (.ldc 13, 2) := by decide +kernel
theorem dX1_spread_3 : decode cX1_spread 3 = .ok (.iand, 1) := by decide +kernel
theorem dX1_spread_4 : decode cX1_spread 4 = .ok (.i2l, 1) := by decide +kernel
theorem dX1_spread_5 : decode cX1_spread 5 = .ok (.lstore_n 1, 1) := by decide +kernel
theorem dX1_spread_6 : decode cX1_spread 6 = .ok (.lload_n 1, 1) := by decide +kernel
theorem dX1_spread_7 : decode cX1_spread 7 = .ok (.lload_n 1, 1) := by decide +kernel
theorem dX1_spread_8 : decode cX1_spread 8 = .ok (.bipush 24, 2) := by decide +kernel
theorem dX1_spread_10 : decode cX1_spread 10 = .ok (.lshl, 1) := by decide +kernel
theorem dX1_spread_11 : decode cX1_spread 11 = .ok (.lor, 1) := by decide +kernel
theorem dX1_spread_12 : decode cX1_spread 12 = .ok (.ldc2_w 14, 3) := by decide +kernel
theorem dX1_spread_15 : decode cX1_spread 15 = .ok (.land, 1) := by decide +kernel
theorem dX1_spread_16 : decode cX1_spread 16 = .ok (.lstore_n 1, 1) := by decide +kernel
theorem dX1_spread_17 : decode cX1_spread 17 = .ok (.lload_n 1, 1) := by decide +kernel
theorem dX1_spread_18 : decode cX1_spread 18 = .ok (.lload_n 1, 1) := by decide +kernel
theorem dX1_spread_19 : decode cX1_spread 19 = .ok (.bipush 12, 2) := by decide +kernel
theorem dX1_spread_21 : decode cX1_spread 21 = .ok (.lshl, 1) := by decide +kernel
theorem dX1_spread_22 : decode cX1_spread 22 = .ok (.lor, 1) := by decide +kernel
theorem dX1_spread_23 : decode cX1_spread 23 = .ok (.ldc2_w 16, 3) := by decide +kernel
theorem dX1_spread_26 : decode cX1_spread 26 = .ok (.land, 1) := by decide +kernel
theorem dX1_spread_27 : decode cX1_spread 27 = .ok (.lstore_n 1, 1) := by decide +kernel
theorem dX1_spread_28 : decode cX1_spread 28 = .ok (.lload_n 1, 1) := by decide +kernel
theorem dX1_spread_29 : decode cX1_spread 29 = .ok (.lload_n 1, 1) := by decide +kernel
theorem dX1_spread_30 : decode cX1_spread 30 = .ok (.bipush 6, 2) := by decide +kernel
theorem dX1_spread_32 : decode cX1_spread 32 = .ok (.lshl, 1) := by decide +kernel
theorem dX1_spread_33 : decode cX1_spread 33 = .ok (.lor, 1) := by decide +kernel
theorem dX1_spread_34 : decode cX1_spread 34 = .ok (.ldc2_w 18, 3) := by decide +kernel
theorem dX1_spread_37 : decode cX1_spread 37 = .ok (.land, 1) := by decide +kernel
theorem dX1_spread_38 : decode cX1_spread 38 = .ok (.lstore_n 1, 1) := by decide +kernel
theorem dX1_spread_39 : decode cX1_spread 39 = .ok (.lload_n 1, 1) := by decide +kernel
theorem dX1_spread_40 : decode cX1_spread 40 = .ok (.lload_n 1, 1) := by decide +kernel
theorem dX1_spread_41 : decode cX1_spread 41 = .ok (.iconst 3, 1) := by decide +kernel
theorem dX1_spread_42 : decode cX1_spread 42 = .ok (.lshl, 1) := by decide +kernel
theorem dX1_spread_43 : decode cX1_spread 43 = .ok (.lor, 1) := by decide +kernel
theorem dX1_spread_44 : decode cX1_spread 44 = .ok (.ldc2_w 22, 3) := by decide +kernel
theorem dX1_spread_47 : decode cX1_spread 47 = .ok (.land, 1) := by decide +kernel
theorem dX1_spread_48 : decode cX1_spread 48 = .ok (.lreturn, 1) := by decide +kernel
theorem dX1_filled_0 : decode cX1_filled 0 = .ok (.lload_n 0, 1) := by decide +kernel
theorem dX1_filled_1 : decode cX1_filled 1 = .ok (.lload_n 0, 1) := by decide +kernel
theorem dX1_filled_2 : decode cX1_filled 2 = .ok (.iconst 1, 1) := by decide +kernel
theorem dX1_filled_3 : decode cX1_filled 3 = .ok (.lushr, 1) := by decide +kernel
theorem dX1_filled_4 : decode cX1_filled 4 = .ok (.lor, 1) := by decide +kernel
theorem dX1_filled_5 : decode cX1_filled 5 = .ok (.lload_n 0, 1) := by decide +kernel
theorem dX1_filled_6 : decode cX1_filled 6 = .ok (.iconst 2, 1) := by decide +kernel
theorem dX1_filled_7 : decode cX1_filled 7 = .ok (.lushr, 1) := by decide +kernel
theorem dX1_filled_8 : decode cX1_filled 8 = .ok (.lor, 1) := by decide +kernel
theorem dX1_filled_9 : decode cX1_filled 9 = .ok (.lload_n 0, 1) := by decide +kernel
theorem dX1_filled_10 : decode cX1_filled 10 = .ok (.iconst 3, 1) := by decide +kernel
theorem dX1_filled_11 : decode cX1_filled 11 = .ok (.lushr, 1) := by decide +kernel
theorem dX1_filled_12 : decode cX1_filled 12 = .ok (.lor, 1) := by decide +kernel
theorem dX1_filled_13 : decode cX1_filled 13 = .ok (.ldc2_w 22, 3) := by decide +kernel
theorem dX1_filled_16 : decode cX1_filled 16 = .ok (.land, 1) := by decide +kernel
theorem dX1_filled_17 : decode cX1_filled 17 = .ok (.lreturn, 1) := by decide +kernel
theorem dX1_alike_0 : decode cX1_alike 0 = .ok (.iconst 0, 1) := by decide +kernel
theorem dX1_alike_1 : decode cX1_alike 1 = .ok (.istore_n 3, 1) := by decide +kernel
theorem dX1_alike_2 : decode cX1_alike 2 = .ok (.iconst 0, 1) := by decide +kernel
theorem dX1_alike_3 : decode cX1_alike 3 = .ok (.istore 4, 2) := by decide +kernel
theorem dX1_alike_5 : decode cX1_alike 5 = .ok (.iload 4, 2) := by decide +kernel
theorem dX1_alike_7 : decode cX1_alike 7 = .ok (.bipush 16, 2) := by decide +kernel
theorem dX1_alike_9 : decode cX1_alike 9 = .ok (.if_icmp .ge 26, 3) := by decide +kernel
theorem dX1_alike_12 : decode cX1_alike 12 = .ok (.lload_n 0, 1) := by decide +kernel
theorem dX1_alike_13 : decode cX1_alike 13 = .ok (.iload 4, 2) := by decide +kernel
theorem dX1_alike_15 : decode cX1_alike 15 = .ok (.invokestatic 24, 3) := by decide +kernel
theorem dX1_alike_18 : decode cX1_alike 18 = .ok (.iload_n 2, 1) := by decide +kernel
theorem dX1_alike_19 : decode cX1_alike 19 = .ok (.if_icmp .ne 10, 3) := by decide +kernel
theorem dX1_alike_22 : decode cX1_alike 22 = .ok (.iload_n 3, 1) := by decide +kernel
theorem dX1_alike_23 : decode cX1_alike 23 = .ok (.iconst 1, 1) := by decide +kernel
theorem dX1_alike_24 : decode cX1_alike 24 = .ok (.iload 4, 2) := by decide +kernel
theorem dX1_alike_26 : decode cX1_alike 26 = .ok (.ishl, 1) := by decide +kernel
theorem dX1_alike_27 : decode cX1_alike 27 = .ok (.ior, 1) := by decide +kernel
theorem dX1_alike_28 : decode cX1_alike 28 = .ok (.istore_n 3, 1) := by decide +kernel
theorem dX1_alike_29 : decode cX1_alike 29 = .ok (.iinc 4 1, 3) := by decide +kernel
theorem dX1_alike_32 : decode cX1_alike 32 = .ok (.goto (-27), 3) := by decide +kernel
theorem dX1_alike_35 : decode cX1_alike 35 = .ok (.iload_n 3, 1) := by decide +kernel
theorem dX1_alike_36 : decode cX1_alike 36 = .ok (.ireturn, 1) := by decide +kernel
theorem dX1_moved_0 : decode cX1_moved 0 = .ok (.iconst 0, 1) := by decide +kernel
theorem dX1_moved_1 : decode cX1_moved 1 = .ok (.istore_n 3, 1) := by decide +kernel
theorem dX1_moved_2 : decode cX1_moved 2 = .ok (.iconst 0, 1) := by decide +kernel
theorem dX1_moved_3 : decode cX1_moved 3 = .ok (.istore 4, 2) := by decide +kernel
theorem dX1_moved_5 : decode cX1_moved 5 = .ok (.iload 4, 2) := by decide +kernel
theorem dX1_moved_7 : decode cX1_moved 7 = .ok (.bipush 16, 2) := by decide +kernel
theorem dX1_moved_9 : decode cX1_moved 9 = .ok (.if_icmp .ge 79, 3) := by decide +kernel
theorem dX1_moved_12 : decode cX1_moved 12 = .ok (.iload 4, 2) := by decide +kernel
theorem dX1_moved_14 : decode cX1_moved 14 = .ok (.iconst 4, 1) := by decide +kernel
theorem dX1_moved_15 : decode cX1_moved 15 = .ok (.irem, 1) := by decide +kernel
theorem dX1_moved_16 : decode cX1_moved 16 = .ok (.iload_n 1, 1) := by decide +kernel
theorem dX1_moved_17 : decode cX1_moved 17 = .ok (.iadd, 1) := by decide +kernel
theorem dX1_moved_18 : decode cX1_moved 18 = .ok (.istore 5, 2) := by decide +kernel
theorem dX1_moved_20 : decode cX1_moved 20 = .ok (.iload 4, 2) := by decide +kernel
theorem dX1_moved_22 : decode cX1_moved 22 = .ok (.iconst 4, 1) := by decide +kernel
theorem dX1_moved_23 : decode cX1_moved 23 = .ok (.idiv, 1) := by decide +kernel
theorem dX1_moved_24 : decode cX1_moved 24 = .ok (.iload_n 2, 1) := by decide +kernel
theorem dX1_moved_25 : decode cX1_moved 25 = .ok (.iadd, 1) := by decide +kernel
theorem dX1_moved_26 : decode cX1_moved 26 = .ok (.istore 6, 2) := by decide +kernel
theorem dX1_moved_28 : decode cX1_moved 28 = .ok (.iload 5, 2) := by decide +kernel
theorem dX1_moved_30 : decode cX1_moved 30 = .ok (.iconst 0, 1) := by decide +kernel
theorem dX1_moved_31 : decode cX1_moved 31 = .ok (.iconst 3, 1) := by decide +kernel
theorem dX1_moved_32 : decode cX1_moved 32 = .ok (.invokestatic 28, 3) := by decide +kernel
theorem dX1_moved_35 : decode cX1_moved 35 = .ok (.ifCond .eq 17, 3) := by decide +kernel
theorem dX1_moved_38 : decode cX1_moved 38 = .ok (.iload 6, 2) := by decide +kernel
theorem dX1_moved_40 : decode cX1_moved 40 = .ok (.iconst 0, 1) := by decide +kernel
theorem dX1_moved_41 : decode cX1_moved 41 = .ok (.iconst 3, 1) := by decide +kernel
theorem dX1_moved_42 : decode cX1_moved 42 = .ok (.invokestatic 28, 3) := by decide +kernel
theorem dX1_moved_45 : decode cX1_moved 45 = .ok (.ifCond .eq 7, 3) := by decide +kernel
theorem dX1_moved_48 : decode cX1_moved 48 = .ok (.iconst 1, 1) := by decide +kernel
theorem dX1_moved_49 : decode cX1_moved 49 = .ok (.goto 4, 3) := by decide +kernel
theorem dX1_moved_52 : decode cX1_moved 52 = .ok (.iconst 0, 1) := by decide +kernel
theorem dX1_moved_53 : decode cX1_moved 53 = .ok (.istore 7, 2) := by decide +kernel
theorem dX1_moved_55 : decode cX1_moved 55 = .ok (.iload 7, 2) := by decide +kernel
theorem dX1_moved_57 : decode cX1_moved 57 = .ok (.ifCond .eq 25, 3) := by decide +kernel
theorem dX1_moved_60 : decode cX1_moved 60 = .ok (.iload_n 0, 1) := by decide +kernel
theorem dX1_moved_61 : decode cX1_moved 61 = .ok (.iload 4, 2) := by decide +kernel
theorem dX1_moved_63 : decode cX1_moved 63 = .ok (.iushr, 1) := by decide +kernel
theorem dX1_moved_64 : decode cX1_moved 64 = .ok (.iconst 1, 1) := by decide +kernel
theorem dX1_moved_65 : decode cX1_moved 65 = .ok (.iand, 1) := by decide +kernel
theorem dX1_moved_66 : decode cX1_moved 66 = .ok (.iconst 1, 1) := by decide +kernel
theorem dX1_moved_67 : decode cX1_moved 67 = .ok (.if_icmp .ne 15, 3) := by decide +kernel
theorem dX1_moved_70 : decode cX1_moved 70 = .ok (.iload_n 3, 1) := by decide +kernel
theorem dX1_moved_71 : decode cX1_moved 71 = .ok (.iconst 1, 1) := by decide +kernel
theorem dX1_moved_72 : decode cX1_moved 72 = .ok (.iload 6, 2) := by decide +kernel
theorem dX1_moved_74 : decode cX1_moved 74 = .ok (.iconst 4, 1) := by decide +kernel
theorem dX1_moved_75 : decode cX1_moved 75 = .ok (.imul, 1) := by decide +kernel
theorem dX1_moved_76 : decode cX1_moved 76 = .ok (.iload 5, 2) := by decide +kernel
theorem dX1_moved_78 : decode cX1_moved 78 = .ok (.iadd, 1) := by decide +kernel
theorem dX1_moved_79 : decode cX1_moved 79 = .ok (.ishl, 1) := by decide +kernel
theorem dX1_moved_80 : decode cX1_moved 80 = .ok (.ior, 1) := by decide +kernel
theorem dX1_moved_81 : decode cX1_moved 81 = .ok (.istore_n 3, 1) := by decide +kernel
theorem dX1_moved_82 : decode cX1_moved 82 = .ok (.iinc 4 1, 3) := by decide +kernel
theorem dX1_moved_85 : decode cX1_moved 85 = .ok (.goto (-80), 3) := by decide +kernel
theorem dX1_moved_88 : decode cX1_moved 88 = .ok (.iload_n 3, 1) := by decide +kernel
theorem dX1_moved_89 : decode cX1_moved 89 = .ok (.ireturn, 1) := by decide +kernel
theorem dX2_init_0 : decode cX2_init 0 = .ok (.aload_n 0, 1) := by decide +kernel
theorem dX2_init_1 : decode cX2_init 1 = .ok (.invokespecial 3, 3) := by decide +kernel
theorem dX2_init_4 : decode cX2_init 4 = .ok (.aload_n 0, 1) := by decide +kernel
theorem dX2_init_5 : decode cX2_init 5 = .ok (.new 9, 3) := by decide +kernel
theorem dX2_init_8 : decode cX2_init 8 = .ok (.dup, 1) := by decide +kernel
theorem dX2_init_9 : decode cX2_init 9 = .ok (.invokespecial 11, 3) := by decide +kernel
theorem dX2_init_12 : decode cX2_init 12 = .ok (.putfield 12, 3) := by decide +kernel
theorem dX2_init_15 : decode cX2_init 15 = .ok (.aload_n 0, 1) := by decide +kernel
theorem dX2_init_16 : decode cX2_init 16 = .ok (.iconst 0, 1) := by decide +kernel
theorem dX2_init_17 : decode cX2_init 17 = .ok (.putfield 18, 3) := by decide +kernel
theorem dX2_init_20 : decode cX2_init 20 = .ok (.aload_n 0, 1) := by decide +kernel
theorem dX2_init_21 : decode cX2_init 21 = .ok (.iconst 0, 1) := by decide +kernel
theorem dX2_init_22 : decode cX2_init 22 = .ok (.putfield 22, 3) := by decide +kernel
theorem dX2_init_25 : decode cX2_init 25 = .ok (.aload_n 0, 1) := by decide +kernel
theorem dX2_init_26 : decode cX2_init 26 = .ok (.iconst 0, 1) := by decide +kernel
theorem dX2_init_27 : decode cX2_init 27 = .ok (.putfield 25, 3) := by decide +kernel
theorem dX2_init_30 : decode cX2_init 30 = .ok (.aload_n 0, 1) := by decide +kernel
theorem dX2_init_31 : decode cX2_init 31 = .ok (.bipush 12, 2) := by decide +kernel
theorem dX2_init_33 : decode cX2_init 33 = .ok (.newarray .int, 2) := by decide +kernel
theorem dX2_init_35 : decode cX2_init 35 = .ok (.putfield 28, 3) := by decide +kernel
theorem dX2_init_38 : decode cX2_init 38 = .ok (.aload_n 0, 1) := by decide +kernel
theorem dX2_init_39 : decode cX2_init 39 = .ok (.bipush 12, 2) := by decide +kernel
theorem dX2_init_41 : decode cX2_init 41 = .ok (.newarray .int, 2) := by decide +kernel
theorem dX2_init_43 : decode cX2_init 43 = .ok (.putfield 32, 3) := by decide +kernel
theorem dX2_init_46 : decode cX2_init 46 = .ok (.aload_n 0, 1) := by decide +kernel
theorem dX2_init_47 : decode cX2_init 47 = .ok (.bipush 12, 2) := by decide +kernel
theorem dX2_init_49 : decode cX2_init 49 = .ok (.newarray .int, 2) := by decide +kernel
theorem dX2_init_51 : decode cX2_init 51 = .ok (.putfield 35, 3) := by decide +kernel
theorem dX2_init_54 : decode cX2_init 54 = .ok (.return_, 1) := by decide +kernel
theorem dX2_printNext_0 : decode cX2_printNext 0 = .ok (.aload_n 0, 1) := by decide +kernel
theorem dX2_printNext_1 : decode cX2_printNext 1 = .ok (.dup, 1) := by decide +kernel
theorem dX2_printNext_2 : decode cX2_printNext 2 = .ok (.getfield 18, 3) := by decide +kernel
theorem dX2_printNext_5 : decode cX2_printNext 5 = .ok (.iload_n 3, 1) := by decide +kernel
theorem dX2_printNext_6 : decode cX2_printNext 6 = .ok (.iadd, 1) := by decide +kernel
theorem dX2_printNext_7 : decode cX2_printNext 7 = .ok (.putfield 18, 3) := by decide +kernel
theorem dX2_printNext_10 : decode cX2_printNext 10 = .ok (.aload_n 1, 1) := by decide +kernel
theorem dX2_printNext_11 : decode cX2_printNext 11 = .ok (.iload_n 2, 1) := by decide +kernel
theorem dX2_printNext_12 : decode cX2_printNext 12 = .ok (.invokevirtual 38, 3) := by decide +kernel
theorem dX2_printNext_15 : decode cX2_printNext 15 = .ok (.istore 4, 2) := by decide +kernel
theorem dX2_printNext_17 : decode cX2_printNext 17 = .ok (.aload_n 0, 1) := by decide +kernel
theorem dX2_printNext_18 : decode cX2_printNext 18 = .ok (.aload_n 1, 1) := by decide +kernel
theorem dX2_printNext_19 : decode cX2_printNext 19 = .ok (.iload 4, 2) := by decide +kernel
theorem dX2_printNext_21 : decode cX2_printNext 21 = .ok (.invokevirtual 44, 3) := by decide +kernel
theorem dX2_printNext_24 : decode cX2_printNext 24 = .ok (.istore 5, 2) := by decide +kernel
theorem dX2_printNext_26 : decode cX2_printNext 26 = .ok (.aload_n 1, 1) := by decide +kernel
theorem dX2_printNext_27 : decode cX2_printNext 27 = .ok (.aload_n 0, 1) := by decide +kernel
theorem dX2_printNext_28 : decode cX2_printNext 28 = .ok (.getfield 12, 3) := by decide +kernel
theorem dX2_printNext_31 : decode cX2_printNext 31 = .ok (.iload_n 2, 1) := by decide +kernel
theorem dX2_printNext_32 : decode cX2_printNext 32 = .ok (.invokevirtual 48, 3) := by decide +kernel
theorem dX2_printNext_35 : decode cX2_printNext 35 = .ok (.aload_n 0, 1) := by decide +kernel
theorem dX2_printNext_36 : decode cX2_printNext 36 = .ok (.getfield 28, 3) := by decide +kernel
theorem dX2_printNext_39 : decode cX2_printNext 39 = .ok (.aload_n 0, 1) := by decide +kernel
theorem dX2_printNext_40 : decode cX2_printNext 40 = .ok (.getfield 22, 3) := by decide +kernel
theorem dX2_printNext_43 : decode cX2_printNext 43 = .ok (.iload_n 2, 1) := by decide +kernel
theorem dX2_printNext_44 : decode cX2_printNext 44 = .ok (.invokestatic 52, 3) := by decide +kernel
theorem dX2_printNext_47 : decode cX2_printNext 47 = .ok (.aload_n 0, 1) := by decide +kernel
theorem dX2_printNext_48 : decode cX2_printNext 48 = .ok (.getfield 32, 3) := by decide +kernel
theorem dX2_printNext_51 : decode cX2_printNext 51 = .ok (.aload_n 0, 1) := by decide +kernel
theorem dX2_printNext_52 : decode cX2_printNext 52 = .ok (.getfield 22, 3) := by decide +kernel
theorem dX2_printNext_55 : decode cX2_printNext 55 = .ok (.aload_n 0, 1) := by decide +kernel
theorem dX2_printNext_56 : decode cX2_printNext 56 = .ok (.getfield 18, 3) := by decide +kernel
theorem dX2_printNext_59 : decode cX2_printNext 59 = .ok (.invokestatic 52, 3) := by decide +kernel
theorem dX2_printNext_62 : decode cX2_printNext 62 = .ok (.aload_n 0, 1) := by decide +kernel
theorem dX2_printNext_63 : decode cX2_printNext 63 = .ok (.getfield 35, 3) := by decide +kernel
theorem dX2_printNext_66 : decode cX2_printNext 66 = .ok (.aload_n 0, 1) := by decide +kernel
theorem dX2_printNext_67 : decode cX2_printNext 67 = .ok (.getfield 22, 3) := by decide +kernel
theorem dX2_printNext_70 : decode cX2_printNext 70 = .ok (.iload 4, 2) := by decide +kernel
theorem dX2_printNext_72 : decode cX2_printNext 72 = .ok (.invokestatic 52, 3) := by decide +kernel
theorem dX2_printNext_75 : decode cX2_printNext 75 = .ok (.aload_n 0, 1) := by decide +kernel
theorem dX2_printNext_76 : decode cX2_printNext 76 = .ok (.dup, 1) := by decide +kernel
theorem dX2_printNext_77 : decode cX2_printNext 77 = .ok (.getfield 22, 3) := by decide +kernel
theorem dX2_printNext_80 : decode cX2_printNext 80 = .ok (.iconst 1, 1) := by decide +kernel
theorem dX2_printNext_81 : decode cX2_printNext 81 = .ok (.iadd, 1) := by decide +kernel
theorem dX2_printNext_82 : decode cX2_printNext 82 = .ok (.putfield 22, 3) := by decide +kernel
theorem dX2_printNext_85 : decode cX2_printNext 85 = .ok (.aload_n 0, 1) := by decide +kernel
theorem dX2_printNext_86 : decode cX2_printNext 86 = .ok (.dup, 1) := by decide +kernel
theorem dX2_printNext_87 : decode cX2_printNext 87 = .ok (.getfield 25, 3) := by decide +kernel
theorem dX2_printNext_90 : decode cX2_printNext 90 = .ok (.iload 5, 2) := by decide +kernel
theorem dX2_printNext_92 : decode cX2_printNext 92 = .ok (.iadd, 1) := by decide +kernel
theorem dX2_printNext_93 : decode cX2_printNext 93 = .ok (.putfield 25, 3) := by decide +kernel
theorem dX2_printNext_96 : decode cX2_printNext 96 = .ok (.iload 5, 2) := by decide +kernel
theorem dX2_printNext_98 : decode cX2_printNext 98 = .ok (.ireturn, 1) := by decide +kernel
theorem dX2_smearOn_0 : decode cX2_smearOn 0 = .ok (.iconst 0, 1) := by decide +kernel
theorem dX2_smearOn_1 : decode cX2_smearOn 1 = .ok (.istore_n 3, 1) := by decide +kernel
theorem dX2_smearOn_2 : decode cX2_smearOn 2 = .ok (.iconst 0, 1) := by decide +kernel
theorem dX2_smearOn_3 : decode cX2_smearOn 3 = .ok (.istore 4, 2) := by decide +kernel
theorem dX2_smearOn_5 : decode cX2_smearOn 5 = .ok (.iload 4, 2) := by decide +kernel
theorem dX2_smearOn_7 : decode cX2_smearOn 7 = .ok (.aload_n 0, 1) := by decide +kernel
theorem dX2_smearOn_8 : decode cX2_smearOn 8 = .ok (.getfield 22, 3) := by decide +kernel
theorem dX2_smearOn_11 : decode cX2_smearOn 11 = .ok (.if_icmp .ge 54, 3) := by decide +kernel
theorem dX2_smearOn_14 : decode cX2_smearOn 14 = .ok (.aload_n 0, 1) := by decide +kernel
theorem dX2_smearOn_15 : decode cX2_smearOn 15 = .ok (.getfield 18, 3) := by decide +kernel
theorem dX2_smearOn_18 : decode cX2_smearOn 18 = .ok (.aload_n 0, 1) := by decide +kernel
theorem dX2_smearOn_19 : decode cX2_smearOn 19 = .ok (.getfield 32, 3) := by decide +kernel
theorem dX2_smearOn_22 : decode cX2_smearOn 22 = .ok (.iload 4, 2) := by decide +kernel
theorem dX2_smearOn_24 : decode cX2_smearOn 24 = .ok (.invokestatic 58, 3) := by decide +kernel
theorem dX2_smearOn_27 : decode cX2_smearOn 27 = .ok (.isub, 1) := by decide +kernel
theorem dX2_smearOn_28 : decode cX2_smearOn 28 = .ok (.istore 5, 2) := by decide +kernel
theorem dX2_smearOn_30 : decode cX2_smearOn 30 = .ok (.iload_n 3, 1) := by decide +kernel
theorem dX2_smearOn_31 : decode cX2_smearOn 31 = .ok (.aload_n 1, 1) := by decide +kernel
theorem dX2_smearOn_32 : decode cX2_smearOn 32 = .ok (.aload_n 0, 1) := by decide +kernel
theorem dX2_smearOn_33 : decode cX2_smearOn 33 = .ok (.getfield 28, 3) := by decide +kernel
theorem dX2_smearOn_36 : decode cX2_smearOn 36 = .ok (.iload 4, 2) := by decide +kernel
theorem dX2_smearOn_38 : decode cX2_smearOn 38 = .ok (.invokestatic 58, 3) := by decide +kernel
theorem dX2_smearOn_41 : decode cX2_smearOn 41 = .ok (.iload 5, 2) := by decide +kernel
theorem dX2_smearOn_43 : decode cX2_smearOn 43 = .ok (.iload_n 2, 1) := by decide +kernel
theorem dX2_smearOn_44 : decode cX2_smearOn 44 = .ok (.aload_n 0, 1) := by decide +kernel
theorem dX2_smearOn_45 : decode cX2_smearOn 45 = .ok (.getfield 35, 3) := by decide +kernel
theorem dX2_smearOn_48 : decode cX2_smearOn 48 = .ok (.iload 4, 2) := by decide +kernel
theorem dX2_smearOn_50 : decode cX2_smearOn 50 = .ok (.invokestatic 58, 3) := by decide +kernel
theorem dX2_smearOn_53 : decode cX2_smearOn 53 = .ok (.iand, 1) := by decide +kernel
theorem dX2_smearOn_54 : decode cX2_smearOn 54 = .ok (.invokevirtual 62, 3) := by decide +kernel
theorem dX2_smearOn_57 : decode cX2_smearOn 57 = .ok (.iadd, 1) := by decide +kernel
theorem dX2_smearOn_58 : decode cX2_smearOn 58 = .ok (.istore_n 3, 1) := by decide +kernel
theorem dX2_smearOn_59 : decode cX2_smearOn 59 = .ok (.iinc 4 1, 3) := by decide +kernel
theorem dX2_smearOn_62 : decode cX2_smearOn 62 = .ok (.goto (-57), 3) := by decide +kernel
theorem dX2_smearOn_65 : decode cX2_smearOn 65 = .ok (.iload_n 3, 1) := by decide +kernel
theorem dX2_smearOn_66 : decode cX2_smearOn 66 = .ok (.ireturn, 1) := by decide +kernel
theorem dX2_printed_0 : decode cX2_printed 0 = .ok (.iconst 0, 1) := by decide +kernel
theorem dX2_printed_1 : decode cX2_printed 1 = .ok (.istore_n 1, 1) := by decide +kernel
theorem dX2_printed_2 : decode cX2_printed 2 = .ok (.iconst 0, 1) := by decide +kernel
theorem dX2_printed_3 : decode cX2_printed 3 = .ok (.istore_n 2, 1) := by decide +kernel
theorem dX2_printed_4 : decode cX2_printed 4 = .ok (.iload_n 2, 1) := by decide +kernel
theorem dX2_printed_5 : decode cX2_printed 5 = .ok (.aload_n 0, 1) := by decide +kernel
theorem dX2_printed_6 : decode cX2_printed 6 = .ok (.getfield 22, 3) := by decide +kernel
theorem dX2_printed_9 : decode cX2_printed 9 = .ok (.if_icmp .ge 22, 3) := by decide +kernel
theorem dX2_printed_12 : decode cX2_printed 12 = .ok (.iload_n 1, 1) := by decide +kernel
theorem dX2_printed_13 : decode cX2_printed 13 = .ok (.iconst 1, 1) := by decide +kernel
theorem dX2_printed_14 : decode cX2_printed 14 = .ok (.aload_n 0, 1) := by decide +kernel
theorem dX2_printed_15 : decode cX2_printed 15 = .ok (.getfield 28, 3) := by decide +kernel
theorem dX2_printed_18 : decode cX2_printed 18 = .ok (.iload_n 2, 1) := by decide +kernel
theorem dX2_printed_19 : decode cX2_printed 19 = .ok (.invokestatic 58, 3) := by decide +kernel
theorem dX2_printed_22 : decode cX2_printed 22 = .ok (.ishl, 1) := by decide +kernel
theorem dX2_printed_23 : decode cX2_printed 23 = .ok (.ior, 1) := by decide +kernel
theorem dX2_printed_24 : decode cX2_printed 24 = .ok (.istore_n 1, 1) := by decide +kernel
theorem dX2_printed_25 : decode cX2_printed 25 = .ok (.iinc 2 1, 3) := by decide +kernel
theorem dX2_printed_28 : decode cX2_printed 28 = .ok (.goto (-24), 3) := by decide +kernel
theorem dX2_printed_31 : decode cX2_printed 31 = .ok (.iload_n 1, 1) := by decide +kernel
theorem dX2_printed_32 : decode cX2_printed 32 = .ok (.ireturn, 1) := by decide +kernel
theorem dX2_wetHours_0 : decode cX2_wetHours 0 = .ok (.iconst 0, 1) := by decide +kernel
theorem dX2_wetHours_1 : decode cX2_wetHours 1 = .ok (.istore_n 3, 1) := by decide +kernel
theorem dX2_wetHours_2 : decode cX2_wetHours 2 = .ok (.iconst 0, 1) := by decide +kernel
theorem dX2_wetHours_3 : decode cX2_wetHours 3 = .ok (.istore 4, 2) := by decide +kernel
theorem dX2_wetHours_5 : decode cX2_wetHours 5 = .ok (.iload 4, 2) := by decide +kernel
theorem dX2_wetHours_7 : decode cX2_wetHours 7 = .ok (.aload_n 0, 1) := by decide +kernel
theorem dX2_wetHours_8 : decode cX2_wetHours 8 = .ok (.getfield 22, 3) := by decide +kernel
theorem dX2_wetHours_11 : decode cX2_wetHours 11 = .ok (.if_icmp .ge 66, 3) := by decide +kernel
theorem dX2_wetHours_14 : decode cX2_wetHours 14 = .ok (.aload_n 0, 1) := by decide +kernel
theorem dX2_wetHours_15 : decode cX2_wetHours 15 = .ok (.getfield 32, 3) := by decide +kernel
theorem dX2_wetHours_18 : decode cX2_wetHours 18 = .ok (.iload 4, 2) := by decide +kernel
theorem dX2_wetHours_20 : decode cX2_wetHours 20 = .ok (.invokestatic 58, 3) := by decide +kernel
theorem dX2_wetHours_23 : decode cX2_wetHours 23 = .ok (.aload_n 1, 1) := by decide +kernel
theorem dX2_wetHours_24 : decode cX2_wetHours 24 = .ok (.getfield 66, 3) := by decide +kernel
theorem dX2_wetHours_27 : decode cX2_wetHours 27 = .ok (.aload_n 0, 1) := by decide +kernel
theorem dX2_wetHours_28 : decode cX2_wetHours 28 = .ok (.getfield 28, 3) := by decide +kernel
theorem dX2_wetHours_31 : decode cX2_wetHours 31 = .ok (.iload 4, 2) := by decide +kernel
theorem dX2_wetHours_33 : decode cX2_wetHours 33 = .ok (.invokestatic 58, 3) := by decide +kernel
theorem dX2_wetHours_36 : decode cX2_wetHours 36 = .ok (.invokestatic 58, 3) := by decide +kernel
theorem dX2_wetHours_39 : decode cX2_wetHours 39 = .ok (.iadd, 1) := by decide +kernel
theorem dX2_wetHours_40 : decode cX2_wetHours 40 = .ok (.aload_n 0, 1) := by decide +kernel
theorem dX2_wetHours_41 : decode cX2_wetHours 41 = .ok (.getfield 18, 3) := by decide +kernel
theorem dX2_wetHours_44 : decode cX2_wetHours 44 = .ok (.isub, 1) := by decide +kernel
theorem dX2_wetHours_45 : decode cX2_wetHours 45 = .ok (.istore 5, 2) := by decide +kernel
theorem dX2_wetHours_47 : decode cX2_wetHours 47 = .ok (.aload_n 0, 1) := by decide +kernel
theorem dX2_wetHours_48 : decode cX2_wetHours 48 = .ok (.getfield 35, 3) := by decide +kernel
theorem dX2_wetHours_51 : decode cX2_wetHours 51 = .ok (.iload 4, 2) := by decide +kernel
theorem dX2_wetHours_53 : decode cX2_wetHours 53 = .ok (.invokestatic 58, 3) := by decide +kernel
theorem dX2_wetHours_56 : decode cX2_wetHours 56 = .ok (.iload_n 2, 1) := by decide +kernel
theorem dX2_wetHours_57 : decode cX2_wetHours 57 = .ok (.iushr, 1) := by decide +kernel
theorem dX2_wetHours_58 : decode cX2_wetHours 58 = .ok (.iconst 1, 1) := by decide +kernel
theorem dX2_wetHours_59 : decode cX2_wetHours 59 = .ok (.iand, 1) := by decide +kernel
theorem dX2_wetHours_60 : decode cX2_wetHours 60 = .ok (.iconst 1, 1) := by decide +kernel
theorem dX2_wetHours_61 : decode cX2_wetHours 61 = .ok (.if_icmp .ne 10, 3) := by decide +kernel
theorem dX2_wetHours_64 : decode cX2_wetHours 64 = .ok (.iload_n 3, 1) := by decide +kernel
theorem dX2_wetHours_65 : decode cX2_wetHours 65 = .ok (.iload 5, 2) := by decide +kernel
theorem dX2_wetHours_67 : decode cX2_wetHours 67 = .ok (.invokestatic 69, 3) := by decide +kernel
theorem dX2_wetHours_70 : decode cX2_wetHours 70 = .ok (.istore_n 3, 1) := by decide +kernel
theorem dX2_wetHours_71 : decode cX2_wetHours 71 = .ok (.iinc 4 1, 3) := by decide +kernel
theorem dX2_wetHours_74 : decode cX2_wetHours 74 = .ok (.goto (-69), 3) := by decide +kernel
theorem dX2_wetHours_77 : decode cX2_wetHours 77 = .ok (.iload_n 3, 1) := by decide +kernel
theorem dX2_wetHours_78 : decode cX2_wetHours 78 = .ok (.ireturn, 1) := by decide +kernel
theorem dX2_wetCells_0 : decode cX2_wetCells 0 = .ok (.iconst 0, 1) := by decide +kernel
theorem dX2_wetCells_1 : decode cX2_wetCells 1 = .ok (.istore_n 2, 1) := by decide +kernel
theorem dX2_wetCells_2 : decode cX2_wetCells 2 = .ok (.iconst 0, 1) := by decide +kernel
theorem dX2_wetCells_3 : decode cX2_wetCells 3 = .ok (.istore_n 3, 1) := by decide +kernel
theorem dX2_wetCells_4 : decode cX2_wetCells 4 = .ok (.iload_n 3, 1) := by decide +kernel
theorem dX2_wetCells_5 : decode cX2_wetCells 5 = .ok (.bipush 16, 2) := by decide +kernel
theorem dX2_wetCells_7 : decode cX2_wetCells 7 = .ok (.if_icmp .ge 21, 3) := by decide +kernel
theorem dX2_wetCells_10 : decode cX2_wetCells 10 = .ok (.aload_n 0, 1) := by decide +kernel
theorem dX2_wetCells_11 : decode cX2_wetCells 11 = .ok (.aload_n 1, 1) := by decide +kernel
theorem dX2_wetCells_12 : decode cX2_wetCells 12 = .ok (.iload_n 3, 1) := by decide +kernel
theorem dX2_wetCells_13 : decode cX2_wetCells 13 = .ok (.invokevirtual 75, 3) := by decide +kernel
theorem dX2_wetCells_16 : decode cX2_wetCells 16 = .ok (.ifCond .le 6, 3) := by decide +kernel
theorem dX2_wetCells_19 : decode cX2_wetCells 19 = .ok (.iinc 2 1, 3) := by decide +kernel
theorem dX2_wetCells_22 : decode cX2_wetCells 22 = .ok (.iinc 3 1, 3) := by decide +kernel
theorem dX2_wetCells_25 : decode cX2_wetCells 25 = .ok (.goto (-21), 3) := by decide +kernel
theorem dX2_wetCells_28 : decode cX2_wetCells 28 = .ok (.iload_n 2, 1) := by decide +kernel
theorem dX2_wetCells_29 : decode cX2_wetCells 29 = .ok (.ireturn, 1) := by decide +kernel
theorem dX2_renew_0 : decode cX2_renew 0 = .ok (.aload_n 0, 1) := by decide +kernel
theorem dX2_renew_1 : decode cX2_renew 1 = .ok (.getfield 22, 3) := by decide +kernel
theorem dX2_renew_4 : decode cX2_renew 4 = .ok (.istore_n 1, 1) := by decide +kernel
theorem dX2_renew_5 : decode cX2_renew 5 = .ok (.aload_n 0, 1) := by decide +kernel
theorem dX2_renew_6 : decode cX2_renew 6 = .ok (.getfield 12, 3) := by decide +kernel
theorem dX2_renew_9 : decode cX2_renew 9 = .ok (.invokevirtual 78, 3) := by decide +kernel
theorem dX2_renew_12 : decode cX2_renew 12 = .ok (.aload_n 0, 1) := by decide +kernel
theorem dX2_renew_13 : decode cX2_renew 13 = .ok (.iconst 0, 1) := by decide +kernel
theorem dX2_renew_14 : decode cX2_renew 14 = .ok (.putfield 18, 3) := by decide +kernel
theorem dX2_renew_17 : decode cX2_renew 17 = .ok (.aload_n 0, 1) := by decide +kernel
theorem dX2_renew_18 : decode cX2_renew 18 = .ok (.iconst 0, 1) := by decide +kernel
theorem dX2_renew_19 : decode cX2_renew 19 = .ok (.putfield 22, 3) := by decide +kernel
theorem dX2_renew_22 : decode cX2_renew 22 = .ok (.aload_n 0, 1) := by decide +kernel
theorem dX2_renew_23 : decode cX2_renew 23 = .ok (.iconst 0, 1) := by decide +kernel
theorem dX2_renew_24 : decode cX2_renew 24 = .ok (.putfield 25, 3) := by decide +kernel
theorem dX2_renew_27 : decode cX2_renew 27 = .ok (.iload_n 1, 1) := by decide +kernel
theorem dX2_renew_28 : decode cX2_renew 28 = .ok (.ireturn, 1) := by decide +kernel
theorem dX2_copyFrom_0 : decode cX2_copyFrom 0 = .ok (.aload_n 0, 1) := by decide +kernel
theorem dX2_copyFrom_1 : decode cX2_copyFrom 1 = .ok (.getfield 12, 3) := by decide +kernel
theorem dX2_copyFrom_4 : decode cX2_copyFrom 4 = .ok (.aload_n 1, 1) := by decide +kernel
theorem dX2_copyFrom_5 : decode cX2_copyFrom 5 = .ok (.getfield 12, 3) := by decide +kernel
theorem dX2_copyFrom_8 : decode cX2_copyFrom 8 = .ok (.invokevirtual 81, 3) := by decide +kernel
theorem dX2_copyFrom_11 : decode cX2_copyFrom 11 = .ok (.aload_n 0, 1) := by decide +kernel
theorem dX2_copyFrom_12 : decode cX2_copyFrom 12 = .ok (.aload_n 1, 1) := by decide +kernel
theorem dX2_copyFrom_13 : decode cX2_copyFrom 13 = .ok (.getfield 18, 3) := by decide +kernel
theorem dX2_copyFrom_16 : decode cX2_copyFrom 16 = .ok (.putfield 18, 3) := by decide +kernel
theorem dX2_copyFrom_19 : decode cX2_copyFrom 19 = .ok (.aload_n 0, 1) := by decide +kernel
theorem dX2_copyFrom_20 : decode cX2_copyFrom 20 = .ok (.aload_n 1, 1) := by decide +kernel
theorem dX2_copyFrom_21 : decode cX2_copyFrom 21 = .ok (.getfield 22, 3) := by decide +kernel
theorem dX2_copyFrom_24 : decode cX2_copyFrom 24 = .ok (.putfield 22, 3) := by decide +kernel
theorem dX2_copyFrom_27 : decode cX2_copyFrom 27 = .ok (.aload_n 0, 1) := by decide +kernel
theorem dX2_copyFrom_28 : decode cX2_copyFrom 28 = .ok (.aload_n 1, 1) := by decide +kernel
theorem dX2_copyFrom_29 : decode cX2_copyFrom 29 = .ok (.getfield 25, 3) := by decide +kernel
theorem dX2_copyFrom_32 : decode cX2_copyFrom 32 = .ok (.putfield 25, 3) := by decide +kernel
theorem dX2_copyFrom_35 : decode cX2_copyFrom 35 = .ok (.aload_n 1, 1) := by decide +kernel
theorem dX2_copyFrom_36 : decode cX2_copyFrom 36 = .ok (.getfield 28, 3) := by decide +kernel
theorem dX2_copyFrom_39 : decode cX2_copyFrom 39 = .ok (.aload_n 0, 1) := by decide +kernel
theorem dX2_copyFrom_40 : decode cX2_copyFrom 40 = .ok (.getfield 28, 3) := by decide +kernel
theorem dX2_copyFrom_43 : decode cX2_copyFrom 43 = .ok (.invokestatic 85, 3) := by decide +kernel
theorem dX2_copyFrom_46 : decode cX2_copyFrom 46 = .ok (.aload_n 1, 1) := by decide +kernel
theorem dX2_copyFrom_47 : decode cX2_copyFrom 47 = .ok (.getfield 32, 3) := by decide +kernel
theorem dX2_copyFrom_50 : decode cX2_copyFrom 50 = .ok (.aload_n 0, 1) := by decide +kernel
theorem dX2_copyFrom_51 : decode cX2_copyFrom 51 = .ok (.getfield 32, 3) := by decide +kernel
theorem dX2_copyFrom_54 : decode cX2_copyFrom 54 = .ok (.invokestatic 85, 3) := by decide +kernel
theorem dX2_copyFrom_57 : decode cX2_copyFrom 57 = .ok (.aload_n 1, 1) := by decide +kernel
theorem dX2_copyFrom_58 : decode cX2_copyFrom 58 = .ok (.getfield 35, 3) := by decide +kernel
theorem dX2_copyFrom_61 : decode cX2_copyFrom 61 = .ok (.aload_n 0, 1) := by decide +kernel
theorem dX2_copyFrom_62 : decode cX2_copyFrom 62 = .ok (.getfield 35, 3) := by decide +kernel
theorem dX2_copyFrom_65 : decode cX2_copyFrom 65 = .ok (.invokestatic 85, 3) := by decide +kernel
theorem dX2_copyFrom_68 : decode cX2_copyFrom 68 = .ok (.return_, 1) := by decide +kernel
theorem dX3_init_0 : decode cX3_init 0 = .ok (.aload_n 0, 1) := by decide +kernel
theorem dX3_init_1 : decode cX3_init 1 = .ok (.invokespecial 3, 3) := by decide +kernel
theorem dX3_init_4 : decode cX3_init 4 = .ok (.aload_n 0, 1) := by decide +kernel
theorem dX3_init_5 : decode cX3_init 5 = .ok (.iconst 5, 1) := by decide +kernel
theorem dX3_init_6 : decode cX3_init 6 = .ok (.anewarray 9, 3) := by decide +kernel
theorem dX3_init_9 : decode cX3_init 9 = .ok (.putfield 11, 3) := by decide +kernel
theorem dX3_init_12 : decode cX3_init 12 = .ok (.aload_n 0, 1) := by decide +kernel
theorem dX3_init_13 : decode cX3_init 13 = .ok (.iconst 0, 1) := by decide +kernel
theorem dX3_init_14 : decode cX3_init 14 = .ok (.putfield 17, 3) := by decide +kernel
theorem dX3_init_17 : decode cX3_init 17 = .ok (.aload_n 0, 1) := by decide +kernel
theorem dX3_init_18 : decode cX3_init 18 = .ok (.iconst 0, 1) := by decide +kernel
theorem dX3_init_19 : decode cX3_init 19 = .ok (.putfield 21, 3) := by decide +kernel
theorem dX3_init_22 : decode cX3_init 22 = .ok (.iconst 0, 1) := by decide +kernel
theorem dX3_init_23 : decode cX3_init 23 = .ok (.istore_n 1, 1) := by decide +kernel
theorem dX3_init_24 : decode cX3_init 24 = .ok (.iload_n 1, 1) := by decide +kernel
theorem dX3_init_25 : decode cX3_init 25 = .ok (.aload_n 0, 1) := by decide +kernel
theorem dX3_init_26 : decode cX3_init 26 = .ok (.getfield 11, 3) := by decide +kernel
theorem dX3_init_29 : decode cX3_init 29 = .ok (.arraylength, 1) := by decide +kernel
theorem dX3_init_30 : decode cX3_init 30 = .ok (.if_icmp .ge 22, 3) := by decide +kernel
theorem dX3_init_33 : decode cX3_init 33 = .ok (.aload_n 0, 1) := by decide +kernel
theorem dX3_init_34 : decode cX3_init 34 = .ok (.getfield 11, 3) := by decide +kernel
theorem dX3_init_37 : decode cX3_init 37 = .ok (.iload_n 1, 1) := by decide +kernel
theorem dX3_init_38 : decode cX3_init 38 = .ok (.new 9, 3) := by decide +kernel
theorem dX3_init_41 : decode cX3_init 41 = .ok (.dup, 1) := by decide +kernel
theorem dX3_init_42 : decode cX3_init 42 = .ok (.invokespecial 24, 3) := by decide +kernel
theorem dX3_init_45 : decode cX3_init 45 = .ok (.aastore, 1) := by decide +kernel
theorem dX3_init_46 : decode cX3_init 46 = .ok (.iinc 1 1, 3) := by decide +kernel
theorem dX3_init_49 : decode cX3_init 49 = .ok (.goto (-25), 3) := by decide +kernel
theorem dX3_init_52 : decode cX3_init 52 = .ok (.return_, 1) := by decide +kernel
theorem dX3_keep_0 : decode cX3_keep 0 = .ok (.aload_n 0, 1) := by decide +kernel
theorem dX3_keep_1 : decode cX3_keep 1 = .ok (.aload_n 0, 1) := by decide +kernel
theorem dX3_keep_2 : decode cX3_keep 2 = .ok (.getfield 17, 3) := by decide +kernel
theorem dX3_keep_5 : decode cX3_keep 5 = .ok (.invokevirtual 25, 3) := by decide +kernel
theorem dX3_keep_8 : decode cX3_keep 8 = .ok (.astore_n 2, 1) := by decide +kernel
theorem dX3_keep_9 : decode cX3_keep 9 = .ok (.aload_n 2, 1) := by decide +kernel
theorem dX3_keep_10 : decode cX3_keep 10 = .ok (.ifnonnull 4, 3) := by decide +kernel
theorem dX3_keep_13 : decode cX3_keep 13 = .ok (.return_, 1) := by decide +kernel
theorem dX3_keep_14 : decode cX3_keep 14 = .ok (.aload_n 2, 1) := by decide +kernel
theorem dX3_keep_15 : decode cX3_keep 15 = .ok (.aload_n 1, 1) := by decide +kernel
theorem dX3_keep_16 : decode cX3_keep 16 = .ok (.invokevirtual 29, 3) := by decide +kernel
theorem dX3_keep_19 : decode cX3_keep 19 = .ok (.aload_n 0, 1) := by decide +kernel
theorem dX3_keep_20 : decode cX3_keep 20 = .ok (.aload_n 0, 1) := by decide +kernel
theorem dX3_keep_21 : decode cX3_keep 21 = .ok (.getfield 17, 3) := by decide +kernel
theorem dX3_keep_24 : decode cX3_keep 24 = .ok (.iconst 1, 1) := by decide +kernel
theorem dX3_keep_25 : decode cX3_keep 25 = .ok (.iadd, 1) := by decide +kernel
theorem dX3_keep_26 : decode cX3_keep 26 = .ok (.iconst 5, 1) := by decide +kernel
theorem dX3_keep_27 : decode cX3_keep 27 = .ok (.irem, 1) := by decide +kernel
theorem dX3_keep_28 : decode cX3_keep 28 = .ok (.putfield 17, 3) := by decide +kernel
theorem dX3_keep_31 : decode cX3_keep 31 = .ok (.aload_n 0, 1) := by decide +kernel
theorem dX3_keep_32 : decode cX3_keep 32 = .ok (.aload_n 0, 1) := by decide +kernel
theorem dX3_keep_33 : decode cX3_keep 33 = .ok (.getfield 21, 3) := by decide +kernel
theorem dX3_keep_36 : decode cX3_keep 36 = .ok (.iconst 1, 1) := by decide +kernel
theorem dX3_keep_37 : decode cX3_keep 37 = .ok (.iadd, 1) := by decide +kernel
theorem dX3_keep_38 : decode cX3_keep 38 = .ok (.iconst 5, 1) := by decide +kernel
theorem dX3_keep_39 : decode cX3_keep 39 = .ok (.invokestatic 33, 3) := by decide +kernel
theorem dX3_keep_42 : decode cX3_keep 42 = .ok (.putfield 21, 3) := by decide +kernel
theorem dX3_keep_45 : decode cX3_keep 45 = .ok (.return_, 1) := by decide +kernel
theorem dX3_keptAt_0 : decode cX3_keptAt 0 = .ok (.iload_n 1, 1) := by decide +kernel
theorem dX3_keptAt_1 : decode cX3_keptAt 1 = .ok (.ifCond .lt 21, 3) := by decide +kernel
theorem dX3_keptAt_4 : decode cX3_keptAt 4 = .ok (.iload_n 1, 1) := by decide +kernel
theorem dX3_keptAt_5 : decode cX3_keptAt 5 = .ok (.aload_n 0, 1) := by decide +kernel
theorem dX3_keptAt_6 : decode cX3_keptAt 6 = .ok (.getfield 11, 3) := by decide +kernel
theorem dX3_keptAt_9 : decode cX3_keptAt 9 = .ok (.arraylength, 1) := by decide +kernel
theorem dX3_keptAt_10 : decode cX3_keptAt 10 = .ok (.if_icmp .ge 12, 3) := by decide +kernel
theorem dX3_keptAt_13 : decode cX3_keptAt 13 = .ok (.aload_n 0, 1) := by decide +kernel
theorem dX3_keptAt_14 : decode cX3_keptAt 14 = .ok (.getfield 11, 3) := by decide +kernel
theorem dX3_keptAt_17 : decode cX3_keptAt 17 = .ok (.iload_n 1, 1) := by decide +kernel
theorem dX3_keptAt_18 : decode cX3_keptAt 18 = .ok (.aaload, 1) := by decide +kernel
theorem dX3_keptAt_19 : decode cX3_keptAt 19 = .ok (.goto 4, 3) := by decide +kernel
theorem dX3_keptAt_22 : decode cX3_keptAt 22 = .ok (.aconst_null, 1) := by decide +kernel
theorem dX3_keptAt_23 : decode cX3_keptAt 23 = .ok (.areturn, 1) := by decide +kernel
theorem dX3_restore_0 : decode cX3_restore 0 = .ok (.aload_n 0, 1) := by decide +kernel
theorem dX3_restore_1 : decode cX3_restore 1 = .ok (.getfield 17, 3) := by decide +kernel
theorem dX3_restore_4 : decode cX3_restore 4 = .ok (.iconst 5, 1) := by decide +kernel
theorem dX3_restore_5 : decode cX3_restore 5 = .ok (.iadd, 1) := by decide +kernel
theorem dX3_restore_6 : decode cX3_restore 6 = .ok (.iconst 1, 1) := by decide +kernel
theorem dX3_restore_7 : decode cX3_restore 7 = .ok (.isub, 1) := by decide +kernel
theorem dX3_restore_8 : decode cX3_restore 8 = .ok (.iconst 5, 1) := by decide +kernel
theorem dX3_restore_9 : decode cX3_restore 9 = .ok (.irem, 1) := by decide +kernel
theorem dX3_restore_10 : decode cX3_restore 10 = .ok (.istore_n 2, 1) := by decide +kernel
theorem dX3_restore_11 : decode cX3_restore 11 = .ok (.aload_n 0, 1) := by decide +kernel
theorem dX3_restore_12 : decode cX3_restore 12 = .ok (.iload_n 2, 1) := by decide +kernel
theorem dX3_restore_13 : decode cX3_restore 13 = .ok (.invokevirtual 25, 3) := by decide +kernel
theorem dX3_restore_16 : decode cX3_restore 16 = .ok (.astore_n 3, 1) := by decide +kernel
theorem dX3_restore_17 : decode cX3_restore 17 = .ok (.aload_n 0, 1) := by decide +kernel
theorem dX3_restore_18 : decode cX3_restore 18 = .ok (.getfield 21, 3) := by decide +kernel
theorem dX3_restore_21 : decode cX3_restore 21 = .ok (.ifCond .eq 7, 3) := by decide +kernel
theorem dX3_restore_24 : decode cX3_restore 24 = .ok (.aload_n 3, 1) := by decide +kernel
theorem dX3_restore_25 : decode cX3_restore 25 = .ok (.ifnonnull 4, 3) := by decide +kernel
theorem dX3_restore_28 : decode cX3_restore 28 = .ok (.return_, 1) := by decide +kernel
theorem dX3_restore_29 : decode cX3_restore 29 = .ok (.aload_n 1, 1) := by decide +kernel
theorem dX3_restore_30 : decode cX3_restore 30 = .ok (.aload_n 3, 1) := by decide +kernel
theorem dX3_restore_31 : decode cX3_restore 31 = .ok (.invokevirtual 29, 3) := by decide +kernel
theorem dX3_restore_34 : decode cX3_restore 34 = .ok (.aload_n 0, 1) := by decide +kernel
theorem dX3_restore_35 : decode cX3_restore 35 = .ok (.iload_n 2, 1) := by decide +kernel
theorem dX3_restore_36 : decode cX3_restore 36 = .ok (.putfield 17, 3) := by decide +kernel
theorem dX3_restore_39 : decode cX3_restore 39 = .ok (.aload_n 0, 1) := by decide +kernel
theorem dX3_restore_40 : decode cX3_restore 40 = .ok (.dup, 1) := by decide +kernel
theorem dX3_restore_41 : decode cX3_restore 41 = .ok (.getfield 21, 3) := by decide +kernel
theorem dX3_restore_44 : decode cX3_restore 44 = .ok (.iconst 1, 1) := by decide +kernel
theorem dX3_restore_45 : decode cX3_restore 45 = .ok (.isub, 1) := by decide +kernel
theorem dX3_restore_46 : decode cX3_restore 46 = .ok (.putfield 21, 3) := by decide +kernel
theorem dX3_restore_49 : decode cX3_restore 49 = .ok (.return_, 1) := by decide +kernel
theorem dX4_init_0 : decode cX4_init 0 = .ok (.aload_n 0, 1) := by decide +kernel
theorem dX4_init_1 : decode cX4_init 1 = .ok (.invokespecial 3, 3) := by decide +kernel
theorem dX4_init_4 : decode cX4_init 4 = .ok (.aload_n 0, 1) := by decide +kernel
theorem dX4_init_5 : decode cX4_init 5 = .ok (.iconst 0, 1) := by decide +kernel
theorem dX4_init_6 : decode cX4_init 6 = .ok (.putfield 9, 3) := by decide +kernel
theorem dX4_init_9 : decode cX4_init 9 = .ok (.aload_n 0, 1) := by decide +kernel
theorem dX4_init_10 : decode cX4_init 10 = .ok (.iconst 4, 1) := by decide +kernel
theorem dX4_init_11 : decode cX4_init 11 = .ok (.newarray .int, 2) := by decide +kernel
theorem dX4_init_13 : decode cX4_init 13 = .ok (.putfield 15, 3) := by decide +kernel
theorem dX4_init_16 : decode cX4_init 16 = .ok (.aload_n 0, 1) := by decide +kernel
theorem dX4_init_17 : decode cX4_init 17 = .ok (.iconst 0, 1) := by decide +kernel
theorem dX4_init_18 : decode cX4_init 18 = .ok (.putfield 19, 3) := by decide +kernel
theorem dX4_init_21 : decode cX4_init 21 = .ok (.aload_n 0, 1) := by decide +kernel
theorem dX4_init_22 : decode cX4_init 22 = .ok (.iconst 0, 1) := by decide +kernel
theorem dX4_init_23 : decode cX4_init 23 = .ok (.putfield 23, 3) := by decide +kernel
theorem dX4_init_26 : decode cX4_init 26 = .ok (.aload_n 0, 1) := by decide +kernel
theorem dX4_init_27 : decode cX4_init 27 = .ok (.iconst 0, 1) := by decide +kernel
theorem dX4_init_28 : decode cX4_init 28 = .ok (.putfield 26, 3) := by decide +kernel
theorem dX4_init_31 : decode cX4_init 31 = .ok (.aload_n 0, 1) := by decide +kernel
theorem dX4_init_32 : decode cX4_init 32 = .ok (.iconst 0, 1) := by decide +kernel
theorem dX4_init_33 : decode cX4_init 33 = .ok (.putfield 29, 3) := by decide +kernel
theorem dX4_init_36 : decode cX4_init 36 = .ok (.aload_n 0, 1) := by decide +kernel
theorem dX4_init_37 : decode cX4_init 37 = .ok (.iconst 0, 1) := by decide +kernel
theorem dX4_init_38 : decode cX4_init 38 = .ok (.putfield 32, 3) := by decide +kernel
theorem dX4_init_41 : decode cX4_init 41 = .ok (.aload_n 0, 1) := by decide +kernel
theorem dX4_init_42 : decode cX4_init 42 = .ok (.iconst 0, 1) := by decide +kernel
theorem dX4_init_43 : decode cX4_init 43 = .ok (.putfield 35, 3) := by decide +kernel
theorem dX4_init_46 : decode cX4_init 46 = .ok (.aload_n 0, 1) := by decide +kernel
theorem dX4_init_47 : decode cX4_init 47 = .ok (.iconst 0, 1) := by decide +kernel
theorem dX4_init_48 : decode cX4_init 48 = .ok (.putfield 38, 3) := by decide +kernel
theorem dX4_init_51 : decode cX4_init 51 = .ok (.aload_n 0, 1) := by decide +kernel
theorem dX4_init_52 : decode cX4_init 52 = .ok (.iconst 0, 1) := by decide +kernel
theorem dX4_init_53 : decode cX4_init 53 = .ok (.putfield 41, 3) := by decide +kernel
theorem dX4_init_56 : decode cX4_init 56 = .ok (.return_, 1) := by decide +kernel
theorem dX4_restart_0 : decode cX4_restart 0 = .ok (.aload_n 0, 1) := by decide +kernel
theorem dX4_restart_1 : decode cX4_restart 1 = .ok (.iconst 0, 1) := by decide +kernel
theorem dX4_restart_2 : decode cX4_restart 2 = .ok (.putfield 19, 3) := by decide +kernel
theorem dX4_restart_5 : decode cX4_restart 5 = .ok (.aload_n 0, 1) := by decide +kernel
theorem dX4_restart_6 : decode cX4_restart 6 = .ok (.iconst 0, 1) := by decide +kernel
theorem dX4_restart_7 : decode cX4_restart 7 = .ok (.putfield 23, 3) := by decide +kernel
theorem dX4_restart_10 : decode cX4_restart 10 = .ok (.aload_n 0, 1) := by decide +kernel
theorem dX4_restart_11 : decode cX4_restart 11 = .ok (.iconst 0, 1) := by decide +kernel
theorem dX4_restart_12 : decode cX4_restart 12 = .ok (.putfield 26, 3) := by decide +kernel
theorem dX4_restart_15 : decode cX4_restart 15 = .ok (.return_, 1) := by decide +kernel
theorem dX4_mayEnd_0 : decode cX4_mayEnd 0 = .ok (.aload_n 0, 1) := by decide +kernel
theorem dX4_mayEnd_1 : decode cX4_mayEnd 1 = .ok (.getfield 26, 3) := by decide +kernel
theorem dX4_mayEnd_4 : decode cX4_mayEnd 4 = .ok (.ifCond .eq 14, 3) := by decide +kernel
theorem dX4_mayEnd_7 : decode cX4_mayEnd 7 = .ok (.aload_n 0, 1) := by decide +kernel
theorem dX4_mayEnd_8 : decode cX4_mayEnd 8 = .ok (.getfield 23, 3) := by decide +kernel
theorem dX4_mayEnd_11 : decode cX4_mayEnd 11 = .ok (.ifCond .ne 7, 3) := by decide +kernel
theorem dX4_mayEnd_14 : decode cX4_mayEnd 14 = .ok (.iconst 1, 1) := by decide +kernel
theorem dX4_mayEnd_15 : decode cX4_mayEnd 15 = .ok (.goto 4, 3) := by decide +kernel
theorem dX4_mayEnd_18 : decode cX4_mayEnd 18 = .ok (.iconst 0, 1) := by decide +kernel
theorem dX4_mayEnd_19 : decode cX4_mayEnd 19 = .ok (.ireturn, 1) := by decide +kernel
theorem dX4_takes_0 : decode cX4_takes 0 = .ok (.aload_n 0, 1) := by decide +kernel
theorem dX4_takes_1 : decode cX4_takes 1 = .ok (.iconst 0, 1) := by decide +kernel
theorem dX4_takes_2 : decode cX4_takes 2 = .ok (.putfield 19, 3) := by decide +kernel
theorem dX4_takes_5 : decode cX4_takes 5 = .ok (.aload_n 0, 1) := by decide +kernel
theorem dX4_takes_6 : decode cX4_takes 6 = .ok (.getfield 23, 3) := by decide +kernel
theorem dX4_takes_9 : decode cX4_takes 9 = .ok (.ifCond .ne 23, 3) := by decide +kernel
theorem dX4_takes_12 : decode cX4_takes 12 = .ok (.iload_n 1, 1) := by decide +kernel
theorem dX4_takes_13 : decode cX4_takes 13 = .ok (.bipush 32, 2) := by decide +kernel
theorem dX4_takes_15 : decode cX4_takes 15 = .ok (.if_icmp .eq 11, 3) := by decide +kernel
theorem dX4_takes_18 : decode cX4_takes 18 = .ok (.aload_n 0, 1) := by decide +kernel
theorem dX4_takes_19 : decode cX4_takes 19 = .ok (.iload_n 1, 1) := by decide +kernel
theorem dX4_takes_20 : decode cX4_takes 20 = .ok (.invokevirtual 44, 3) := by decide +kernel
theorem dX4_takes_23 : decode cX4_takes 23 = .ok (.ifCond .eq 7, 3) := by decide +kernel
theorem dX4_takes_26 : decode cX4_takes 26 = .ok (.iconst 1, 1) := by decide +kernel
theorem dX4_takes_27 : decode cX4_takes 27 = .ok (.goto 4, 3) := by decide +kernel
theorem dX4_takes_30 : decode cX4_takes 30 = .ok (.iconst 0, 1) := by decide +kernel
theorem dX4_takes_31 : decode cX4_takes 31 = .ok (.ireturn, 1) := by decide +kernel
theorem dX4_takes_32 : decode cX4_takes 32 = .ok (.iload_n 1, 1) := by decide +kernel
theorem dX4_takes_33 : decode cX4_takes 33 = .ok (.bipush 48, 2) := by decide +kernel
theorem dX4_takes_35 : decode cX4_takes 35 = .ok (.if_icmp .lt 18, 3) := by decide +kernel
theorem dX4_takes_38 : decode cX4_takes 38 = .ok (.iload_n 1, 1) := by decide +kernel
theorem dX4_takes_39 : decode cX4_takes 39 = .ok (.bipush 57, 2) := by decide +kernel
theorem dX4_takes_41 : decode cX4_takes 41 = .ok (.if_icmp .gt 12, 3) := by decide +kernel
theorem dX4_takes_44 : decode cX4_takes 44 = .ok (.aload_n 0, 1) := by decide +kernel
theorem dX4_takes_45 : decode cX4_takes 45 = .ok (.iload_n 1, 1) := by decide +kernel
theorem dX4_takes_46 : decode cX4_takes 46 = .ok (.bipush 48, 2) := by decide +kernel
theorem dX4_takes_48 : decode cX4_takes 48 = .ok (.isub, 1) := by decide +kernel
theorem dX4_takes_49 : decode cX4_takes 49 = .ok (.invokevirtual 48, 3) := by decide +kernel
theorem dX4_takes_52 : decode cX4_takes 52 = .ok (.ireturn, 1) := by decide +kernel
theorem dX4_takes_53 : decode cX4_takes 53 = .ok (.aload_n 0, 1) := by decide +kernel
theorem dX4_takes_54 : decode cX4_takes 54 = .ok (.getfield 41, 3) := by decide +kernel
theorem dX4_takes_57 : decode cX4_takes 57 = .ok (.ifCond .eq 12, 3) := by decide +kernel
theorem dX4_takes_60 : decode cX4_takes 60 = .ok (.aload_n 0, 1) := by decide +kernel
theorem dX4_takes_61 : decode cX4_takes 61 = .ok (.getfield 38, 3) := by decide +kernel
theorem dX4_takes_64 : decode cX4_takes 64 = .ok (.ifCond .ne 5, 3) := by decide +kernel
theorem dX4_takes_67 : decode cX4_takes 67 = .ok (.iconst 0, 1) := by decide +kernel
theorem dX4_takes_68 : decode cX4_takes 68 = .ok (.ireturn, 1) := by decide +kernel
theorem dX4_takes_69 : decode cX4_takes 69 = .ok (.aload_n 0, 1) := by decide +kernel
theorem dX4_takes_70 : decode cX4_takes 70 = .ok (.invokevirtual 51, 3) := by decide +kernel
theorem dX4_takes_73 : decode cX4_takes 73 = .ok (.iload_n 1, 1) := by decide +kernel
theorem dX4_takes_74 : decode cX4_takes 74 = .ok (.bipush 45, 2) := by decide +kernel
theorem dX4_takes_76 : decode cX4_takes 76 = .ok (.if_icmp .ne 8, 3) := by decide +kernel
theorem dX4_takes_79 : decode cX4_takes 79 = .ok (.aload_n 0, 1) := by decide +kernel
theorem dX4_takes_80 : decode cX4_takes 80 = .ok (.invokevirtual 54, 3) := by decide +kernel
theorem dX4_takes_83 : decode cX4_takes 83 = .ok (.ireturn, 1) := by decide +kernel
theorem dX4_takes_84 : decode cX4_takes 84 = .ok (.iload_n 1, 1) := by decide +kernel
theorem dX4_takes_85 : decode cX4_takes 85 = .ok (.bipush 59, 2) := by decide +kernel
theorem dX4_takes_87 : decode cX4_takes 87 = .ok (.if_icmp .ne 8, 3) := by decide +kernel
theorem dX4_takes_90 : decode cX4_takes 90 = .ok (.aload_n 0, 1) := by decide +kernel
theorem dX4_takes_91 : decode cX4_takes 91 = .ok (.invokevirtual 58, 3) := by decide +kernel
theorem dX4_takes_94 : decode cX4_takes 94 = .ok (.ireturn, 1) := by decide +kernel
theorem dX4_takes_95 : decode cX4_takes 95 = .ok (.iload_n 1, 1) := by decide +kernel
theorem dX4_takes_96 : decode cX4_takes 96 = .ok (.bipush 32, 2) := by decide +kernel
theorem dX4_takes_98 : decode cX4_takes 98 = .ok (.if_icmp .ne 7, 3) := by decide +kernel
theorem dX4_takes_101 : decode cX4_takes 101 = .ok (.iconst 1, 1) := by decide +kernel
theorem dX4_takes_102 : decode cX4_takes 102 = .ok (.goto 4, 3) := by decide +kernel
theorem dX4_takes_105 : decode cX4_takes 105 = .ok (.iconst 0, 1) := by decide +kernel
theorem dX4_takes_106 : decode cX4_takes 106 = .ok (.ireturn, 1) := by decide +kernel
theorem dX4_begins_0 : decode cX4_begins 0 = .ok (.aload_n 0, 1) := by decide +kernel
theorem dX4_begins_1 : decode cX4_begins 1 = .ok (.iload_n 1, 1) := by decide +kernel
theorem dX4_begins_2 : decode cX4_begins 2 = .ok (.invokestatic 61, 3) := by decide +kernel
theorem dX4_begins_5 : decode cX4_begins 5 = .ok (.putfield 29, 3) := by decide +kernel
theorem dX4_begins_8 : decode cX4_begins 8 = .ok (.aload_n 0, 1) := by decide +kernel
theorem dX4_begins_9 : decode cX4_begins 9 = .ok (.getfield 29, 3) := by decide +kernel
theorem dX4_begins_12 : decode cX4_begins 12 = .ok (.iconst (-1), 1) := by decide +kernel
theorem dX4_begins_13 : decode cX4_begins 13 = .ok (.if_icmp .ne 5, 3) := by decide +kernel
theorem dX4_begins_16 : decode cX4_begins 16 = .ok (.iconst 0, 1) := by decide +kernel
theorem dX4_begins_17 : decode cX4_begins 17 = .ok (.ireturn, 1) := by decide +kernel
theorem dX4_begins_18 : decode cX4_begins 18 = .ok (.aload_n 0, 1) := by decide +kernel
theorem dX4_begins_19 : decode cX4_begins 19 = .ok (.iload_n 1, 1) := by decide +kernel
theorem dX4_begins_20 : decode cX4_begins 20 = .ok (.putfield 9, 3) := by decide +kernel
theorem dX4_begins_23 : decode cX4_begins 23 = .ok (.aload_n 0, 1) := by decide +kernel
theorem dX4_begins_24 : decode cX4_begins 24 = .ok (.iconst 1, 1) := by decide +kernel
theorem dX4_begins_25 : decode cX4_begins 25 = .ok (.putfield 23, 3) := by decide +kernel
theorem dX4_begins_28 : decode cX4_begins 28 = .ok (.aload_n 0, 1) := by decide +kernel
theorem dX4_begins_29 : decode cX4_begins 29 = .ok (.iconst 0, 1) := by decide +kernel
theorem dX4_begins_30 : decode cX4_begins 30 = .ok (.putfield 32, 3) := by decide +kernel
theorem dX4_begins_33 : decode cX4_begins 33 = .ok (.aload_n 0, 1) := by decide +kernel
theorem dX4_begins_34 : decode cX4_begins 34 = .ok (.invokevirtual 65, 3) := by decide +kernel
theorem dX4_begins_37 : decode cX4_begins 37 = .ok (.iconst 1, 1) := by decide +kernel
theorem dX4_begins_38 : decode cX4_begins 38 = .ok (.ireturn, 1) := by decide +kernel
theorem dX4_numbersBehind_0 : decode cX4_numbersBehind 0 = .ok (.iload_n 0, 1) := by decide +kernel
theorem dX4_numbersBehind_1 : decode cX4_numbersBehind 1 = .ok (.lookupswitch 61 #[(97, 55), (98, 51), (110, 59), (112, 57), (115, 53)], 51) := by decide +kernel
theorem dX4_numbersBehind_52 : decode cX4_numbersBehind 52 = .ok (.iconst 4, 1) := by decide +kernel
theorem dX4_numbersBehind_53 : decode cX4_numbersBehind 53 = .ok (.ireturn, 1) := by decide +kernel
theorem dX4_numbersBehind_54 : decode cX4_numbersBehind 54 = .ok (.iconst 3, 1) := by decide +kernel
theorem dX4_numbersBehind_55 : decode cX4_numbersBehind 55 = .ok (.ireturn, 1) := by decide +kernel
theorem dX4_numbersBehind_56 : decode cX4_numbersBehind 56 = .ok (.iconst 2, 1) := by decide +kernel
theorem dX4_numbersBehind_57 : decode cX4_numbersBehind 57 = .ok (.ireturn, 1) := by decide +kernel
theorem dX4_numbersBehind_58 : decode cX4_numbersBehind 58 = .ok (.iconst 2, 1) := by decide +kernel
theorem dX4_numbersBehind_59 : decode cX4_numbersBehind 59 = .ok (.ireturn, 1) := by decide +kernel
theorem dX4_numbersBehind_60 : decode cX4_numbersBehind 60 = .ok (.iconst 0, 1) := by decide +kernel
theorem dX4_numbersBehind_61 : decode cX4_numbersBehind 61 = .ok (.ireturn, 1) := by decide +kernel
theorem dX4_numbersBehind_62 : decode cX4_numbersBehind 62 = .ok (.iconst (-1), 1) := by decide +kernel
theorem dX4_numbersBehind_63 : decode cX4_numbersBehind 63 = .ok (.ireturn, 1) := by decide +kernel
theorem dX4_startNumber_0 : decode cX4_startNumber 0 = .ok (.aload_n 0, 1) := by decide +kernel
theorem dX4_startNumber_1 : decode cX4_startNumber 1 = .ok (.iconst 0, 1) := by decide +kernel
theorem dX4_startNumber_2 : decode cX4_startNumber 2 = .ok (.putfield 35, 3) := by decide +kernel
theorem dX4_startNumber_5 : decode cX4_startNumber 5 = .ok (.aload_n 0, 1) := by decide +kernel
theorem dX4_startNumber_6 : decode cX4_startNumber 6 = .ok (.iconst 0, 1) := by decide +kernel
theorem dX4_startNumber_7 : decode cX4_startNumber 7 = .ok (.putfield 38, 3) := by decide +kernel
theorem dX4_startNumber_10 : decode cX4_startNumber 10 = .ok (.aload_n 0, 1) := by decide +kernel
theorem dX4_startNumber_11 : decode cX4_startNumber 11 = .ok (.iconst 0, 1) := by decide +kernel
theorem dX4_startNumber_12 : decode cX4_startNumber 12 = .ok (.putfield 41, 3) := by decide +kernel
theorem dX4_startNumber_15 : decode cX4_startNumber 15 = .ok (.return_, 1) := by decide +kernel
theorem dX4_figure_0 : decode cX4_figure 0 = .ok (.aload_n 0, 1) := by decide +kernel
theorem dX4_figure_1 : decode cX4_figure 1 = .ok (.getfield 32, 3) := by decide +kernel
theorem dX4_figure_4 : decode cX4_figure 4 = .ok (.aload_n 0, 1) := by decide +kernel
theorem dX4_figure_5 : decode cX4_figure 5 = .ok (.getfield 29, 3) := by decide +kernel
theorem dX4_figure_8 : decode cX4_figure 8 = .ok (.if_icmp .ge 11, 3) := by decide +kernel
theorem dX4_figure_11 : decode cX4_figure 11 = .ok (.aload_n 0, 1) := by decide +kernel
theorem dX4_figure_12 : decode cX4_figure 12 = .ok (.getfield 38, 3) := by decide +kernel
theorem dX4_figure_15 : decode cX4_figure 15 = .ok (.iconst 5, 1) := by decide +kernel
theorem dX4_figure_16 : decode cX4_figure 16 = .ok (.if_icmp .lt 5, 3) := by decide +kernel
theorem dX4_figure_19 : decode cX4_figure 19 = .ok (.iconst 0, 1) := by decide +kernel
theorem dX4_figure_20 : decode cX4_figure 20 = .ok (.ireturn, 1) := by decide +kernel
theorem dX4_figure_21 : decode cX4_figure 21 = .ok (.aload_n 0, 1) := by decide +kernel
theorem dX4_figure_22 : decode cX4_figure 22 = .ok (.bipush 10, 2) := by decide +kernel
theorem dX4_figure_24 : decode cX4_figure 24 = .ok (.aload_n 0, 1) := by decide +kernel
theorem dX4_figure_25 : decode cX4_figure 25 = .ok (.getfield 35, 3) := by decide +kernel
theorem dX4_figure_28 : decode cX4_figure 28 = .ok (.imul, 1) := by decide +kernel
theorem dX4_figure_29 : decode cX4_figure 29 = .ok (.iload_n 1, 1) := by decide +kernel
theorem dX4_figure_30 : decode cX4_figure 30 = .ok (.iadd, 1) := by decide +kernel
theorem dX4_figure_31 : decode cX4_figure 31 = .ok (.putfield 35, 3) := by decide +kernel
theorem dX4_figure_34 : decode cX4_figure 34 = .ok (.aload_n 0, 1) := by decide +kernel
theorem dX4_figure_35 : decode cX4_figure 35 = .ok (.dup, 1) := by decide +kernel
theorem dX4_figure_36 : decode cX4_figure 36 = .ok (.getfield 38, 3) := by decide +kernel
theorem dX4_figure_39 : decode cX4_figure 39 = .ok (.iconst 1, 1) := by decide +kernel
theorem dX4_figure_40 : decode cX4_figure 40 = .ok (.iadd, 1) := by decide +kernel
theorem dX4_figure_41 : decode cX4_figure 41 = .ok (.putfield 38, 3) := by decide +kernel
theorem dX4_figure_44 : decode cX4_figure 44 = .ok (.iconst 1, 1) := by decide +kernel
theorem dX4_figure_45 : decode cX4_figure 45 = .ok (.ireturn, 1) := by decide +kernel
theorem dX4_endNumber_0 : decode cX4_endNumber 0 = .ok (.aload_n 0, 1) := by decide +kernel
theorem dX4_endNumber_1 : decode cX4_endNumber 1 = .ok (.getfield 38, 3) := by decide +kernel
theorem dX4_endNumber_4 : decode cX4_endNumber 4 = .ok (.ifCond .ne 4, 3) := by decide +kernel
theorem dX4_endNumber_7 : decode cX4_endNumber 7 = .ok (.return_, 1) := by decide +kernel
theorem dX4_endNumber_8 : decode cX4_endNumber 8 = .ok (.aload_n 0, 1) := by decide +kernel
theorem dX4_endNumber_9 : decode cX4_endNumber 9 = .ok (.getfield 15, 3) := by decide +kernel
theorem dX4_endNumber_12 : decode cX4_endNumber 12 = .ok (.aload_n 0, 1) := by decide +kernel
theorem dX4_endNumber_13 : decode cX4_endNumber 13 = .ok (.getfield 32, 3) := by decide +kernel
theorem dX4_endNumber_16 : decode cX4_endNumber 16 = .ok (.aload_n 0, 1) := by decide +kernel
theorem dX4_endNumber_17 : decode cX4_endNumber 17 = .ok (.getfield 41, 3) := by decide +kernel
theorem dX4_endNumber_20 : decode cX4_endNumber 20 = .ok (.ifCond .eq 11, 3) := by decide +kernel
theorem dX4_endNumber_23 : decode cX4_endNumber 23 = .ok (.aload_n 0, 1) := by decide +kernel
theorem dX4_endNumber_24 : decode cX4_endNumber 24 = .ok (.getfield 35, 3) := by decide +kernel
theorem dX4_endNumber_27 : decode cX4_endNumber 27 = .ok (.ineg, 1) := by decide +kernel
theorem dX4_endNumber_28 : decode cX4_endNumber 28 = .ok (.goto 7, 3) := by decide +kernel
theorem dX4_endNumber_31 : decode cX4_endNumber 31 = .ok (.aload_n 0, 1) := by decide +kernel
theorem dX4_endNumber_32 : decode cX4_endNumber 32 = .ok (.getfield 35, 3) := by decide +kernel
theorem dX4_endNumber_35 : decode cX4_endNumber 35 = .ok (.invokestatic 68, 3) := by decide +kernel
theorem dX4_endNumber_38 : decode cX4_endNumber 38 = .ok (.aload_n 0, 1) := by decide +kernel
theorem dX4_endNumber_39 : decode cX4_endNumber 39 = .ok (.dup, 1) := by decide +kernel
theorem dX4_endNumber_40 : decode cX4_endNumber 40 = .ok (.getfield 32, 3) := by decide +kernel
theorem dX4_endNumber_43 : decode cX4_endNumber 43 = .ok (.iconst 1, 1) := by decide +kernel
theorem dX4_endNumber_44 : decode cX4_endNumber 44 = .ok (.iadd, 1) := by decide +kernel
theorem dX4_endNumber_45 : decode cX4_endNumber 45 = .ok (.putfield 32, 3) := by decide +kernel
theorem dX4_endNumber_48 : decode cX4_endNumber 48 = .ok (.aload_n 0, 1) := by decide +kernel
theorem dX4_endNumber_49 : decode cX4_endNumber 49 = .ok (.invokevirtual 65, 3) := by decide +kernel
theorem dX4_endNumber_52 : decode cX4_endNumber 52 = .ok (.return_, 1) := by decide +kernel
theorem dX4_minus_0 : decode cX4_minus 0 = .ok (.aload_n 0, 1) := by decide +kernel
theorem dX4_minus_1 : decode cX4_minus 1 = .ok (.iconst 1, 1) := by decide +kernel
theorem dX4_minus_2 : decode cX4_minus 2 = .ok (.putfield 41, 3) := by decide +kernel
theorem dX4_minus_5 : decode cX4_minus 5 = .ok (.aload_n 0, 1) := by decide +kernel
theorem dX4_minus_6 : decode cX4_minus 6 = .ok (.getfield 9, 3) := by decide +kernel
theorem dX4_minus_9 : decode cX4_minus 9 = .ok (.bipush 115, 2) := by decide +kernel
theorem dX4_minus_11 : decode cX4_minus 11 = .ok (.if_icmp .ne 23, 3) := by decide +kernel
theorem dX4_minus_14 : decode cX4_minus 14 = .ok (.aload_n 0, 1) := by decide +kernel
theorem dX4_minus_15 : decode cX4_minus 15 = .ok (.getfield 32, 3) := by decide +kernel
theorem dX4_minus_18 : decode cX4_minus 18 = .ok (.iconst 1, 1) := by decide +kernel
theorem dX4_minus_19 : decode cX4_minus 19 = .ok (.if_icmp .eq 11, 3) := by decide +kernel
theorem dX4_minus_22 : decode cX4_minus 22 = .ok (.aload_n 0, 1) := by decide +kernel
theorem dX4_minus_23 : decode cX4_minus 23 = .ok (.getfield 32, 3) := by decide +kernel
theorem dX4_minus_26 : decode cX4_minus 26 = .ok (.iconst 2, 1) := by decide +kernel
theorem dX4_minus_27 : decode cX4_minus 27 = .ok (.if_icmp .ne 7, 3) := by decide +kernel
theorem dX4_minus_30 : decode cX4_minus 30 = .ok (.iconst 1, 1) := by decide +kernel
theorem dX4_minus_31 : decode cX4_minus 31 = .ok (.goto 4, 3) := by decide +kernel
theorem dX4_minus_34 : decode cX4_minus 34 = .ok (.iconst 0, 1) := by decide +kernel
theorem dX4_minus_35 : decode cX4_minus 35 = .ok (.ireturn, 1) := by decide +kernel
theorem dX4_endOrder_0 : decode cX4_endOrder 0 = .ok (.aload_n 0, 1) := by decide +kernel
theorem dX4_endOrder_1 : decode cX4_endOrder 1 = .ok (.getfield 32, 3) := by decide +kernel
theorem dX4_endOrder_4 : decode cX4_endOrder 4 = .ok (.aload_n 0, 1) := by decide +kernel
theorem dX4_endOrder_5 : decode cX4_endOrder 5 = .ok (.getfield 29, 3) := by decide +kernel
theorem dX4_endOrder_8 : decode cX4_endOrder 8 = .ok (.if_icmp .eq 5, 3) := by decide +kernel
theorem dX4_endOrder_11 : decode cX4_endOrder 11 = .ok (.iconst 0, 1) := by decide +kernel
theorem dX4_endOrder_12 : decode cX4_endOrder 12 = .ok (.ireturn, 1) := by decide +kernel
theorem dX4_endOrder_13 : decode cX4_endOrder 13 = .ok (.aload_n 0, 1) := by decide +kernel
theorem dX4_endOrder_14 : decode cX4_endOrder 14 = .ok (.iconst 0, 1) := by decide +kernel
theorem dX4_endOrder_15 : decode cX4_endOrder 15 = .ok (.putfield 23, 3) := by decide +kernel
theorem dX4_endOrder_18 : decode cX4_endOrder 18 = .ok (.aload_n 0, 1) := by decide +kernel
theorem dX4_endOrder_19 : decode cX4_endOrder 19 = .ok (.iconst 1, 1) := by decide +kernel
theorem dX4_endOrder_20 : decode cX4_endOrder 20 = .ok (.putfield 26, 3) := by decide +kernel
theorem dX4_endOrder_23 : decode cX4_endOrder 23 = .ok (.aload_n 0, 1) := by decide +kernel
theorem dX4_endOrder_24 : decode cX4_endOrder 24 = .ok (.iconst 1, 1) := by decide +kernel
theorem dX4_endOrder_25 : decode cX4_endOrder 25 = .ok (.putfield 19, 3) := by decide +kernel
theorem dX4_endOrder_28 : decode cX4_endOrder 28 = .ok (.iconst 1, 1) := by decide +kernel
theorem dX4_endOrder_29 : decode cX4_endOrder 29 = .ok (.ireturn, 1) := by decide +kernel
theorem dX5_at_0 : decode cX5_at 0 = .ok (.iload_n 1, 1) := by decide +kernel
theorem dX5_at_1 : decode cX5_at 1 = .ok (.ifCond .lt 15, 3) := by decide +kernel
theorem dX5_at_4 : decode cX5_at 4 = .ok (.iload_n 1, 1) := by decide +kernel
theorem dX5_at_5 : decode cX5_at 5 = .ok (.aload_n 0, 1) := by decide +kernel
theorem dX5_at_6 : decode cX5_at 6 = .ok (.arraylength, 1) := by decide +kernel
theorem dX5_at_7 : decode cX5_at 7 = .ok (.if_icmp .ge 9, 3) := by decide +kernel
theorem dX5_at_10 : decode cX5_at 10 = .ok (.aload_n 0, 1) := by decide +kernel
theorem dX5_at_11 : decode cX5_at 11 = .ok (.iload_n 1, 1) := by decide +kernel
theorem dX5_at_12 : decode cX5_at 12 = .ok (.iaload, 1) := by decide +kernel
theorem dX5_at_13 : decode cX5_at 13 = .ok (.goto 4, 3) := by decide +kernel
theorem dX5_at_16 : decode cX5_at 16 = .ok (.iconst 0, 1) := by decide +kernel
theorem dX5_at_17 : decode cX5_at 17 = .ok (.ireturn, 1) := by decide +kernel
theorem dX5_put_0 : decode cX5_put 0 = .ok (.iload_n 1, 1) := by decide +kernel
theorem dX5_put_1 : decode cX5_put 1 = .ok (.ifCond .lt 13, 3) := by decide +kernel
theorem dX5_put_4 : decode cX5_put 4 = .ok (.iload_n 1, 1) := by decide +kernel
theorem dX5_put_5 : decode cX5_put 5 = .ok (.aload_n 0, 1) := by decide +kernel
theorem dX5_put_6 : decode cX5_put 6 = .ok (.arraylength, 1) := by decide +kernel
theorem dX5_put_7 : decode cX5_put 7 = .ok (.if_icmp .ge 7, 3) := by decide +kernel
theorem dX5_put_10 : decode cX5_put 10 = .ok (.aload_n 0, 1) := by decide +kernel
theorem dX5_put_11 : decode cX5_put 11 = .ok (.iload_n 1, 1) := by decide +kernel
theorem dX5_put_12 : decode cX5_put 12 = .ok (.iload_n 2, 1) := by decide +kernel
theorem dX5_put_13 : decode cX5_put 13 = .ok (.iastore, 1) := by decide +kernel
theorem dX5_put_14 : decode cX5_put 14 = .ok (.return_, 1) := by decide +kernel
theorem dX5_copy_0 : decode cX5_copy 0 = .ok (.iconst 0, 1) := by decide +kernel
theorem dX5_copy_1 : decode cX5_copy 1 = .ok (.istore_n 2, 1) := by decide +kernel
theorem dX5_copy_2 : decode cX5_copy 2 = .ok (.iload_n 2, 1) := by decide +kernel
theorem dX5_copy_3 : decode cX5_copy 3 = .ok (.aload_n 0, 1) := by decide +kernel
theorem dX5_copy_4 : decode cX5_copy 4 = .ok (.arraylength, 1) := by decide +kernel
theorem dX5_copy_5 : decode cX5_copy 5 = .ok (.if_icmp .ge 21, 3) := by decide +kernel
theorem dX5_copy_8 : decode cX5_copy 8 = .ok (.iload_n 2, 1) := by decide +kernel
theorem dX5_copy_9 : decode cX5_copy 9 = .ok (.aload_n 1, 1) := by decide +kernel
theorem dX5_copy_10 : decode cX5_copy 10 = .ok (.arraylength, 1) := by decide +kernel
theorem dX5_copy_11 : decode cX5_copy 11 = .ok (.if_icmp .ge 15, 3) := by decide +kernel
theorem dX5_copy_14 : decode cX5_copy 14 = .ok (.aload_n 1, 1) := by decide +kernel
theorem dX5_copy_15 : decode cX5_copy 15 = .ok (.iload_n 2, 1) := by decide +kernel
theorem dX5_copy_16 : decode cX5_copy 16 = .ok (.aload_n 0, 1) := by decide +kernel
theorem dX5_copy_17 : decode cX5_copy 17 = .ok (.iload_n 2, 1) := by decide +kernel
theorem dX5_copy_18 : decode cX5_copy 18 = .ok (.iaload, 1) := by decide +kernel
theorem dX5_copy_19 : decode cX5_copy 19 = .ok (.iastore, 1) := by decide +kernel
theorem dX5_copy_20 : decode cX5_copy 20 = .ok (.iinc 2 1, 3) := by decide +kernel
theorem dX5_copy_23 : decode cX5_copy 23 = .ok (.goto (-21), 3) := by decide +kernel
theorem dX5_copy_26 : decode cX5_copy 26 = .ok (.return_, 1) := by decide +kernel
theorem dX6_init_0 : decode cX6_init 0 = .ok (.aload_n 0, 1) := by decide +kernel
theorem dX6_init_1 : decode cX6_init 1 = .ok (.invokespecial 3, 3) := by decide +kernel
theorem dX6_init_4 : decode cX6_init 4 = .ok (.aload_n 0, 1) := by decide +kernel
theorem dX6_init_5 : decode cX6_init 5 = .ok (.new 9, 3) := by decide +kernel
theorem dX6_init_8 : decode cX6_init 8 = .ok (.dup, 1) := by decide +kernel
theorem dX6_init_9 : decode cX6_init 9 = .ok (.invokespecial 11, 3) := by decide +kernel
theorem dX6_init_12 : decode cX6_init 12 = .ok (.putfield 12, 3) := by decide +kernel
theorem dX6_init_15 : decode cX6_init 15 = .ok (.aload_n 0, 1) := by decide +kernel
theorem dX6_init_16 : decode cX6_init 16 = .ok (.new 18, 3) := by decide +kernel
theorem dX6_init_19 : decode cX6_init 19 = .ok (.dup, 1) := by decide +kernel
theorem dX6_init_20 : decode cX6_init 20 = .ok (.invokespecial 20, 3) := by decide +kernel
theorem dX6_init_23 : decode cX6_init 23 = .ok (.putfield 21, 3) := by decide +kernel
theorem dX6_init_26 : decode cX6_init 26 = .ok (.aload_n 0, 1) := by decide +kernel
theorem dX6_init_27 : decode cX6_init 27 = .ok (.bipush 64, 2) := by decide +kernel
theorem dX6_init_29 : decode cX6_init 29 = .ok (.newarray .int, 2) := by decide +kernel
theorem dX6_init_31 : decode cX6_init 31 = .ok (.putfield 25, 3) := by decide +kernel
theorem dX6_init_34 : decode cX6_init 34 = .ok (.aload_n 0, 1) := by decide +kernel
theorem dX6_init_35 : decode cX6_init 35 = .ok (.iconst 0, 1) := by decide +kernel
theorem dX6_init_36 : decode cX6_init 36 = .ok (.putfield 29, 3) := by decide +kernel
theorem dX6_init_39 : decode cX6_init 39 = .ok (.aload_n 0, 1) := by decide +kernel
theorem dX6_init_40 : decode cX6_init 40 = .ok (.iconst 1, 1) := by decide +kernel
theorem dX6_init_41 : decode cX6_init 41 = .ok (.putfield 33, 3) := by decide +kernel
theorem dX6_init_44 : decode cX6_init 44 = .ok (.aload_n 0, 1) := by decide +kernel
theorem dX6_init_45 : decode cX6_init 45 = .ok (.lconst 0, 1) := by decide +kernel
theorem dX6_init_46 : decode cX6_init 46 = .ok (.putfield 36, 3) := by decide +kernel
theorem dX6_init_49 : decode cX6_init 49 = .ok (.aload_n 0, 1) := by decide +kernel
theorem dX6_init_50 : decode cX6_init 50 = .ok (.iconst 0, 1) := by decide +kernel
theorem dX6_init_51 : decode cX6_init 51 = .ok (.putfield 40, 3) := by decide +kernel
theorem dX6_init_54 : decode cX6_init 54 = .ok (.aload_n 0, 1) := by decide +kernel
theorem dX6_init_55 : decode cX6_init 55 = .ok (.iconst 0, 1) := by decide +kernel
theorem dX6_init_56 : decode cX6_init 56 = .ok (.putfield 44, 3) := by decide +kernel
theorem dX6_init_59 : decode cX6_init 59 = .ok (.aload_n 0, 1) := by decide +kernel
theorem dX6_init_60 : decode cX6_init 60 = .ok (.iconst 0, 1) := by decide +kernel
theorem dX6_init_61 : decode cX6_init 61 = .ok (.putfield 47, 3) := by decide +kernel
theorem dX6_init_64 : decode cX6_init 64 = .ok (.aload_n 0, 1) := by decide +kernel
theorem dX6_init_65 : decode cX6_init 65 = .ok (.lconst 0, 1) := by decide +kernel
theorem dX6_init_66 : decode cX6_init 66 = .ok (.putfield 50, 3) := by decide +kernel
theorem dX6_init_69 : decode cX6_init 69 = .ok (.aload_n 0, 1) := by decide +kernel
theorem dX6_init_70 : decode cX6_init 70 = .ok (.aload_n 1, 1) := by decide +kernel
theorem dX6_init_71 : decode cX6_init 71 = .ok (.putfield 53, 3) := by decide +kernel
theorem dX6_init_74 : decode cX6_init 74 = .ok (.return_, 1) := by decide +kernel
theorem dX6_countLawful_0 : decode cX6_countLawful 0 = .ok (.iconst 1, 1) := by decide +kernel
theorem dX6_countLawful_1 : decode cX6_countLawful 1 = .ok (.aload_n 0, 1) := by decide +kernel
theorem dX6_countLawful_2 : decode cX6_countLawful 2 = .ok (.getfield 53, 3) := by decide +kernel
theorem dX6_countLawful_5 : decode cX6_countLawful 5 = .ok (.getfield 57, 3) := by decide +kernel
theorem dX6_countLawful_8 : decode cX6_countLawful 8 = .ok (.ishl, 1) := by decide +kernel
theorem dX6_countLawful_9 : decode cX6_countLawful 9 = .ok (.istore_n 1, 1) := by decide +kernel
theorem dX6_countLawful_10 : decode cX6_countLawful 10 = .ok (.aload_n 0, 1) := by decide +kernel
theorem dX6_countLawful_11 : decode cX6_countLawful 11 = .ok (.getfield 25, 3) := by decide +kernel
theorem dX6_countLawful_14 : decode cX6_countLawful 14 = .ok (.iconst 0, 1) := by decide +kernel
theorem dX6_countLawful_15 : decode cX6_countLawful 15 = .ok (.iconst 1, 1) := by decide +kernel
theorem dX6_countLawful_16 : decode cX6_countLawful 16 = .ok (.invokestatic 62, 3) := by decide +kernel
theorem dX6_countLawful_19 : decode cX6_countLawful 19 = .ok (.iconst 1, 1) := by decide +kernel
theorem dX6_countLawful_20 : decode cX6_countLawful 20 = .ok (.istore_n 2, 1) := by decide +kernel
theorem dX6_countLawful_21 : decode cX6_countLawful 21 = .ok (.iload_n 2, 1) := by decide +kernel
theorem dX6_countLawful_22 : decode cX6_countLawful 22 = .ok (.iload_n 1, 1) := by decide +kernel
theorem dX6_countLawful_23 : decode cX6_countLawful 23 = .ok (.if_icmp .ge 22, 3) := by decide +kernel
theorem dX6_countLawful_26 : decode cX6_countLawful 26 = .ok (.aload_n 0, 1) := by decide +kernel
theorem dX6_countLawful_27 : decode cX6_countLawful 27 = .ok (.getfield 25, 3) := by decide +kernel
theorem dX6_countLawful_30 : decode cX6_countLawful 30 = .ok (.iload_n 2, 1) := by decide +kernel
theorem dX6_countLawful_31 : decode cX6_countLawful 31 = .ok (.aload_n 0, 1) := by decide +kernel
theorem dX6_countLawful_32 : decode cX6_countLawful 32 = .ok (.iload_n 2, 1) := by decide +kernel
theorem dX6_countLawful_33 : decode cX6_countLawful 33 = .ok (.invokevirtual 68, 3) := by decide +kernel
theorem dX6_countLawful_36 : decode cX6_countLawful 36 = .ok (.invokestatic 62, 3) := by decide +kernel
theorem dX6_countLawful_39 : decode cX6_countLawful 39 = .ok (.iinc 2 1, 3) := by decide +kernel
theorem dX6_countLawful_42 : decode cX6_countLawful 42 = .ok (.goto (-21), 3) := by decide +kernel
theorem dX6_countLawful_45 : decode cX6_countLawful 45 = .ok (.aload_n 0, 1) := by decide +kernel
theorem dX6_countLawful_46 : decode cX6_countLawful 46 = .ok (.getfield 25, 3) := by decide +kernel
theorem dX6_countLawful_49 : decode cX6_countLawful 49 = .ok (.iload_n 1, 1) := by decide +kernel
theorem dX6_countLawful_50 : decode cX6_countLawful 50 = .ok (.iconst 1, 1) := by decide +kernel
theorem dX6_countLawful_51 : decode cX6_countLawful 51 = .ok (.isub, 1) := by decide +kernel
theorem dX6_countLawful_52 : decode cX6_countLawful 52 = .ok (.invokestatic 72, 3) := by decide +kernel
theorem dX6_countLawful_55 : decode cX6_countLawful 55 = .ok (.ireturn, 1) := by decide +kernel
theorem dX6_waysTo_0 : decode cX6_waysTo 0 = .ok (.iconst 0, 1) := by decide +kernel
theorem dX6_waysTo_1 : decode cX6_waysTo 1 = .ok (.istore_n 2, 1) := by decide +kernel
theorem dX6_waysTo_2 : decode cX6_waysTo 2 = .ok (.iconst 0, 1) := by decide +kernel
theorem dX6_waysTo_3 : decode cX6_waysTo 3 = .ok (.istore_n 3, 1) := by decide +kernel
theorem dX6_waysTo_4 : decode cX6_waysTo 4 = .ok (.iload_n 3, 1) := by decide +kernel
theorem dX6_waysTo_5 : decode cX6_waysTo 5 = .ok (.aload_n 0, 1) := by decide +kernel
theorem dX6_waysTo_6 : decode cX6_waysTo 6 = .ok (.getfield 53, 3) := by decide +kernel
theorem dX6_waysTo_9 : decode cX6_waysTo 9 = .ok (.getfield 57, 3) := by decide +kernel
theorem dX6_waysTo_12 : decode cX6_waysTo 12 = .ok (.if_icmp .ge 49, 3) := by decide +kernel
theorem dX6_waysTo_15 : decode cX6_waysTo 15 = .ok (.iload_n 1, 1) := by decide +kernel
theorem dX6_waysTo_16 : decode cX6_waysTo 16 = .ok (.iconst 1, 1) := by decide +kernel
theorem dX6_waysTo_17 : decode cX6_waysTo 17 = .ok (.iload_n 3, 1) := by decide +kernel
theorem dX6_waysTo_18 : decode cX6_waysTo 18 = .ok (.ishl, 1) := by decide +kernel
theorem dX6_waysTo_19 : decode cX6_waysTo 19 = .ok (.iconst (-1), 1) := by decide +kernel
theorem dX6_waysTo_20 : decode cX6_waysTo 20 = .ok (.ixor, 1) := by decide +kernel
theorem dX6_waysTo_21 : decode cX6_waysTo 21 = .ok (.iand, 1) := by decide +kernel
theorem dX6_waysTo_22 : decode cX6_waysTo 22 = .ok (.istore 4, 2) := by decide +kernel
theorem dX6_waysTo_24 : decode cX6_waysTo 24 = .ok (.iload 4, 2) := by decide +kernel
theorem dX6_waysTo_26 : decode cX6_waysTo 26 = .ok (.iload_n 1, 1) := by decide +kernel
theorem dX6_waysTo_27 : decode cX6_waysTo 27 = .ok (.if_icmp .eq 28, 3) := by decide +kernel
theorem dX6_waysTo_30 : decode cX6_waysTo 30 = .ok (.aload_n 0, 1) := by decide +kernel
theorem dX6_waysTo_31 : decode cX6_waysTo 31 = .ok (.getfield 53, 3) := by decide +kernel
theorem dX6_waysTo_34 : decode cX6_waysTo 34 = .ok (.iload_n 3, 1) := by decide +kernel
theorem dX6_waysTo_35 : decode cX6_waysTo 35 = .ok (.iload 4, 2) := by decide +kernel
theorem dX6_waysTo_37 : decode cX6_waysTo 37 = .ok (.invokevirtual 76, 3) := by decide +kernel
theorem dX6_waysTo_40 : decode cX6_waysTo 40 = .ok (.ifCond .eq 15, 3) := by decide +kernel
theorem dX6_waysTo_43 : decode cX6_waysTo 43 = .ok (.iload_n 2, 1) := by decide +kernel
theorem dX6_waysTo_44 : decode cX6_waysTo 44 = .ok (.aload_n 0, 1) := by decide +kernel
theorem dX6_waysTo_45 : decode cX6_waysTo 45 = .ok (.getfield 25, 3) := by decide +kernel
theorem dX6_waysTo_48 : decode cX6_waysTo 48 = .ok (.iload 4, 2) := by decide +kernel
theorem dX6_waysTo_50 : decode cX6_waysTo 50 = .ok (.invokestatic 72, 3) := by decide +kernel
theorem dX6_waysTo_53 : decode cX6_waysTo 53 = .ok (.iadd, 1) := by decide +kernel
theorem dX6_waysTo_54 : decode cX6_waysTo 54 = .ok (.istore_n 2, 1) := by decide +kernel
theorem dX6_waysTo_55 : decode cX6_waysTo 55 = .ok (.iinc 3 1, 3) := by decide +kernel
theorem dX6_waysTo_58 : decode cX6_waysTo 58 = .ok (.goto (-54), 3) := by decide +kernel
theorem dX6_waysTo_61 : decode cX6_waysTo 61 = .ok (.iload_n 2, 1) := by decide +kernel
theorem dX6_waysTo_62 : decode cX6_waysTo 62 = .ok (.ireturn, 1) := by decide +kernel
theorem dX6_run_0 : decode cX6_run 0 = .ok (.aload_n 0, 1) := by decide +kernel
theorem dX6_run_1 : decode cX6_run 1 = .ok (.iload_n 1, 1) := by decide +kernel
theorem dX6_run_2 : decode cX6_run 2 = .ok (.putfield 29, 3) := by decide +kernel
theorem dX6_run_5 : decode cX6_run 5 = .ok (.aload_n 0, 1) := by decide +kernel
theorem dX6_run_6 : decode cX6_run 6 = .ok (.iload_n 2, 1) := by decide +kernel
theorem dX6_run_7 : decode cX6_run 7 = .ok (.putfield 33, 3) := by decide +kernel
theorem dX6_run_10 : decode cX6_run 10 = .ok (.aload_n 0, 1) := by decide +kernel
theorem dX6_run_11 : decode cX6_run 11 = .ok (.lload_n 3, 1) := by decide +kernel
theorem dX6_run_12 : decode cX6_run 12 = .ok (.putfield 36, 3) := by decide +kernel
theorem dX6_run_15 : decode cX6_run 15 = .ok (.aload_n 0, 1) := by decide +kernel
theorem dX6_run_16 : decode cX6_run 16 = .ok (.iconst 0, 1) := by decide +kernel
theorem dX6_run_17 : decode cX6_run 17 = .ok (.putfield 40, 3) := by decide +kernel
theorem dX6_run_20 : decode cX6_run 20 = .ok (.aload_n 0, 1) := by decide +kernel
theorem dX6_run_21 : decode cX6_run 21 = .ok (.getfield 21, 3) := by decide +kernel
theorem dX6_run_24 : decode cX6_run 24 = .ok (.invokevirtual 80, 3) := by decide +kernel
theorem dX6_run_27 : decode cX6_run 27 = .ok (.aload_n 0, 1) := by decide +kernel
theorem dX6_run_28 : decode cX6_run 28 = .ok (.getfield 12, 3) := by decide +kernel
theorem dX6_run_31 : decode cX6_run 31 = .ok (.invokevirtual 83, 3) := by decide +kernel
theorem dX6_run_34 : decode cX6_run 34 = .ok (.aload_n 0, 1) := by decide +kernel
theorem dX6_run_35 : decode cX6_run 35 = .ok (.iconst 0, 1) := by decide +kernel
theorem dX6_run_36 : decode cX6_run 36 = .ok (.iconst 0, 1) := by decide +kernel
theorem dX6_run_37 : decode cX6_run 37 = .ok (.lconst 0, 1) := by decide +kernel
theorem dX6_run_38 : decode cX6_run 38 = .ok (.iconst 0, 1) := by decide +kernel
theorem dX6_run_39 : decode cX6_run 39 = .ok (.invokestatic 86, 3) := by decide +kernel
theorem dX6_run_42 : decode cX6_run 42 = .ok (.return_, 1) := by decide +kernel
theorem dX6_extend_0 : decode cX6_extend 0 = .ok (.iload_n 1, 1) := by decide +kernel
theorem dX6_extend_1 : decode cX6_extend 1 = .ok (.aload_n 0, 1) := by decide +kernel
theorem dX6_extend_2 : decode cX6_extend 2 = .ok (.getfield 53, 3) := by decide +kernel
theorem dX6_extend_5 : decode cX6_extend 5 = .ok (.getfield 57, 3) := by decide +kernel
theorem dX6_extend_8 : decode cX6_extend 8 = .ok (.if_icmp .ge 9, 3) := by decide +kernel
theorem dX6_extend_11 : decode cX6_extend 11 = .ok (.iload_n 1, 1) := by decide +kernel
theorem dX6_extend_12 : decode cX6_extend 12 = .ok (.bipush 6, 2) := by decide +kernel
theorem dX6_extend_14 : decode cX6_extend 14 = .ok (.if_icmp .lt 11, 3) := by decide +kernel
theorem dX6_extend_17 : decode cX6_extend 17 = .ok (.aload_n 0, 1) := by decide +kernel
theorem dX6_extend_18 : decode cX6_extend 18 = .ok (.lload_n 3, 1) := by decide +kernel
theorem dX6_extend_19 : decode cX6_extend 19 = .ok (.iload 5, 2) := by decide +kernel
theorem dX6_extend_21 : decode cX6_extend 21 = .ok (.invokevirtual 90, 3) := by decide +kernel
theorem dX6_extend_24 : decode cX6_extend 24 = .ok (.return_, 1) := by decide +kernel
theorem dX6_extend_25 : decode cX6_extend 25 = .ok (.aload_n 0, 1) := by decide +kernel
theorem dX6_extend_26 : decode cX6_extend 26 = .ok (.getfield 12, 3) := by decide +kernel
theorem dX6_extend_29 : decode cX6_extend 29 = .ok (.getfield 94, 3) := by decide +kernel
theorem dX6_extend_32 : decode cX6_extend 32 = .ok (.lstore 6, 2) := by decide +kernel
theorem dX6_extend_34 : decode cX6_extend 34 = .ok (.aload_n 0, 1) := by decide +kernel
theorem dX6_extend_35 : decode cX6_extend 35 = .ok (.getfield 12, 3) := by decide +kernel
theorem dX6_extend_38 : decode cX6_extend 38 = .ok (.getfield 97, 3) := by decide +kernel
theorem dX6_extend_41 : decode cX6_extend 41 = .ok (.lstore 8, 2) := by decide +kernel
theorem dX6_extend_43 : decode cX6_extend 43 = .ok (.aload_n 0, 1) := by decide +kernel
theorem dX6_extend_44 : decode cX6_extend 44 = .ok (.getfield 12, 3) := by decide +kernel
theorem dX6_extend_47 : decode cX6_extend 47 = .ok (.getfield 100, 3) := by decide +kernel
