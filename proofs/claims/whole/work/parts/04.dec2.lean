theorem dX0_init_0 : decode cX0_init 0 = .ok (.aload_n 0, 1) := by decide +kernel
theorem dX0_init_1 : decode cX0_init 1 = .ok (.iconst 4, 1) := by decide +kernel
theorem dX0_init_2 : decode cX0_init 2 = .ok (.iload_n 1, 1) := by decide +kernel
theorem dX0_init_3 : decode cX0_init 3 = .ok (.iload_n 2, 1) := by decide +kernel
theorem dX0_init_4 : decode cX0_init 4 = .ok (.iload_n 3, 1) := by decide +kernel
theorem dX0_init_5 : decode cX0_init 5 = .ok (.lload 4, 2) := by decide +kernel
theorem dX0_init_7 : decode cX0_init 7 = .ok (.invokespecial 3, 3) := by decide +kernel
theorem dX0_init_10 : decode cX0_init 10 = .ok (.return_, 1) := by decide +kernel
theorem dX0_creaseAt_0 : decode cX0_creaseAt 0 = .ok (.iconst 1, 1) := by decide +kernel
theorem dX0_creaseAt_1 : decode cX0_creaseAt 1 = .ok (.aload_n 0, 1) := by decide +kernel
theorem dX0_creaseAt_2 : decode cX0_creaseAt 2 = .ok (.aload_n 0, 1) := by decide +kernel
theorem dX0_creaseAt_3 : decode cX0_creaseAt 3 = .ok (.invokevirtual 9, 3) := by decide +kernel
theorem dX0_creaseAt_6 : decode cX0_creaseAt 6 = .ok (.lload_n 1, 1) := by decide +kernel
theorem dX0_creaseAt_7 : decode cX0_creaseAt 7 = .ok (.lsub, 1) := by decide +kernel
theorem dX0_creaseAt_8 : decode cX0_creaseAt 8 = .ok (.invokespecial 15, 3) := by decide +kernel
theorem dX0_creaseAt_11 : decode cX0_creaseAt 11 = .ok (.isub, 1) := by decide +kernel
theorem dX0_creaseAt_12 : decode cX0_creaseAt 12 = .ok (.ireturn, 1) := by decide +kernel
theorem dX0_wayBehind_0 : decode cX0_wayBehind 0 = .ok (.aload_n 0, 1) := by decide +kernel
theorem dX0_wayBehind_1 : decode cX0_wayBehind 1 = .ok (.aload_n 0, 1) := by decide +kernel
theorem dX0_wayBehind_2 : decode cX0_wayBehind 2 = .ok (.invokevirtual 19, 3) := by decide +kernel
theorem dX0_wayBehind_5 : decode cX0_wayBehind 5 = .ok (.lload_n 1, 1) := by decide +kernel
theorem dX0_wayBehind_6 : decode cX0_wayBehind 6 = .ok (.lsub, 1) := by decide +kernel
theorem dX0_wayBehind_7 : decode cX0_wayBehind 7 = .ok (.invokespecial 22, 3) := by decide +kernel
theorem dX0_wayBehind_10 : decode cX0_wayBehind 10 = .ok (.aload_n 0, 1) := by decide +kernel
theorem dX0_wayBehind_11 : decode cX0_wayBehind 11 = .ok (.aload_n 0, 1) := by decide +kernel
theorem dX0_wayBehind_12 : decode cX0_wayBehind 12 = .ok (.invokevirtual 19, 3) := by decide +kernel
theorem dX0_wayBehind_15 : decode cX0_wayBehind 15 = .ok (.invokespecial 22, 3) := by decide +kernel
theorem dX0_wayBehind_18 : decode cX0_wayBehind 18 = .ok (.isub, 1) := by decide +kernel
theorem dX0_wayBehind_19 : decode cX0_wayBehind 19 = .ok (.iconst 3, 1) := by decide +kernel
theorem dX0_wayBehind_20 : decode cX0_wayBehind 20 = .ok (.iand, 1) := by decide +kernel
theorem dX0_wayBehind_21 : decode cX0_wayBehind 21 = .ok (.ireturn, 1) := by decide +kernel
theorem dX0_lead_0 : decode cX0_lead 0 = .ok (.aload_n 0, 1) := by decide +kernel
theorem dX0_lead_1 : decode cX0_lead 1 = .ok (.aload_n 1, 1) := by decide +kernel
theorem dX0_lead_2 : decode cX0_lead 2 = .ok (.aload_n 0, 1) := by decide +kernel
theorem dX0_lead_3 : decode cX0_lead 3 = .ok (.invokevirtual 9, 3) := by decide +kernel
theorem dX0_lead_6 : decode cX0_lead 6 = .ok (.invokespecial 25, 3) := by decide +kernel
theorem dX0_lead_9 : decode cX0_lead 9 = .ok (.aload_n 1, 1) := by decide +kernel
theorem dX0_lead_10 : decode cX0_lead 10 = .ok (.getfield 29, 3) := by decide +kernel
theorem dX0_lead_13 : decode cX0_lead 13 = .ok (.lstore 4, 2) := by decide +kernel
theorem dX0_lead_15 : decode cX0_lead 15 = .ok (.aload_n 1, 1) := by decide +kernel
theorem dX0_lead_16 : decode cX0_lead 16 = .ok (.getfield 35, 3) := by decide +kernel
theorem dX0_lead_19 : decode cX0_lead 19 = .ok (.lstore 6, 2) := by decide +kernel
theorem dX0_lead_21 : decode cX0_lead 21 = .ok (.aload_n 0, 1) := by decide +kernel
theorem dX0_lead_22 : decode cX0_lead 22 = .ok (.aload_n 1, 1) := by decide +kernel
theorem dX0_lead_23 : decode cX0_lead 23 = .ok (.aload_n 0, 1) := by decide +kernel
theorem dX0_lead_24 : decode cX0_lead 24 = .ok (.invokevirtual 9, 3) := by decide +kernel
theorem dX0_lead_27 : decode cX0_lead 27 = .ok (.lload_n 2, 1) := by decide +kernel
theorem dX0_lead_28 : decode cX0_lead 28 = .ok (.lsub, 1) := by decide +kernel
theorem dX0_lead_29 : decode cX0_lead 29 = .ok (.invokespecial 25, 3) := by decide +kernel
theorem dX0_lead_32 : decode cX0_lead 32 = .ok (.aload_n 1, 1) := by decide +kernel
theorem dX0_lead_33 : decode cX0_lead 33 = .ok (.aload_n 1, 1) := by decide +kernel
theorem dX0_lead_34 : decode cX0_lead 34 = .ok (.getfield 29, 3) := by decide +kernel
theorem dX0_lead_37 : decode cX0_lead 37 = .ok (.lload 4, 2) := by decide +kernel
theorem dX0_lead_39 : decode cX0_lead 39 = .ok (.lsub, 1) := by decide +kernel
theorem dX0_lead_40 : decode cX0_lead 40 = .ok (.aload_n 1, 1) := by decide +kernel
theorem dX0_lead_41 : decode cX0_lead 41 = .ok (.getfield 35, 3) := by decide +kernel
theorem dX0_lead_44 : decode cX0_lead 44 = .ok (.lload 6, 2) := by decide +kernel
theorem dX0_lead_46 : decode cX0_lead 46 = .ok (.lsub, 1) := by decide +kernel
theorem dX0_lead_47 : decode cX0_lead 47 = .ok (.invokevirtual 38, 3) := by decide +kernel
theorem dX0_lead_50 : decode cX0_lead 50 = .ok (.aload_n 1, 1) := by decide +kernel
theorem dX0_lead_51 : decode cX0_lead 51 = .ok (.iconst 2, 1) := by decide +kernel
theorem dX0_lead_52 : decode cX0_lead 52 = .ok (.aload_n 0, 1) := by decide +kernel
theorem dX0_lead_53 : decode cX0_lead 53 = .ok (.aload_n 0, 1) := by decide +kernel
theorem dX0_lead_54 : decode cX0_lead 54 = .ok (.invokevirtual 19, 3) := by decide +kernel
theorem dX0_lead_57 : decode cX0_lead 57 = .ok (.invokespecial 22, 3) := by decide +kernel
theorem dX0_lead_60 : decode cX0_lead 60 = .ok (.isub, 1) := by decide +kernel
theorem dX0_lead_61 : decode cX0_lead 61 = .ok (.invokevirtual 42, 3) := by decide +kernel
theorem dX0_lead_64 : decode cX0_lead 64 = .ok (.return_, 1) := by decide +kernel
theorem dX0_lies_0 : decode cX0_lies 0 = .ok (.aload_n 1, 1) := by decide +kernel
theorem dX0_lies_1 : decode cX0_lies 1 = .ok (.bipush 50, 2) := by decide +kernel
theorem dX0_lies_3 : decode cX0_lies 3 = .ok (.invokevirtual 46, 3) := by decide +kernel
theorem dX0_lies_6 : decode cX0_lies 6 = .ok (.pop, 1) := by decide +kernel
theorem dX0_lies_7 : decode cX0_lies 7 = .ok (.aload_n 0, 1) := by decide +kernel
theorem dX0_lies_8 : decode cX0_lies 8 = .ok (.aload_n 1, 1) := by decide +kernel
theorem dX0_lies_9 : decode cX0_lies 9 = .ok (.iload_n 2, 1) := by decide +kernel
theorem dX0_lies_10 : decode cX0_lies 10 = .ok (.invokespecial 52, 3) := by decide +kernel
theorem dX0_lies_13 : decode cX0_lies 13 = .ok (.ineg, 1) := by decide +kernel
theorem dX0_lies_14 : decode cX0_lies 14 = .ok (.ireturn, 1) := by decide +kernel
theorem dX0_folds_0 : decode cX0_folds 0 = .ok (.aload_n 1, 1) := by decide +kernel
theorem dX0_folds_1 : decode cX0_folds 1 = .ok (.bipush 51, 2) := by decide +kernel
theorem dX0_folds_3 : decode cX0_folds 3 = .ok (.invokevirtual 46, 3) := by decide +kernel
theorem dX0_folds_6 : decode cX0_folds 6 = .ok (.pop, 1) := by decide +kernel
theorem dX0_folds_7 : decode cX0_folds 7 = .ok (.aload_n 0, 1) := by decide +kernel
theorem dX0_folds_8 : decode cX0_folds 8 = .ok (.aload_n 1, 1) := by decide +kernel
theorem dX0_folds_9 : decode cX0_folds 9 = .ok (.iload_n 2, 1) := by decide +kernel
theorem dX0_folds_10 : decode cX0_folds 10 = .ok (.invokespecial 56, 3) := by decide +kernel
theorem dX0_folds_13 : decode cX0_folds 13 = .ok (.aload_n 0, 1) := by decide +kernel
theorem dX0_folds_14 : decode cX0_folds 14 = .ok (.getfield 59, 3) := by decide +kernel
theorem dX0_folds_17 : decode cX0_folds 17 = .ok (.isub, 1) := by decide +kernel
theorem dX0_folds_18 : decode cX0_folds 18 = .ok (.ireturn, 1) := by decide +kernel
theorem dX1_init_0 : decode cX1_init 0 = .ok (.aload_n 0, 1) := by decide +kernel
theorem dX1_init_1 : decode cX1_init 1 = .ok (.invokespecial 3, 3) := by decide +kernel
theorem dX1_init_4 : decode cX1_init 4 = .ok (.aload_n 0, 1) := by decide +kernel
theorem dX1_init_5 : decode cX1_init 5 = .ok (.iload_n 1, 1) := by decide +kernel
theorem dX1_init_6 : decode cX1_init 6 = .ok (.newarray .int, 2) := by decide +kernel
theorem dX1_init_8 : decode cX1_init 8 = .ok (.putfield 9, 3) := by decide +kernel
theorem dX1_init_11 : decode cX1_init 11 = .ok (.aload_n 0, 1) := by decide +kernel
theorem dX1_init_12 : decode cX1_init 12 = .ok (.iload_n 1, 1) := by decide +kernel
theorem dX1_init_13 : decode cX1_init 13 = .ok (.newarray .int, 2) := by decide +kernel
theorem dX1_init_15 : decode cX1_init 15 = .ok (.putfield 15, 3) := by decide +kernel
theorem dX1_init_18 : decode cX1_init 18 = .ok (.return_, 1) := by decide +kernel
theorem dX1_setOut_0 : decode cX1_setOut 0 = .ok (.aload_n 0, 1) := by decide +kernel
theorem dX1_setOut_1 : decode cX1_setOut 1 = .ok (.aload_n 1, 1) := by decide +kernel
theorem dX1_setOut_2 : decode cX1_setOut 2 = .ok (.putfield 18, 3) := by decide +kernel
theorem dX1_setOut_5 : decode cX1_setOut 5 = .ok (.aload_n 0, 1) := by decide +kernel
theorem dX1_setOut_6 : decode cX1_setOut 6 = .ok (.iconst 0, 1) := by decide +kernel
theorem dX1_setOut_7 : decode cX1_setOut 7 = .ok (.putfield 22, 3) := by decide +kernel
theorem dX1_setOut_10 : decode cX1_setOut 10 = .ok (.aload_n 0, 1) := by decide +kernel
theorem dX1_setOut_11 : decode cX1_setOut 11 = .ok (.iload 6, 2) := by decide +kernel
theorem dX1_setOut_13 : decode cX1_setOut 13 = .ok (.putfield 26, 3) := by decide +kernel
theorem dX1_setOut_16 : decode cX1_setOut 16 = .ok (.aload_n 0, 1) := by decide +kernel
theorem dX1_setOut_17 : decode cX1_setOut 17 = .ok (.lload_n 2, 1) := by decide +kernel
theorem dX1_setOut_18 : decode cX1_setOut 18 = .ok (.lload 4, 2) := by decide +kernel
theorem dX1_setOut_20 : decode cX1_setOut 20 = .ok (.invokevirtual 29, 3) := by decide +kernel
theorem dX1_setOut_23 : decode cX1_setOut 23 = .ok (.return_, 1) := by decide +kernel
theorem dX1_step_0 : decode cX1_step 0 = .ok (.aload_n 0, 1) := by decide +kernel
theorem dX1_step_1 : decode cX1_step 1 = .ok (.getfield 18, 3) := by decide +kernel
theorem dX1_step_4 : decode cX1_step 4 = .ok (.ifnull 19, 3) := by decide +kernel
theorem dX1_step_7 : decode cX1_step 7 = .ok (.aload_n 0, 1) := by decide +kernel
theorem dX1_step_8 : decode cX1_step 8 = .ok (.getfield 22, 3) := by decide +kernel
theorem dX1_step_11 : decode cX1_step 11 = .ok (.i2l, 1) := by decide +kernel
theorem dX1_step_12 : decode cX1_step 12 = .ok (.aload_n 0, 1) := by decide +kernel
theorem dX1_step_13 : decode cX1_step 13 = .ok (.getfield 18, 3) := by decide +kernel
theorem dX1_step_16 : decode cX1_step 16 = .ok (.invokevirtual 33, 3) := by decide +kernel
theorem dX1_step_19 : decode cX1_step 19 = .ok (.lcmp, 1) := by decide +kernel
theorem dX1_step_20 : decode cX1_step 20 = .ok (.ifCond .lt 4, 3) := by decide +kernel
theorem dX1_step_23 : decode cX1_step 23 = .ok (.return_, 1) := by decide +kernel
theorem dX1_step_24 : decode cX1_step 24 = .ok (.aload_n 0, 1) := by decide +kernel
theorem dX1_step_25 : decode cX1_step 25 = .ok (.getfield 22, 3) := by decide +kernel
theorem dX1_step_28 : decode cX1_step 28 = .ok (.ifCond .le 33, 3) := by decide +kernel
theorem dX1_step_31 : decode cX1_step 31 = .ok (.aload_n 0, 1) := by decide +kernel
theorem dX1_step_32 : decode cX1_step 32 = .ok (.dup, 1) := by decide +kernel
theorem dX1_step_33 : decode cX1_step 33 = .ok (.getfield 26, 3) := by decide +kernel
theorem dX1_step_36 : decode cX1_step 36 = .ok (.aload_n 0, 1) := by decide +kernel
theorem dX1_step_37 : decode cX1_step 37 = .ok (.getfield 18, 3) := by decide +kernel
theorem dX1_step_40 : decode cX1_step 40 = .ok (.aload_n 0, 1) := by decide +kernel
theorem dX1_step_41 : decode cX1_step 41 = .ok (.getfield 22, 3) := by decide +kernel
theorem dX1_step_44 : decode cX1_step 44 = .ok (.i2l, 1) := by decide +kernel
theorem dX1_step_45 : decode cX1_step 45 = .ok (.invokevirtual 39, 3) := by decide +kernel
theorem dX1_step_48 : decode cX1_step 48 = .ok (.iconst 1, 1) := by decide +kernel
theorem dX1_step_49 : decode cX1_step 49 = .ok (.if_icmp .ne 7, 3) := by decide +kernel
theorem dX1_step_52 : decode cX1_step 52 = .ok (.iconst 1, 1) := by decide +kernel
theorem dX1_step_53 : decode cX1_step 53 = .ok (.goto 4, 3) := by decide +kernel
theorem dX1_step_56 : decode cX1_step 56 = .ok (.iconst 3, 1) := by decide +kernel
theorem dX1_step_57 : decode cX1_step 57 = .ok (.iadd, 1) := by decide +kernel
theorem dX1_step_58 : decode cX1_step 58 = .ok (.putfield 26, 3) := by decide +kernel
theorem dX1_step_61 : decode cX1_step 61 = .ok (.aload_n 0, 1) := by decide +kernel
theorem dX1_step_62 : decode cX1_step 62 = .ok (.dup, 1) := by decide +kernel
theorem dX1_step_63 : decode cX1_step 63 = .ok (.getfield 22, 3) := by decide +kernel
theorem dX1_step_66 : decode cX1_step 66 = .ok (.iconst 1, 1) := by decide +kernel
theorem dX1_step_67 : decode cX1_step 67 = .ok (.iadd, 1) := by decide +kernel
theorem dX1_step_68 : decode cX1_step 68 = .ok (.putfield 22, 3) := by decide +kernel
theorem dX1_step_71 : decode cX1_step 71 = .ok (.aload_n 0, 1) := by decide +kernel
theorem dX1_step_72 : decode cX1_step 72 = .ok (.aload_n 0, 1) := by decide +kernel
theorem dX1_step_73 : decode cX1_step 73 = .ok (.getfield 26, 3) := by decide +kernel
theorem dX1_step_76 : decode cX1_step 76 = .ok (.invokevirtual 43, 3) := by decide +kernel
theorem dX1_step_79 : decode cX1_step 79 = .ok (.return_, 1) := by decide +kernel
theorem dX1_goOn_0 : decode cX1_goOn 0 = .ok (.iload_n 1, 1) := by decide +kernel
theorem dX1_goOn_1 : decode cX1_goOn 1 = .ok (.iconst 3, 1) := by decide +kernel
theorem dX1_goOn_2 : decode cX1_goOn 2 = .ok (.iand, 1) := by decide +kernel
theorem dX1_goOn_3 : decode cX1_goOn 3 = .ok (.tableswitch 64 0 2 #[25, 38, 51], 25) := by decide +kernel
theorem dX1_goOn_28 : decode cX1_goOn 28 = .ok (.aload_n 0, 1) := by decide +kernel
theorem dX1_goOn_29 : decode cX1_goOn 29 = .ok (.dup, 1) := by decide +kernel
theorem dX1_goOn_30 : decode cX1_goOn 30 = .ok (.getfield 47, 3) := by decide +kernel
theorem dX1_goOn_33 : decode cX1_goOn 33 = .ok (.lconst 1, 1) := by decide +kernel
theorem dX1_goOn_34 : decode cX1_goOn 34 = .ok (.ladd, 1) := by decide +kernel
theorem dX1_goOn_35 : decode cX1_goOn 35 = .ok (.putfield 47, 3) := by decide +kernel
theorem dX1_goOn_38 : decode cX1_goOn 38 = .ok (.goto 39, 3) := by decide +kernel
theorem dX1_goOn_41 : decode cX1_goOn 41 = .ok (.aload_n 0, 1) := by decide +kernel
theorem dX1_goOn_42 : decode cX1_goOn 42 = .ok (.dup, 1) := by decide +kernel
theorem dX1_goOn_43 : decode cX1_goOn 43 = .ok (.getfield 51, 3) := by decide +kernel
theorem dX1_goOn_46 : decode cX1_goOn 46 = .ok (.lconst 1, 1) := by decide +kernel
theorem dX1_goOn_47 : decode cX1_goOn 47 = .ok (.ladd, 1) := by decide +kernel
theorem dX1_goOn_48 : decode cX1_goOn 48 = .ok (.putfield 51, 3) := by decide +kernel
theorem dX1_goOn_51 : decode cX1_goOn 51 = .ok (.goto 26, 3) := by decide +kernel
theorem dX1_goOn_54 : decode cX1_goOn 54 = .ok (.aload_n 0, 1) := by decide +kernel
theorem dX1_goOn_55 : decode cX1_goOn 55 = .ok (.dup, 1) := by decide +kernel
theorem dX1_goOn_56 : decode cX1_goOn 56 = .ok (.getfield 47, 3) := by decide +kernel
theorem dX1_goOn_59 : decode cX1_goOn 59 = .ok (.lconst 1, 1) := by decide +kernel
theorem dX1_goOn_60 : decode cX1_goOn 60 = .ok (.lsub, 1) := by decide +kernel
theorem dX1_goOn_61 : decode cX1_goOn 61 = .ok (.putfield 47, 3) := by decide +kernel
theorem dX1_goOn_64 : decode cX1_goOn 64 = .ok (.goto 13, 3) := by decide +kernel
theorem dX1_goOn_67 : decode cX1_goOn 67 = .ok (.aload_n 0, 1) := by decide +kernel
theorem dX1_goOn_68 : decode cX1_goOn 68 = .ok (.dup, 1) := by decide +kernel
theorem dX1_goOn_69 : decode cX1_goOn 69 = .ok (.getfield 51, 3) := by decide +kernel
theorem dX1_goOn_72 : decode cX1_goOn 72 = .ok (.lconst 1, 1) := by decide +kernel
theorem dX1_goOn_73 : decode cX1_goOn 73 = .ok (.lsub, 1) := by decide +kernel
theorem dX1_goOn_74 : decode cX1_goOn 74 = .ok (.putfield 51, 3) := by decide +kernel
theorem dX1_goOn_77 : decode cX1_goOn 77 = .ok (.return_, 1) := by decide +kernel
theorem dX1_standAt_0 : decode cX1_standAt 0 = .ok (.aload_n 0, 1) := by decide +kernel
theorem dX1_standAt_1 : decode cX1_standAt 1 = .ok (.lload_n 1, 1) := by decide +kernel
theorem dX1_standAt_2 : decode cX1_standAt 2 = .ok (.putfield 47, 3) := by decide +kernel
theorem dX1_standAt_5 : decode cX1_standAt 5 = .ok (.aload_n 0, 1) := by decide +kernel
theorem dX1_standAt_6 : decode cX1_standAt 6 = .ok (.lload_n 3, 1) := by decide +kernel
theorem dX1_standAt_7 : decode cX1_standAt 7 = .ok (.putfield 51, 3) := by decide +kernel
theorem dX1_standAt_10 : decode cX1_standAt 10 = .ok (.return_, 1) := by decide +kernel
theorem dX1_stretch_0 : decode cX1_stretch 0 = .ok (.aload_n 0, 1) := by decide +kernel
theorem dX1_stretch_1 : decode cX1_stretch 1 = .ok (.iload_n 1, 1) := by decide +kernel
theorem dX1_stretch_2 : decode cX1_stretch 2 = .ok (.i2l, 1) := by decide +kernel
theorem dX1_stretch_3 : decode cX1_stretch 3 = .ok (.aload_n 0, 1) := by decide +kernel
theorem dX1_stretch_4 : decode cX1_stretch 4 = .ok (.getfield 47, 3) := by decide +kernel
theorem dX1_stretch_7 : decode cX1_stretch 7 = .ok (.lmul, 1) := by decide +kernel
theorem dX1_stretch_8 : decode cX1_stretch 8 = .ok (.iload_n 2, 1) := by decide +kernel
theorem dX1_stretch_9 : decode cX1_stretch 9 = .ok (.i2l, 1) := by decide +kernel
theorem dX1_stretch_10 : decode cX1_stretch 10 = .ok (.aload_n 0, 1) := by decide +kernel
theorem dX1_stretch_11 : decode cX1_stretch 11 = .ok (.getfield 51, 3) := by decide +kernel
theorem dX1_stretch_14 : decode cX1_stretch 14 = .ok (.lmul, 1) := by decide +kernel
theorem dX1_stretch_15 : decode cX1_stretch 15 = .ok (.lsub, 1) := by decide +kernel
theorem dX1_stretch_16 : decode cX1_stretch 16 = .ok (.iload_n 1, 1) := by decide +kernel
theorem dX1_stretch_17 : decode cX1_stretch 17 = .ok (.i2l, 1) := by decide +kernel
theorem dX1_stretch_18 : decode cX1_stretch 18 = .ok (.aload_n 0, 1) := by decide +kernel
theorem dX1_stretch_19 : decode cX1_stretch 19 = .ok (.getfield 51, 3) := by decide +kernel
theorem dX1_stretch_22 : decode cX1_stretch 22 = .ok (.lmul, 1) := by decide +kernel
theorem dX1_stretch_23 : decode cX1_stretch 23 = .ok (.iload_n 2, 1) := by decide +kernel
theorem dX1_stretch_24 : decode cX1_stretch 24 = .ok (.i2l, 1) := by decide +kernel
theorem dX1_stretch_25 : decode cX1_stretch 25 = .ok (.aload_n 0, 1) := by decide +kernel
theorem dX1_stretch_26 : decode cX1_stretch 26 = .ok (.getfield 47, 3) := by decide +kernel
theorem dX1_stretch_29 : decode cX1_stretch 29 = .ok (.lmul, 1) := by decide +kernel
theorem dX1_stretch_30 : decode cX1_stretch 30 = .ok (.ladd, 1) := by decide +kernel
theorem dX1_stretch_31 : decode cX1_stretch 31 = .ok (.invokevirtual 29, 3) := by decide +kernel
theorem dX1_stretch_34 : decode cX1_stretch 34 = .ok (.return_, 1) := by decide +kernel
theorem dX1_turnRound_0 : decode cX1_turnRound 0 = .ok (.iconst 0, 1) := by decide +kernel
theorem dX1_turnRound_1 : decode cX1_turnRound 1 = .ok (.istore_n 2, 1) := by decide +kernel
theorem dX1_turnRound_2 : decode cX1_turnRound 2 = .ok (.iload_n 2, 1) := by decide +kernel
theorem dX1_turnRound_3 : decode cX1_turnRound 3 = .ok (.iload_n 1, 1) := by decide +kernel
theorem dX1_turnRound_4 : decode cX1_turnRound 4 = .ok (.iconst 3, 1) := by decide +kernel
theorem dX1_turnRound_5 : decode cX1_turnRound 5 = .ok (.iand, 1) := by decide +kernel
theorem dX1_turnRound_6 : decode cX1_turnRound 6 = .ok (.if_icmp .ge 22, 3) := by decide +kernel
theorem dX1_turnRound_9 : decode cX1_turnRound 9 = .ok (.aload_n 0, 1) := by decide +kernel
theorem dX1_turnRound_10 : decode cX1_turnRound 10 = .ok (.aload_n 0, 1) := by decide +kernel
theorem dX1_turnRound_11 : decode cX1_turnRound 11 = .ok (.getfield 51, 3) := by decide +kernel
theorem dX1_turnRound_14 : decode cX1_turnRound 14 = .ok (.lneg, 1) := by decide +kernel
theorem dX1_turnRound_15 : decode cX1_turnRound 15 = .ok (.aload_n 0, 1) := by decide +kernel
theorem dX1_turnRound_16 : decode cX1_turnRound 16 = .ok (.getfield 47, 3) := by decide +kernel
theorem dX1_turnRound_19 : decode cX1_turnRound 19 = .ok (.invokevirtual 29, 3) := by decide +kernel
theorem dX1_turnRound_22 : decode cX1_turnRound 22 = .ok (.iinc 2 1, 3) := by decide +kernel
theorem dX1_turnRound_25 : decode cX1_turnRound 25 = .ok (.goto (-23), 3) := by decide +kernel
theorem dX1_turnRound_28 : decode cX1_turnRound 28 = .ok (.return_, 1) := by decide +kernel
theorem dX1_isAt_0 : decode cX1_isAt 0 = .ok (.aload_n 0, 1) := by decide +kernel
theorem dX1_isAt_1 : decode cX1_isAt 1 = .ok (.getfield 47, 3) := by decide +kernel
theorem dX1_isAt_4 : decode cX1_isAt 4 = .ok (.iload_n 1, 1) := by decide +kernel
theorem dX1_isAt_5 : decode cX1_isAt 5 = .ok (.i2l, 1) := by decide +kernel
theorem dX1_isAt_6 : decode cX1_isAt 6 = .ok (.lcmp, 1) := by decide +kernel
theorem dX1_isAt_7 : decode cX1_isAt 7 = .ok (.ifCond .ne 17, 3) := by decide +kernel
theorem dX1_isAt_10 : decode cX1_isAt 10 = .ok (.aload_n 0, 1) := by decide +kernel
theorem dX1_isAt_11 : decode cX1_isAt 11 = .ok (.getfield 51, 3) := by decide +kernel
theorem dX1_isAt_14 : decode cX1_isAt 14 = .ok (.iload_n 2, 1) := by decide +kernel
theorem dX1_isAt_15 : decode cX1_isAt 15 = .ok (.i2l, 1) := by decide +kernel
theorem dX1_isAt_16 : decode cX1_isAt 16 = .ok (.lcmp, 1) := by decide +kernel
theorem dX1_isAt_17 : decode cX1_isAt 17 = .ok (.ifCond .ne 7, 3) := by decide +kernel
theorem dX1_isAt_20 : decode cX1_isAt 20 = .ok (.iconst 1, 1) := by decide +kernel
theorem dX1_isAt_21 : decode cX1_isAt 21 = .ok (.goto 4, 3) := by decide +kernel
theorem dX1_isAt_24 : decode cX1_isAt 24 = .ok (.iconst 0, 1) := by decide +kernel
theorem dX1_isAt_25 : decode cX1_isAt 25 = .ok (.ireturn, 1) := by decide +kernel
theorem dX1_apartSquared_0 : decode cX1_apartSquared 0 = .ok (.aload_n 0, 1) := by decide +kernel
theorem dX1_apartSquared_1 : decode cX1_apartSquared 1 = .ok (.getfield 47, 3) := by decide +kernel
theorem dX1_apartSquared_4 : decode cX1_apartSquared 4 = .ok (.aload_n 1, 1) := by decide +kernel
theorem dX1_apartSquared_5 : decode cX1_apartSquared 5 = .ok (.getfield 47, 3) := by decide +kernel
theorem dX1_apartSquared_8 : decode cX1_apartSquared 8 = .ok (.lsub, 1) := by decide +kernel
theorem dX1_apartSquared_9 : decode cX1_apartSquared 9 = .ok (.aload_n 0, 1) := by decide +kernel
theorem dX1_apartSquared_10 : decode cX1_apartSquared 10 = .ok (.getfield 47, 3) := by decide +kernel
theorem dX1_apartSquared_13 : decode cX1_apartSquared 13 = .ok (.aload_n 1, 1) := by decide +kernel
theorem dX1_apartSquared_14 : decode cX1_apartSquared 14 = .ok (.getfield 47, 3) := by decide +kernel
theorem dX1_apartSquared_17 : decode cX1_apartSquared 17 = .ok (.lsub, 1) := by decide +kernel
theorem dX1_apartSquared_18 : decode cX1_apartSquared 18 = .ok (.lmul, 1) := by decide +kernel
theorem dX1_apartSquared_19 : decode cX1_apartSquared 19 = .ok (.aload_n 0, 1) := by decide +kernel
theorem dX1_apartSquared_20 : decode cX1_apartSquared 20 = .ok (.getfield 51, 3) := by decide +kernel
theorem dX1_apartSquared_23 : decode cX1_apartSquared 23 = .ok (.aload_n 1, 1) := by decide +kernel
theorem dX1_apartSquared_24 : decode cX1_apartSquared 24 = .ok (.getfield 51, 3) := by decide +kernel
theorem dX1_apartSquared_27 : decode cX1_apartSquared 27 = .ok (.lsub, 1) := by decide +kernel
theorem dX1_apartSquared_28 : decode cX1_apartSquared 28 = .ok (.aload_n 0, 1) := by decide +kernel
theorem dX1_apartSquared_29 : decode cX1_apartSquared 29 = .ok (.getfield 51, 3) := by decide +kernel
theorem dX1_apartSquared_32 : decode cX1_apartSquared 32 = .ok (.aload_n 1, 1) := by decide +kernel
theorem dX1_apartSquared_33 : decode cX1_apartSquared 33 = .ok (.getfield 51, 3) := by decide +kernel
theorem dX1_apartSquared_36 : decode cX1_apartSquared 36 = .ok (.lsub, 1) := by decide +kernel
theorem dX1_apartSquared_37 : decode cX1_apartSquared 37 = .ok (.lmul, 1) := by decide +kernel
theorem dX1_apartSquared_38 : decode cX1_apartSquared 38 = .ok (.ladd, 1) := by decide +kernel
theorem dX1_apartSquared_39 : decode cX1_apartSquared 39 = .ok (.lreturn, 1) := by decide +kernel
theorem dX1_placeKey_0 : decode cX1_placeKey 0 = .ok (.aload_n 0, 1) := by decide +kernel
theorem dX1_placeKey_1 : decode cX1_placeKey 1 = .ok (.getfield 47, 3) := by decide +kernel
theorem dX1_placeKey_4 : decode cX1_placeKey 4 = .ok (.aload_n 0, 1) := by decide +kernel
theorem dX1_placeKey_5 : decode cX1_placeKey 5 = .ok (.getfield 51, 3) := by decide +kernel
theorem dX1_placeKey_8 : decode cX1_placeKey 8 = .ok (.iconst 0, 1) := by decide +kernel
theorem dX1_placeKey_9 : decode cX1_placeKey 9 = .ok (.invokestatic 54, 3) := by decide +kernel
theorem dX1_placeKey_12 : decode cX1_placeKey 12 = .ok (.ireturn, 1) := by decide +kernel
theorem dX1_sideKey_0 : decode cX1_sideKey 0 = .ok (.aload_n 0, 1) := by decide +kernel
theorem dX1_sideKey_1 : decode cX1_sideKey 1 = .ok (.getfield 26, 3) := by decide +kernel
theorem dX1_sideKey_4 : decode cX1_sideKey 4 = .ok (.iconst 3, 1) := by decide +kernel
theorem dX1_sideKey_5 : decode cX1_sideKey 5 = .ok (.iand, 1) := by decide +kernel
theorem dX1_sideKey_6 : decode cX1_sideKey 6 = .ok (.tableswitch 69 0 2 #[26, 41, 56], 26) := by decide +kernel
theorem dX1_sideKey_32 : decode cX1_sideKey 32 = .ok (.aload_n 0, 1) := by decide +kernel
theorem dX1_sideKey_33 : decode cX1_sideKey 33 = .ok (.getfield 47, 3) := by decide +kernel
theorem dX1_sideKey_36 : decode cX1_sideKey 36 = .ok (.lconst 1, 1) := by decide +kernel
theorem dX1_sideKey_37 : decode cX1_sideKey 37 = .ok (.lsub, 1) := by decide +kernel
theorem dX1_sideKey_38 : decode cX1_sideKey 38 = .ok (.aload_n 0, 1) := by decide +kernel
theorem dX1_sideKey_39 : decode cX1_sideKey 39 = .ok (.getfield 51, 3) := by decide +kernel
theorem dX1_sideKey_42 : decode cX1_sideKey 42 = .ok (.iconst 0, 1) := by decide +kernel
theorem dX1_sideKey_43 : decode cX1_sideKey 43 = .ok (.invokestatic 54, 3) := by decide +kernel
theorem dX1_sideKey_46 : decode cX1_sideKey 46 = .ok (.ireturn, 1) := by decide +kernel
theorem dX1_sideKey_47 : decode cX1_sideKey 47 = .ok (.aload_n 0, 1) := by decide +kernel
theorem dX1_sideKey_48 : decode cX1_sideKey 48 = .ok (.getfield 47, 3) := by decide +kernel
theorem dX1_sideKey_51 : decode cX1_sideKey 51 = .ok (.aload_n 0, 1) := by decide +kernel
theorem dX1_sideKey_52 : decode cX1_sideKey 52 = .ok (.getfield 51, 3) := by decide +kernel
theorem dX1_sideKey_55 : decode cX1_sideKey 55 = .ok (.lconst 1, 1) := by decide +kernel
theorem dX1_sideKey_56 : decode cX1_sideKey 56 = .ok (.lsub, 1) := by decide +kernel
theorem dX1_sideKey_57 : decode cX1_sideKey 57 = .ok (.iconst 1, 1) := by decide +kernel
theorem dX1_sideKey_58 : decode cX1_sideKey 58 = .ok (.invokestatic 54, 3) := by decide +kernel
theorem dX1_sideKey_61 : decode cX1_sideKey 61 = .ok (.ireturn, 1) := by decide +kernel
theorem dX1_sideKey_62 : decode cX1_sideKey 62 = .ok (.aload_n 0, 1) := by decide +kernel
theorem dX1_sideKey_63 : decode cX1_sideKey 63 = .ok (.getfield 47, 3) := by decide +kernel
theorem dX1_sideKey_66 : decode cX1_sideKey 66 = .ok (.aload_n 0, 1) := by decide +kernel
theorem dX1_sideKey_67 : decode cX1_sideKey 67 = .ok (.getfield 51, 3) := by decide +kernel
theorem dX1_sideKey_70 : decode cX1_sideKey 70 = .ok (.iconst 0, 1) := by decide +kernel
theorem dX1_sideKey_71 : decode cX1_sideKey 71 = .ok (.invokestatic 54, 3) := by decide +kernel
theorem dX1_sideKey_74 : decode cX1_sideKey 74 = .ok (.ireturn, 1) := by decide +kernel
theorem dX1_sideKey_75 : decode cX1_sideKey 75 = .ok (.aload_n 0, 1) := by decide +kernel
theorem dX1_sideKey_76 : decode cX1_sideKey 76 = .ok (.getfield 47, 3) := by decide +kernel
theorem dX1_sideKey_79 : decode cX1_sideKey 79 = .ok (.aload_n 0, 1) := by decide +kernel
theorem dX1_sideKey_80 : decode cX1_sideKey 80 = .ok (.getfield 51, 3) := by decide +kernel
theorem dX1_sideKey_83 : decode cX1_sideKey 83 = .ok (.iconst 1, 1) := by decide +kernel
theorem dX1_sideKey_84 : decode cX1_sideKey 84 = .ok (.invokestatic 54, 3) := by decide +kernel
theorem dX1_sideKey_87 : decode cX1_sideKey 87 = .ok (.ireturn, 1) := by decide +kernel
theorem dX1_key_0 : decode cX1_key 0 = .ok (.lload_n 0, 1) := by decide +kernel
theorem dX1_key_1 : decode cX1_key 1 = .ok (.l2i, 1) := by decide +kernel
theorem dX1_key_2 : decode cX1_key 2 = .ok (.sipush 4096, 3) := by decide +kernel
theorem dX1_key_5 : decode cX1_key 5 = .ok (.iadd, 1) := by decide +kernel
theorem dX1_key_6 : decode cX1_key 6 = .ok (.istore 5, 2) := by decide +kernel
theorem dX1_key_8 : decode cX1_key 8 = .ok (.lload_n 2, 1) := by decide +kernel
theorem dX1_key_9 : decode cX1_key 9 = .ok (.l2i, 1) := by decide +kernel
theorem dX1_key_10 : decode cX1_key 10 = .ok (.sipush 4096, 3) := by decide +kernel
theorem dX1_key_13 : decode cX1_key 13 = .ok (.iadd, 1) := by decide +kernel
theorem dX1_key_14 : decode cX1_key 14 = .ok (.istore 6, 2) := by decide +kernel
theorem dX1_key_16 : decode cX1_key 16 = .ok (.iload 5, 2) := by decide +kernel
theorem dX1_key_18 : decode cX1_key 18 = .ok (.bipush 13, 2) := by decide +kernel
theorem dX1_key_20 : decode cX1_key 20 = .ok (.ishl, 1) := by decide +kernel
theorem dX1_key_21 : decode cX1_key 21 = .ok (.iload 6, 2) := by decide +kernel
theorem dX1_key_23 : decode cX1_key 23 = .ok (.ior, 1) := by decide +kernel
theorem dX1_key_24 : decode cX1_key 24 = .ok (.iconst 1, 1) := by decide +kernel
theorem dX1_key_25 : decode cX1_key 25 = .ok (.ishl, 1) := by decide +kernel
theorem dX1_key_26 : decode cX1_key 26 = .ok (.iload 4, 2) := by decide +kernel
theorem dX1_key_28 : decode cX1_key 28 = .ok (.ior, 1) := by decide +kernel
theorem dX1_key_29 : decode cX1_key 29 = .ok (.ireturn, 1) := by decide +kernel
theorem dX1_forget_0 : decode cX1_forget 0 = .ok (.aload_n 0, 1) := by decide +kernel
theorem dX1_forget_1 : decode cX1_forget 1 = .ok (.getfield 15, 3) := by decide +kernel
theorem dX1_forget_4 : decode cX1_forget 4 = .ok (.iconst 0, 1) := by decide +kernel
theorem dX1_forget_5 : decode cX1_forget 5 = .ok (.invokestatic 58, 3) := by decide +kernel
theorem dX1_forget_8 : decode cX1_forget 8 = .ok (.return_, 1) := by decide +kernel
theorem dX1_note_0 : decode cX1_note 0 = .ok (.aload_n 0, 1) := by decide +kernel
theorem dX1_note_1 : decode cX1_note 1 = .ok (.iload_n 1, 1) := by decide +kernel
theorem dX1_note_2 : decode cX1_note 2 = .ok (.invokevirtual 64, 3) := by decide +kernel
theorem dX1_note_5 : decode cX1_note 5 = .ok (.istore_n 2, 1) := by decide +kernel
theorem dX1_note_6 : decode cX1_note 6 = .ok (.iload_n 2, 1) := by decide +kernel
theorem dX1_note_7 : decode cX1_note 7 = .ok (.iconst (-1), 1) := by decide +kernel
theorem dX1_note_8 : decode cX1_note 8 = .ok (.if_icmp .ne 5, 3) := by decide +kernel
theorem dX1_note_11 : decode cX1_note 11 = .ok (.iconst 0, 1) := by decide +kernel
theorem dX1_note_12 : decode cX1_note 12 = .ok (.ireturn, 1) := by decide +kernel
theorem dX1_note_13 : decode cX1_note 13 = .ok (.aload_n 0, 1) := by decide +kernel
theorem dX1_note_14 : decode cX1_note 14 = .ok (.getfield 9, 3) := by decide +kernel
theorem dX1_note_17 : decode cX1_note 17 = .ok (.iload_n 2, 1) := by decide +kernel
theorem dX1_note_18 : decode cX1_note 18 = .ok (.iload_n 1, 1) := by decide +kernel
theorem dX1_note_19 : decode cX1_note 19 = .ok (.iastore, 1) := by decide +kernel
theorem dX1_note_20 : decode cX1_note 20 = .ok (.aload_n 0, 1) := by decide +kernel
theorem dX1_note_21 : decode cX1_note 21 = .ok (.getfield 15, 3) := by decide +kernel
theorem dX1_note_24 : decode cX1_note 24 = .ok (.iload_n 2, 1) := by decide +kernel
theorem dX1_note_25 : decode cX1_note 25 = .ok (.dup2, 1) := by decide +kernel
theorem dX1_note_26 : decode cX1_note 26 = .ok (.iaload, 1) := by decide +kernel
theorem dX1_note_27 : decode cX1_note 27 = .ok (.iconst 1, 1) := by decide +kernel
theorem dX1_note_28 : decode cX1_note 28 = .ok (.iadd, 1) := by decide +kernel
theorem dX1_note_29 : decode cX1_note 29 = .ok (.iastore, 1) := by decide +kernel
theorem dX1_note_30 : decode cX1_note 30 = .ok (.aload_n 0, 1) := by decide +kernel
theorem dX1_note_31 : decode cX1_note 31 = .ok (.getfield 15, 3) := by decide +kernel
theorem dX1_note_34 : decode cX1_note 34 = .ok (.iload_n 2, 1) := by decide +kernel
theorem dX1_note_35 : decode cX1_note 35 = .ok (.iaload, 1) := by decide +kernel
theorem dX1_note_36 : decode cX1_note 36 = .ok (.ireturn, 1) := by decide +kernel
theorem dX1_wentOnceAlongAll_0 : decode cX1_wentOnceAlongAll 0 = .ok (.iload_n 1, 1) := by decide +kernel
theorem dX1_wentOnceAlongAll_1 : decode cX1_wentOnceAlongAll 1 = .ok (.ineg, 1) := by decide +kernel
theorem dX1_wentOnceAlongAll_2 : decode cX1_wentOnceAlongAll 2 = .ok (.istore_n 2, 1) := by decide +kernel
theorem dX1_wentOnceAlongAll_3 : decode cX1_wentOnceAlongAll 3 = .ok (.iload_n 2, 1) := by decide +kernel
theorem dX1_wentOnceAlongAll_4 : decode cX1_wentOnceAlongAll 4 = .ok (.iload_n 1, 1) := by decide +kernel
theorem dX1_wentOnceAlongAll_5 : decode cX1_wentOnceAlongAll 5 = .ok (.if_icmp .gt 91, 3) := by decide +kernel
theorem dX1_wentOnceAlongAll_8 : decode cX1_wentOnceAlongAll 8 = .ok (.iload_n 1, 1) := by decide +kernel
theorem dX1_wentOnceAlongAll_9 : decode cX1_wentOnceAlongAll 9 = .ok (.ineg, 1) := by decide +kernel
theorem dX1_wentOnceAlongAll_10 : decode cX1_wentOnceAlongAll 10 = .ok (.istore_n 3, 1) := by decide +kernel
theorem dX1_wentOnceAlongAll_11 : decode cX1_wentOnceAlongAll 11 = .ok (.iload_n 3, 1) := by decide +kernel
theorem dX1_wentOnceAlongAll_12 : decode cX1_wentOnceAlongAll 12 = .ok (.iload_n 1, 1) := by decide +kernel
theorem dX1_wentOnceAlongAll_13 : decode cX1_wentOnceAlongAll 13 = .ok (.if_icmp .gt 77, 3) := by decide +kernel
theorem dX1_wentOnceAlongAll_16 : decode cX1_wentOnceAlongAll 16 = .ok (.iload_n 2, 1) := by decide +kernel
theorem dX1_wentOnceAlongAll_17 : decode cX1_wentOnceAlongAll 17 = .ok (.iload_n 1, 1) := by decide +kernel
theorem dX1_wentOnceAlongAll_18 : decode cX1_wentOnceAlongAll 18 = .ok (.if_icmp .eq 19, 3) := by decide +kernel
theorem dX1_wentOnceAlongAll_21 : decode cX1_wentOnceAlongAll 21 = .ok (.aload_n 0, 1) := by decide +kernel
theorem dX1_wentOnceAlongAll_22 : decode cX1_wentOnceAlongAll 22 = .ok (.iload_n 2, 1) := by decide +kernel
theorem dX1_wentOnceAlongAll_23 : decode cX1_wentOnceAlongAll 23 = .ok (.i2l, 1) := by decide +kernel
theorem dX1_wentOnceAlongAll_24 : decode cX1_wentOnceAlongAll 24 = .ok (.iload_n 3, 1) := by decide +kernel
theorem dX1_wentOnceAlongAll_25 : decode cX1_wentOnceAlongAll 25 = .ok (.i2l, 1) := by decide +kernel
theorem dX1_wentOnceAlongAll_26 : decode cX1_wentOnceAlongAll 26 = .ok (.iconst 0, 1) := by decide +kernel
theorem dX1_wentOnceAlongAll_27 : decode cX1_wentOnceAlongAll 27 = .ok (.invokestatic 54, 3) := by decide +kernel
theorem dX1_wentOnceAlongAll_30 : decode cX1_wentOnceAlongAll 30 = .ok (.invokevirtual 68, 3) := by decide +kernel
theorem dX1_wentOnceAlongAll_33 : decode cX1_wentOnceAlongAll 33 = .ok (.iconst 1, 1) := by decide +kernel
theorem dX1_wentOnceAlongAll_34 : decode cX1_wentOnceAlongAll 34 = .ok (.if_icmp .ne 7, 3) := by decide +kernel
theorem dX1_wentOnceAlongAll_37 : decode cX1_wentOnceAlongAll 37 = .ok (.iconst 1, 1) := by decide +kernel
theorem dX1_wentOnceAlongAll_38 : decode cX1_wentOnceAlongAll 38 = .ok (.goto 4, 3) := by decide +kernel
theorem dX1_wentOnceAlongAll_41 : decode cX1_wentOnceAlongAll 41 = .ok (.iconst 0, 1) := by decide +kernel
theorem dX1_wentOnceAlongAll_42 : decode cX1_wentOnceAlongAll 42 = .ok (.istore 4, 2) := by decide +kernel
theorem dX1_wentOnceAlongAll_44 : decode cX1_wentOnceAlongAll 44 = .ok (.iload_n 3, 1) := by decide +kernel
theorem dX1_wentOnceAlongAll_45 : decode cX1_wentOnceAlongAll 45 = .ok (.iload_n 1, 1) := by decide +kernel
theorem dX1_wentOnceAlongAll_46 : decode cX1_wentOnceAlongAll 46 = .ok (.if_icmp .eq 19, 3) := by decide +kernel
theorem dX1_wentOnceAlongAll_49 : decode cX1_wentOnceAlongAll 49 = .ok (.aload_n 0, 1) := by decide +kernel
theorem dX1_wentOnceAlongAll_50 : decode cX1_wentOnceAlongAll 50 = .ok (.iload_n 2, 1) := by decide +kernel
theorem dX1_wentOnceAlongAll_51 : decode cX1_wentOnceAlongAll 51 = .ok (.i2l, 1) := by decide +kernel
theorem dX1_wentOnceAlongAll_52 : decode cX1_wentOnceAlongAll 52 = .ok (.iload_n 3, 1) := by decide +kernel
theorem dX1_wentOnceAlongAll_53 : decode cX1_wentOnceAlongAll 53 = .ok (.i2l, 1) := by decide +kernel
theorem dX1_wentOnceAlongAll_54 : decode cX1_wentOnceAlongAll 54 = .ok (.iconst 1, 1) := by decide +kernel
theorem dX1_wentOnceAlongAll_55 : decode cX1_wentOnceAlongAll 55 = .ok (.invokestatic 54, 3) := by decide +kernel
theorem dX1_wentOnceAlongAll_58 : decode cX1_wentOnceAlongAll 58 = .ok (.invokevirtual 68, 3) := by decide +kernel
theorem dX1_wentOnceAlongAll_61 : decode cX1_wentOnceAlongAll 61 = .ok (.iconst 1, 1) := by decide +kernel
theorem dX1_wentOnceAlongAll_62 : decode cX1_wentOnceAlongAll 62 = .ok (.if_icmp .ne 7, 3) := by decide +kernel
theorem dX1_wentOnceAlongAll_65 : decode cX1_wentOnceAlongAll 65 = .ok (.iconst 1, 1) := by decide +kernel
theorem dX1_wentOnceAlongAll_66 : decode cX1_wentOnceAlongAll 66 = .ok (.goto 4, 3) := by decide +kernel
theorem dX1_wentOnceAlongAll_69 : decode cX1_wentOnceAlongAll 69 = .ok (.iconst 0, 1) := by decide +kernel
theorem dX1_wentOnceAlongAll_70 : decode cX1_wentOnceAlongAll 70 = .ok (.istore 5, 2) := by decide +kernel
theorem dX1_wentOnceAlongAll_72 : decode cX1_wentOnceAlongAll 72 = .ok (.iload 4, 2) := by decide +kernel
theorem dX1_wentOnceAlongAll_74 : decode cX1_wentOnceAlongAll 74 = .ok (.ifCond .eq 8, 3) := by decide +kernel
theorem dX1_wentOnceAlongAll_77 : decode cX1_wentOnceAlongAll 77 = .ok (.iload 5, 2) := by decide +kernel
theorem dX1_wentOnceAlongAll_79 : decode cX1_wentOnceAlongAll 79 = .ok (.ifCond .ne 5, 3) := by decide +kernel
theorem dX1_wentOnceAlongAll_82 : decode cX1_wentOnceAlongAll 82 = .ok (.iconst 0, 1) := by decide +kernel
theorem dX1_wentOnceAlongAll_83 : decode cX1_wentOnceAlongAll 83 = .ok (.ireturn, 1) := by decide +kernel
theorem dX1_wentOnceAlongAll_84 : decode cX1_wentOnceAlongAll 84 = .ok (.iinc 3 1, 3) := by decide +kernel
theorem dX1_wentOnceAlongAll_87 : decode cX1_wentOnceAlongAll 87 = .ok (.goto (-76), 3) := by decide +kernel
theorem dX1_wentOnceAlongAll_90 : decode cX1_wentOnceAlongAll 90 = .ok (.iinc 2 1, 3) := by decide +kernel
theorem dX1_wentOnceAlongAll_93 : decode cX1_wentOnceAlongAll 93 = .ok (.goto (-90), 3) := by decide +kernel
theorem dX1_wentOnceAlongAll_96 : decode cX1_wentOnceAlongAll 96 = .ok (.iconst 1, 1) := by decide +kernel
theorem dX1_wentOnceAlongAll_97 : decode cX1_wentOnceAlongAll 97 = .ok (.ireturn, 1) := by decide +kernel
theorem dX1_timesOf_0 : decode cX1_timesOf 0 = .ok (.aload_n 0, 1) := by decide +kernel
theorem dX1_timesOf_1 : decode cX1_timesOf 1 = .ok (.iload_n 1, 1) := by decide +kernel
theorem dX1_timesOf_2 : decode cX1_timesOf 2 = .ok (.invokevirtual 64, 3) := by decide +kernel
theorem dX1_timesOf_5 : decode cX1_timesOf 5 = .ok (.istore_n 2, 1) := by decide +kernel
theorem dX1_timesOf_6 : decode cX1_timesOf 6 = .ok (.iload_n 2, 1) := by decide +kernel
theorem dX1_timesOf_7 : decode cX1_timesOf 7 = .ok (.iconst (-1), 1) := by decide +kernel
theorem dX1_timesOf_8 : decode cX1_timesOf 8 = .ok (.if_icmp .ne 7, 3) := by decide +kernel
theorem dX1_timesOf_11 : decode cX1_timesOf 11 = .ok (.iconst 0, 1) := by decide +kernel
theorem dX1_timesOf_12 : decode cX1_timesOf 12 = .ok (.goto 9, 3) := by decide +kernel
theorem dX1_timesOf_15 : decode cX1_timesOf 15 = .ok (.aload_n 0, 1) := by decide +kernel
theorem dX1_timesOf_16 : decode cX1_timesOf 16 = .ok (.getfield 15, 3) := by decide +kernel
theorem dX1_timesOf_19 : decode cX1_timesOf 19 = .ok (.iload_n 2, 1) := by decide +kernel
theorem dX1_timesOf_20 : decode cX1_timesOf 20 = .ok (.iaload, 1) := by decide +kernel
theorem dX1_timesOf_21 : decode cX1_timesOf 21 = .ok (.ireturn, 1) := by decide +kernel
theorem dX1_slotOf_0 : decode cX1_slotOf 0 = .ok (.iload_n 1, 1) := by decide +kernel
theorem dX1_slotOf_1 : decode cX1_slotOf 1 = .ok (.ldc 71, 2) := by decide +kernel
theorem dX1_slotOf_3 : decode cX1_slotOf 3 = .ok (.imul, 1) := by decide +kernel
theorem dX1_slotOf_4 : decode cX1_slotOf 4 = .ok (.bipush 19, 2) := by decide +kernel
theorem dX1_slotOf_6 : decode cX1_slotOf 6 = .ok (.iushr, 1) := by decide +kernel
theorem dX1_slotOf_7 : decode cX1_slotOf 7 = .ok (.istore_n 2, 1) := by decide +kernel
theorem dX1_slotOf_8 : decode cX1_slotOf 8 = .ok (.iconst 0, 1) := by decide +kernel
theorem dX1_slotOf_9 : decode cX1_slotOf 9 = .ok (.istore_n 3, 1) := by decide +kernel
theorem dX1_slotOf_10 : decode cX1_slotOf 10 = .ok (.iload_n 3, 1) := by decide +kernel
theorem dX1_slotOf_11 : decode cX1_slotOf 11 = .ok (.aload_n 0, 1) := by decide +kernel
theorem dX1_slotOf_12 : decode cX1_slotOf 12 = .ok (.getfield 15, 3) := by decide +kernel
theorem dX1_slotOf_15 : decode cX1_slotOf 15 = .ok (.arraylength, 1) := by decide +kernel
theorem dX1_slotOf_16 : decode cX1_slotOf 16 = .ok (.if_icmp .ge 44, 3) := by decide +kernel
theorem dX1_slotOf_19 : decode cX1_slotOf 19 = .ok (.iload_n 2, 1) := by decide +kernel
theorem dX1_slotOf_20 : decode cX1_slotOf 20 = .ok (.iload_n 3, 1) := by decide +kernel
theorem dX1_slotOf_21 : decode cX1_slotOf 21 = .ok (.iadd, 1) := by decide +kernel
theorem dX1_slotOf_22 : decode cX1_slotOf 22 = .ok (.aload_n 0, 1) := by decide +kernel
theorem dX1_slotOf_23 : decode cX1_slotOf 23 = .ok (.getfield 15, 3) := by decide +kernel
theorem dX1_slotOf_26 : decode cX1_slotOf 26 = .ok (.arraylength, 1) := by decide +kernel
theorem dX1_slotOf_27 : decode cX1_slotOf 27 = .ok (.irem, 1) := by decide +kernel
theorem dX1_slotOf_28 : decode cX1_slotOf 28 = .ok (.istore 4, 2) := by decide +kernel
theorem dX1_slotOf_30 : decode cX1_slotOf 30 = .ok (.aload_n 0, 1) := by decide +kernel
theorem dX1_slotOf_31 : decode cX1_slotOf 31 = .ok (.getfield 15, 3) := by decide +kernel
theorem dX1_slotOf_34 : decode cX1_slotOf 34 = .ok (.iload 4, 2) := by decide +kernel
theorem dX1_slotOf_36 : decode cX1_slotOf 36 = .ok (.iaload, 1) := by decide +kernel
theorem dX1_slotOf_37 : decode cX1_slotOf 37 = .ok (.ifCond .eq 14, 3) := by decide +kernel
theorem dX1_slotOf_40 : decode cX1_slotOf 40 = .ok (.aload_n 0, 1) := by decide +kernel
theorem dX1_slotOf_41 : decode cX1_slotOf 41 = .ok (.getfield 9, 3) := by decide +kernel
theorem dX1_slotOf_44 : decode cX1_slotOf 44 = .ok (.iload 4, 2) := by decide +kernel
theorem dX1_slotOf_46 : decode cX1_slotOf 46 = .ok (.iaload, 1) := by decide +kernel
theorem dX1_slotOf_47 : decode cX1_slotOf 47 = .ok (.iload_n 1, 1) := by decide +kernel
theorem dX1_slotOf_48 : decode cX1_slotOf 48 = .ok (.if_icmp .ne 6, 3) := by decide +kernel
theorem dX1_slotOf_51 : decode cX1_slotOf 51 = .ok (.iload 4, 2) := by decide +kernel
theorem dX1_slotOf_53 : decode cX1_slotOf 53 = .ok (.ireturn, 1) := by decide +kernel
theorem dX1_slotOf_54 : decode cX1_slotOf 54 = .ok (.iinc 3 1, 3) := by decide +kernel
theorem dX1_slotOf_57 : decode cX1_slotOf 57 = .ok (.goto (-47), 3) := by decide +kernel
theorem dX1_slotOf_60 : decode cX1_slotOf 60 = .ok (.iconst (-1), 1) := by decide +kernel
theorem dX1_slotOf_61 : decode cX1_slotOf 61 = .ok (.ireturn, 1) := by decide +kernel
theorem dX2_init_0 : decode cX2_init 0 = .ok (.aload_n 0, 1) := by decide +kernel
theorem dX2_init_1 : decode cX2_init 1 = .ok (.iload_n 1, 1) := by decide +kernel
theorem dX2_init_2 : decode cX2_init 2 = .ok (.iload_n 2, 1) := by decide +kernel
theorem dX2_init_3 : decode cX2_init 3 = .ok (.iload_n 3, 1) := by decide +kernel
theorem dX2_init_4 : decode cX2_init 4 = .ok (.iload 4, 2) := by decide +kernel
theorem dX2_init_6 : decode cX2_init 6 = .ok (.lload 5, 2) := by decide +kernel
theorem dX2_init_8 : decode cX2_init 8 = .ok (.invokespecial 1, 3) := by decide +kernel
theorem dX2_init_11 : decode cX2_init 11 = .ok (.lconst 1, 1) := by decide +kernel
theorem dX2_init_12 : decode cX2_init 12 = .ok (.iload 4, 2) := by decide +kernel
theorem dX2_init_14 : decode cX2_init 14 = .ok (.lshl, 1) := by decide +kernel
theorem dX2_init_15 : decode cX2_init 15 = .ok (.lconst 1, 1) := by decide +kernel
theorem dX2_init_16 : decode cX2_init 16 = .ok (.lsub, 1) := by decide +kernel
theorem dX2_init_17 : decode cX2_init 17 = .ok (.lstore 7, 2) := by decide +kernel
theorem dX2_init_19 : decode cX2_init 19 = .ok (.aload_n 0, 1) := by decide +kernel
theorem dX2_init_20 : decode cX2_init 20 = .ok (.lload 7, 2) := by decide +kernel
theorem dX2_init_22 : decode cX2_init 22 = .ok (.lconst 0, 1) := by decide +kernel
theorem dX2_init_23 : decode cX2_init 23 = .ok (.lcmp, 1) := by decide +kernel
theorem dX2_init_24 : decode cX2_init 24 = .ok (.ifCond .le 11, 3) := by decide +kernel
theorem dX2_init_27 : decode cX2_init 27 = .ok (.iload_n 3, 1) := by decide +kernel
theorem dX2_init_28 : decode cX2_init 28 = .ok (.i2l, 1) := by decide +kernel
theorem dX2_init_29 : decode cX2_init 29 = .ok (.lload 7, 2) := by decide +kernel
theorem dX2_init_31 : decode cX2_init 31 = .ok (.lrem, 1) := by decide +kernel
theorem dX2_init_32 : decode cX2_init 32 = .ok (.goto 4, 3) := by decide +kernel
theorem dX2_init_35 : decode cX2_init 35 = .ok (.lconst 0, 1) := by decide +kernel
theorem dX2_init_36 : decode cX2_init 36 = .ok (.putfield 7, 3) := by decide +kernel
theorem dX2_init_39 : decode cX2_init 39 = .ok (.return_, 1) := by decide +kernel
theorem dX2_cutOff_0 : decode cX2_cutOff 0 = .ok (.aload_n 0, 1) := by decide +kernel
theorem dX2_cutOff_1 : decode cX2_cutOff 1 = .ok (.getfield 7, 3) := by decide +kernel
theorem dX2_cutOff_4 : decode cX2_cutOff 4 = .ok (.lreturn, 1) := by decide +kernel
theorem dX2_creaseCount_0 : decode cX2_creaseCount 0 = .ok (.aload_n 0, 1) := by decide +kernel
theorem dX2_creaseCount_1 : decode cX2_creaseCount 1 = .ok (.invokespecial 13, 3) := by decide +kernel
theorem dX2_creaseCount_4 : decode cX2_creaseCount 4 = .ok (.aload_n 0, 1) := by decide +kernel
theorem dX2_creaseCount_5 : decode cX2_creaseCount 5 = .ok (.getfield 7, 3) := by decide +kernel
theorem dX2_creaseCount_8 : decode cX2_creaseCount 8 = .ok (.lsub, 1) := by decide +kernel
theorem dX2_creaseCount_9 : decode cX2_creaseCount 9 = .ok (.lreturn, 1) := by decide +kernel
theorem dX2_creaseAt_0 : decode cX2_creaseAt 0 = .ok (.aload_n 0, 1) := by decide +kernel
theorem dX2_creaseAt_1 : decode cX2_creaseAt 1 = .ok (.lload_n 1, 1) := by decide +kernel
theorem dX2_creaseAt_2 : decode cX2_creaseAt 2 = .ok (.aload_n 0, 1) := by decide +kernel
theorem dX2_creaseAt_3 : decode cX2_creaseAt 3 = .ok (.getfield 7, 3) := by decide +kernel
theorem dX2_creaseAt_6 : decode cX2_creaseAt 6 = .ok (.ladd, 1) := by decide +kernel
theorem dX2_creaseAt_7 : decode cX2_creaseAt 7 = .ok (.invokespecial 17, 3) := by decide +kernel
theorem dX2_creaseAt_10 : decode cX2_creaseAt 10 = .ok (.ireturn, 1) := by decide +kernel
theorem dX2_wayBehind_0 : decode cX2_wayBehind 0 = .ok (.aload_n 0, 1) := by decide +kernel
theorem dX2_wayBehind_1 : decode cX2_wayBehind 1 = .ok (.lload_n 1, 1) := by decide +kernel
theorem dX2_wayBehind_2 : decode cX2_wayBehind 2 = .ok (.aload_n 0, 1) := by decide +kernel
theorem dX2_wayBehind_3 : decode cX2_wayBehind 3 = .ok (.getfield 7, 3) := by decide +kernel
theorem dX2_wayBehind_6 : decode cX2_wayBehind 6 = .ok (.ladd, 1) := by decide +kernel
theorem dX2_wayBehind_7 : decode cX2_wayBehind 7 = .ok (.invokespecial 21, 3) := by decide +kernel
theorem dX2_wayBehind_10 : decode cX2_wayBehind 10 = .ok (.aload_n 0, 1) := by decide +kernel
theorem dX2_wayBehind_11 : decode cX2_wayBehind 11 = .ok (.aload_n 0, 1) := by decide +kernel
theorem dX2_wayBehind_12 : decode cX2_wayBehind 12 = .ok (.getfield 7, 3) := by decide +kernel
theorem dX2_wayBehind_15 : decode cX2_wayBehind 15 = .ok (.invokespecial 21, 3) := by decide +kernel
theorem dX2_wayBehind_18 : decode cX2_wayBehind 18 = .ok (.isub, 1) := by decide +kernel
theorem dX2_wayBehind_19 : decode cX2_wayBehind 19 = .ok (.iconst 3, 1) := by decide +kernel
theorem dX2_wayBehind_20 : decode cX2_wayBehind 20 = .ok (.iand, 1) := by decide +kernel
theorem dX2_wayBehind_21 : decode cX2_wayBehind 21 = .ok (.ireturn, 1) := by decide +kernel
theorem dX2_lead_0 : decode cX2_lead 0 = .ok (.aload_n 0, 1) := by decide +kernel
theorem dX2_lead_1 : decode cX2_lead 1 = .ok (.aload_n 1, 1) := by decide +kernel
theorem dX2_lead_2 : decode cX2_lead 2 = .ok (.aload_n 0, 1) := by decide +kernel
theorem dX2_lead_3 : decode cX2_lead 3 = .ok (.getfield 7, 3) := by decide +kernel
theorem dX2_lead_6 : decode cX2_lead 6 = .ok (.invokespecial 24, 3) := by decide +kernel
theorem dX2_lead_9 : decode cX2_lead 9 = .ok (.aload_n 1, 1) := by decide +kernel
theorem dX2_lead_10 : decode cX2_lead 10 = .ok (.getfield 28, 3) := by decide +kernel
theorem dX2_lead_13 : decode cX2_lead 13 = .ok (.lstore 4, 2) := by decide +kernel
theorem dX2_lead_15 : decode cX2_lead 15 = .ok (.aload_n 1, 1) := by decide +kernel
theorem dX2_lead_16 : decode cX2_lead 16 = .ok (.getfield 33, 3) := by decide +kernel
theorem dX2_lead_19 : decode cX2_lead 19 = .ok (.lstore 6, 2) := by decide +kernel
theorem dX2_lead_21 : decode cX2_lead 21 = .ok (.aload_n 0, 1) := by decide +kernel
theorem dX2_lead_22 : decode cX2_lead 22 = .ok (.aload_n 1, 1) := by decide +kernel
theorem dX2_lead_23 : decode cX2_lead 23 = .ok (.lload_n 2, 1) := by decide +kernel
theorem dX2_lead_24 : decode cX2_lead 24 = .ok (.aload_n 0, 1) := by decide +kernel
theorem dX2_lead_25 : decode cX2_lead 25 = .ok (.getfield 7, 3) := by decide +kernel
theorem dX2_lead_28 : decode cX2_lead 28 = .ok (.ladd, 1) := by decide +kernel
theorem dX2_lead_29 : decode cX2_lead 29 = .ok (.invokespecial 24, 3) := by decide +kernel
theorem dX2_lead_32 : decode cX2_lead 32 = .ok (.aload_n 1, 1) := by decide +kernel
theorem dX2_lead_33 : decode cX2_lead 33 = .ok (.aload_n 1, 1) := by decide +kernel
theorem dX2_lead_34 : decode cX2_lead 34 = .ok (.getfield 28, 3) := by decide +kernel
theorem dX2_lead_37 : decode cX2_lead 37 = .ok (.lload 4, 2) := by decide +kernel
theorem dX2_lead_39 : decode cX2_lead 39 = .ok (.lsub, 1) := by decide +kernel
theorem dX2_lead_40 : decode cX2_lead 40 = .ok (.aload_n 1, 1) := by decide +kernel
theorem dX2_lead_41 : decode cX2_lead 41 = .ok (.getfield 33, 3) := by decide +kernel
theorem dX2_lead_44 : decode cX2_lead 44 = .ok (.lload 6, 2) := by decide +kernel
theorem dX2_lead_46 : decode cX2_lead 46 = .ok (.lsub, 1) := by decide +kernel
theorem dX2_lead_47 : decode cX2_lead 47 = .ok (.invokevirtual 36, 3) := by decide +kernel
theorem dX2_lead_50 : decode cX2_lead 50 = .ok (.aload_n 1, 1) := by decide +kernel
theorem dX2_lead_51 : decode cX2_lead 51 = .ok (.aload_n 0, 1) := by decide +kernel
theorem dX2_lead_52 : decode cX2_lead 52 = .ok (.aload_n 0, 1) := by decide +kernel
theorem dX2_lead_53 : decode cX2_lead 53 = .ok (.getfield 7, 3) := by decide +kernel
theorem dX2_lead_56 : decode cX2_lead 56 = .ok (.invokespecial 21, 3) := by decide +kernel
theorem dX2_lead_59 : decode cX2_lead 59 = .ok (.ineg, 1) := by decide +kernel
theorem dX2_lead_60 : decode cX2_lead 60 = .ok (.invokevirtual 40, 3) := by decide +kernel
theorem dX2_lead_63 : decode cX2_lead 63 = .ok (.return_, 1) := by decide +kernel
theorem dX2_opens_0 : decode cX2_opens 0 = .ok (.aload_n 1, 1) := by decide +kernel
theorem dX2_opens_1 : decode cX2_opens 1 = .ok (.bipush 40, 2) := by decide +kernel
theorem dX2_opens_3 : decode cX2_opens 3 = .ok (.invokevirtual 44, 3) := by decide +kernel
theorem dX2_opens_6 : decode cX2_opens 6 = .ok (.pop, 1) := by decide +kernel
theorem dX2_opens_7 : decode cX2_opens 7 = .ok (.aload_n 0, 1) := by decide +kernel
theorem dX2_opens_8 : decode cX2_opens 8 = .ok (.aload_n 1, 1) := by decide +kernel
theorem dX2_opens_9 : decode cX2_opens 9 = .ok (.iload_n 2, 1) := by decide +kernel
theorem dX2_opens_10 : decode cX2_opens 10 = .ok (.iconst 1, 1) := by decide +kernel
theorem dX2_opens_11 : decode cX2_opens 11 = .ok (.iadd, 1) := by decide +kernel
theorem dX2_opens_12 : decode cX2_opens 12 = .ok (.invokespecial 50, 3) := by decide +kernel
theorem dX2_opens_15 : decode cX2_opens 15 = .ok (.ireturn, 1) := by decide +kernel
theorem dX3_init_0 : decode cX3_init 0 = .ok (.aload_n 0, 1) := by decide +kernel
theorem dX3_init_1 : decode cX3_init 1 = .ok (.iload_n 1, 1) := by decide +kernel
theorem dX3_init_2 : decode cX3_init 2 = .ok (.iload_n 2, 1) := by decide +kernel
theorem dX3_init_3 : decode cX3_init 3 = .ok (.iload_n 3, 1) := by decide +kernel
theorem dX3_init_4 : decode cX3_init 4 = .ok (.iload 4, 2) := by decide +kernel
theorem dX3_init_6 : decode cX3_init 6 = .ok (.lload 5, 2) := by decide +kernel
theorem dX3_init_8 : decode cX3_init 8 = .ok (.invokespecial 1, 3) := by decide +kernel
theorem dX3_init_11 : decode cX3_init 11 = .ok (.return_, 1) := by decide +kernel
theorem dX3_creaseLetters_0 : decode cX3_creaseLetters 0 = .ok (.aload_n 0, 1) := by decide +kernel
theorem dX3_creaseLetters_1 : decode cX3_creaseLetters 1 = .ok (.getfield 7, 3) := by decide +kernel
theorem dX3_creaseLetters_4 : decode cX3_creaseLetters 4 = .ok (.ldc2_w 13, 3) := by decide +kernel
theorem dX3_creaseLetters_7 : decode cX3_creaseLetters 7 = .ok (.lxor, 1) := by decide +kernel
theorem dX3_creaseLetters_8 : decode cX3_creaseLetters 8 = .ok (.lreturn, 1) := by decide +kernel
theorem dX3_lies_0 : decode cX3_lies 0 = .ok (.aload_n 1, 1) := by decide +kernel
theorem dX3_lies_1 : decode cX3_lies 1 = .ok (.bipush 60, 2) := by decide +kernel
theorem dX3_lies_3 : decode cX3_lies 3 = .ok (.invokevirtual 15, 3) := by decide +kernel
theorem dX3_lies_6 : decode cX3_lies 6 = .ok (.pop, 1) := by decide +kernel
theorem dX3_lies_7 : decode cX3_lies 7 = .ok (.aload_n 0, 1) := by decide +kernel
theorem dX3_lies_8 : decode cX3_lies 8 = .ok (.aload_n 1, 1) := by decide +kernel
theorem dX3_lies_9 : decode cX3_lies 9 = .ok (.iload_n 2, 1) := by decide +kernel
theorem dX3_lies_10 : decode cX3_lies 10 = .ok (.invokespecial 21, 3) := by decide +kernel
theorem dX3_lies_13 : decode cX3_lies 13 = .ok (.iconst 5, 1) := by decide +kernel
theorem dX3_lies_14 : decode cX3_lies 14 = .ok (.ixor, 1) := by decide +kernel
theorem dX3_lies_15 : decode cX3_lies 15 = .ok (.ireturn, 1) := by decide +kernel
theorem dX4_init_0 : decode cX4_init 0 = .ok (.aload_n 0, 1) := by decide +kernel
theorem dX4_init_1 : decode cX4_init 1 = .ok (.invokespecial 3, 3) := by decide +kernel
theorem dX4_init_4 : decode cX4_init 4 = .ok (.aload_n 0, 1) := by decide +kernel
theorem dX4_init_5 : decode cX4_init 5 = .ok (.bipush 8, 2) := by decide +kernel
theorem dX4_init_7 : decode cX4_init 7 = .ok (.newarray .int, 2) := by decide +kernel
theorem dX4_init_9 : decode cX4_init 9 = .ok (.putfield 9, 3) := by decide +kernel
theorem dX4_init_12 : decode cX4_init 12 = .ok (.aload_n 0, 1) := by decide +kernel
theorem dX4_init_13 : decode cX4_init 13 = .ok (.bipush 8, 2) := by decide +kernel
theorem dX4_init_15 : decode cX4_init 15 = .ok (.newarray .int, 2) := by decide +kernel
theorem dX4_init_17 : decode cX4_init 17 = .ok (.putfield 15, 3) := by decide +kernel
theorem dX4_init_20 : decode cX4_init 20 = .ok (.aload_n 0, 1) := by decide +kernel
theorem dX4_init_21 : decode cX4_init 21 = .ok (.sipush 2073, 3) := by decide +kernel
theorem dX4_init_24 : decode cX4_init 24 = .ok (.newarray .int, 2) := by decide +kernel
theorem dX4_init_26 : decode cX4_init 26 = .ok (.putfield 18, 3) := by decide +kernel
theorem dX4_init_29 : decode cX4_init 29 = .ok (.aload_n 0, 1) := by decide +kernel
theorem dX4_init_30 : decode cX4_init 30 = .ok (.bipush 9, 2) := by decide +kernel
theorem dX4_init_32 : decode cX4_init 32 = .ok (.newarray .int, 2) := by decide +kernel
theorem dX4_init_34 : decode cX4_init 34 = .ok (.putfield 21, 3) := by decide +kernel
theorem dX4_init_37 : decode cX4_init 37 = .ok (.aload_n 0, 1) := by decide +kernel
theorem dX4_init_38 : decode cX4_init 38 = .ok (.bipush 9, 2) := by decide +kernel
theorem dX4_init_40 : decode cX4_init 40 = .ok (.newarray .int, 2) := by decide +kernel
theorem dX4_init_42 : decode cX4_init 42 = .ok (.putfield 24, 3) := by decide +kernel
theorem dX4_init_45 : decode cX4_init 45 = .ok (.return_, 1) := by decide +kernel
theorem dX4_areOrder_0 : decode cX4_areOrder 0 = .ok (.iconst 0, 1) := by decide +kernel
theorem dX4_areOrder_1 : decode cX4_areOrder 1 = .ok (.istore_n 3, 1) := by decide +kernel
theorem dX4_areOrder_2 : decode cX4_areOrder 2 = .ok (.iconst 0, 1) := by decide +kernel
theorem dX4_areOrder_3 : decode cX4_areOrder 3 = .ok (.istore 4, 2) := by decide +kernel
theorem dX4_areOrder_5 : decode cX4_areOrder 5 = .ok (.iload 4, 2) := by decide +kernel
theorem dX4_areOrder_7 : decode cX4_areOrder 7 = .ok (.iload_n 2, 1) := by decide +kernel
theorem dX4_areOrder_8 : decode cX4_areOrder 8 = .ok (.if_icmp .ge 37, 3) := by decide +kernel
theorem dX4_areOrder_11 : decode cX4_areOrder 11 = .ok (.aload_n 1, 1) := by decide +kernel
theorem dX4_areOrder_12 : decode cX4_areOrder 12 = .ok (.iload 4, 2) := by decide +kernel
theorem dX4_areOrder_14 : decode cX4_areOrder 14 = .ok (.invokevirtual 27, 3) := by decide +kernel
theorem dX4_areOrder_17 : decode cX4_areOrder 17 = .ok (.istore 5, 2) := by decide +kernel
theorem dX4_areOrder_19 : decode cX4_areOrder 19 = .ok (.iload 5, 2) := by decide +kernel
theorem dX4_areOrder_21 : decode cX4_areOrder 21 = .ok (.ifCond .lt 9, 3) := by decide +kernel
theorem dX4_areOrder_24 : decode cX4_areOrder 24 = .ok (.iload 5, 2) := by decide +kernel
theorem dX4_areOrder_26 : decode cX4_areOrder 26 = .ok (.iload_n 2, 1) := by decide +kernel
theorem dX4_areOrder_27 : decode cX4_areOrder 27 = .ok (.if_icmp .lt 5, 3) := by decide +kernel
theorem dX4_areOrder_30 : decode cX4_areOrder 30 = .ok (.iconst 0, 1) := by decide +kernel
theorem dX4_areOrder_31 : decode cX4_areOrder 31 = .ok (.ireturn, 1) := by decide +kernel
theorem dX4_areOrder_32 : decode cX4_areOrder 32 = .ok (.iload_n 3, 1) := by decide +kernel
theorem dX4_areOrder_33 : decode cX4_areOrder 33 = .ok (.iconst 1, 1) := by decide +kernel
theorem dX4_areOrder_34 : decode cX4_areOrder 34 = .ok (.iload 5, 2) := by decide +kernel
theorem dX4_areOrder_36 : decode cX4_areOrder 36 = .ok (.ishl, 1) := by decide +kernel
theorem dX4_areOrder_37 : decode cX4_areOrder 37 = .ok (.ior, 1) := by decide +kernel
theorem dX4_areOrder_38 : decode cX4_areOrder 38 = .ok (.istore_n 3, 1) := by decide +kernel
theorem dX4_areOrder_39 : decode cX4_areOrder 39 = .ok (.iinc 4 1, 3) := by decide +kernel
theorem dX4_areOrder_42 : decode cX4_areOrder 42 = .ok (.goto (-37), 3) := by decide +kernel
theorem dX4_areOrder_45 : decode cX4_areOrder 45 = .ok (.iload_n 3, 1) := by decide +kernel
theorem dX4_areOrder_46 : decode cX4_areOrder 46 = .ok (.iconst 1, 1) := by decide +kernel
theorem dX4_areOrder_47 : decode cX4_areOrder 47 = .ok (.iload_n 2, 1) := by decide +kernel
theorem dX4_areOrder_48 : decode cX4_areOrder 48 = .ok (.ishl, 1) := by decide +kernel
theorem dX4_areOrder_49 : decode cX4_areOrder 49 = .ok (.iconst 1, 1) := by decide +kernel
theorem dX4_areOrder_50 : decode cX4_areOrder 50 = .ok (.isub, 1) := by decide +kernel
theorem dX4_areOrder_51 : decode cX4_areOrder 51 = .ok (.if_icmp .ne 7, 3) := by decide +kernel
theorem dX4_areOrder_54 : decode cX4_areOrder 54 = .ok (.iconst 1, 1) := by decide +kernel
theorem dX4_areOrder_55 : decode cX4_areOrder 55 = .ok (.goto 4, 3) := by decide +kernel
theorem dX4_areOrder_58 : decode cX4_areOrder 58 = .ok (.iconst 0, 1) := by decide +kernel
theorem dX4_areOrder_59 : decode cX4_areOrder 59 = .ok (.ireturn, 1) := by decide +kernel
theorem dX4_canLie_0 : decode cX4_canLie 0 = .ok (.aload_n 0, 1) := by decide +kernel
theorem dX4_canLie_1 : decode cX4_canLie 1 = .ok (.invokevirtual 33, 3) := by decide +kernel
theorem dX4_canLie_4 : decode cX4_canLie 4 = .ok (.iconst 0, 1) := by decide +kernel
theorem dX4_canLie_5 : decode cX4_canLie 5 = .ok (.istore_n 3, 1) := by decide +kernel
theorem dX4_canLie_6 : decode cX4_canLie 6 = .ok (.iload_n 3, 1) := by decide +kernel
theorem dX4_canLie_7 : decode cX4_canLie 7 = .ok (.iload_n 2, 1) := by decide +kernel
theorem dX4_canLie_8 : decode cX4_canLie 8 = .ok (.if_icmp .ge 25, 3) := by decide +kernel
theorem dX4_canLie_11 : decode cX4_canLie 11 = .ok (.aload_n 0, 1) := by decide +kernel
theorem dX4_canLie_12 : decode cX4_canLie 12 = .ok (.aload_n 1, 1) := by decide +kernel
theorem dX4_canLie_13 : decode cX4_canLie 13 = .ok (.iload_n 3, 1) := by decide +kernel
theorem dX4_canLie_14 : decode cX4_canLie 14 = .ok (.invokevirtual 27, 3) := by decide +kernel
theorem dX4_canLie_17 : decode cX4_canLie 17 = .ok (.iload_n 3, 1) := by decide +kernel
theorem dX4_canLie_18 : decode cX4_canLie 18 = .ok (.iload_n 2, 1) := by decide +kernel
theorem dX4_canLie_19 : decode cX4_canLie 19 = .ok (.invokevirtual 36, 3) := by decide +kernel
theorem dX4_canLie_22 : decode cX4_canLie 22 = .ok (.ifCond .ne 5, 3) := by decide +kernel
theorem dX4_canLie_25 : decode cX4_canLie 25 = .ok (.iconst 0, 1) := by decide +kernel
theorem dX4_canLie_26 : decode cX4_canLie 26 = .ok (.ireturn, 1) := by decide +kernel
theorem dX4_canLie_27 : decode cX4_canLie 27 = .ok (.iinc 3 1, 3) := by decide +kernel
theorem dX4_canLie_30 : decode cX4_canLie 30 = .ok (.goto (-24), 3) := by decide +kernel
theorem dX4_canLie_33 : decode cX4_canLie 33 = .ok (.iconst 1, 1) := by decide +kernel
theorem dX4_canLie_34 : decode cX4_canLie 34 = .ok (.ireturn, 1) := by decide +kernel
theorem dX4_howMany_0 : decode cX4_howMany 0 = .ok (.iload_n 1, 1) := by decide +kernel
theorem dX4_howMany_1 : decode cX4_howMany 1 = .ok (.iconst 1, 1) := by decide +kernel
theorem dX4_howMany_2 : decode cX4_howMany 2 = .ok (.if_icmp .lt 12, 3) := by decide +kernel
theorem dX4_howMany_5 : decode cX4_howMany 5 = .ok (.iload_n 1, 1) := by decide +kernel
theorem dX4_howMany_6 : decode cX4_howMany 6 = .ok (.aload_n 0, 1) := by decide +kernel
theorem dX4_howMany_7 : decode cX4_howMany 7 = .ok (.getfield 24, 3) := by decide +kernel
theorem dX4_howMany_10 : decode cX4_howMany 10 = .ok (.arraylength, 1) := by decide +kernel
theorem dX4_howMany_11 : decode cX4_howMany 11 = .ok (.if_icmp .lt 5, 3) := by decide +kernel
theorem dX4_howMany_14 : decode cX4_howMany 14 = .ok (.iconst 0, 1) := by decide +kernel
theorem dX4_howMany_15 : decode cX4_howMany 15 = .ok (.ireturn, 1) := by decide +kernel
theorem dX4_howMany_16 : decode cX4_howMany 16 = .ok (.aload_n 0, 1) := by decide +kernel
theorem dX4_howMany_17 : decode cX4_howMany 17 = .ok (.getfield 24, 3) := by decide +kernel
theorem dX4_howMany_20 : decode cX4_howMany 20 = .ok (.iload_n 1, 1) := by decide +kernel
theorem dX4_howMany_21 : decode cX4_howMany 21 = .ok (.iaload, 1) := by decide +kernel
theorem dX4_howMany_22 : decode cX4_howMany 22 = .ok (.ifCond .ne 40, 3) := by decide +kernel
theorem dX4_howMany_25 : decode cX4_howMany 25 = .ok (.aload_n 0, 1) := by decide +kernel
theorem dX4_howMany_26 : decode cX4_howMany 26 = .ok (.invokevirtual 33, 3) := by decide +kernel
theorem dX4_howMany_29 : decode cX4_howMany 29 = .ok (.aload_n 0, 1) := by decide +kernel
theorem dX4_howMany_30 : decode cX4_howMany 30 = .ok (.getfield 21, 3) := by decide +kernel
theorem dX4_howMany_33 : decode cX4_howMany 33 = .ok (.iload_n 1, 1) := by decide +kernel
theorem dX4_howMany_34 : decode cX4_howMany 34 = .ok (.aload_n 0, 1) := by decide +kernel
theorem dX4_howMany_35 : decode cX4_howMany 35 = .ok (.getfield 40, 3) := by decide +kernel
theorem dX4_howMany_38 : decode cX4_howMany 38 = .ok (.iastore, 1) := by decide +kernel
theorem dX4_howMany_39 : decode cX4_howMany 39 = .ok (.aload_n 0, 1) := by decide +kernel
theorem dX4_howMany_40 : decode cX4_howMany 40 = .ok (.iload_n 1, 1) := by decide +kernel
theorem dX4_howMany_41 : decode cX4_howMany 41 = .ok (.iconst 0, 1) := by decide +kernel
theorem dX4_howMany_42 : decode cX4_howMany 42 = .ok (.invokestatic 44, 3) := by decide +kernel
theorem dX4_howMany_45 : decode cX4_howMany 45 = .ok (.aload_n 0, 1) := by decide +kernel
theorem dX4_howMany_46 : decode cX4_howMany 46 = .ok (.getfield 24, 3) := by decide +kernel
theorem dX4_howMany_49 : decode cX4_howMany 49 = .ok (.iload_n 1, 1) := by decide +kernel
theorem dX4_howMany_50 : decode cX4_howMany 50 = .ok (.aload_n 0, 1) := by decide +kernel
theorem dX4_howMany_51 : decode cX4_howMany 51 = .ok (.getfield 40, 3) := by decide +kernel
theorem dX4_howMany_54 : decode cX4_howMany 54 = .ok (.aload_n 0, 1) := by decide +kernel
theorem dX4_howMany_55 : decode cX4_howMany 55 = .ok (.getfield 21, 3) := by decide +kernel
theorem dX4_howMany_58 : decode cX4_howMany 58 = .ok (.iload_n 1, 1) := by decide +kernel
theorem dX4_howMany_59 : decode cX4_howMany 59 = .ok (.iaload, 1) := by decide +kernel
theorem dX4_howMany_60 : decode cX4_howMany 60 = .ok (.isub, 1) := by decide +kernel
theorem dX4_howMany_61 : decode cX4_howMany 61 = .ok (.iastore, 1) := by decide +kernel
theorem dX4_howMany_62 : decode cX4_howMany 62 = .ok (.aload_n 0, 1) := by decide +kernel
theorem dX4_howMany_63 : decode cX4_howMany 63 = .ok (.getfield 24, 3) := by decide +kernel
theorem dX4_howMany_66 : decode cX4_howMany 66 = .ok (.iload_n 1, 1) := by decide +kernel
theorem dX4_howMany_67 : decode cX4_howMany 67 = .ok (.iaload, 1) := by decide +kernel
theorem dX4_howMany_68 : decode cX4_howMany 68 = .ok (.ireturn, 1) := by decide +kernel
theorem dX4_leafOf_0 : decode cX4_leafOf 0 = .ok (.iload_n 2, 1) := by decide +kernel
theorem dX4_leafOf_1 : decode cX4_leafOf 1 = .ok (.ifCond .lt 37, 3) := by decide +kernel
theorem dX4_leafOf_4 : decode cX4_leafOf 4 = .ok (.iload_n 2, 1) := by decide +kernel
theorem dX4_leafOf_5 : decode cX4_leafOf 5 = .ok (.aload_n 0, 1) := by decide +kernel
theorem dX4_leafOf_6 : decode cX4_leafOf 6 = .ok (.iload_n 1, 1) := by decide +kernel
theorem dX4_leafOf_7 : decode cX4_leafOf 7 = .ok (.invokevirtual 48, 3) := by decide +kernel
theorem dX4_leafOf_10 : decode cX4_leafOf 10 = .ok (.if_icmp .ge 28, 3) := by decide +kernel
theorem dX4_leafOf_13 : decode cX4_leafOf 13 = .ok (.iload_n 3, 1) := by decide +kernel
theorem dX4_leafOf_14 : decode cX4_leafOf 14 = .ok (.ifCond .lt 24, 3) := by decide +kernel
theorem dX4_leafOf_17 : decode cX4_leafOf 17 = .ok (.iload_n 3, 1) := by decide +kernel
theorem dX4_leafOf_18 : decode cX4_leafOf 18 = .ok (.iload_n 1, 1) := by decide +kernel
theorem dX4_leafOf_19 : decode cX4_leafOf 19 = .ok (.if_icmp .ge 19, 3) := by decide +kernel
theorem dX4_leafOf_22 : decode cX4_leafOf 22 = .ok (.aload_n 0, 1) := by decide +kernel
theorem dX4_leafOf_23 : decode cX4_leafOf 23 = .ok (.getfield 21, 3) := by decide +kernel
theorem dX4_leafOf_26 : decode cX4_leafOf 26 = .ok (.iload_n 1, 1) := by decide +kernel
theorem dX4_leafOf_27 : decode cX4_leafOf 27 = .ok (.iaload, 1) := by decide +kernel
theorem dX4_leafOf_28 : decode cX4_leafOf 28 = .ok (.iload_n 2, 1) := by decide +kernel
theorem dX4_leafOf_29 : decode cX4_leafOf 29 = .ok (.iadd, 1) := by decide +kernel
theorem dX4_leafOf_30 : decode cX4_leafOf 30 = .ok (.aload_n 0, 1) := by decide +kernel
theorem dX4_leafOf_31 : decode cX4_leafOf 31 = .ok (.getfield 18, 3) := by decide +kernel
theorem dX4_leafOf_34 : decode cX4_leafOf 34 = .ok (.arraylength, 1) := by decide +kernel
theorem dX4_leafOf_35 : decode cX4_leafOf 35 = .ok (.if_icmp .lt 5, 3) := by decide +kernel
theorem dX4_leafOf_38 : decode cX4_leafOf 38 = .ok (.iconst (-1), 1) := by decide +kernel
theorem dX4_leafOf_39 : decode cX4_leafOf 39 = .ok (.ireturn, 1) := by decide +kernel
theorem dX4_leafOf_40 : decode cX4_leafOf 40 = .ok (.aload_n 0, 1) := by decide +kernel
theorem dX4_leafOf_41 : decode cX4_leafOf 41 = .ok (.getfield 18, 3) := by decide +kernel
theorem dX4_leafOf_44 : decode cX4_leafOf 44 = .ok (.aload_n 0, 1) := by decide +kernel
theorem dX4_leafOf_45 : decode cX4_leafOf 45 = .ok (.getfield 21, 3) := by decide +kernel
theorem dX4_leafOf_48 : decode cX4_leafOf 48 = .ok (.iload_n 1, 1) := by decide +kernel
theorem dX4_leafOf_49 : decode cX4_leafOf 49 = .ok (.iaload, 1) := by decide +kernel
theorem dX4_leafOf_50 : decode cX4_leafOf 50 = .ok (.iload_n 2, 1) := by decide +kernel
theorem dX4_leafOf_51 : decode cX4_leafOf 51 = .ok (.iadd, 1) := by decide +kernel
theorem dX4_leafOf_52 : decode cX4_leafOf 52 = .ok (.iaload, 1) := by decide +kernel
theorem dX4_leafOf_53 : decode cX4_leafOf 53 = .ok (.iconst 3, 1) := by decide +kernel
theorem dX4_leafOf_54 : decode cX4_leafOf 54 = .ok (.iload_n 3, 1) := by decide +kernel
theorem dX4_leafOf_55 : decode cX4_leafOf 55 = .ok (.imul, 1) := by decide +kernel
theorem dX4_leafOf_56 : decode cX4_leafOf 56 = .ok (.ishr, 1) := by decide +kernel
theorem dX4_leafOf_57 : decode cX4_leafOf 57 = .ok (.bipush 7, 2) := by decide +kernel
theorem dX4_leafOf_59 : decode cX4_leafOf 59 = .ok (.iand, 1) := by decide +kernel
theorem dX4_leafOf_60 : decode cX4_leafOf 60 = .ok (.ireturn, 1) := by decide +kernel
theorem dX4_layFrom_0 : decode cX4_layFrom 0 = .ok (.iload_n 2, 1) := by decide +kernel
theorem dX4_layFrom_1 : decode cX4_layFrom 1 = .ok (.iload_n 1, 1) := by decide +kernel
theorem dX4_layFrom_2 : decode cX4_layFrom 2 = .ok (.if_icmp .lt 9, 3) := by decide +kernel
theorem dX4_layFrom_5 : decode cX4_layFrom 5 = .ok (.aload_n 0, 1) := by decide +kernel
theorem dX4_layFrom_6 : decode cX4_layFrom 6 = .ok (.iload_n 1, 1) := by decide +kernel
theorem dX4_layFrom_7 : decode cX4_layFrom 7 = .ok (.invokevirtual 51, 3) := by decide +kernel
theorem dX4_layFrom_10 : decode cX4_layFrom 10 = .ok (.return_, 1) := by decide +kernel
theorem dX4_layFrom_11 : decode cX4_layFrom 11 = .ok (.iconst 0, 1) := by decide +kernel
theorem dX4_layFrom_12 : decode cX4_layFrom 12 = .ok (.istore_n 3, 1) := by decide +kernel
theorem dX4_layFrom_13 : decode cX4_layFrom 13 = .ok (.iload_n 3, 1) := by decide +kernel
theorem dX4_layFrom_14 : decode cX4_layFrom 14 = .ok (.iload_n 1, 1) := by decide +kernel
theorem dX4_layFrom_15 : decode cX4_layFrom 15 = .ok (.if_icmp .ge 44, 3) := by decide +kernel
theorem dX4_layFrom_18 : decode cX4_layFrom 18 = .ok (.aload_n 0, 1) := by decide +kernel
theorem dX4_layFrom_19 : decode cX4_layFrom 19 = .ok (.getfield 15, 3) := by decide +kernel
theorem dX4_layFrom_22 : decode cX4_layFrom 22 = .ok (.iload_n 3, 1) := by decide +kernel
theorem dX4_layFrom_23 : decode cX4_layFrom 23 = .ok (.iaload, 1) := by decide +kernel
theorem dX4_layFrom_24 : decode cX4_layFrom 24 = .ok (.iconst (-1), 1) := by decide +kernel
theorem dX4_layFrom_25 : decode cX4_layFrom 25 = .ok (.if_icmp .ne 28, 3) := by decide +kernel
theorem dX4_layFrom_28 : decode cX4_layFrom 28 = .ok (.aload_n 0, 1) := by decide +kernel
theorem dX4_layFrom_29 : decode cX4_layFrom 29 = .ok (.iload_n 3, 1) := by decide +kernel
theorem dX4_layFrom_30 : decode cX4_layFrom 30 = .ok (.iload_n 2, 1) := by decide +kernel
theorem dX4_layFrom_31 : decode cX4_layFrom 31 = .ok (.iload_n 1, 1) := by decide +kernel
theorem dX4_layFrom_32 : decode cX4_layFrom 32 = .ok (.invokevirtual 36, 3) := by decide +kernel
theorem dX4_layFrom_35 : decode cX4_layFrom 35 = .ok (.ifCond .eq 11, 3) := by decide +kernel
theorem dX4_layFrom_38 : decode cX4_layFrom 38 = .ok (.aload_n 0, 1) := by decide +kernel
theorem dX4_layFrom_39 : decode cX4_layFrom 39 = .ok (.iload_n 1, 1) := by decide +kernel
theorem dX4_layFrom_40 : decode cX4_layFrom 40 = .ok (.iload_n 2, 1) := by decide +kernel
theorem dX4_layFrom_41 : decode cX4_layFrom 41 = .ok (.iconst 1, 1) := by decide +kernel
theorem dX4_layFrom_42 : decode cX4_layFrom 42 = .ok (.iadd, 1) := by decide +kernel
theorem dX4_layFrom_43 : decode cX4_layFrom 43 = .ok (.invokestatic 44, 3) := by decide +kernel
theorem dX4_layFrom_46 : decode cX4_layFrom 46 = .ok (.aload_n 0, 1) := by decide +kernel
theorem dX4_layFrom_47 : decode cX4_layFrom 47 = .ok (.getfield 15, 3) := by decide +kernel
theorem dX4_layFrom_50 : decode cX4_layFrom 50 = .ok (.iload_n 3, 1) := by decide +kernel
theorem dX4_layFrom_51 : decode cX4_layFrom 51 = .ok (.iconst (-1), 1) := by decide +kernel
theorem dX4_layFrom_52 : decode cX4_layFrom 52 = .ok (.iastore, 1) := by decide +kernel
theorem dX4_layFrom_53 : decode cX4_layFrom 53 = .ok (.iinc 3 1, 3) := by decide +kernel
theorem dX4_layFrom_56 : decode cX4_layFrom 56 = .ok (.goto (-43), 3) := by decide +kernel
theorem dX4_layFrom_59 : decode cX4_layFrom 59 = .ok (.return_, 1) := by decide +kernel
theorem dX4_keep_0 : decode cX4_keep 0 = .ok (.aload_n 0, 1) := by decide +kernel
theorem dX4_keep_1 : decode cX4_keep 1 = .ok (.getfield 40, 3) := by decide +kernel
theorem dX4_keep_4 : decode cX4_keep 4 = .ok (.aload_n 0, 1) := by decide +kernel
theorem dX4_keep_5 : decode cX4_keep 5 = .ok (.getfield 18, 3) := by decide +kernel
theorem dX4_keep_8 : decode cX4_keep 8 = .ok (.arraylength, 1) := by decide +kernel
theorem dX4_keep_9 : decode cX4_keep 9 = .ok (.if_icmp .lt 4, 3) := by decide +kernel
theorem dX4_keep_12 : decode cX4_keep 12 = .ok (.return_, 1) := by decide +kernel
theorem dX4_keep_13 : decode cX4_keep 13 = .ok (.iconst 0, 1) := by decide +kernel
theorem dX4_keep_14 : decode cX4_keep 14 = .ok (.istore_n 2, 1) := by decide +kernel
theorem dX4_keep_15 : decode cX4_keep 15 = .ok (.iconst 0, 1) := by decide +kernel
theorem dX4_keep_16 : decode cX4_keep 16 = .ok (.istore_n 3, 1) := by decide +kernel
theorem dX4_keep_17 : decode cX4_keep 17 = .ok (.iload_n 3, 1) := by decide +kernel
theorem dX4_keep_18 : decode cX4_keep 18 = .ok (.iload_n 1, 1) := by decide +kernel
theorem dX4_keep_19 : decode cX4_keep 19 = .ok (.if_icmp .ge 22, 3) := by decide +kernel
theorem dX4_keep_22 : decode cX4_keep 22 = .ok (.iload_n 2, 1) := by decide +kernel
theorem dX4_keep_23 : decode cX4_keep 23 = .ok (.aload_n 0, 1) := by decide +kernel
theorem dX4_keep_24 : decode cX4_keep 24 = .ok (.getfield 9, 3) := by decide +kernel
theorem dX4_keep_27 : decode cX4_keep 27 = .ok (.iload_n 3, 1) := by decide +kernel
theorem dX4_keep_28 : decode cX4_keep 28 = .ok (.iaload, 1) := by decide +kernel
theorem dX4_keep_29 : decode cX4_keep 29 = .ok (.iconst 3, 1) := by decide +kernel
theorem dX4_keep_30 : decode cX4_keep 30 = .ok (.iload_n 3, 1) := by decide +kernel
theorem dX4_keep_31 : decode cX4_keep 31 = .ok (.imul, 1) := by decide +kernel
theorem dX4_keep_32 : decode cX4_keep 32 = .ok (.ishl, 1) := by decide +kernel
theorem dX4_keep_33 : decode cX4_keep 33 = .ok (.ior, 1) := by decide +kernel
theorem dX4_keep_34 : decode cX4_keep 34 = .ok (.istore_n 2, 1) := by decide +kernel
theorem dX4_keep_35 : decode cX4_keep 35 = .ok (.iinc 3 1, 3) := by decide +kernel
theorem dX4_keep_38 : decode cX4_keep 38 = .ok (.goto (-21), 3) := by decide +kernel
theorem dX4_keep_41 : decode cX4_keep 41 = .ok (.aload_n 0, 1) := by decide +kernel
theorem dX4_keep_42 : decode cX4_keep 42 = .ok (.getfield 18, 3) := by decide +kernel
theorem dX4_keep_45 : decode cX4_keep 45 = .ok (.aload_n 0, 1) := by decide +kernel
theorem dX4_keep_46 : decode cX4_keep 46 = .ok (.getfield 40, 3) := by decide +kernel
theorem dX4_keep_49 : decode cX4_keep 49 = .ok (.iload_n 2, 1) := by decide +kernel
theorem dX4_keep_50 : decode cX4_keep 50 = .ok (.iastore, 1) := by decide +kernel
theorem dX4_keep_51 : decode cX4_keep 51 = .ok (.aload_n 0, 1) := by decide +kernel
theorem dX4_keep_52 : decode cX4_keep 52 = .ok (.dup, 1) := by decide +kernel
theorem dX4_keep_53 : decode cX4_keep 53 = .ok (.getfield 40, 3) := by decide +kernel
theorem dX4_keep_56 : decode cX4_keep 56 = .ok (.iconst 1, 1) := by decide +kernel
theorem dX4_keep_57 : decode cX4_keep 57 = .ok (.iadd, 1) := by decide +kernel
theorem dX4_keep_58 : decode cX4_keep 58 = .ok (.putfield 40, 3) := by decide +kernel
theorem dX4_keep_61 : decode cX4_keep 61 = .ok (.return_, 1) := by decide +kernel
theorem dX4_clear_0 : decode cX4_clear 0 = .ok (.aload_n 0, 1) := by decide +kernel
theorem dX4_clear_1 : decode cX4_clear 1 = .ok (.getfield 15, 3) := by decide +kernel
theorem dX4_clear_4 : decode cX4_clear 4 = .ok (.iconst (-1), 1) := by decide +kernel
theorem dX4_clear_5 : decode cX4_clear 5 = .ok (.invokestatic 55, 3) := by decide +kernel
theorem dX4_clear_8 : decode cX4_clear 8 = .ok (.return_, 1) := by decide +kernel
theorem dX4_lays_0 : decode cX4_lays 0 = .ok (.iload_n 1, 1) := by decide +kernel
theorem dX4_lays_1 : decode cX4_lays 1 = .ok (.ifCond .lt 25, 3) := by decide +kernel
theorem dX4_lays_4 : decode cX4_lays 4 = .ok (.iload_n 1, 1) := by decide +kernel
theorem dX4_lays_5 : decode cX4_lays 5 = .ok (.aload_n 0, 1) := by decide +kernel
theorem dX4_lays_6 : decode cX4_lays 6 = .ok (.getfield 15, 3) := by decide +kernel
theorem dX4_lays_9 : decode cX4_lays 9 = .ok (.arraylength, 1) := by decide +kernel
theorem dX4_lays_10 : decode cX4_lays 10 = .ok (.if_icmp .ge 16, 3) := by decide +kernel
theorem dX4_lays_13 : decode cX4_lays 13 = .ok (.iload_n 2, 1) := by decide +kernel
theorem dX4_lays_14 : decode cX4_lays 14 = .ok (.ifCond .lt 12, 3) := by decide +kernel
theorem dX4_lays_17 : decode cX4_lays 17 = .ok (.iload_n 2, 1) := by decide +kernel
theorem dX4_lays_18 : decode cX4_lays 18 = .ok (.aload_n 0, 1) := by decide +kernel
theorem dX4_lays_19 : decode cX4_lays 19 = .ok (.getfield 9, 3) := by decide +kernel
theorem dX4_lays_22 : decode cX4_lays 22 = .ok (.arraylength, 1) := by decide +kernel
theorem dX4_lays_23 : decode cX4_lays 23 = .ok (.if_icmp .lt 5, 3) := by decide +kernel
theorem dX4_lays_26 : decode cX4_lays 26 = .ok (.iconst 0, 1) := by decide +kernel
theorem dX4_lays_27 : decode cX4_lays 27 = .ok (.ireturn, 1) := by decide +kernel
theorem dX4_lays_28 : decode cX4_lays 28 = .ok (.aload_n 0, 1) := by decide +kernel
theorem dX4_lays_29 : decode cX4_lays 29 = .ok (.getfield 9, 3) := by decide +kernel
theorem dX4_lays_32 : decode cX4_lays 32 = .ok (.iload_n 2, 1) := by decide +kernel
theorem dX4_lays_33 : decode cX4_lays 33 = .ok (.iload_n 1, 1) := by decide +kernel
theorem dX4_lays_34 : decode cX4_lays 34 = .ok (.iastore, 1) := by decide +kernel
theorem dX4_lays_35 : decode cX4_lays 35 = .ok (.aload_n 0, 1) := by decide +kernel
theorem dX4_lays_36 : decode cX4_lays 36 = .ok (.getfield 15, 3) := by decide +kernel
theorem dX4_lays_39 : decode cX4_lays 39 = .ok (.iload_n 1, 1) := by decide +kernel
theorem dX4_lays_40 : decode cX4_lays 40 = .ok (.iload_n 2, 1) := by decide +kernel
theorem dX4_lays_41 : decode cX4_lays 41 = .ok (.iastore, 1) := by decide +kernel
theorem dX4_lays_42 : decode cX4_lays 42 = .ok (.aload_n 0, 1) := by decide +kernel
theorem dX4_lays_43 : decode cX4_lays 43 = .ok (.iload_n 2, 1) := by decide +kernel
theorem dX4_lays_44 : decode cX4_lays 44 = .ok (.iconst 0, 1) := by decide +kernel
theorem dX4_lays_45 : decode cX4_lays 45 = .ok (.iload_n 3, 1) := by decide +kernel
theorem dX4_lays_46 : decode cX4_lays 46 = .ok (.invokevirtual 61, 3) := by decide +kernel
theorem dX4_lays_49 : decode cX4_lays 49 = .ok (.ifCond .eq 17, 3) := by decide +kernel
theorem dX4_lays_52 : decode cX4_lays 52 = .ok (.aload_n 0, 1) := by decide +kernel
theorem dX4_lays_53 : decode cX4_lays 53 = .ok (.iload_n 2, 1) := by decide +kernel
theorem dX4_lays_54 : decode cX4_lays 54 = .ok (.iconst 1, 1) := by decide +kernel
theorem dX4_lays_55 : decode cX4_lays 55 = .ok (.iload_n 3, 1) := by decide +kernel
theorem dX4_lays_56 : decode cX4_lays 56 = .ok (.invokevirtual 61, 3) := by decide +kernel
theorem dX4_lays_59 : decode cX4_lays 59 = .ok (.ifCond .eq 7, 3) := by decide +kernel
theorem dX4_lays_62 : decode cX4_lays 62 = .ok (.iconst 1, 1) := by decide +kernel
theorem dX4_lays_63 : decode cX4_lays 63 = .ok (.goto 4, 3) := by decide +kernel
theorem dX4_lays_66 : decode cX4_lays 66 = .ok (.iconst 0, 1) := by decide +kernel
theorem dX4_lays_67 : decode cX4_lays 67 = .ok (.ireturn, 1) := by decide +kernel
theorem dX4_closes_0 : decode cX4_closes 0 = .ok (.aload_n 0, 1) := by decide +kernel
theorem dX4_closes_1 : decode cX4_closes 1 = .ok (.getfield 9, 3) := by decide +kernel
theorem dX4_closes_4 : decode cX4_closes 4 = .ok (.iload_n 1, 1) := by decide +kernel
theorem dX4_closes_5 : decode cX4_closes 5 = .ok (.iaload, 1) := by decide +kernel
theorem dX4_closes_6 : decode cX4_closes 6 = .ok (.iload_n 2, 1) := by decide +kernel
theorem dX4_closes_7 : decode cX4_closes 7 = .ok (.iload_n 3, 1) := by decide +kernel
theorem dX4_closes_8 : decode cX4_closes 8 = .ok (.invokestatic 64, 3) := by decide +kernel
theorem dX4_closes_11 : decode cX4_closes 11 = .ok (.istore 4, 2) := by decide +kernel
theorem dX4_closes_13 : decode cX4_closes 13 = .ok (.iload 4, 2) := by decide +kernel
theorem dX4_closes_15 : decode cX4_closes 15 = .ok (.iconst (-1), 1) := by decide +kernel
theorem dX4_closes_16 : decode cX4_closes 16 = .ok (.if_icmp .eq 14, 3) := by decide +kernel
theorem dX4_closes_19 : decode cX4_closes 19 = .ok (.aload_n 0, 1) := by decide +kernel
theorem dX4_closes_20 : decode cX4_closes 20 = .ok (.getfield 15, 3) := by decide +kernel
theorem dX4_closes_23 : decode cX4_closes 23 = .ok (.iload 4, 2) := by decide +kernel
theorem dX4_closes_25 : decode cX4_closes 25 = .ok (.iaload, 1) := by decide +kernel
theorem dX4_closes_26 : decode cX4_closes 26 = .ok (.iconst (-1), 1) := by decide +kernel
theorem dX4_closes_27 : decode cX4_closes 27 = .ok (.if_icmp .ne 5, 3) := by decide +kernel
theorem dX4_closes_30 : decode cX4_closes 30 = .ok (.iconst 1, 1) := by decide +kernel
theorem dX4_closes_31 : decode cX4_closes 31 = .ok (.ireturn, 1) := by decide +kernel
theorem dX4_closes_32 : decode cX4_closes 32 = .ok (.aload_n 0, 1) := by decide +kernel
theorem dX4_closes_33 : decode cX4_closes 33 = .ok (.getfield 15, 3) := by decide +kernel
theorem dX4_closes_36 : decode cX4_closes 36 = .ok (.iload 4, 2) := by decide +kernel
theorem dX4_closes_38 : decode cX4_closes 38 = .ok (.iaload, 1) := by decide +kernel
theorem dX4_closes_39 : decode cX4_closes 39 = .ok (.istore 5, 2) := by decide +kernel
theorem dX4_closes_41 : decode cX4_closes 41 = .ok (.iload 5, 2) := by decide +kernel
theorem dX4_closes_43 : decode cX4_closes 43 = .ok (.iconst 1, 1) := by decide +kernel
theorem dX4_closes_44 : decode cX4_closes 44 = .ok (.iadd, 1) := by decide +kernel
theorem dX4_closes_45 : decode cX4_closes 45 = .ok (.istore 6, 2) := by decide +kernel
theorem dX4_closes_47 : decode cX4_closes 47 = .ok (.iload 6, 2) := by decide +kernel
theorem dX4_closes_49 : decode cX4_closes 49 = .ok (.iload_n 1, 1) := by decide +kernel
theorem dX4_closes_50 : decode cX4_closes 50 = .ok (.if_icmp .ge 43, 3) := by decide +kernel
theorem dX4_closes_53 : decode cX4_closes 53 = .ok (.aload_n 0, 1) := by decide +kernel
theorem dX4_closes_54 : decode cX4_closes 54 = .ok (.getfield 9, 3) := by decide +kernel
theorem dX4_closes_57 : decode cX4_closes 57 = .ok (.iload 6, 2) := by decide +kernel
theorem dX4_closes_59 : decode cX4_closes 59 = .ok (.iaload, 1) := by decide +kernel
theorem dX4_closes_60 : decode cX4_closes 60 = .ok (.iload_n 2, 1) := by decide +kernel
theorem dX4_closes_61 : decode cX4_closes 61 = .ok (.iload_n 3, 1) := by decide +kernel
theorem dX4_closes_62 : decode cX4_closes 62 = .ok (.invokestatic 64, 3) := by decide +kernel
theorem dX4_closes_65 : decode cX4_closes 65 = .ok (.istore 7, 2) := by decide +kernel
theorem dX4_closes_67 : decode cX4_closes 67 = .ok (.iload 7, 2) := by decide +kernel
theorem dX4_closes_69 : decode cX4_closes 69 = .ok (.iconst (-1), 1) := by decide +kernel
theorem dX4_closes_70 : decode cX4_closes 70 = .ok (.if_icmp .eq 17, 3) := by decide +kernel
theorem dX4_closes_73 : decode cX4_closes 73 = .ok (.aload_n 0, 1) := by decide +kernel
theorem dX4_closes_74 : decode cX4_closes 74 = .ok (.getfield 15, 3) := by decide +kernel
theorem dX4_closes_77 : decode cX4_closes 77 = .ok (.iload 7, 2) := by decide +kernel
theorem dX4_closes_79 : decode cX4_closes 79 = .ok (.iaload, 1) := by decide +kernel
theorem dX4_closes_80 : decode cX4_closes 80 = .ok (.iload 5, 2) := by decide +kernel
theorem dX4_closes_82 : decode cX4_closes 82 = .ok (.if_icmp .ge 5, 3) := by decide +kernel
theorem dX4_closes_85 : decode cX4_closes 85 = .ok (.iconst 0, 1) := by decide +kernel
theorem dX4_closes_86 : decode cX4_closes 86 = .ok (.ireturn, 1) := by decide +kernel
theorem dX4_closes_87 : decode cX4_closes 87 = .ok (.iinc 6 1, 3) := by decide +kernel
theorem dX4_closes_90 : decode cX4_closes 90 = .ok (.goto (-43), 3) := by decide +kernel
theorem dX4_closes_93 : decode cX4_closes 93 = .ok (.iconst 1, 1) := by decide +kernel
theorem dX4_closes_94 : decode cX4_closes 94 = .ok (.ireturn, 1) := by decide +kernel
theorem dX4_mateOf_0 : decode cX4_mateOf 0 = .ok (.iload_n 0, 1) := by decide +kernel
theorem dX4_mateOf_1 : decode cX4_mateOf 1 = .ok (.iload_n 1, 1) := by decide +kernel
theorem dX4_mateOf_2 : decode cX4_mateOf 2 = .ok (.iadd, 1) := by decide +kernel
theorem dX4_mateOf_3 : decode cX4_mateOf 3 = .ok (.iconst 1, 1) := by decide +kernel
theorem dX4_mateOf_4 : decode cX4_mateOf 4 = .ok (.ixor, 1) := by decide +kernel
theorem dX4_mateOf_5 : decode cX4_mateOf 5 = .ok (.iload_n 1, 1) := by decide +kernel
theorem dX4_mateOf_6 : decode cX4_mateOf 6 = .ok (.isub, 1) := by decide +kernel
theorem dX4_mateOf_7 : decode cX4_mateOf 7 = .ok (.istore_n 3, 1) := by decide +kernel
theorem dX4_mateOf_8 : decode cX4_mateOf 8 = .ok (.iload_n 3, 1) := by decide +kernel
theorem dX4_mateOf_9 : decode cX4_mateOf 9 = .ok (.ifCond .lt 12, 3) := by decide +kernel
theorem dX4_mateOf_12 : decode cX4_mateOf 12 = .ok (.iload_n 3, 1) := by decide +kernel
theorem dX4_mateOf_13 : decode cX4_mateOf 13 = .ok (.iload_n 2, 1) := by decide +kernel
theorem dX4_mateOf_14 : decode cX4_mateOf 14 = .ok (.if_icmp .ge 7, 3) := by decide +kernel
theorem dX4_mateOf_17 : decode cX4_mateOf 17 = .ok (.iload_n 3, 1) := by decide +kernel
theorem dX4_mateOf_18 : decode cX4_mateOf 18 = .ok (.goto 4, 3) := by decide +kernel
theorem dX4_mateOf_21 : decode cX4_mateOf 21 = .ok (.iconst (-1), 1) := by decide +kernel
theorem dX4_mateOf_22 : decode cX4_mateOf 22 = .ok (.ireturn, 1) := by decide +kernel
theorem dX5_init_0 : decode cX5_init 0 = .ok (.aload_n 0, 1) := by decide +kernel
theorem dX5_init_1 : decode cX5_init 1 = .ok (.bipush 6, 2) := by decide +kernel
theorem dX5_init_3 : decode cX5_init 3 = .ok (.iload_n 1, 1) := by decide +kernel
theorem dX5_init_4 : decode cX5_init 4 = .ok (.iload_n 2, 1) := by decide +kernel
theorem dX5_init_5 : decode cX5_init 5 = .ok (.iload_n 3, 1) := by decide +kernel
theorem dX5_init_6 : decode cX5_init 6 = .ok (.lload 4, 2) := by decide +kernel
theorem dX5_init_8 : decode cX5_init 8 = .ok (.invokespecial 3, 3) := by decide +kernel
theorem dX5_init_11 : decode cX5_init 11 = .ok (.return_, 1) := by decide +kernel
theorem dX5_creaseAt_0 : decode cX5_creaseAt 0 = .ok (.lload_n 1, 1) := by decide +kernel
theorem dX5_creaseAt_1 : decode cX5_creaseAt 1 = .ok (.ldc2_w 9, 3) := by decide +kernel
theorem dX5_creaseAt_4 : decode cX5_creaseAt 4 = .ok (.lrem, 1) := by decide +kernel
theorem dX5_creaseAt_5 : decode cX5_creaseAt 5 = .ok (.lconst 0, 1) := by decide +kernel
theorem dX5_creaseAt_6 : decode cX5_creaseAt 6 = .ok (.lcmp, 1) := by decide +kernel
theorem dX5_creaseAt_7 : decode cX5_creaseAt 7 = .ok (.ifCond .ne 7, 3) := by decide +kernel
theorem dX5_creaseAt_10 : decode cX5_creaseAt 10 = .ok (.iconst 1, 1) := by decide +kernel
theorem dX5_creaseAt_11 : decode cX5_creaseAt 11 = .ok (.goto 8, 3) := by decide +kernel
theorem dX5_creaseAt_14 : decode cX5_creaseAt 14 = .ok (.aload_n 0, 1) := by decide +kernel
theorem dX5_creaseAt_15 : decode cX5_creaseAt 15 = .ok (.lload_n 1, 1) := by decide +kernel
theorem dX5_creaseAt_16 : decode cX5_creaseAt 16 = .ok (.invokespecial 11, 3) := by decide +kernel
theorem dX5_creaseAt_19 : decode cX5_creaseAt 19 = .ok (.ireturn, 1) := by decide +kernel
theorem dX5_wayBehind_0 : decode cX5_wayBehind 0 = .ok (.aload_n 0, 1) := by decide +kernel
theorem dX5_wayBehind_1 : decode cX5_wayBehind 1 = .ok (.lload_n 1, 1) := by decide +kernel
theorem dX5_wayBehind_2 : decode cX5_wayBehind 2 = .ok (.iconst 0, 1) := by decide +kernel
theorem dX5_wayBehind_3 : decode cX5_wayBehind 3 = .ok (.invokevirtual 15, 3) := by decide +kernel
theorem dX5_wayBehind_6 : decode cX5_wayBehind 6 = .ok (.aload_n 0, 1) := by decide +kernel
theorem dX5_wayBehind_7 : decode cX5_wayBehind 7 = .ok (.lload_n 1, 1) := by decide +kernel
theorem dX5_wayBehind_8 : decode cX5_wayBehind 8 = .ok (.iconst 1, 1) := by decide +kernel
theorem dX5_wayBehind_9 : decode cX5_wayBehind 9 = .ok (.invokevirtual 15, 3) := by decide +kernel
theorem dX5_wayBehind_12 : decode cX5_wayBehind 12 = .ok (.iadd, 1) := by decide +kernel
theorem dX5_wayBehind_13 : decode cX5_wayBehind 13 = .ok (.lload_n 1, 1) := by decide +kernel
theorem dX5_wayBehind_14 : decode cX5_wayBehind 14 = .ok (.ldc2_w 9, 3) := by decide +kernel
theorem dX5_wayBehind_17 : decode cX5_wayBehind 17 = .ok (.ldiv, 1) := by decide +kernel
theorem dX5_wayBehind_18 : decode cX5_wayBehind 18 = .ok (.ldc2_w 9, 3) := by decide +kernel
theorem dX5_wayBehind_21 : decode cX5_wayBehind 21 = .ok (.lrem, 1) := by decide +kernel
theorem dX5_wayBehind_22 : decode cX5_wayBehind 22 = .ok (.l2i, 1) := by decide +kernel
theorem dX5_wayBehind_23 : decode cX5_wayBehind 23 = .ok (.iadd, 1) := by decide +kernel
theorem dX5_wayBehind_24 : decode cX5_wayBehind 24 = .ok (.iconst 3, 1) := by decide +kernel
theorem dX5_wayBehind_25 : decode cX5_wayBehind 25 = .ok (.iand, 1) := by decide +kernel
theorem dX5_wayBehind_26 : decode cX5_wayBehind 26 = .ok (.ireturn, 1) := by decide +kernel
theorem dX5_lead_0 : decode cX5_lead 0 = .ok (.aload_n 1, 1) := by decide +kernel
theorem dX5_lead_1 : decode cX5_lead 1 = .ok (.aload_n 0, 1) := by decide +kernel
theorem dX5_lead_2 : decode cX5_lead 2 = .ok (.lconst 0, 1) := by decide +kernel
theorem dX5_lead_3 : decode cX5_lead 3 = .ok (.lconst 0, 1) := by decide +kernel
theorem dX5_lead_4 : decode cX5_lead 4 = .ok (.iconst 0, 1) := by decide +kernel
theorem dX5_lead_5 : decode cX5_lead 5 = .ok (.invokevirtual 21, 3) := by decide +kernel
theorem dX5_lead_8 : decode cX5_lead 8 = .ok (.iconst 0, 1) := by decide +kernel
theorem dX5_lead_9 : decode cX5_lead 9 = .ok (.istore 4, 2) := by decide +kernel
theorem dX5_lead_11 : decode cX5_lead 11 = .ok (.iload 4, 2) := by decide +kernel
theorem dX5_lead_13 : decode cX5_lead 13 = .ok (.i2l, 1) := by decide +kernel
theorem dX5_lead_14 : decode cX5_lead 14 = .ok (.lload_n 2, 1) := by decide +kernel
theorem dX5_lead_15 : decode cX5_lead 15 = .ok (.ldc2_w 27, 3) := by decide +kernel
theorem dX5_lead_18 : decode cX5_lead 18 = .ok (.lrem, 1) := by decide +kernel
theorem dX5_lead_19 : decode cX5_lead 19 = .ok (.lcmp, 1) := by decide +kernel
theorem dX5_lead_20 : decode cX5_lead 20 = .ok (.ifCond .ge 13, 3) := by decide +kernel
theorem dX5_lead_23 : decode cX5_lead 23 = .ok (.aload_n 1, 1) := by decide +kernel
theorem dX5_lead_24 : decode cX5_lead 24 = .ok (.invokevirtual 29, 3) := by decide +kernel
theorem dX5_lead_27 : decode cX5_lead 27 = .ok (.iinc 4 1, 3) := by decide +kernel
theorem dX5_lead_30 : decode cX5_lead 30 = .ok (.goto (-19), 3) := by decide +kernel
theorem dX5_lead_33 : decode cX5_lead 33 = .ok (.return_, 1) := by decide +kernel
theorem dX5_folds_0 : decode cX5_folds 0 = .ok (.aload_n 1, 1) := by decide +kernel
theorem dX5_folds_1 : decode cX5_folds 1 = .ok (.bipush 70, 2) := by decide +kernel
theorem dX5_folds_3 : decode cX5_folds 3 = .ok (.invokevirtual 33, 3) := by decide +kernel
theorem dX5_folds_6 : decode cX5_folds 6 = .ok (.pop, 1) := by decide +kernel
theorem dX5_folds_7 : decode cX5_folds 7 = .ok (.aload_n 0, 1) := by decide +kernel
theorem dX5_folds_8 : decode cX5_folds 8 = .ok (.aload_n 1, 1) := by decide +kernel
theorem dX5_folds_9 : decode cX5_folds 9 = .ok (.iload_n 2, 1) := by decide +kernel
theorem dX5_folds_10 : decode cX5_folds 10 = .ok (.invokespecial 39, 3) := by decide +kernel
theorem dX5_folds_13 : decode cX5_folds 13 = .ok (.iconst 2, 1) := by decide +kernel
theorem dX5_folds_14 : decode cX5_folds 14 = .ok (.imul, 1) := by decide +kernel
theorem dX5_folds_15 : decode cX5_folds 15 = .ok (.ireturn, 1) := by decide +kernel
theorem dX5_opens_0 : decode cX5_opens 0 = .ok (.aload_n 1, 1) := by decide +kernel
theorem dX5_opens_1 : decode cX5_opens 1 = .ok (.bipush 71, 2) := by decide +kernel
theorem dX5_opens_3 : decode cX5_opens 3 = .ok (.invokevirtual 33, 3) := by decide +kernel
theorem dX5_opens_6 : decode cX5_opens 6 = .ok (.pop, 1) := by decide +kernel
theorem dX5_opens_7 : decode cX5_opens 7 = .ok (.aload_n 0, 1) := by decide +kernel
theorem dX5_opens_8 : decode cX5_opens 8 = .ok (.aload_n 1, 1) := by decide +kernel
theorem dX5_opens_9 : decode cX5_opens 9 = .ok (.iload_n 2, 1) := by decide +kernel
theorem dX5_opens_10 : decode cX5_opens 10 = .ok (.aload_n 0, 1) := by decide +kernel
theorem dX5_opens_11 : decode cX5_opens 11 = .ok (.getfield 43, 3) := by decide +kernel
theorem dX5_opens_14 : decode cX5_opens 14 = .ok (.isub, 1) := by decide +kernel
theorem dX5_opens_15 : decode cX5_opens 15 = .ok (.invokespecial 47, 3) := by decide +kernel
theorem dX5_opens_18 : decode cX5_opens 18 = .ok (.ireturn, 1) := by decide +kernel
theorem dX6_init_0 : decode cX6_init 0 = .ok (.aload_n 0, 1) := by decide +kernel
theorem dX6_init_1 : decode cX6_init 1 = .ok (.invokespecial 3, 3) := by decide +kernel
theorem dX6_init_4 : decode cX6_init 4 = .ok (.aload_n 0, 1) := by decide +kernel
theorem dX6_init_5 : decode cX6_init 5 = .ok (.bipush 8, 2) := by decide +kernel
theorem dX6_init_7 : decode cX6_init 7 = .ok (.anewarray 9, 3) := by decide +kernel
theorem dX6_init_10 : decode cX6_init 10 = .ok (.putfield 11, 3) := by decide +kernel
theorem dX6_init_13 : decode cX6_init 13 = .ok (.return_, 1) := by decide +kernel
theorem dX6_beginWith_0 : decode cX6_beginWith 0 = .ok (.aload_n 1, 1) := by decide +kernel
theorem dX6_beginWith_1 : decode cX6_beginWith 1 = .ok (.aload_n 0, 1) := by decide +kernel
theorem dX6_beginWith_2 : decode cX6_beginWith 2 = .ok (.getfield 11, 3) := by decide +kernel
theorem dX6_beginWith_5 : decode cX6_beginWith 5 = .ok (.invokestatic 17, 3) := by decide +kernel
theorem dX6_beginWith_8 : decode cX6_beginWith 8 = .ok (.aload_n 0, 1) := by decide +kernel
theorem dX6_beginWith_9 : decode cX6_beginWith 9 = .ok (.iload_n 2, 1) := by decide +kernel
theorem dX6_beginWith_10 : decode cX6_beginWith 10 = .ok (.putfield 21, 3) := by decide +kernel
theorem dX6_beginWith_13 : decode cX6_beginWith 13 = .ok (.aload_n 0, 1) := by decide +kernel
theorem dX6_beginWith_14 : decode cX6_beginWith 14 = .ok (.iconst (-1), 1) := by decide +kernel
theorem dX6_beginWith_15 : decode cX6_beginWith 15 = .ok (.putfield 25, 3) := by decide +kernel
theorem dX6_beginWith_18 : decode cX6_beginWith 18 = .ok (.aload_n 0, 1) := by decide +kernel
theorem dX6_beginWith_19 : decode cX6_beginWith 19 = .ok (.iconst 0, 1) := by decide +kernel
theorem dX6_beginWith_20 : decode cX6_beginWith 20 = .ok (.putfield 28, 3) := by decide +kernel
theorem dX6_beginWith_23 : decode cX6_beginWith 23 = .ok (.return_, 1) := by decide +kernel
theorem dX6_tell_0 : decode cX6_tell 0 = .ok (.aload_n 0, 1) := by decide +kernel
theorem dX6_tell_1 : decode cX6_tell 1 = .ok (.aload_n 1, 1) := by decide +kernel
theorem dX6_tell_2 : decode cX6_tell 2 = .ok (.putfield 31, 3) := by decide +kernel
theorem dX6_tell_5 : decode cX6_tell 5 = .ok (.iconst 0, 1) := by decide +kernel
theorem dX6_tell_6 : decode cX6_tell 6 = .ok (.istore_n 2, 1) := by decide +kernel
theorem dX6_tell_7 : decode cX6_tell 7 = .ok (.iconst 1, 1) := by decide +kernel
theorem dX6_tell_8 : decode cX6_tell 8 = .ok (.istore_n 3, 1) := by decide +kernel
theorem dX6_tell_9 : decode cX6_tell 9 = .ok (.iload_n 3, 1) := by decide +kernel
theorem dX6_tell_10 : decode cX6_tell 10 = .ok (.ifCond .eq 106, 3) := by decide +kernel
theorem dX6_tell_13 : decode cX6_tell 13 = .ok (.iload_n 2, 1) := by decide +kernel
theorem dX6_tell_14 : decode cX6_tell 14 = .ok (.sipush 160, 3) := by decide +kernel
theorem dX6_tell_17 : decode cX6_tell 17 = .ok (.if_icmp .ge 99, 3) := by decide +kernel
theorem dX6_tell_20 : decode cX6_tell 20 = .ok (.iinc 2 1, 3) := by decide +kernel
theorem dX6_tell_23 : decode cX6_tell 23 = .ok (.aload_n 0, 1) := by decide +kernel
theorem dX6_tell_24 : decode cX6_tell 24 = .ok (.invokevirtual 35, 3) := by decide +kernel
theorem dX6_tell_27 : decode cX6_tell 27 = .ok (.istore 4, 2) := by decide +kernel
theorem dX6_tell_29 : decode cX6_tell 29 = .ok (.iload 4, 2) := by decide +kernel
theorem dX6_tell_31 : decode cX6_tell 31 = .ok (.bipush 115, 2) := by decide +kernel
theorem dX6_tell_33 : decode cX6_tell 33 = .ok (.if_icmp .ne 11, 3) := by decide +kernel
theorem dX6_tell_36 : decode cX6_tell 36 = .ok (.aload_n 0, 1) := by decide +kernel
theorem dX6_tell_37 : decode cX6_tell 37 = .ok (.invokevirtual 39, 3) := by decide +kernel
theorem dX6_tell_40 : decode cX6_tell 40 = .ok (.istore_n 3, 1) := by decide +kernel
theorem dX6_tell_41 : decode cX6_tell 41 = .ok (.goto 42, 3) := by decide +kernel
theorem dX6_tell_44 : decode cX6_tell 44 = .ok (.iload 4, 2) := by decide +kernel
theorem dX6_tell_46 : decode cX6_tell 46 = .ok (.bipush 116, 2) := by decide +kernel
theorem dX6_tell_48 : decode cX6_tell 48 = .ok (.if_icmp .ne 11, 3) := by decide +kernel
theorem dX6_tell_51 : decode cX6_tell 51 = .ok (.aload_n 0, 1) := by decide +kernel
theorem dX6_tell_52 : decode cX6_tell 52 = .ok (.invokevirtual 43, 3) := by decide +kernel
theorem dX6_tell_55 : decode cX6_tell 55 = .ok (.istore_n 3, 1) := by decide +kernel
theorem dX6_tell_56 : decode cX6_tell 56 = .ok (.goto 27, 3) := by decide +kernel
theorem dX6_tell_59 : decode cX6_tell 59 = .ok (.iload 4, 2) := by decide +kernel
theorem dX6_tell_61 : decode cX6_tell 61 = .ok (.bipush 108, 2) := by decide +kernel
theorem dX6_tell_63 : decode cX6_tell 63 = .ok (.if_icmp .ne 11, 3) := by decide +kernel
theorem dX6_tell_66 : decode cX6_tell 66 = .ok (.aload_n 0, 1) := by decide +kernel
theorem dX6_tell_67 : decode cX6_tell 67 = .ok (.invokevirtual 46, 3) := by decide +kernel
theorem dX6_tell_70 : decode cX6_tell 70 = .ok (.istore_n 3, 1) := by decide +kernel
theorem dX6_tell_71 : decode cX6_tell 71 = .ok (.goto 12, 3) := by decide +kernel
theorem dX6_tell_74 : decode cX6_tell 74 = .ok (.aload_n 0, 1) := by decide +kernel
theorem dX6_tell_75 : decode cX6_tell 75 = .ok (.aload_n 0, 1) := by decide +kernel
theorem dX6_tell_76 : decode cX6_tell 76 = .ok (.getfield 28, 3) := by decide +kernel
theorem dX6_tell_79 : decode cX6_tell 79 = .ok (.invokevirtual 49, 3) := by decide +kernel
theorem dX6_tell_82 : decode cX6_tell 82 = .ok (.istore_n 3, 1) := by decide +kernel
theorem dX6_tell_83 : decode cX6_tell 83 = .ok (.iload_n 3, 1) := by decide +kernel
theorem dX6_tell_84 : decode cX6_tell 84 = .ok (.ifCond .eq 27, 3) := by decide +kernel
theorem dX6_tell_87 : decode cX6_tell 87 = .ok (.aload_n 0, 1) := by decide +kernel
theorem dX6_tell_88 : decode cX6_tell 88 = .ok (.getfield 28, 3) := by decide +kernel
theorem dX6_tell_91 : decode cX6_tell 91 = .ok (.aload_n 1, 1) := by decide +kernel
theorem dX6_tell_92 : decode cX6_tell 92 = .ok (.getfield 53, 3) := by decide +kernel
theorem dX6_tell_95 : decode cX6_tell 95 = .ok (.if_icmp .ge 16, 3) := by decide +kernel
theorem dX6_tell_98 : decode cX6_tell 98 = .ok (.aload_n 0, 1) := by decide +kernel
theorem dX6_tell_99 : decode cX6_tell 99 = .ok (.ldc 58, 2) := by decide +kernel
theorem dX6_tell_101 : decode cX6_tell 101 = .ok (.invokevirtual 60, 3) := by decide +kernel
theorem dX6_tell_104 : decode cX6_tell 104 = .ok (.ifCond .eq 7, 3) := by decide +kernel
theorem dX6_tell_107 : decode cX6_tell 107 = .ok (.iconst 1, 1) := by decide +kernel
theorem dX6_tell_108 : decode cX6_tell 108 = .ok (.goto 4, 3) := by decide +kernel
theorem dX6_tell_111 : decode cX6_tell 111 = .ok (.iconst 0, 1) := by decide +kernel
theorem dX6_tell_112 : decode cX6_tell 112 = .ok (.istore_n 3, 1) := by decide +kernel
theorem dX6_tell_113 : decode cX6_tell 113 = .ok (.goto (-104), 3) := by decide +kernel
theorem dX6_tell_116 : decode cX6_tell 116 = .ok (.iload_n 2, 1) := by decide +kernel
theorem dX6_tell_117 : decode cX6_tell 117 = .ok (.ireturn, 1) := by decide +kernel
theorem dX6_stripItem_0 : decode cX6_stripItem 0 = .ok (.aload_n 0, 1) := by decide +kernel
theorem dX6_stripItem_1 : decode cX6_stripItem 1 = .ok (.getfield 28, 3) := by decide +kernel
theorem dX6_stripItem_4 : decode cX6_stripItem 4 = .ok (.istore_n 1, 1) := by decide +kernel
theorem dX6_stripItem_5 : decode cX6_stripItem 5 = .ok (.aload_n 0, 1) := by decide +kernel
theorem dX6_stripItem_6 : decode cX6_stripItem 6 = .ok (.ldc 64, 2) := by decide +kernel
theorem dX6_stripItem_8 : decode cX6_stripItem 8 = .ok (.invokevirtual 60, 3) := by decide +kernel
theorem dX6_stripItem_11 : decode cX6_stripItem 11 = .ok (.ifCond .ne 5, 3) := by decide +kernel
theorem dX6_stripItem_14 : decode cX6_stripItem 14 = .ok (.iconst 0, 1) := by decide +kernel
theorem dX6_stripItem_15 : decode cX6_stripItem 15 = .ok (.ireturn, 1) := by decide +kernel
theorem dX6_stripItem_16 : decode cX6_stripItem 16 = .ok (.aload_n 0, 1) := by decide +kernel
theorem dX6_stripItem_17 : decode cX6_stripItem 17 = .ok (.getfield 21, 3) := by decide +kernel
theorem dX6_stripItem_20 : decode cX6_stripItem 20 = .ok (.aload_n 0, 1) := by decide +kernel
theorem dX6_stripItem_21 : decode cX6_stripItem 21 = .ok (.getfield 11, 3) := by decide +kernel
theorem dX6_stripItem_24 : decode cX6_stripItem 24 = .ok (.arraylength, 1) := by decide +kernel
theorem dX6_stripItem_25 : decode cX6_stripItem 25 = .ok (.if_icmp .lt 9, 3) := by decide +kernel
theorem dX6_stripItem_28 : decode cX6_stripItem 28 = .ok (.aload_n 0, 1) := by decide +kernel
theorem dX6_stripItem_29 : decode cX6_stripItem 29 = .ok (.iload_n 1, 1) := by decide +kernel
theorem dX6_stripItem_30 : decode cX6_stripItem 30 = .ok (.invokevirtual 49, 3) := by decide +kernel
theorem dX6_stripItem_33 : decode cX6_stripItem 33 = .ok (.ireturn, 1) := by decide +kernel
theorem dX6_stripItem_34 : decode cX6_stripItem 34 = .ok (.aload_n 0, 1) := by decide +kernel
theorem dX6_stripItem_35 : decode cX6_stripItem 35 = .ok (.ldc 66, 2) := by decide +kernel
theorem dX6_stripItem_37 : decode cX6_stripItem 37 = .ok (.invokevirtual 60, 3) := by decide +kernel
theorem dX6_stripItem_40 : decode cX6_stripItem 40 = .ok (.ifCond .eq 12, 3) := by decide +kernel
theorem dX6_stripItem_43 : decode cX6_stripItem 43 = .ok (.aload_n 0, 1) := by decide +kernel
theorem dX6_stripItem_44 : decode cX6_stripItem 44 = .ok (.bipush 6, 2) := by decide +kernel
theorem dX6_stripItem_46 : decode cX6_stripItem 46 = .ok (.invokevirtual 68, 3) := by decide +kernel
theorem dX6_stripItem_49 : decode cX6_stripItem 49 = .ok (.ifCond .ne 5, 3) := by decide +kernel
theorem dX6_stripItem_52 : decode cX6_stripItem 52 = .ok (.iconst 0, 1) := by decide +kernel
theorem dX6_stripItem_53 : decode cX6_stripItem 53 = .ok (.ireturn, 1) := by decide +kernel
theorem dX6_stripItem_54 : decode cX6_stripItem 54 = .ok (.aload_n 0, 1) := by decide +kernel
theorem dX6_stripItem_55 : decode cX6_stripItem 55 = .ok (.getfield 71, 3) := by decide +kernel
theorem dX6_stripItem_58 : decode cX6_stripItem 58 = .ok (.istore_n 2, 1) := by decide +kernel
theorem dX6_stripItem_59 : decode cX6_stripItem 59 = .ok (.aload_n 0, 1) := by decide +kernel
theorem dX6_stripItem_60 : decode cX6_stripItem 60 = .ok (.ldc 66, 2) := by decide +kernel
theorem dX6_stripItem_62 : decode cX6_stripItem 62 = .ok (.invokevirtual 60, 3) := by decide +kernel
theorem dX6_stripItem_65 : decode cX6_stripItem 65 = .ok (.ifCond .eq 12, 3) := by decide +kernel
theorem dX6_stripItem_68 : decode cX6_stripItem 68 = .ok (.aload_n 0, 1) := by decide +kernel
theorem dX6_stripItem_69 : decode cX6_stripItem 69 = .ok (.ldc 74, 2) := by decide +kernel
theorem dX6_stripItem_71 : decode cX6_stripItem 71 = .ok (.invokevirtual 68, 3) := by decide +kernel
theorem dX6_stripItem_74 : decode cX6_stripItem 74 = .ok (.ifCond .ne 5, 3) := by decide +kernel
theorem dX6_stripItem_77 : decode cX6_stripItem 77 = .ok (.iconst 0, 1) := by decide +kernel
theorem dX6_stripItem_78 : decode cX6_stripItem 78 = .ok (.ireturn, 1) := by decide +kernel
theorem dX6_stripItem_79 : decode cX6_stripItem 79 = .ok (.aload_n 0, 1) := by decide +kernel
theorem dX6_stripItem_80 : decode cX6_stripItem 80 = .ok (.getfield 71, 3) := by decide +kernel
theorem dX6_stripItem_83 : decode cX6_stripItem 83 = .ok (.istore_n 3, 1) := by decide +kernel
theorem dX6_stripItem_84 : decode cX6_stripItem 84 = .ok (.aload_n 0, 1) := by decide +kernel
theorem dX6_stripItem_85 : decode cX6_stripItem 85 = .ok (.ldc 66, 2) := by decide +kernel
theorem dX6_stripItem_87 : decode cX6_stripItem 87 = .ok (.invokevirtual 60, 3) := by decide +kernel
theorem dX6_stripItem_90 : decode cX6_stripItem 90 = .ok (.ifCond .eq 14, 3) := by decide +kernel
theorem dX6_stripItem_93 : decode cX6_stripItem 93 = .ok (.aload_n 0, 1) := by decide +kernel
theorem dX6_stripItem_94 : decode cX6_stripItem 94 = .ok (.iload_n 2, 1) := by decide +kernel
theorem dX6_stripItem_95 : decode cX6_stripItem 95 = .ok (.invokestatic 75, 3) := by decide +kernel
theorem dX6_stripItem_98 : decode cX6_stripItem 98 = .ok (.invokevirtual 79, 3) := by decide +kernel
theorem dX6_stripItem_101 : decode cX6_stripItem 101 = .ok (.ifCond .ne 5, 3) := by decide +kernel
theorem dX6_stripItem_104 : decode cX6_stripItem 104 = .ok (.iconst 0, 1) := by decide +kernel
theorem dX6_stripItem_105 : decode cX6_stripItem 105 = .ok (.ireturn, 1) := by decide +kernel
theorem dX6_stripItem_106 : decode cX6_stripItem 106 = .ok (.aload_n 0, 1) := by decide +kernel
theorem dX6_stripItem_107 : decode cX6_stripItem 107 = .ok (.getfield 11, 3) := by decide +kernel
theorem dX6_stripItem_110 : decode cX6_stripItem 110 = .ok (.aload_n 0, 1) := by decide +kernel
theorem dX6_stripItem_111 : decode cX6_stripItem 111 = .ok (.getfield 21, 3) := by decide +kernel
theorem dX6_stripItem_114 : decode cX6_stripItem 114 = .ok (.iload_n 2, 1) := by decide +kernel
theorem dX6_stripItem_115 : decode cX6_stripItem 115 = .ok (.aload_n 0, 1) := by decide +kernel
theorem dX6_stripItem_116 : decode cX6_stripItem 116 = .ok (.getfield 21, 3) := by decide +kernel
theorem dX6_stripItem_119 : decode cX6_stripItem 119 = .ok (.iload_n 3, 1) := by decide +kernel
theorem dX6_stripItem_120 : decode cX6_stripItem 120 = .ok (.aload_n 0, 1) := by decide +kernel
theorem dX6_stripItem_121 : decode cX6_stripItem 121 = .ok (.getfield 82, 3) := by decide +kernel
theorem dX6_stripItem_124 : decode cX6_stripItem 124 = .ok (.aload_n 0, 1) := by decide +kernel
theorem dX6_stripItem_125 : decode cX6_stripItem 125 = .ok (.getfield 85, 3) := by decide +kernel
theorem dX6_stripItem_128 : decode cX6_stripItem 128 = .ok (.invokestatic 89, 3) := by decide +kernel
theorem dX6_stripItem_131 : decode cX6_stripItem 131 = .ok (.aastore, 1) := by decide +kernel
theorem dX6_stripItem_132 : decode cX6_stripItem 132 = .ok (.aload_n 0, 1) := by decide +kernel
theorem dX6_stripItem_133 : decode cX6_stripItem 133 = .ok (.dup, 1) := by decide +kernel
theorem dX6_stripItem_134 : decode cX6_stripItem 134 = .ok (.getfield 21, 3) := by decide +kernel
theorem dX6_stripItem_137 : decode cX6_stripItem 137 = .ok (.iconst 1, 1) := by decide +kernel
theorem dX6_stripItem_138 : decode cX6_stripItem 138 = .ok (.iadd, 1) := by decide +kernel
theorem dX6_stripItem_139 : decode cX6_stripItem 139 = .ok (.putfield 21, 3) := by decide +kernel
theorem dX6_stripItem_142 : decode cX6_stripItem 142 = .ok (.iconst 1, 1) := by decide +kernel
theorem dX6_stripItem_143 : decode cX6_stripItem 143 = .ok (.ireturn, 1) := by decide +kernel
theorem dX6_wordUpTo_0 : decode cX6_wordUpTo 0 = .ok (.aload_n 0, 1) := by decide +kernel
theorem dX6_wordUpTo_1 : decode cX6_wordUpTo 1 = .ok (.lconst 0, 1) := by decide +kernel
theorem dX6_wordUpTo_2 : decode cX6_wordUpTo 2 = .ok (.putfield 85, 3) := by decide +kernel
theorem dX6_wordUpTo_5 : decode cX6_wordUpTo 5 = .ok (.aload_n 0, 1) := by decide +kernel
theorem dX6_wordUpTo_6 : decode cX6_wordUpTo 6 = .ok (.iconst 0, 1) := by decide +kernel
theorem dX6_wordUpTo_7 : decode cX6_wordUpTo 7 = .ok (.putfield 82, 3) := by decide +kernel
theorem dX6_wordUpTo_10 : decode cX6_wordUpTo 10 = .ok (.aload_n 0, 1) := by decide +kernel
theorem dX6_wordUpTo_11 : decode cX6_wordUpTo 11 = .ok (.getfield 82, 3) := by decide +kernel
theorem dX6_wordUpTo_14 : decode cX6_wordUpTo 14 = .ok (.iload_n 1, 1) := by decide +kernel
theorem dX6_wordUpTo_15 : decode cX6_wordUpTo 15 = .ok (.if_icmp .ge 68, 3) := by decide +kernel
theorem dX6_wordUpTo_18 : decode cX6_wordUpTo 18 = .ok (.aload_n 0, 1) := by decide +kernel
theorem dX6_wordUpTo_19 : decode cX6_wordUpTo 19 = .ok (.invokevirtual 35, 3) := by decide +kernel
theorem dX6_wordUpTo_22 : decode cX6_wordUpTo 22 = .ok (.bipush 108, 2) := by decide +kernel
theorem dX6_wordUpTo_24 : decode cX6_wordUpTo 24 = .ok (.if_icmp .eq 12, 3) := by decide +kernel
theorem dX6_wordUpTo_27 : decode cX6_wordUpTo 27 = .ok (.aload_n 0, 1) := by decide +kernel
theorem dX6_wordUpTo_28 : decode cX6_wordUpTo 28 = .ok (.invokevirtual 35, 3) := by decide +kernel
theorem dX6_wordUpTo_31 : decode cX6_wordUpTo 31 = .ok (.bipush 114, 2) := by decide +kernel
theorem dX6_wordUpTo_33 : decode cX6_wordUpTo 33 = .ok (.if_icmp .ne 50, 3) := by decide +kernel
theorem dX6_wordUpTo_36 : decode cX6_wordUpTo 36 = .ok (.aload_n 0, 1) := by decide +kernel
theorem dX6_wordUpTo_37 : decode cX6_wordUpTo 37 = .ok (.invokevirtual 35, 3) := by decide +kernel
theorem dX6_wordUpTo_40 : decode cX6_wordUpTo 40 = .ok (.bipush 108, 2) := by decide +kernel
theorem dX6_wordUpTo_42 : decode cX6_wordUpTo 42 = .ok (.if_icmp .ne 18, 3) := by decide +kernel
theorem dX6_wordUpTo_45 : decode cX6_wordUpTo 45 = .ok (.aload_n 0, 1) := by decide +kernel
theorem dX6_wordUpTo_46 : decode cX6_wordUpTo 46 = .ok (.dup, 1) := by decide +kernel
theorem dX6_wordUpTo_47 : decode cX6_wordUpTo 47 = .ok (.getfield 85, 3) := by decide +kernel
theorem dX6_wordUpTo_50 : decode cX6_wordUpTo 50 = .ok (.lconst 1, 1) := by decide +kernel
theorem dX6_wordUpTo_51 : decode cX6_wordUpTo 51 = .ok (.aload_n 0, 1) := by decide +kernel
theorem dX6_wordUpTo_52 : decode cX6_wordUpTo 52 = .ok (.getfield 82, 3) := by decide +kernel
theorem dX6_wordUpTo_55 : decode cX6_wordUpTo 55 = .ok (.lshl, 1) := by decide +kernel
theorem dX6_wordUpTo_56 : decode cX6_wordUpTo 56 = .ok (.lor, 1) := by decide +kernel
theorem dX6_wordUpTo_57 : decode cX6_wordUpTo 57 = .ok (.putfield 85, 3) := by decide +kernel
theorem dX6_wordUpTo_60 : decode cX6_wordUpTo 60 = .ok (.aload_n 0, 1) := by decide +kernel
theorem dX6_wordUpTo_61 : decode cX6_wordUpTo 61 = .ok (.dup, 1) := by decide +kernel
theorem dX6_wordUpTo_62 : decode cX6_wordUpTo 62 = .ok (.getfield 82, 3) := by decide +kernel
theorem dX6_wordUpTo_65 : decode cX6_wordUpTo 65 = .ok (.iconst 1, 1) := by decide +kernel
theorem dX6_wordUpTo_66 : decode cX6_wordUpTo 66 = .ok (.iadd, 1) := by decide +kernel
theorem dX6_wordUpTo_67 : decode cX6_wordUpTo 67 = .ok (.putfield 82, 3) := by decide +kernel
theorem dX6_wordUpTo_70 : decode cX6_wordUpTo 70 = .ok (.aload_n 0, 1) := by decide +kernel
theorem dX6_wordUpTo_71 : decode cX6_wordUpTo 71 = .ok (.dup, 1) := by decide +kernel
theorem dX6_wordUpTo_72 : decode cX6_wordUpTo 72 = .ok (.getfield 28, 3) := by decide +kernel
theorem dX6_wordUpTo_75 : decode cX6_wordUpTo 75 = .ok (.iconst 1, 1) := by decide +kernel
theorem dX6_wordUpTo_76 : decode cX6_wordUpTo 76 = .ok (.iadd, 1) := by decide +kernel
theorem dX6_wordUpTo_77 : decode cX6_wordUpTo 77 = .ok (.putfield 28, 3) := by decide +kernel
theorem dX6_wordUpTo_80 : decode cX6_wordUpTo 80 = .ok (.goto (-70), 3) := by decide +kernel
theorem dX6_wordUpTo_83 : decode cX6_wordUpTo 83 = .ok (.aload_n 0, 1) := by decide +kernel
theorem dX6_wordUpTo_84 : decode cX6_wordUpTo 84 = .ok (.getfield 82, 3) := by decide +kernel
theorem dX6_wordUpTo_87 : decode cX6_wordUpTo 87 = .ok (.ifCond .gt 14, 3) := by decide +kernel
theorem dX6_wordUpTo_90 : decode cX6_wordUpTo 90 = .ok (.aload_n 0, 1) := by decide +kernel
theorem dX6_wordUpTo_91 : decode cX6_wordUpTo 91 = .ok (.aload_n 0, 1) := by decide +kernel
theorem dX6_wordUpTo_92 : decode cX6_wordUpTo 92 = .ok (.getfield 28, 3) := by decide +kernel
theorem dX6_wordUpTo_95 : decode cX6_wordUpTo 95 = .ok (.invokevirtual 49, 3) := by decide +kernel
theorem dX6_wordUpTo_98 : decode cX6_wordUpTo 98 = .ok (.ifCond .eq 7, 3) := by decide +kernel
theorem dX6_wordUpTo_101 : decode cX6_wordUpTo 101 = .ok (.iconst 1, 1) := by decide +kernel
theorem dX6_wordUpTo_102 : decode cX6_wordUpTo 102 = .ok (.goto 4, 3) := by decide +kernel
theorem dX6_wordUpTo_105 : decode cX6_wordUpTo 105 = .ok (.iconst 0, 1) := by decide +kernel
theorem dX6_wordUpTo_106 : decode cX6_wordUpTo 106 = .ok (.ireturn, 1) := by decide +kernel
theorem dX6_turnItem_0 : decode cX6_turnItem 0 = .ok (.aload_n 0, 1) := by decide +kernel
theorem dX6_turnItem_1 : decode cX6_turnItem 1 = .ok (.ldc 93, 2) := by decide +kernel
theorem dX6_turnItem_3 : decode cX6_turnItem 3 = .ok (.invokevirtual 60, 3) := by decide +kernel
theorem dX6_turnItem_6 : decode cX6_turnItem 6 = .ok (.ifCond .eq 10, 3) := by decide +kernel
theorem dX6_turnItem_9 : decode cX6_turnItem 9 = .ok (.aload_n 0, 1) := by decide +kernel
theorem dX6_turnItem_10 : decode cX6_turnItem 10 = .ok (.invokevirtual 95, 3) := by decide +kernel
theorem dX6_turnItem_13 : decode cX6_turnItem 13 = .ok (.ifCond .ne 5, 3) := by decide +kernel
theorem dX6_turnItem_16 : decode cX6_turnItem 16 = .ok (.iconst 0, 1) := by decide +kernel
theorem dX6_turnItem_17 : decode cX6_turnItem 17 = .ok (.ireturn, 1) := by decide +kernel
theorem dX6_turnItem_18 : decode cX6_turnItem 18 = .ok (.aload_n 0, 1) := by decide +kernel
theorem dX6_turnItem_19 : decode cX6_turnItem 19 = .ok (.getfield 71, 3) := by decide +kernel
theorem dX6_turnItem_22 : decode cX6_turnItem 22 = .ok (.istore_n 1, 1) := by decide +kernel
theorem dX6_turnItem_23 : decode cX6_turnItem 23 = .ok (.aload_n 0, 1) := by decide +kernel
theorem dX6_turnItem_24 : decode cX6_turnItem 24 = .ok (.getfield 11, 3) := by decide +kernel
theorem dX6_turnItem_27 : decode cX6_turnItem 27 = .ok (.iload_n 1, 1) := by decide +kernel
theorem dX6_turnItem_28 : decode cX6_turnItem 28 = .ok (.aaload, 1) := by decide +kernel
theorem dX6_turnItem_29 : decode cX6_turnItem 29 = .ok (.astore_n 2, 1) := by decide +kernel
theorem dX6_turnItem_30 : decode cX6_turnItem 30 = .ok (.aload_n 0, 1) := by decide +kernel
theorem dX6_turnItem_31 : decode cX6_turnItem 31 = .ok (.ldc 66, 2) := by decide +kernel
theorem dX6_turnItem_33 : decode cX6_turnItem 33 = .ok (.invokevirtual 60, 3) := by decide +kernel
theorem dX6_turnItem_36 : decode cX6_turnItem 36 = .ok (.ifCond .eq 16, 3) := by decide +kernel
theorem dX6_turnItem_39 : decode cX6_turnItem 39 = .ok (.aload_n 0, 1) := by decide +kernel
theorem dX6_turnItem_40 : decode cX6_turnItem 40 = .ok (.aload_n 2, 1) := by decide +kernel
theorem dX6_turnItem_41 : decode cX6_turnItem 41 = .ok (.getfield 98, 3) := by decide +kernel
theorem dX6_turnItem_44 : decode cX6_turnItem 44 = .ok (.iconst 1, 1) := by decide +kernel
theorem dX6_turnItem_45 : decode cX6_turnItem 45 = .ok (.isub, 1) := by decide +kernel
theorem dX6_turnItem_46 : decode cX6_turnItem 46 = .ok (.invokevirtual 68, 3) := by decide +kernel
theorem dX6_turnItem_49 : decode cX6_turnItem 49 = .ok (.ifCond .ne 5, 3) := by decide +kernel
theorem dX6_turnItem_52 : decode cX6_turnItem 52 = .ok (.iconst 0, 1) := by decide +kernel
theorem dX6_turnItem_53 : decode cX6_turnItem 53 = .ok (.ireturn, 1) := by decide +kernel
theorem dX6_turnItem_54 : decode cX6_turnItem 54 = .ok (.aload_n 0, 1) := by decide +kernel
theorem dX6_turnItem_55 : decode cX6_turnItem 55 = .ok (.getfield 11, 3) := by decide +kernel
theorem dX6_turnItem_58 : decode cX6_turnItem 58 = .ok (.iload_n 1, 1) := by decide +kernel
theorem dX6_turnItem_59 : decode cX6_turnItem 59 = .ok (.aload_n 2, 1) := by decide +kernel
theorem dX6_turnItem_60 : decode cX6_turnItem 60 = .ok (.getfield 99, 3) := by decide +kernel
theorem dX6_turnItem_63 : decode cX6_turnItem 63 = .ok (.iload_n 1, 1) := by decide +kernel
theorem dX6_turnItem_64 : decode cX6_turnItem 64 = .ok (.aload_n 2, 1) := by decide +kernel
theorem dX6_turnItem_65 : decode cX6_turnItem 65 = .ok (.getfield 102, 3) := by decide +kernel
theorem dX6_turnItem_68 : decode cX6_turnItem 68 = .ok (.aload_n 2, 1) := by decide +kernel
theorem dX6_turnItem_69 : decode cX6_turnItem 69 = .ok (.getfield 98, 3) := by decide +kernel
theorem dX6_turnItem_72 : decode cX6_turnItem 72 = .ok (.aload_n 2, 1) := by decide +kernel
theorem dX6_turnItem_73 : decode cX6_turnItem 73 = .ok (.getfield 105, 3) := by decide +kernel
theorem dX6_turnItem_76 : decode cX6_turnItem 76 = .ok (.lconst 1, 1) := by decide +kernel
theorem dX6_turnItem_77 : decode cX6_turnItem 77 = .ok (.aload_n 0, 1) := by decide +kernel
theorem dX6_turnItem_78 : decode cX6_turnItem 78 = .ok (.getfield 71, 3) := by decide +kernel
theorem dX6_turnItem_81 : decode cX6_turnItem 81 = .ok (.lshl, 1) := by decide +kernel
theorem dX6_turnItem_82 : decode cX6_turnItem 82 = .ok (.lxor, 1) := by decide +kernel
theorem dX6_turnItem_83 : decode cX6_turnItem 83 = .ok (.invokestatic 89, 3) := by decide +kernel
theorem dX6_turnItem_86 : decode cX6_turnItem 86 = .ok (.aastore, 1) := by decide +kernel
theorem dX6_turnItem_87 : decode cX6_turnItem 87 = .ok (.iconst 1, 1) := by decide +kernel
theorem dX6_turnItem_88 : decode cX6_turnItem 88 = .ok (.ireturn, 1) := by decide +kernel
theorem dX6_lessItem_0 : decode cX6_lessItem 0 = .ok (.aload_n 0, 1) := by decide +kernel
theorem dX6_lessItem_1 : decode cX6_lessItem 1 = .ok (.ldc 106, 2) := by decide +kernel
theorem dX6_lessItem_3 : decode cX6_lessItem 3 = .ok (.invokevirtual 60, 3) := by decide +kernel
theorem dX6_lessItem_6 : decode cX6_lessItem 6 = .ok (.ifCond .eq 10, 3) := by decide +kernel
theorem dX6_lessItem_9 : decode cX6_lessItem 9 = .ok (.aload_n 0, 1) := by decide +kernel
theorem dX6_lessItem_10 : decode cX6_lessItem 10 = .ok (.invokevirtual 95, 3) := by decide +kernel
theorem dX6_lessItem_13 : decode cX6_lessItem 13 = .ok (.ifCond .ne 5, 3) := by decide +kernel
theorem dX6_lessItem_16 : decode cX6_lessItem 16 = .ok (.iconst 0, 1) := by decide +kernel
theorem dX6_lessItem_17 : decode cX6_lessItem 17 = .ok (.ireturn, 1) := by decide +kernel
theorem dX6_lessItem_18 : decode cX6_lessItem 18 = .ok (.aload_n 0, 1) := by decide +kernel
theorem dX6_lessItem_19 : decode cX6_lessItem 19 = .ok (.getfield 11, 3) := by decide +kernel
theorem dX6_lessItem_22 : decode cX6_lessItem 22 = .ok (.aload_n 0, 1) := by decide +kernel
theorem dX6_lessItem_23 : decode cX6_lessItem 23 = .ok (.getfield 71, 3) := by decide +kernel
theorem dX6_lessItem_26 : decode cX6_lessItem 26 = .ok (.aaload, 1) := by decide +kernel
theorem dX6_lessItem_27 : decode cX6_lessItem 27 = .ok (.astore_n 1, 1) := by decide +kernel
theorem dX6_lessItem_28 : decode cX6_lessItem 28 = .ok (.aload_n 1, 1) := by decide +kernel
theorem dX6_lessItem_29 : decode cX6_lessItem 29 = .ok (.getfield 98, 3) := by decide +kernel
theorem dX6_lessItem_32 : decode cX6_lessItem 32 = .ok (.iconst 2, 1) := by decide +kernel
theorem dX6_lessItem_33 : decode cX6_lessItem 33 = .ok (.if_icmp .ge 12, 3) := by decide +kernel
theorem dX6_lessItem_36 : decode cX6_lessItem 36 = .ok (.aload_n 0, 1) := by decide +kernel
theorem dX6_lessItem_37 : decode cX6_lessItem 37 = .ok (.aload_n 0, 1) := by decide +kernel
theorem dX6_lessItem_38 : decode cX6_lessItem 38 = .ok (.getfield 108, 3) := by decide +kernel
theorem dX6_lessItem_41 : decode cX6_lessItem 41 = .ok (.invokevirtual 49, 3) := by decide +kernel
theorem dX6_lessItem_44 : decode cX6_lessItem 44 = .ok (.ireturn, 1) := by decide +kernel
theorem dX6_lessItem_45 : decode cX6_lessItem 45 = .ok (.aload_n 1, 1) := by decide +kernel
theorem dX6_lessItem_46 : decode cX6_lessItem 46 = .ok (.getfield 98, 3) := by decide +kernel
theorem dX6_lessItem_49 : decode cX6_lessItem 49 = .ok (.iconst 1, 1) := by decide +kernel
theorem dX6_lessItem_50 : decode cX6_lessItem 50 = .ok (.isub, 1) := by decide +kernel
theorem dX6_lessItem_51 : decode cX6_lessItem 51 = .ok (.istore_n 2, 1) := by decide +kernel
theorem dX6_lessItem_52 : decode cX6_lessItem 52 = .ok (.aload_n 0, 1) := by decide +kernel
theorem dX6_lessItem_53 : decode cX6_lessItem 53 = .ok (.getfield 11, 3) := by decide +kernel
theorem dX6_lessItem_56 : decode cX6_lessItem 56 = .ok (.aload_n 0, 1) := by decide +kernel
theorem dX6_lessItem_57 : decode cX6_lessItem 57 = .ok (.getfield 71, 3) := by decide +kernel
theorem dX6_lessItem_60 : decode cX6_lessItem 60 = .ok (.aload_n 1, 1) := by decide +kernel
theorem dX6_lessItem_61 : decode cX6_lessItem 61 = .ok (.getfield 99, 3) := by decide +kernel
theorem dX6_lessItem_64 : decode cX6_lessItem 64 = .ok (.aload_n 0, 1) := by decide +kernel
theorem dX6_lessItem_65 : decode cX6_lessItem 65 = .ok (.getfield 71, 3) := by decide +kernel
theorem dX6_lessItem_68 : decode cX6_lessItem 68 = .ok (.aload_n 1, 1) := by decide +kernel
theorem dX6_lessItem_69 : decode cX6_lessItem 69 = .ok (.getfield 102, 3) := by decide +kernel
theorem dX6_lessItem_72 : decode cX6_lessItem 72 = .ok (.iload_n 2, 1) := by decide +kernel
theorem dX6_lessItem_73 : decode cX6_lessItem 73 = .ok (.aload_n 1, 1) := by decide +kernel
theorem dX6_lessItem_74 : decode cX6_lessItem 74 = .ok (.getfield 105, 3) := by decide +kernel
theorem dX6_lessItem_77 : decode cX6_lessItem 77 = .ok (.lconst 1, 1) := by decide +kernel
theorem dX6_lessItem_78 : decode cX6_lessItem 78 = .ok (.iload_n 2, 1) := by decide +kernel
theorem dX6_lessItem_79 : decode cX6_lessItem 79 = .ok (.lshl, 1) := by decide +kernel
theorem dX6_lessItem_80 : decode cX6_lessItem 80 = .ok (.lconst 1, 1) := by decide +kernel
theorem dX6_lessItem_81 : decode cX6_lessItem 81 = .ok (.lsub, 1) := by decide +kernel
theorem dX6_lessItem_82 : decode cX6_lessItem 82 = .ok (.land, 1) := by decide +kernel
theorem dX6_lessItem_83 : decode cX6_lessItem 83 = .ok (.invokestatic 89, 3) := by decide +kernel
theorem dX6_lessItem_86 : decode cX6_lessItem 86 = .ok (.aastore, 1) := by decide +kernel
theorem dX6_lessItem_87 : decode cX6_lessItem 87 = .ok (.iconst 1, 1) := by decide +kernel
theorem dX6_lessItem_88 : decode cX6_lessItem 88 = .ok (.ireturn, 1) := by decide +kernel
theorem dX6_numberOfStrip_0 : decode cX6_numberOfStrip 0 = .ok (.aload_n 0, 1) := by decide +kernel
theorem dX6_numberOfStrip_1 : decode cX6_numberOfStrip 1 = .ok (.aload_n 0, 1) := by decide +kernel
theorem dX6_numberOfStrip_2 : decode cX6_numberOfStrip 2 = .ok (.getfield 21, 3) := by decide +kernel
theorem dX6_numberOfStrip_5 : decode cX6_numberOfStrip 5 = .ok (.iconst 1, 1) := by decide +kernel
theorem dX6_numberOfStrip_6 : decode cX6_numberOfStrip 6 = .ok (.isub, 1) := by decide +kernel
theorem dX6_numberOfStrip_7 : decode cX6_numberOfStrip 7 = .ok (.invokevirtual 68, 3) := by decide +kernel
theorem dX6_numberOfStrip_10 : decode cX6_numberOfStrip 10 = .ok (.ireturn, 1) := by decide +kernel
theorem dX6_numberUpTo_0 : decode cX6_numberUpTo 0 = .ok (.aload_n 0, 1) := by decide +kernel
theorem dX6_numberUpTo_1 : decode cX6_numberUpTo 1 = .ok (.aload_n 0, 1) := by decide +kernel
theorem dX6_numberUpTo_2 : decode cX6_numberUpTo 2 = .ok (.getfield 28, 3) := by decide +kernel
theorem dX6_numberUpTo_5 : decode cX6_numberUpTo 5 = .ok (.putfield 108, 3) := by decide +kernel
theorem dX6_numberUpTo_8 : decode cX6_numberUpTo 8 = .ok (.aload_n 0, 1) := by decide +kernel
theorem dX6_numberUpTo_9 : decode cX6_numberUpTo 9 = .ok (.iconst 0, 1) := by decide +kernel
theorem dX6_numberUpTo_10 : decode cX6_numberUpTo 10 = .ok (.putfield 71, 3) := by decide +kernel
theorem dX6_numberUpTo_13 : decode cX6_numberUpTo 13 = .ok (.iconst 0, 1) := by decide +kernel
theorem dX6_numberUpTo_14 : decode cX6_numberUpTo 14 = .ok (.istore_n 2, 1) := by decide +kernel
theorem dX6_numberUpTo_15 : decode cX6_numberUpTo 15 = .ok (.iload_n 2, 1) := by decide +kernel
theorem dX6_numberUpTo_16 : decode cX6_numberUpTo 16 = .ok (.bipush 6, 2) := by decide +kernel
theorem dX6_numberUpTo_18 : decode cX6_numberUpTo 18 = .ok (.if_icmp .ge 56, 3) := by decide +kernel
theorem dX6_numberUpTo_21 : decode cX6_numberUpTo 21 = .ok (.aload_n 0, 1) := by decide +kernel
theorem dX6_numberUpTo_22 : decode cX6_numberUpTo 22 = .ok (.invokevirtual 35, 3) := by decide +kernel
theorem dX6_numberUpTo_25 : decode cX6_numberUpTo 25 = .ok (.bipush 48, 2) := by decide +kernel
theorem dX6_numberUpTo_27 : decode cX6_numberUpTo 27 = .ok (.if_icmp .lt 47, 3) := by decide +kernel
theorem dX6_numberUpTo_30 : decode cX6_numberUpTo 30 = .ok (.aload_n 0, 1) := by decide +kernel
theorem dX6_numberUpTo_31 : decode cX6_numberUpTo 31 = .ok (.invokevirtual 35, 3) := by decide +kernel
theorem dX6_numberUpTo_34 : decode cX6_numberUpTo 34 = .ok (.bipush 57, 2) := by decide +kernel
theorem dX6_numberUpTo_36 : decode cX6_numberUpTo 36 = .ok (.if_icmp .gt 38, 3) := by decide +kernel
theorem dX6_numberUpTo_39 : decode cX6_numberUpTo 39 = .ok (.aload_n 0, 1) := by decide +kernel
theorem dX6_numberUpTo_40 : decode cX6_numberUpTo 40 = .ok (.bipush 10, 2) := by decide +kernel
theorem dX6_numberUpTo_42 : decode cX6_numberUpTo 42 = .ok (.aload_n 0, 1) := by decide +kernel
theorem dX6_numberUpTo_43 : decode cX6_numberUpTo 43 = .ok (.getfield 71, 3) := by decide +kernel
theorem dX6_numberUpTo_46 : decode cX6_numberUpTo 46 = .ok (.imul, 1) := by decide +kernel
theorem dX6_numberUpTo_47 : decode cX6_numberUpTo 47 = .ok (.aload_n 0, 1) := by decide +kernel
theorem dX6_numberUpTo_48 : decode cX6_numberUpTo 48 = .ok (.invokevirtual 35, 3) := by decide +kernel
theorem dX6_numberUpTo_51 : decode cX6_numberUpTo 51 = .ok (.iadd, 1) := by decide +kernel
theorem dX6_numberUpTo_52 : decode cX6_numberUpTo 52 = .ok (.bipush 48, 2) := by decide +kernel
theorem dX6_numberUpTo_54 : decode cX6_numberUpTo 54 = .ok (.isub, 1) := by decide +kernel
theorem dX6_numberUpTo_55 : decode cX6_numberUpTo 55 = .ok (.putfield 71, 3) := by decide +kernel
theorem dX6_numberUpTo_58 : decode cX6_numberUpTo 58 = .ok (.aload_n 0, 1) := by decide +kernel
theorem dX6_numberUpTo_59 : decode cX6_numberUpTo 59 = .ok (.dup, 1) := by decide +kernel
theorem dX6_numberUpTo_60 : decode cX6_numberUpTo 60 = .ok (.getfield 28, 3) := by decide +kernel
theorem dX6_numberUpTo_63 : decode cX6_numberUpTo 63 = .ok (.iconst 1, 1) := by decide +kernel
theorem dX6_numberUpTo_64 : decode cX6_numberUpTo 64 = .ok (.iadd, 1) := by decide +kernel
theorem dX6_numberUpTo_65 : decode cX6_numberUpTo 65 = .ok (.putfield 28, 3) := by decide +kernel
theorem dX6_numberUpTo_68 : decode cX6_numberUpTo 68 = .ok (.iinc 2 1, 3) := by decide +kernel
theorem dX6_numberUpTo_71 : decode cX6_numberUpTo 71 = .ok (.goto (-56), 3) := by decide +kernel
theorem dX6_numberUpTo_74 : decode cX6_numberUpTo 74 = .ok (.aload_n 0, 1) := by decide +kernel
theorem dX6_numberUpTo_75 : decode cX6_numberUpTo 75 = .ok (.getfield 28, 3) := by decide +kernel
theorem dX6_numberUpTo_78 : decode cX6_numberUpTo 78 = .ok (.aload_n 0, 1) := by decide +kernel
theorem dX6_numberUpTo_79 : decode cX6_numberUpTo 79 = .ok (.getfield 108, 3) := by decide +kernel
theorem dX6_numberUpTo_82 : decode cX6_numberUpTo 82 = .ok (.if_icmp .eq 11, 3) := by decide +kernel
theorem dX6_numberUpTo_85 : decode cX6_numberUpTo 85 = .ok (.aload_n 0, 1) := by decide +kernel
theorem dX6_numberUpTo_86 : decode cX6_numberUpTo 86 = .ok (.getfield 71, 3) := by decide +kernel
theorem dX6_numberUpTo_89 : decode cX6_numberUpTo 89 = .ok (.iload_n 1, 1) := by decide +kernel
theorem dX6_numberUpTo_90 : decode cX6_numberUpTo 90 = .ok (.if_icmp .le 12, 3) := by decide +kernel
theorem dX6_numberUpTo_93 : decode cX6_numberUpTo 93 = .ok (.aload_n 0, 1) := by decide +kernel
theorem dX6_numberUpTo_94 : decode cX6_numberUpTo 94 = .ok (.aload_n 0, 1) := by decide +kernel
theorem dX6_numberUpTo_95 : decode cX6_numberUpTo 95 = .ok (.getfield 108, 3) := by decide +kernel
theorem dX6_numberUpTo_98 : decode cX6_numberUpTo 98 = .ok (.invokevirtual 49, 3) := by decide +kernel
theorem dX6_numberUpTo_101 : decode cX6_numberUpTo 101 = .ok (.ireturn, 1) := by decide +kernel
theorem dX6_numberUpTo_102 : decode cX6_numberUpTo 102 = .ok (.iconst 1, 1) := by decide +kernel
theorem dX6_numberUpTo_103 : decode cX6_numberUpTo 103 = .ok (.ireturn, 1) := by decide +kernel
theorem dX6_letters_0 : decode cX6_letters 0 = .ok (.iconst 0, 1) := by decide +kernel
theorem dX6_letters_1 : decode cX6_letters 1 = .ok (.istore_n 2, 1) := by decide +kernel
theorem dX6_letters_2 : decode cX6_letters 2 = .ok (.iload_n 2, 1) := by decide +kernel
theorem dX6_letters_3 : decode cX6_letters 3 = .ok (.aload_n 1, 1) := by decide +kernel
theorem dX6_letters_4 : decode cX6_letters 4 = .ok (.invokevirtual 111, 3) := by decide +kernel
theorem dX6_letters_7 : decode cX6_letters 7 = .ok (.if_icmp .ge 40, 3) := by decide +kernel
theorem dX6_letters_10 : decode cX6_letters 10 = .ok (.aload_n 0, 1) := by decide +kernel
theorem dX6_letters_11 : decode cX6_letters 11 = .ok (.invokevirtual 35, 3) := by decide +kernel
theorem dX6_letters_14 : decode cX6_letters 14 = .ok (.aload_n 1, 1) := by decide +kernel
theorem dX6_letters_15 : decode cX6_letters 15 = .ok (.iload_n 2, 1) := by decide +kernel
theorem dX6_letters_16 : decode cX6_letters 16 = .ok (.invokevirtual 116, 3) := by decide +kernel
theorem dX6_letters_19 : decode cX6_letters 19 = .ok (.if_icmp .eq 12, 3) := by decide +kernel
theorem dX6_letters_22 : decode cX6_letters 22 = .ok (.aload_n 0, 1) := by decide +kernel
theorem dX6_letters_23 : decode cX6_letters 23 = .ok (.aload_n 0, 1) := by decide +kernel
theorem dX6_letters_24 : decode cX6_letters 24 = .ok (.getfield 28, 3) := by decide +kernel
theorem dX6_letters_27 : decode cX6_letters 27 = .ok (.invokevirtual 49, 3) := by decide +kernel
theorem dX6_letters_30 : decode cX6_letters 30 = .ok (.ireturn, 1) := by decide +kernel
theorem dX6_letters_31 : decode cX6_letters 31 = .ok (.aload_n 0, 1) := by decide +kernel
theorem dX6_letters_32 : decode cX6_letters 32 = .ok (.dup, 1) := by decide +kernel
theorem dX6_letters_33 : decode cX6_letters 33 = .ok (.getfield 28, 3) := by decide +kernel
theorem dX6_letters_36 : decode cX6_letters 36 = .ok (.iconst 1, 1) := by decide +kernel
theorem dX6_letters_37 : decode cX6_letters 37 = .ok (.iadd, 1) := by decide +kernel
theorem dX6_letters_38 : decode cX6_letters 38 = .ok (.putfield 28, 3) := by decide +kernel
theorem dX6_letters_41 : decode cX6_letters 41 = .ok (.iinc 2 1, 3) := by decide +kernel
theorem dX6_letters_44 : decode cX6_letters 44 = .ok (.goto (-42), 3) := by decide +kernel
theorem dX6_letters_47 : decode cX6_letters 47 = .ok (.iconst 1, 1) := by decide +kernel
theorem dX6_letters_48 : decode cX6_letters 48 = .ok (.ireturn, 1) := by decide +kernel
theorem dX6_here_0 : decode cX6_here 0 = .ok (.aload_n 0, 1) := by decide +kernel
theorem dX6_here_1 : decode cX6_here 1 = .ok (.getfield 31, 3) := by decide +kernel
theorem dX6_here_4 : decode cX6_here 4 = .ok (.ifnull 31, 3) := by decide +kernel
theorem dX6_here_7 : decode cX6_here 7 = .ok (.aload_n 0, 1) := by decide +kernel
theorem dX6_here_8 : decode cX6_here 8 = .ok (.getfield 31, 3) := by decide +kernel
theorem dX6_here_11 : decode cX6_here 11 = .ok (.aload_n 0, 1) := by decide +kernel
theorem dX6_here_12 : decode cX6_here 12 = .ok (.getfield 28, 3) := by decide +kernel
theorem dX6_here_15 : decode cX6_here 15 = .ok (.invokevirtual 120, 3) := by decide +kernel
theorem dX6_here_18 : decode cX6_here 18 = .ok (.ifCond .eq 17, 3) := by decide +kernel
theorem dX6_here_21 : decode cX6_here 21 = .ok (.aload_n 0, 1) := by decide +kernel
theorem dX6_here_22 : decode cX6_here 22 = .ok (.getfield 31, 3) := by decide +kernel
theorem dX6_here_25 : decode cX6_here 25 = .ok (.aload_n 0, 1) := by decide +kernel
theorem dX6_here_26 : decode cX6_here 26 = .ok (.getfield 28, 3) := by decide +kernel
theorem dX6_here_29 : decode cX6_here 29 = .ok (.invokevirtual 123, 3) := by decide +kernel
theorem dX6_here_32 : decode cX6_here 32 = .ok (.goto 4, 3) := by decide +kernel
theorem dX6_here_35 : decode cX6_here 35 = .ok (.iconst (-1), 1) := by decide +kernel
theorem dX6_here_36 : decode cX6_here 36 = .ok (.ireturn, 1) := by decide +kernel
theorem dX6_fail_0 : decode cX6_fail 0 = .ok (.aload_n 0, 1) := by decide +kernel
theorem dX6_fail_1 : decode cX6_fail 1 = .ok (.iload_n 1, 1) := by decide +kernel
theorem dX6_fail_2 : decode cX6_fail 2 = .ok (.putfield 25, 3) := by decide +kernel
theorem dX6_fail_5 : decode cX6_fail 5 = .ok (.iconst 0, 1) := by decide +kernel
theorem dX6_fail_6 : decode cX6_fail 6 = .ok (.ireturn, 1) := by decide +kernel
theorem dX7_init_0 : decode cX7_init 0 = .ok (.aload_n 0, 1) := by decide +kernel
theorem dX7_init_1 : decode cX7_init 1 = .ok (.iconst 1, 1) := by decide +kernel
theorem dX7_init_2 : decode cX7_init 2 = .ok (.iload_n 1, 1) := by decide +kernel
theorem dX7_init_3 : decode cX7_init 3 = .ok (.iload_n 2, 1) := by decide +kernel
theorem dX7_init_4 : decode cX7_init 4 = .ok (.iload_n 3, 1) := by decide +kernel
theorem dX7_init_5 : decode cX7_init 5 = .ok (.lload 4, 2) := by decide +kernel
theorem dX7_init_7 : decode cX7_init 7 = .ok (.invokespecial 3, 3) := by decide +kernel
theorem dX7_init_10 : decode cX7_init 10 = .ok (.return_, 1) := by decide +kernel
theorem dX7_creaseLetters_0 : decode cX7_creaseLetters 0 = .ok (.aload_n 0, 1) := by decide +kernel
theorem dX7_creaseLetters_1 : decode cX7_creaseLetters 1 = .ok (.getfield 9, 3) := by decide +kernel
theorem dX7_creaseLetters_4 : decode cX7_creaseLetters 4 = .ok (.iconst 2, 1) := by decide +kernel
theorem dX7_creaseLetters_5 : decode cX7_creaseLetters 5 = .ok (.irem, 1) := by decide +kernel
theorem dX7_creaseLetters_6 : decode cX7_creaseLetters 6 = .ok (.ifCond .ne 7, 3) := by decide +kernel
theorem dX7_creaseLetters_9 : decode cX7_creaseLetters 9 = .ok (.lconst 0, 1) := by decide +kernel
theorem dX7_creaseLetters_10 : decode cX7_creaseLetters 10 = .ok (.goto 6, 3) := by decide +kernel
theorem dX7_creaseLetters_13 : decode cX7_creaseLetters 13 = .ok (.ldc2_w 15, 3) := by decide +kernel
theorem dX7_creaseLetters_16 : decode cX7_creaseLetters 16 = .ok (.lreturn, 1) := by decide +kernel
theorem dX7_folds_0 : decode cX7_folds 0 = .ok (.aload_n 1, 1) := by decide +kernel
theorem dX7_folds_1 : decode cX7_folds 1 = .ok (.bipush 20, 2) := by decide +kernel
theorem dX7_folds_3 : decode cX7_folds 3 = .ok (.invokevirtual 17, 3) := by decide +kernel
theorem dX7_folds_6 : decode cX7_folds 6 = .ok (.pop, 1) := by decide +kernel
theorem dX7_folds_7 : decode cX7_folds 7 = .ok (.aload_n 0, 1) := by decide +kernel
theorem dX7_folds_8 : decode cX7_folds 8 = .ok (.aload_n 1, 1) := by decide +kernel
theorem dX7_folds_9 : decode cX7_folds 9 = .ok (.iload_n 2, 1) := by decide +kernel
theorem dX7_folds_10 : decode cX7_folds 10 = .ok (.invokespecial 23, 3) := by decide +kernel
theorem dX7_folds_13 : decode cX7_folds 13 = .ok (.aload_n 0, 1) := by decide +kernel
theorem dX7_folds_14 : decode cX7_folds 14 = .ok (.getfield 9, 3) := by decide +kernel
theorem dX7_folds_17 : decode cX7_folds 17 = .ok (.iadd, 1) := by decide +kernel
theorem dX7_folds_18 : decode cX7_folds 18 = .ok (.ireturn, 1) := by decide +kernel
theorem dX8_init_0 : decode cX8_init 0 = .ok (.aload_n 0, 1) := by decide +kernel
theorem dX8_init_1 : decode cX8_init 1 = .ok (.invokespecial 3, 3) := by decide +kernel
theorem dX8_init_4 : decode cX8_init 4 = .ok (.aload_n 0, 1) := by decide +kernel
theorem dX8_init_5 : decode cX8_init 5 = .ok (.iconst (-1), 1) := by decide +kernel
theorem dX8_init_6 : decode cX8_init 6 = .ok (.putfield 9, 3) := by decide +kernel
theorem dX8_init_9 : decode cX8_init 9 = .ok (.aload_n 0, 1) := by decide +kernel
theorem dX8_init_10 : decode cX8_init 10 = .ok (.sipush 160, 3) := by decide +kernel
theorem dX8_init_13 : decode cX8_init 13 = .ok (.newarray .long, 2) := by decide +kernel
theorem dX8_init_15 : decode cX8_init 15 = .ok (.putfield 15, 3) := by decide +kernel
theorem dX8_init_18 : decode cX8_init 18 = .ok (.return_, 1) := by decide +kernel
theorem dX8_hold_0 : decode cX8_hold 0 = .ok (.aload_n 0, 1) := by decide +kernel
theorem dX8_hold_1 : decode cX8_hold 1 = .ok (.iload_n 1, 1) := by decide +kernel
theorem dX8_hold_2 : decode cX8_hold 2 = .ok (.putfield 9, 3) := by decide +kernel
theorem dX8_hold_5 : decode cX8_hold 5 = .ok (.aload_n 0, 1) := by decide +kernel
theorem dX8_hold_6 : decode cX8_hold 6 = .ok (.iconst 0, 1) := by decide +kernel
theorem dX8_hold_7 : decode cX8_hold 7 = .ok (.putfield 19, 3) := by decide +kernel
theorem dX8_hold_10 : decode cX8_hold 10 = .ok (.return_, 1) := by decide +kernel
theorem dX8_holdNewRow_0 : decode cX8_holdNewRow 0 = .ok (.aload_n 0, 1) := by decide +kernel
theorem dX8_holdNewRow_1 : decode cX8_holdNewRow 1 = .ok (.bipush 100, 2) := by decide +kernel
theorem dX8_holdNewRow_3 : decode cX8_holdNewRow 3 = .ok (.iload_n 1, 1) := by decide +kernel
theorem dX8_holdNewRow_4 : decode cX8_holdNewRow 4 = .ok (.iadd, 1) := by decide +kernel
theorem dX8_holdNewRow_5 : decode cX8_holdNewRow 5 = .ok (.putfield 9, 3) := by decide +kernel
theorem dX8_holdNewRow_8 : decode cX8_holdNewRow 8 = .ok (.aload_n 0, 1) := by decide +kernel
theorem dX8_holdNewRow_9 : decode cX8_holdNewRow 9 = .ok (.iload_n 2, 1) := by decide +kernel
theorem dX8_holdNewRow_10 : decode cX8_holdNewRow 10 = .ok (.putfield 19, 3) := by decide +kernel
theorem dX8_holdNewRow_13 : decode cX8_holdNewRow 13 = .ok (.aload_n 0, 1) := by decide +kernel
theorem dX8_holdNewRow_14 : decode cX8_holdNewRow 14 = .ok (.getfield 15, 3) := by decide +kernel
theorem dX8_holdNewRow_17 : decode cX8_holdNewRow 17 = .ok (.lconst 0, 1) := by decide +kernel
theorem dX8_holdNewRow_18 : decode cX8_holdNewRow 18 = .ok (.invokestatic 22, 3) := by decide +kernel
theorem dX8_holdNewRow_21 : decode cX8_holdNewRow 21 = .ok (.return_, 1) := by decide +kernel
theorem dX8_holdsRow_0 : decode cX8_holdsRow 0 = .ok (.aload_n 0, 1) := by decide +kernel
theorem dX8_holdsRow_1 : decode cX8_holdsRow 1 = .ok (.getfield 9, 3) := by decide +kernel
theorem dX8_holdsRow_4 : decode cX8_holdsRow 4 = .ok (.bipush 100, 2) := by decide +kernel
theorem dX8_holdsRow_6 : decode cX8_holdsRow 6 = .ok (.if_icmp .lt 7, 3) := by decide +kernel
theorem dX8_holdsRow_9 : decode cX8_holdsRow 9 = .ok (.iconst 1, 1) := by decide +kernel
theorem dX8_holdsRow_10 : decode cX8_holdsRow 10 = .ok (.goto 4, 3) := by decide +kernel
theorem dX8_holdsRow_13 : decode cX8_holdsRow 13 = .ok (.iconst 0, 1) := by decide +kernel
theorem dX8_holdsRow_14 : decode cX8_holdsRow 14 = .ok (.ireturn, 1) := by decide +kernel
theorem dX8_holdsStrip_0 : decode cX8_holdsStrip 0 = .ok (.aload_n 0, 1) := by decide +kernel
theorem dX8_holdsStrip_1 : decode cX8_holdsStrip 1 = .ok (.getfield 9, 3) := by decide +kernel
theorem dX8_holdsStrip_4 : decode cX8_holdsStrip 4 = .ok (.iconst (-1), 1) := by decide +kernel
theorem dX8_holdsStrip_5 : decode cX8_holdsStrip 5 = .ok (.if_icmp .eq 16, 3) := by decide +kernel
theorem dX8_holdsStrip_8 : decode cX8_holdsStrip 8 = .ok (.aload_n 0, 1) := by decide +kernel
theorem dX8_holdsStrip_9 : decode cX8_holdsStrip 9 = .ok (.getfield 9, 3) := by decide +kernel
theorem dX8_holdsStrip_12 : decode cX8_holdsStrip 12 = .ok (.bipush 100, 2) := by decide +kernel
theorem dX8_holdsStrip_14 : decode cX8_holdsStrip 14 = .ok (.if_icmp .ge 7, 3) := by decide +kernel
theorem dX8_holdsStrip_17 : decode cX8_holdsStrip 17 = .ok (.iconst 1, 1) := by decide +kernel
theorem dX8_holdsStrip_18 : decode cX8_holdsStrip 18 = .ok (.goto 4, 3) := by decide +kernel
theorem dX8_holdsStrip_21 : decode cX8_holdsStrip 21 = .ok (.iconst 0, 1) := by decide +kernel
theorem dX8_holdsStrip_22 : decode cX8_holdsStrip 22 = .ok (.ireturn, 1) := by decide +kernel
theorem dX8_has_0 : decode cX8_has 0 = .ok (.iload_n 1, 1) := by decide +kernel
theorem dX8_has_1 : decode cX8_has 1 = .ok (.ifCond .lt 27, 3) := by decide +kernel
theorem dX8_has_4 : decode cX8_has 4 = .ok (.iload_n 1, 1) := by decide +kernel
theorem dX8_has_5 : decode cX8_has 5 = .ok (.aload_n 0, 1) := by decide +kernel
theorem dX8_has_6 : decode cX8_has 6 = .ok (.getfield 19, 3) := by decide +kernel
theorem dX8_has_9 : decode cX8_has 9 = .ok (.if_icmp .ge 19, 3) := by decide +kernel
theorem dX8_has_12 : decode cX8_has 12 = .ok (.aload_n 0, 1) := by decide +kernel
theorem dX8_has_13 : decode cX8_has 13 = .ok (.getfield 19, 3) := by decide +kernel
theorem dX8_has_16 : decode cX8_has 16 = .ok (.aload_n 0, 1) := by decide +kernel
theorem dX8_has_17 : decode cX8_has 17 = .ok (.getfield 15, 3) := by decide +kernel
theorem dX8_has_20 : decode cX8_has 20 = .ok (.arraylength, 1) := by decide +kernel
theorem dX8_has_21 : decode cX8_has 21 = .ok (.if_icmp .gt 7, 3) := by decide +kernel
theorem dX8_has_24 : decode cX8_has 24 = .ok (.iconst 1, 1) := by decide +kernel
theorem dX8_has_25 : decode cX8_has 25 = .ok (.goto 4, 3) := by decide +kernel
theorem dX8_has_28 : decode cX8_has 28 = .ok (.iconst 0, 1) := by decide +kernel
theorem dX8_has_29 : decode cX8_has 29 = .ok (.ireturn, 1) := by decide +kernel
theorem dX8_put_0 : decode cX8_put 0 = .ok (.aload_n 0, 1) := by decide +kernel
theorem dX8_put_1 : decode cX8_put 1 = .ok (.iload_n 1, 1) := by decide +kernel
theorem dX8_put_2 : decode cX8_put 2 = .ok (.invokevirtual 28, 3) := by decide +kernel
theorem dX8_put_5 : decode cX8_put 5 = .ok (.ifCond .eq 14, 3) := by decide +kernel
theorem dX8_put_8 : decode cX8_put 8 = .ok (.aload_n 0, 1) := by decide +kernel
theorem dX8_put_9 : decode cX8_put 9 = .ok (.getfield 15, 3) := by decide +kernel
theorem dX8_put_12 : decode cX8_put 12 = .ok (.iload_n 1, 1) := by decide +kernel
theorem dX8_put_13 : decode cX8_put 13 = .ok (.aload_n 0, 1) := by decide +kernel
theorem dX8_put_14 : decode cX8_put 14 = .ok (.lload_n 2, 1) := by decide +kernel
theorem dX8_put_15 : decode cX8_put 15 = .ok (.invokevirtual 32, 3) := by decide +kernel
theorem dX8_put_18 : decode cX8_put 18 = .ok (.lastore, 1) := by decide +kernel
theorem dX8_put_19 : decode cX8_put 19 = .ok (.return_, 1) := by decide +kernel
theorem dX8_cutToSort_0 : decode cX8_cutToSort 0 = .ok (.aload_n 0, 1) := by decide +kernel
theorem dX8_cutToSort_1 : decode cX8_cutToSort 1 = .ok (.getfield 9, 3) := by decide +kernel
theorem dX8_cutToSort_4 : decode cX8_cutToSort 4 = .ok (.bipush 100, 2) := by decide +kernel
theorem dX8_cutToSort_6 : decode cX8_cutToSort 6 = .ok (.isub, 1) := by decide +kernel
theorem dX8_cutToSort_7 : decode cX8_cutToSort 7 = .ok (.tableswitch 39 0 2 #[25, 30, 35], 25) := by decide +kernel
theorem dX8_cutToSort_32 : decode cX8_cutToSort 32 = .ok (.lload_n 1, 1) := by decide +kernel
theorem dX8_cutToSort_33 : decode cX8_cutToSort 33 = .ok (.l2i, 1) := by decide +kernel
theorem dX8_cutToSort_34 : decode cX8_cutToSort 34 = .ok (.i2b, 1) := by decide +kernel
theorem dX8_cutToSort_35 : decode cX8_cutToSort 35 = .ok (.i2l, 1) := by decide +kernel
theorem dX8_cutToSort_36 : decode cX8_cutToSort 36 = .ok (.lreturn, 1) := by decide +kernel
theorem dX8_cutToSort_37 : decode cX8_cutToSort 37 = .ok (.lload_n 1, 1) := by decide +kernel
theorem dX8_cutToSort_38 : decode cX8_cutToSort 38 = .ok (.l2i, 1) := by decide +kernel
theorem dX8_cutToSort_39 : decode cX8_cutToSort 39 = .ok (.i2s, 1) := by decide +kernel
theorem dX8_cutToSort_40 : decode cX8_cutToSort 40 = .ok (.i2l, 1) := by decide +kernel
theorem dX8_cutToSort_41 : decode cX8_cutToSort 41 = .ok (.lreturn, 1) := by decide +kernel
theorem dX8_cutToSort_42 : decode cX8_cutToSort 42 = .ok (.lload_n 1, 1) := by decide +kernel
theorem dX8_cutToSort_43 : decode cX8_cutToSort 43 = .ok (.l2i, 1) := by decide +kernel
theorem dX8_cutToSort_44 : decode cX8_cutToSort 44 = .ok (.i2l, 1) := by decide +kernel
theorem dX8_cutToSort_45 : decode cX8_cutToSort 45 = .ok (.lreturn, 1) := by decide +kernel
theorem dX8_cutToSort_46 : decode cX8_cutToSort 46 = .ok (.lload_n 1, 1) := by decide +kernel
theorem dX8_cutToSort_47 : decode cX8_cutToSort 47 = .ok (.lreturn, 1) := by decide +kernel
theorem dX8_asInt_0 : decode cX8_asInt 0 = .ok (.aload_n 0, 1) := by decide +kernel
theorem dX8_asInt_1 : decode cX8_asInt 1 = .ok (.iload_n 1, 1) := by decide +kernel
theorem dX8_asInt_2 : decode cX8_asInt 2 = .ok (.invokevirtual 28, 3) := by decide +kernel
theorem dX8_asInt_5 : decode cX8_asInt 5 = .ok (.ifCond .eq 13, 3) := by decide +kernel
theorem dX8_asInt_8 : decode cX8_asInt 8 = .ok (.aload_n 0, 1) := by decide +kernel
theorem dX8_asInt_9 : decode cX8_asInt 9 = .ok (.getfield 15, 3) := by decide +kernel
theorem dX8_asInt_12 : decode cX8_asInt 12 = .ok (.iload_n 1, 1) := by decide +kernel
theorem dX8_asInt_13 : decode cX8_asInt 13 = .ok (.laload, 1) := by decide +kernel
theorem dX8_asInt_14 : decode cX8_asInt 14 = .ok (.l2i, 1) := by decide +kernel
theorem dX8_asInt_15 : decode cX8_asInt 15 = .ok (.goto 4, 3) := by decide +kernel
theorem dX8_asInt_18 : decode cX8_asInt 18 = .ok (.iconst 0, 1) := by decide +kernel
theorem dX8_asInt_19 : decode cX8_asInt 19 = .ok (.ireturn, 1) := by decide +kernel
theorem dX8_tells_0 : decode cX8_tells 0 = .ok (.aload_n 0, 1) := by decide +kernel
theorem dX8_tells_1 : decode cX8_tells 1 = .ok (.iload_n 1, 1) := by decide +kernel
theorem dX8_tells_2 : decode cX8_tells 2 = .ok (.invokevirtual 36, 3) := by decide +kernel
theorem dX8_tells_5 : decode cX8_tells 5 = .ok (.istore_n 3, 1) := by decide +kernel
theorem dX8_tells_6 : decode cX8_tells 6 = .ok (.iload_n 3, 1) := by decide +kernel
theorem dX8_tells_7 : decode cX8_tells 7 = .ok (.iload_n 2, 1) := by decide +kernel
theorem dX8_tells_8 : decode cX8_tells 8 = .ok (.if_icmp .eq 12, 3) := by decide +kernel
theorem dX8_tells_11 : decode cX8_tells 11 = .ok (.iload_n 3, 1) := by decide +kernel
theorem dX8_tells_12 : decode cX8_tells 12 = .ok (.ifCond .eq 12, 3) := by decide +kernel
theorem dX8_tells_15 : decode cX8_tells 15 = .ok (.iload_n 3, 1) := by decide +kernel
theorem dX8_tells_16 : decode cX8_tells 16 = .ok (.iconst 1, 1) := by decide +kernel
theorem dX8_tells_17 : decode cX8_tells 17 = .ok (.if_icmp .eq 7, 3) := by decide +kernel
theorem dX8_tells_20 : decode cX8_tells 20 = .ok (.iconst 1, 1) := by decide +kernel
theorem dX8_tells_21 : decode cX8_tells 21 = .ok (.goto 4, 3) := by decide +kernel
theorem dX8_tells_24 : decode cX8_tells 24 = .ok (.iconst 0, 1) := by decide +kernel
theorem dX8_tells_25 : decode cX8_tells 25 = .ok (.ireturn, 1) := by decide +kernel
theorem dX9_init_0 : decode cX9_init 0 = .ok (.aload_n 0, 1) := by decide +kernel
theorem dX9_init_1 : decode cX9_init 1 = .ok (.invokespecial 3, 3) := by decide +kernel
theorem dX9_init_4 : decode cX9_init 4 = .ok (.aload_n 0, 1) := by decide +kernel
theorem dX9_init_5 : decode cX9_init 5 = .ok (.iload_n 1, 1) := by decide +kernel
theorem dX9_init_6 : decode cX9_init 6 = .ok (.putfield 9, 3) := by decide +kernel
theorem dX9_init_9 : decode cX9_init 9 = .ok (.aload_n 0, 1) := by decide +kernel
theorem dX9_init_10 : decode cX9_init 10 = .ok (.iload_n 2, 1) := by decide +kernel
theorem dX9_init_11 : decode cX9_init 11 = .ok (.putfield 15, 3) := by decide +kernel
theorem dX9_init_14 : decode cX9_init 14 = .ok (.aload_n 0, 1) := by decide +kernel
theorem dX9_init_15 : decode cX9_init 15 = .ok (.iload_n 3, 1) := by decide +kernel
theorem dX9_init_16 : decode cX9_init 16 = .ok (.putfield 18, 3) := by decide +kernel
theorem dX9_init_19 : decode cX9_init 19 = .ok (.aload_n 0, 1) := by decide +kernel
theorem dX9_init_20 : decode cX9_init 20 = .ok (.iload 4, 2) := by decide +kernel
theorem dX9_init_22 : decode cX9_init 22 = .ok (.putfield 21, 3) := by decide +kernel
theorem dX9_init_25 : decode cX9_init 25 = .ok (.aload_n 0, 1) := by decide +kernel
theorem dX9_init_26 : decode cX9_init 26 = .ok (.lload 5, 2) := by decide +kernel
theorem dX9_init_28 : decode cX9_init 28 = .ok (.putfield 24, 3) := by decide +kernel
theorem dX9_init_31 : decode cX9_init 31 = .ok (.return_, 1) := by decide +kernel
theorem dX9_made_0 : decode cX9_made 0 = .ok (.iload_n 0, 1) := by decide +kernel
theorem dX9_made_1 : decode cX9_made 1 = .ok (.tableswitch 119 1 6 #[39, 52, 65, 79, 92, 106], 39) := by decide +kernel
theorem dX9_made_40 : decode cX9_made 40 = .ok (.new 28, 3) := by decide +kernel
theorem dX9_made_43 : decode cX9_made 43 = .ok (.dup, 1) := by decide +kernel
theorem dX9_made_44 : decode cX9_made 44 = .ok (.iload_n 1, 1) := by decide +kernel
theorem dX9_made_45 : decode cX9_made 45 = .ok (.iload_n 2, 1) := by decide +kernel
theorem dX9_made_46 : decode cX9_made 46 = .ok (.iload_n 3, 1) := by decide +kernel
theorem dX9_made_47 : decode cX9_made 47 = .ok (.lload 4, 2) := by decide +kernel
theorem dX9_made_49 : decode cX9_made 49 = .ok (.invokespecial 30, 3) := by decide +kernel
theorem dX9_made_52 : decode cX9_made 52 = .ok (.areturn, 1) := by decide +kernel
theorem dX9_made_53 : decode cX9_made 53 = .ok (.new 33, 3) := by decide +kernel
theorem dX9_made_56 : decode cX9_made 56 = .ok (.dup, 1) := by decide +kernel
theorem dX9_made_57 : decode cX9_made 57 = .ok (.iload_n 1, 1) := by decide +kernel
theorem dX9_made_58 : decode cX9_made 58 = .ok (.iload_n 2, 1) := by decide +kernel
theorem dX9_made_59 : decode cX9_made 59 = .ok (.iload_n 3, 1) := by decide +kernel
theorem dX9_made_60 : decode cX9_made 60 = .ok (.lload 4, 2) := by decide +kernel
theorem dX9_made_62 : decode cX9_made 62 = .ok (.invokespecial 35, 3) := by decide +kernel
theorem dX9_made_65 : decode cX9_made 65 = .ok (.areturn, 1) := by decide +kernel
theorem dX9_made_66 : decode cX9_made 66 = .ok (.new 36, 3) := by decide +kernel
theorem dX9_made_69 : decode cX9_made 69 = .ok (.dup, 1) := by decide +kernel
theorem dX9_made_70 : decode cX9_made 70 = .ok (.iconst 3, 1) := by decide +kernel
theorem dX9_made_71 : decode cX9_made 71 = .ok (.iload_n 1, 1) := by decide +kernel
theorem dX9_made_72 : decode cX9_made 72 = .ok (.iload_n 2, 1) := by decide +kernel
theorem dX9_made_73 : decode cX9_made 73 = .ok (.iload_n 3, 1) := by decide +kernel
theorem dX9_made_74 : decode cX9_made 74 = .ok (.lload 4, 2) := by decide +kernel
theorem dX9_made_76 : decode cX9_made 76 = .ok (.invokespecial 38, 3) := by decide +kernel
theorem dX9_made_79 : decode cX9_made 79 = .ok (.areturn, 1) := by decide +kernel
theorem dX9_made_80 : decode cX9_made 80 = .ok (.new 41, 3) := by decide +kernel
theorem dX9_made_83 : decode cX9_made 83 = .ok (.dup, 1) := by decide +kernel
theorem dX9_made_84 : decode cX9_made 84 = .ok (.iload_n 1, 1) := by decide +kernel
theorem dX9_made_85 : decode cX9_made 85 = .ok (.iload_n 2, 1) := by decide +kernel
theorem dX9_made_86 : decode cX9_made 86 = .ok (.iload_n 3, 1) := by decide +kernel
theorem dX9_made_87 : decode cX9_made 87 = .ok (.lload 4, 2) := by decide +kernel
theorem dX9_made_89 : decode cX9_made 89 = .ok (.invokespecial 43, 3) := by decide +kernel
theorem dX9_made_92 : decode cX9_made 92 = .ok (.areturn, 1) := by decide +kernel
theorem dX9_made_93 : decode cX9_made 93 = .ok (.new 44, 3) := by decide +kernel
theorem dX9_made_96 : decode cX9_made 96 = .ok (.dup, 1) := by decide +kernel
theorem dX9_made_97 : decode cX9_made 97 = .ok (.iconst 5, 1) := by decide +kernel
theorem dX9_made_98 : decode cX9_made 98 = .ok (.iload_n 1, 1) := by decide +kernel
theorem dX9_made_99 : decode cX9_made 99 = .ok (.iload_n 2, 1) := by decide +kernel
theorem dX9_made_100 : decode cX9_made 100 = .ok (.iload_n 3, 1) := by decide +kernel
theorem dX9_made_101 : decode cX9_made 101 = .ok (.lload 4, 2) := by decide +kernel
theorem dX9_made_103 : decode cX9_made 103 = .ok (.invokespecial 46, 3) := by decide +kernel
theorem dX9_made_106 : decode cX9_made 106 = .ok (.areturn, 1) := by decide +kernel
theorem dX9_made_107 : decode cX9_made 107 = .ok (.new 47, 3) := by decide +kernel
theorem dX9_made_110 : decode cX9_made 110 = .ok (.dup, 1) := by decide +kernel
theorem dX9_made_111 : decode cX9_made 111 = .ok (.iload_n 1, 1) := by decide +kernel
theorem dX9_made_112 : decode cX9_made 112 = .ok (.iload_n 2, 1) := by decide +kernel
theorem dX9_made_113 : decode cX9_made 113 = .ok (.iload_n 3, 1) := by decide +kernel
theorem dX9_made_114 : decode cX9_made 114 = .ok (.lload 4, 2) := by decide +kernel
theorem dX9_made_116 : decode cX9_made 116 = .ok (.invokespecial 49, 3) := by decide +kernel
theorem dX9_made_119 : decode cX9_made 119 = .ok (.areturn, 1) := by decide +kernel
theorem dX9_made_120 : decode cX9_made 120 = .ok (.new 10, 3) := by decide +kernel
theorem dX9_made_123 : decode cX9_made 123 = .ok (.dup, 1) := by decide +kernel
theorem dX9_made_124 : decode cX9_made 124 = .ok (.iconst 0, 1) := by decide +kernel
theorem dX9_made_125 : decode cX9_made 125 = .ok (.iload_n 1, 1) := by decide +kernel
theorem dX9_made_126 : decode cX9_made 126 = .ok (.iload_n 2, 1) := by decide +kernel
theorem dX9_made_127 : decode cX9_made 127 = .ok (.iload_n 3, 1) := by decide +kernel
theorem dX9_made_128 : decode cX9_made 128 = .ok (.lload 4, 2) := by decide +kernel
theorem dX9_made_130 : decode cX9_made 130 = .ok (.invokespecial 50, 3) := by decide +kernel
theorem dX9_made_133 : decode cX9_made 133 = .ok (.areturn, 1) := by decide +kernel
theorem dX9_letter_0 : decode cX9_letter 0 = .ok (.aload_n 0, 1) := by decide +kernel
theorem dX9_letter_1 : decode cX9_letter 1 = .ok (.getfield 24, 3) := by decide +kernel
theorem dX9_letter_4 : decode cX9_letter 4 = .ok (.iload_n 1, 1) := by decide +kernel
theorem dX9_letter_5 : decode cX9_letter 5 = .ok (.lshr, 1) := by decide +kernel
theorem dX9_letter_6 : decode cX9_letter 6 = .ok (.lconst 1, 1) := by decide +kernel
theorem dX9_letter_7 : decode cX9_letter 7 = .ok (.land, 1) := by decide +kernel
theorem dX9_letter_8 : decode cX9_letter 8 = .ok (.l2i, 1) := by decide +kernel
theorem dX9_letter_9 : decode cX9_letter 9 = .ok (.ireturn, 1) := by decide +kernel
theorem dX9_creaseLetters_0 : decode cX9_creaseLetters 0 = .ok (.aload_n 0, 1) := by decide +kernel
theorem dX9_creaseLetters_1 : decode cX9_creaseLetters 1 = .ok (.getfield 24, 3) := by decide +kernel
theorem dX9_creaseLetters_4 : decode cX9_creaseLetters 4 = .ok (.lreturn, 1) := by decide +kernel
theorem dX9_toward_0 : decode cX9_toward 0 = .ok (.aload_n 0, 1) := by decide +kernel
theorem dX9_toward_1 : decode cX9_toward 1 = .ok (.invokevirtual 51, 3) := by decide +kernel
theorem dX9_toward_4 : decode cX9_toward 4 = .ok (.iload_n 1, 1) := by decide +kernel
theorem dX9_toward_5 : decode cX9_toward 5 = .ok (.lshr, 1) := by decide +kernel
theorem dX9_toward_6 : decode cX9_toward 6 = .ok (.lconst 1, 1) := by decide +kernel
theorem dX9_toward_7 : decode cX9_toward 7 = .ok (.land, 1) := by decide +kernel
theorem dX9_toward_8 : decode cX9_toward 8 = .ok (.lconst 1, 1) := by decide +kernel
theorem dX9_toward_9 : decode cX9_toward 9 = .ok (.lcmp, 1) := by decide +kernel
theorem dX9_toward_10 : decode cX9_toward 10 = .ok (.ifCond .ne 7, 3) := by decide +kernel
theorem dX9_toward_13 : decode cX9_toward 13 = .ok (.iconst 1, 1) := by decide +kernel
theorem dX9_toward_14 : decode cX9_toward 14 = .ok (.goto 4, 3) := by decide +kernel
theorem dX9_toward_17 : decode cX9_toward 17 = .ok (.iconst (-1), 1) := by decide +kernel
theorem dX9_toward_18 : decode cX9_toward 18 = .ok (.ireturn, 1) := by decide +kernel
theorem dX9_creaseCount_0 : decode cX9_creaseCount 0 = .ok (.lconst 1, 1) := by decide +kernel
theorem dX9_creaseCount_1 : decode cX9_creaseCount 1 = .ok (.aload_n 0, 1) := by decide +kernel
theorem dX9_creaseCount_2 : decode cX9_creaseCount 2 = .ok (.getfield 21, 3) := by decide +kernel
theorem dX9_creaseCount_5 : decode cX9_creaseCount 5 = .ok (.lshl, 1) := by decide +kernel
theorem dX9_creaseCount_6 : decode cX9_creaseCount 6 = .ok (.lconst 1, 1) := by decide +kernel
theorem dX9_creaseCount_7 : decode cX9_creaseCount 7 = .ok (.lsub, 1) := by decide +kernel
theorem dX9_creaseCount_8 : decode cX9_creaseCount 8 = .ok (.lreturn, 1) := by decide +kernel
theorem dX9_sides_0 : decode cX9_sides 0 = .ok (.aload_n 0, 1) := by decide +kernel
theorem dX9_sides_1 : decode cX9_sides 1 = .ok (.invokevirtual 55, 3) := by decide +kernel
theorem dX9_sides_4 : decode cX9_sides 4 = .ok (.lconst 1, 1) := by decide +kernel
theorem dX9_sides_5 : decode cX9_sides 5 = .ok (.ladd, 1) := by decide +kernel
theorem dX9_sides_6 : decode cX9_sides 6 = .ok (.lreturn, 1) := by decide +kernel
theorem dX9_cutOff_0 : decode cX9_cutOff 0 = .ok (.lconst 0, 1) := by decide +kernel
theorem dX9_cutOff_1 : decode cX9_cutOff 1 = .ok (.lreturn, 1) := by decide +kernel
theorem dX9_creaseAt_0 : decode cX9_creaseAt 0 = .ok (.lload_n 1, 1) := by decide +kernel
theorem dX9_creaseAt_1 : decode cX9_creaseAt 1 = .ok (.lload_n 1, 1) := by decide +kernel
theorem dX9_creaseAt_2 : decode cX9_creaseAt 2 = .ok (.lneg, 1) := by decide +kernel
theorem dX9_creaseAt_3 : decode cX9_creaseAt 3 = .ok (.land, 1) := by decide +kernel
theorem dX9_creaseAt_4 : decode cX9_creaseAt 4 = .ok (.lstore_n 3, 1) := by decide +kernel
theorem dX9_creaseAt_5 : decode cX9_creaseAt 5 = .ok (.aload_n 0, 1) := by decide +kernel
theorem dX9_creaseAt_6 : decode cX9_creaseAt 6 = .ok (.invokevirtual 51, 3) := by decide +kernel
theorem dX9_creaseAt_9 : decode cX9_creaseAt 9 = .ok (.lload_n 3, 1) := by decide +kernel
theorem dX9_creaseAt_10 : decode cX9_creaseAt 10 = .ok (.land, 1) := by decide +kernel
theorem dX9_creaseAt_11 : decode cX9_creaseAt 11 = .ok (.lconst 0, 1) := by decide +kernel
theorem dX9_creaseAt_12 : decode cX9_creaseAt 12 = .ok (.lcmp, 1) := by decide +kernel
theorem dX9_creaseAt_13 : decode cX9_creaseAt 13 = .ok (.ifCond .eq 7, 3) := by decide +kernel
theorem dX9_creaseAt_16 : decode cX9_creaseAt 16 = .ok (.iconst 1, 1) := by decide +kernel
theorem dX9_creaseAt_17 : decode cX9_creaseAt 17 = .ok (.goto 4, 3) := by decide +kernel
theorem dX9_creaseAt_20 : decode cX9_creaseAt 20 = .ok (.iconst 0, 1) := by decide +kernel
theorem dX9_creaseAt_21 : decode cX9_creaseAt 21 = .ok (.istore 5, 2) := by decide +kernel
theorem dX9_creaseAt_23 : decode cX9_creaseAt 23 = .ok (.lload_n 1, 1) := by decide +kernel
theorem dX9_creaseAt_24 : decode cX9_creaseAt 24 = .ok (.lload_n 3, 1) := by decide +kernel
theorem dX9_creaseAt_25 : decode cX9_creaseAt 25 = .ok (.iconst 1, 1) := by decide +kernel
theorem dX9_creaseAt_26 : decode cX9_creaseAt 26 = .ok (.lshl, 1) := by decide +kernel
theorem dX9_creaseAt_27 : decode cX9_creaseAt 27 = .ok (.land, 1) := by decide +kernel
theorem dX9_creaseAt_28 : decode cX9_creaseAt 28 = .ok (.lconst 0, 1) := by decide +kernel
theorem dX9_creaseAt_29 : decode cX9_creaseAt 29 = .ok (.lcmp, 1) := by decide +kernel
theorem dX9_creaseAt_30 : decode cX9_creaseAt 30 = .ok (.ifCond .ne 8, 3) := by decide +kernel
theorem dX9_creaseAt_33 : decode cX9_creaseAt 33 = .ok (.iload 5, 2) := by decide +kernel
theorem dX9_creaseAt_35 : decode cX9_creaseAt 35 = .ok (.goto 7, 3) := by decide +kernel
theorem dX9_creaseAt_38 : decode cX9_creaseAt 38 = .ok (.iconst 1, 1) := by decide +kernel
theorem dX9_creaseAt_39 : decode cX9_creaseAt 39 = .ok (.iload 5, 2) := by decide +kernel
theorem dX9_creaseAt_41 : decode cX9_creaseAt 41 = .ok (.isub, 1) := by decide +kernel
theorem dX9_creaseAt_42 : decode cX9_creaseAt 42 = .ok (.ireturn, 1) := by decide +kernel
theorem dX9_leftOver_0 : decode cX9_leftOver 0 = .ok (.lload_n 1, 1) := by decide +kernel
theorem dX9_leftOver_1 : decode cX9_leftOver 1 = .ok (.iload_n 3, 1) := by decide +kernel
theorem dX9_leftOver_2 : decode cX9_leftOver 2 = .ok (.lshr, 1) := by decide +kernel
theorem dX9_leftOver_3 : decode cX9_leftOver 3 = .ok (.lconst 1, 1) := by decide +kernel
theorem dX9_leftOver_4 : decode cX9_leftOver 4 = .ok (.ladd, 1) := by decide +kernel
theorem dX9_leftOver_5 : decode cX9_leftOver 5 = .ok (.ldc2_w 58, 3) := by decide +kernel
theorem dX9_leftOver_8 : decode cX9_leftOver 8 = .ok (.ldiv, 1) := by decide +kernel
theorem dX9_leftOver_9 : decode cX9_leftOver 9 = .ok (.lstore 4, 2) := by decide +kernel
theorem dX9_leftOver_11 : decode cX9_leftOver 11 = .ok (.lload 4, 2) := by decide +kernel
theorem dX9_leftOver_13 : decode cX9_leftOver 13 = .ok (.ldc2_w 58, 3) := by decide +kernel
theorem dX9_leftOver_16 : decode cX9_leftOver 16 = .ok (.lrem, 1) := by decide +kernel
theorem dX9_leftOver_17 : decode cX9_leftOver 17 = .ok (.lconst 1, 1) := by decide +kernel
theorem dX9_leftOver_18 : decode cX9_leftOver 18 = .ok (.lcmp, 1) := by decide +kernel
theorem dX9_leftOver_19 : decode cX9_leftOver 19 = .ok (.ifCond .ne 11, 3) := by decide +kernel
theorem dX9_leftOver_22 : decode cX9_leftOver 22 = .ok (.aload_n 0, 1) := by decide +kernel
theorem dX9_leftOver_23 : decode cX9_leftOver 23 = .ok (.iload_n 3, 1) := by decide +kernel
theorem dX9_leftOver_24 : decode cX9_leftOver 24 = .ok (.invokevirtual 60, 3) := by decide +kernel
theorem dX9_leftOver_27 : decode cX9_leftOver 27 = .ok (.goto 4, 3) := by decide +kernel
theorem dX9_leftOver_30 : decode cX9_leftOver 30 = .ok (.iconst 0, 1) := by decide +kernel
theorem dX9_leftOver_31 : decode cX9_leftOver 31 = .ok (.ireturn, 1) := by decide +kernel
theorem dX9_wayBehind_0 : decode cX9_wayBehind 0 = .ok (.iconst 0, 1) := by decide +kernel
theorem dX9_wayBehind_1 : decode cX9_wayBehind 1 = .ok (.istore_n 3, 1) := by decide +kernel
theorem dX9_wayBehind_2 : decode cX9_wayBehind 2 = .ok (.iconst 0, 1) := by decide +kernel
theorem dX9_wayBehind_3 : decode cX9_wayBehind 3 = .ok (.istore 4, 2) := by decide +kernel
theorem dX9_wayBehind_5 : decode cX9_wayBehind 5 = .ok (.iload 4, 2) := by decide +kernel
theorem dX9_wayBehind_7 : decode cX9_wayBehind 7 = .ok (.aload_n 0, 1) := by decide +kernel
theorem dX9_wayBehind_8 : decode cX9_wayBehind 8 = .ok (.getfield 21, 3) := by decide +kernel
theorem dX9_wayBehind_11 : decode cX9_wayBehind 11 = .ok (.if_icmp .ge 19, 3) := by decide +kernel
theorem dX9_wayBehind_14 : decode cX9_wayBehind 14 = .ok (.iload_n 3, 1) := by decide +kernel
theorem dX9_wayBehind_15 : decode cX9_wayBehind 15 = .ok (.aload_n 0, 1) := by decide +kernel
theorem dX9_wayBehind_16 : decode cX9_wayBehind 16 = .ok (.lload_n 1, 1) := by decide +kernel
theorem dX9_wayBehind_17 : decode cX9_wayBehind 17 = .ok (.iload 4, 2) := by decide +kernel
theorem dX9_wayBehind_19 : decode cX9_wayBehind 19 = .ok (.invokevirtual 64, 3) := by decide +kernel
theorem dX9_wayBehind_22 : decode cX9_wayBehind 22 = .ok (.iadd, 1) := by decide +kernel
theorem dX9_wayBehind_23 : decode cX9_wayBehind 23 = .ok (.istore_n 3, 1) := by decide +kernel
theorem dX9_wayBehind_24 : decode cX9_wayBehind 24 = .ok (.iinc 4 1, 3) := by decide +kernel
theorem dX9_wayBehind_27 : decode cX9_wayBehind 27 = .ok (.goto (-22), 3) := by decide +kernel
theorem dX9_wayBehind_30 : decode cX9_wayBehind 30 = .ok (.iload_n 3, 1) := by decide +kernel
theorem dX9_wayBehind_31 : decode cX9_wayBehind 31 = .ok (.iconst 3, 1) := by decide +kernel
theorem dX9_wayBehind_32 : decode cX9_wayBehind 32 = .ok (.iand, 1) := by decide +kernel
theorem dX9_wayBehind_33 : decode cX9_wayBehind 33 = .ok (.ireturn, 1) := by decide +kernel
theorem dX9_lead_0 : decode cX9_lead 0 = .ok (.aload_n 1, 1) := by decide +kernel
theorem dX9_lead_1 : decode cX9_lead 1 = .ok (.lload_n 2, 1) := by decide +kernel
theorem dX9_lead_2 : decode cX9_lead 2 = .ok (.aload_n 0, 1) := by decide +kernel
theorem dX9_lead_3 : decode cX9_lead 3 = .ok (.getfield 21, 3) := by decide +kernel
theorem dX9_lead_6 : decode cX9_lead 6 = .ok (.lshr, 1) := by decide +kernel
theorem dX9_lead_7 : decode cX9_lead 7 = .ok (.lconst 0, 1) := by decide +kernel
theorem dX9_lead_8 : decode cX9_lead 8 = .ok (.invokevirtual 68, 3) := by decide +kernel
theorem dX9_lead_11 : decode cX9_lead 11 = .ok (.iconst 0, 1) := by decide +kernel
theorem dX9_lead_12 : decode cX9_lead 12 = .ok (.istore 4, 2) := by decide +kernel
theorem dX9_lead_14 : decode cX9_lead 14 = .ok (.aload_n 0, 1) := by decide +kernel
theorem dX9_lead_15 : decode cX9_lead 15 = .ok (.getfield 21, 3) := by decide +kernel
theorem dX9_lead_18 : decode cX9_lead 18 = .ok (.iconst 1, 1) := by decide +kernel
theorem dX9_lead_19 : decode cX9_lead 19 = .ok (.isub, 1) := by decide +kernel
theorem dX9_lead_20 : decode cX9_lead 20 = .ok (.istore 5, 2) := by decide +kernel
theorem dX9_lead_22 : decode cX9_lead 22 = .ok (.iload 5, 2) := by decide +kernel
theorem dX9_lead_24 : decode cX9_lead 24 = .ok (.ifCond .lt 77, 3) := by decide +kernel
theorem dX9_lead_27 : decode cX9_lead 27 = .ok (.aload_n 0, 1) := by decide +kernel
theorem dX9_lead_28 : decode cX9_lead 28 = .ok (.iload 5, 2) := by decide +kernel
theorem dX9_lead_30 : decode cX9_lead 30 = .ok (.invokevirtual 60, 3) := by decide +kernel
theorem dX9_lead_33 : decode cX9_lead 33 = .ok (.istore 6, 2) := by decide +kernel
theorem dX9_lead_35 : decode cX9_lead 35 = .ok (.lload_n 2, 1) := by decide +kernel
theorem dX9_lead_36 : decode cX9_lead 36 = .ok (.iload 5, 2) := by decide +kernel
theorem dX9_lead_38 : decode cX9_lead 38 = .ok (.lshr, 1) := by decide +kernel
theorem dX9_lead_39 : decode cX9_lead 39 = .ok (.ldc2_w 74, 3) := by decide +kernel
theorem dX9_lead_42 : decode cX9_lead 42 = .ok (.land, 1) := by decide +kernel
theorem dX9_lead_43 : decode cX9_lead 43 = .ok (.l2i, 1) := by decide +kernel
theorem dX9_lead_44 : decode cX9_lead 44 = .ok (.istore 7, 2) := by decide +kernel
theorem dX9_lead_46 : decode cX9_lead 46 = .ok (.aload_n 1, 1) := by decide +kernel
theorem dX9_lead_47 : decode cX9_lead 47 = .ok (.iconst 1, 1) := by decide +kernel
theorem dX9_lead_48 : decode cX9_lead 48 = .ok (.iload 6, 2) := by decide +kernel
theorem dX9_lead_50 : decode cX9_lead 50 = .ok (.invokevirtual 76, 3) := by decide +kernel
theorem dX9_lead_53 : decode cX9_lead 53 = .ok (.iload 7, 2) := by decide +kernel
theorem dX9_lead_55 : decode cX9_lead 55 = .ok (.iconst 1, 1) := by decide +kernel
theorem dX9_lead_56 : decode cX9_lead 56 = .ok (.if_icmp .ne 12, 3) := by decide +kernel
theorem dX9_lead_59 : decode cX9_lead 59 = .ok (.aload_n 1, 1) := by decide +kernel
theorem dX9_lead_60 : decode cX9_lead 60 = .ok (.iload 4, 2) := by decide +kernel
theorem dX9_lead_62 : decode cX9_lead 62 = .ok (.invokevirtual 80, 3) := by decide +kernel
theorem dX9_lead_65 : decode cX9_lead 65 = .ok (.goto 18, 3) := by decide +kernel
theorem dX9_lead_68 : decode cX9_lead 68 = .ok (.iload 7, 2) := by decide +kernel
theorem dX9_lead_70 : decode cX9_lead 70 = .ok (.iconst 3, 1) := by decide +kernel
theorem dX9_lead_71 : decode cX9_lead 71 = .ok (.if_icmp .ne 12, 3) := by decide +kernel
theorem dX9_lead_74 : decode cX9_lead 74 = .ok (.aload_n 1, 1) := by decide +kernel
theorem dX9_lead_75 : decode cX9_lead 75 = .ok (.iload 4, 2) := by decide +kernel
theorem dX9_lead_77 : decode cX9_lead 77 = .ok (.iload 6, 2) := by decide +kernel
theorem dX9_lead_79 : decode cX9_lead 79 = .ok (.iadd, 1) := by decide +kernel
theorem dX9_lead_80 : decode cX9_lead 80 = .ok (.invokevirtual 80, 3) := by decide +kernel
theorem dX9_lead_83 : decode cX9_lead 83 = .ok (.iload 4, 2) := by decide +kernel
theorem dX9_lead_85 : decode cX9_lead 85 = .ok (.aload_n 0, 1) := by decide +kernel
theorem dX9_lead_86 : decode cX9_lead 86 = .ok (.lload_n 2, 1) := by decide +kernel
theorem dX9_lead_87 : decode cX9_lead 87 = .ok (.iload 5, 2) := by decide +kernel
theorem dX9_lead_89 : decode cX9_lead 89 = .ok (.invokevirtual 64, 3) := by decide +kernel
theorem dX9_lead_92 : decode cX9_lead 92 = .ok (.iadd, 1) := by decide +kernel
theorem dX9_lead_93 : decode cX9_lead 93 = .ok (.istore 4, 2) := by decide +kernel
theorem dX9_lead_95 : decode cX9_lead 95 = .ok (.iinc 5 (-1), 3) := by decide +kernel
theorem dX9_lead_98 : decode cX9_lead 98 = .ok (.goto (-76), 3) := by decide +kernel
theorem dX9_lead_101 : decode cX9_lead 101 = .ok (.return_, 1) := by decide +kernel
theorem dX9_folds_0 : decode cX9_folds 0 = .ok (.aload_n 1, 1) := by decide +kernel
theorem dX9_folds_1 : decode cX9_folds 1 = .ok (.bipush 10, 2) := by decide +kernel
theorem dX9_folds_3 : decode cX9_folds 3 = .ok (.invokevirtual 84, 3) := by decide +kernel
theorem dX9_folds_6 : decode cX9_folds 6 = .ok (.pop, 1) := by decide +kernel
theorem dX9_folds_7 : decode cX9_folds 7 = .ok (.iload_n 2, 1) := by decide +kernel
theorem dX9_folds_8 : decode cX9_folds 8 = .ok (.aload_n 0, 1) := by decide +kernel
theorem dX9_folds_9 : decode cX9_folds 9 = .ok (.getfield 15, 3) := by decide +kernel
theorem dX9_folds_12 : decode cX9_folds 12 = .ok (.iadd, 1) := by decide +kernel
theorem dX9_folds_13 : decode cX9_folds 13 = .ok (.ireturn, 1) := by decide +kernel
theorem dX9_opens_0 : decode cX9_opens 0 = .ok (.aload_n 1, 1) := by decide +kernel
theorem dX9_opens_1 : decode cX9_opens 1 = .ok (.bipush 11, 2) := by decide +kernel
theorem dX9_opens_3 : decode cX9_opens 3 = .ok (.invokevirtual 84, 3) := by decide +kernel
theorem dX9_opens_6 : decode cX9_opens 6 = .ok (.pop, 1) := by decide +kernel
theorem dX9_opens_7 : decode cX9_opens 7 = .ok (.aload_n 0, 1) := by decide +kernel
theorem dX9_opens_8 : decode cX9_opens 8 = .ok (.aload_n 1, 1) := by decide +kernel
theorem dX9_opens_9 : decode cX9_opens 9 = .ok (.iload_n 2, 1) := by decide +kernel
theorem dX9_opens_10 : decode cX9_opens 10 = .ok (.invokevirtual 90, 3) := by decide +kernel
theorem dX9_opens_13 : decode cX9_opens 13 = .ok (.iconst 2, 1) := by decide +kernel
theorem dX9_opens_14 : decode cX9_opens 14 = .ok (.imul, 1) := by decide +kernel
theorem dX9_opens_15 : decode cX9_opens 15 = .ok (.ireturn, 1) := by decide +kernel
theorem dX9_lies_0 : decode cX9_lies 0 = .ok (.aload_n 1, 1) := by decide +kernel
theorem dX9_lies_1 : decode cX9_lies 1 = .ok (.bipush 12, 2) := by decide +kernel
theorem dX9_lies_3 : decode cX9_lies 3 = .ok (.invokevirtual 84, 3) := by decide +kernel
theorem dX9_lies_6 : decode cX9_lies 6 = .ok (.pop, 1) := by decide +kernel
theorem dX9_lies_7 : decode cX9_lies 7 = .ok (.aload_n 0, 1) := by decide +kernel
theorem dX9_lies_8 : decode cX9_lies 8 = .ok (.aload_n 1, 1) := by decide +kernel
theorem dX9_lies_9 : decode cX9_lies 9 = .ok (.iload_n 2, 1) := by decide +kernel
theorem dX9_lies_10 : decode cX9_lies 10 = .ok (.invokevirtual 94, 3) := by decide +kernel
theorem dX9_lies_13 : decode cX9_lies 13 = .ok (.aload_n 0, 1) := by decide +kernel
theorem dX9_lies_14 : decode cX9_lies 14 = .ok (.aload_n 1, 1) := by decide +kernel
theorem dX9_lies_15 : decode cX9_lies 15 = .ok (.iload_n 2, 1) := by decide +kernel
theorem dX9_lies_16 : decode cX9_lies 16 = .ok (.aload_n 0, 1) := by decide +kernel
theorem dX9_lies_17 : decode cX9_lies 17 = .ok (.getfield 18, 3) := by decide +kernel
theorem dX9_lies_20 : decode cX9_lies 20 = .ok (.isub, 1) := by decide +kernel
theorem dX9_lies_21 : decode cX9_lies 21 = .ok (.invokevirtual 90, 3) := by decide +kernel
theorem dX9_lies_24 : decode cX9_lies 24 = .ok (.ixor, 1) := by decide +kernel
theorem dX9_lies_25 : decode cX9_lies 25 = .ok (.ireturn, 1) := by decide +kernel
theorem dX10_init_0 : decode cX10_init 0 = .ok (.aload_n 0, 1) := by decide +kernel
theorem dX10_init_1 : decode cX10_init 1 = .ok (.iconst 2, 1) := by decide +kernel
theorem dX10_init_2 : decode cX10_init 2 = .ok (.iload_n 1, 1) := by decide +kernel
theorem dX10_init_3 : decode cX10_init 3 = .ok (.iload_n 2, 1) := by decide +kernel
theorem dX10_init_4 : decode cX10_init 4 = .ok (.iload_n 3, 1) := by decide +kernel
theorem dX10_init_5 : decode cX10_init 5 = .ok (.lload 4, 2) := by decide +kernel
theorem dX10_init_7 : decode cX10_init 7 = .ok (.invokespecial 3, 3) := by decide +kernel
theorem dX10_init_10 : decode cX10_init 10 = .ok (.return_, 1) := by decide +kernel
theorem dX10_creaseCount_0 : decode cX10_creaseCount 0 = .ok (.lconst 1, 1) := by decide +kernel
theorem dX10_creaseCount_1 : decode cX10_creaseCount 1 = .ok (.lstore_n 1, 1) := by decide +kernel
theorem dX10_creaseCount_2 : decode cX10_creaseCount 2 = .ok (.iconst 0, 1) := by decide +kernel
theorem dX10_creaseCount_3 : decode cX10_creaseCount 3 = .ok (.istore_n 3, 1) := by decide +kernel
theorem dX10_creaseCount_4 : decode cX10_creaseCount 4 = .ok (.iload_n 3, 1) := by decide +kernel
theorem dX10_creaseCount_5 : decode cX10_creaseCount 5 = .ok (.aload_n 0, 1) := by decide +kernel
theorem dX10_creaseCount_6 : decode cX10_creaseCount 6 = .ok (.getfield 9, 3) := by decide +kernel
theorem dX10_creaseCount_9 : decode cX10_creaseCount 9 = .ok (.if_icmp .ge 15, 3) := by decide +kernel
theorem dX10_creaseCount_12 : decode cX10_creaseCount 12 = .ok (.lload_n 1, 1) := by decide +kernel
theorem dX10_creaseCount_13 : decode cX10_creaseCount 13 = .ok (.ldc2_w 15, 3) := by decide +kernel
theorem dX10_creaseCount_16 : decode cX10_creaseCount 16 = .ok (.lmul, 1) := by decide +kernel
theorem dX10_creaseCount_17 : decode cX10_creaseCount 17 = .ok (.lstore_n 1, 1) := by decide +kernel
theorem dX10_creaseCount_18 : decode cX10_creaseCount 18 = .ok (.iinc 3 1, 3) := by decide +kernel
theorem dX10_creaseCount_21 : decode cX10_creaseCount 21 = .ok (.goto (-17), 3) := by decide +kernel
theorem dX10_creaseCount_24 : decode cX10_creaseCount 24 = .ok (.lload_n 1, 1) := by decide +kernel
theorem dX10_creaseCount_25 : decode cX10_creaseCount 25 = .ok (.lconst 1, 1) := by decide +kernel
theorem dX10_creaseCount_26 : decode cX10_creaseCount 26 = .ok (.lsub, 1) := by decide +kernel
theorem dX10_creaseCount_27 : decode cX10_creaseCount 27 = .ok (.lreturn, 1) := by decide +kernel
theorem dX10_creaseAt_0 : decode cX10_creaseAt 0 = .ok (.lload_n 1, 1) := by decide +kernel
theorem dX10_creaseAt_1 : decode cX10_creaseAt 1 = .ok (.lstore_n 3, 1) := by decide +kernel
theorem dX10_creaseAt_2 : decode cX10_creaseAt 2 = .ok (.iconst 0, 1) := by decide +kernel
theorem dX10_creaseAt_3 : decode cX10_creaseAt 3 = .ok (.istore 5, 2) := by decide +kernel
theorem dX10_creaseAt_5 : decode cX10_creaseAt 5 = .ok (.iload 5, 2) := by decide +kernel
theorem dX10_creaseAt_7 : decode cX10_creaseAt 7 = .ok (.aload_n 0, 1) := by decide +kernel
theorem dX10_creaseAt_8 : decode cX10_creaseAt 8 = .ok (.getfield 9, 3) := by decide +kernel
theorem dX10_creaseAt_11 : decode cX10_creaseAt 11 = .ok (.iconst 1, 1) := by decide +kernel
theorem dX10_creaseAt_12 : decode cX10_creaseAt 12 = .ok (.isub, 1) := by decide +kernel
theorem dX10_creaseAt_13 : decode cX10_creaseAt 13 = .ok (.if_icmp .ge 25, 3) := by decide +kernel
theorem dX10_creaseAt_16 : decode cX10_creaseAt 16 = .ok (.lload_n 3, 1) := by decide +kernel
theorem dX10_creaseAt_17 : decode cX10_creaseAt 17 = .ok (.ldc2_w 15, 3) := by decide +kernel
theorem dX10_creaseAt_20 : decode cX10_creaseAt 20 = .ok (.lrem, 1) := by decide +kernel
theorem dX10_creaseAt_21 : decode cX10_creaseAt 21 = .ok (.lconst 0, 1) := by decide +kernel
theorem dX10_creaseAt_22 : decode cX10_creaseAt 22 = .ok (.lcmp, 1) := by decide +kernel
theorem dX10_creaseAt_23 : decode cX10_creaseAt 23 = .ok (.ifCond .ne 15, 3) := by decide +kernel
theorem dX10_creaseAt_26 : decode cX10_creaseAt 26 = .ok (.lload_n 3, 1) := by decide +kernel
theorem dX10_creaseAt_27 : decode cX10_creaseAt 27 = .ok (.ldc2_w 15, 3) := by decide +kernel
theorem dX10_creaseAt_30 : decode cX10_creaseAt 30 = .ok (.ldiv, 1) := by decide +kernel
theorem dX10_creaseAt_31 : decode cX10_creaseAt 31 = .ok (.lstore_n 3, 1) := by decide +kernel
theorem dX10_creaseAt_32 : decode cX10_creaseAt 32 = .ok (.iinc 5 1, 3) := by decide +kernel
theorem dX10_creaseAt_35 : decode cX10_creaseAt 35 = .ok (.goto (-30), 3) := by decide +kernel
theorem dX10_creaseAt_38 : decode cX10_creaseAt 38 = .ok (.lload_n 3, 1) := by decide +kernel
theorem dX10_creaseAt_39 : decode cX10_creaseAt 39 = .ok (.ldc2_w 15, 3) := by decide +kernel
theorem dX10_creaseAt_42 : decode cX10_creaseAt 42 = .ok (.lrem, 1) := by decide +kernel
theorem dX10_creaseAt_43 : decode cX10_creaseAt 43 = .ok (.lconst 1, 1) := by decide +kernel
theorem dX10_creaseAt_44 : decode cX10_creaseAt 44 = .ok (.lcmp, 1) := by decide +kernel
theorem dX10_creaseAt_45 : decode cX10_creaseAt 45 = .ok (.ifCond .ne 12, 3) := by decide +kernel
theorem dX10_creaseAt_48 : decode cX10_creaseAt 48 = .ok (.aload_n 0, 1) := by decide +kernel
theorem dX10_creaseAt_49 : decode cX10_creaseAt 49 = .ok (.iload 5, 2) := by decide +kernel
theorem dX10_creaseAt_51 : decode cX10_creaseAt 51 = .ok (.invokevirtual 17, 3) := by decide +kernel
theorem dX10_creaseAt_54 : decode cX10_creaseAt 54 = .ok (.goto 11, 3) := by decide +kernel
theorem dX10_creaseAt_57 : decode cX10_creaseAt 57 = .ok (.iconst 1, 1) := by decide +kernel
theorem dX10_creaseAt_58 : decode cX10_creaseAt 58 = .ok (.aload_n 0, 1) := by decide +kernel
theorem dX10_creaseAt_59 : decode cX10_creaseAt 59 = .ok (.iload 5, 2) := by decide +kernel
theorem dX10_creaseAt_61 : decode cX10_creaseAt 61 = .ok (.invokevirtual 17, 3) := by decide +kernel
theorem dX10_creaseAt_64 : decode cX10_creaseAt 64 = .ok (.isub, 1) := by decide +kernel
theorem dX10_creaseAt_65 : decode cX10_creaseAt 65 = .ok (.ireturn, 1) := by decide +kernel
theorem dX10_wayBehind_0 : decode cX10_wayBehind 0 = .ok (.lload_n 1, 1) := by decide +kernel
theorem dX10_wayBehind_1 : decode cX10_wayBehind 1 = .ok (.lstore_n 3, 1) := by decide +kernel
theorem dX10_wayBehind_2 : decode cX10_wayBehind 2 = .ok (.iconst 0, 1) := by decide +kernel
theorem dX10_wayBehind_3 : decode cX10_wayBehind 3 = .ok (.istore 5, 2) := by decide +kernel
theorem dX10_wayBehind_5 : decode cX10_wayBehind 5 = .ok (.iconst 0, 1) := by decide +kernel
theorem dX10_wayBehind_6 : decode cX10_wayBehind 6 = .ok (.istore 6, 2) := by decide +kernel
theorem dX10_wayBehind_8 : decode cX10_wayBehind 8 = .ok (.iload 6, 2) := by decide +kernel
theorem dX10_wayBehind_10 : decode cX10_wayBehind 10 = .ok (.aload_n 0, 1) := by decide +kernel
theorem dX10_wayBehind_11 : decode cX10_wayBehind 11 = .ok (.getfield 9, 3) := by decide +kernel
theorem dX10_wayBehind_14 : decode cX10_wayBehind 14 = .ok (.if_icmp .ge 36, 3) := by decide +kernel
theorem dX10_wayBehind_17 : decode cX10_wayBehind 17 = .ok (.lload_n 3, 1) := by decide +kernel
theorem dX10_wayBehind_18 : decode cX10_wayBehind 18 = .ok (.ldc2_w 15, 3) := by decide +kernel
theorem dX10_wayBehind_21 : decode cX10_wayBehind 21 = .ok (.lrem, 1) := by decide +kernel
theorem dX10_wayBehind_22 : decode cX10_wayBehind 22 = .ok (.lconst 1, 1) := by decide +kernel
theorem dX10_wayBehind_23 : decode cX10_wayBehind 23 = .ok (.lcmp, 1) := by decide +kernel
theorem dX10_wayBehind_24 : decode cX10_wayBehind 24 = .ok (.ifCond .ne 14, 3) := by decide +kernel
theorem dX10_wayBehind_27 : decode cX10_wayBehind 27 = .ok (.iload 5, 2) := by decide +kernel
theorem dX10_wayBehind_29 : decode cX10_wayBehind 29 = .ok (.aload_n 0, 1) := by decide +kernel
theorem dX10_wayBehind_30 : decode cX10_wayBehind 30 = .ok (.iload 6, 2) := by decide +kernel
theorem dX10_wayBehind_32 : decode cX10_wayBehind 32 = .ok (.invokevirtual 21, 3) := by decide +kernel
theorem dX10_wayBehind_35 : decode cX10_wayBehind 35 = .ok (.iadd, 1) := by decide +kernel
theorem dX10_wayBehind_36 : decode cX10_wayBehind 36 = .ok (.istore 5, 2) := by decide +kernel
theorem dX10_wayBehind_38 : decode cX10_wayBehind 38 = .ok (.lload_n 3, 1) := by decide +kernel
theorem dX10_wayBehind_39 : decode cX10_wayBehind 39 = .ok (.ldc2_w 15, 3) := by decide +kernel
theorem dX10_wayBehind_42 : decode cX10_wayBehind 42 = .ok (.ldiv, 1) := by decide +kernel
theorem dX10_wayBehind_43 : decode cX10_wayBehind 43 = .ok (.lstore_n 3, 1) := by decide +kernel
theorem dX10_wayBehind_44 : decode cX10_wayBehind 44 = .ok (.iinc 6 1, 3) := by decide +kernel
theorem dX10_wayBehind_47 : decode cX10_wayBehind 47 = .ok (.goto (-39), 3) := by decide +kernel
theorem dX10_wayBehind_50 : decode cX10_wayBehind 50 = .ok (.iload 5, 2) := by decide +kernel
theorem dX10_wayBehind_52 : decode cX10_wayBehind 52 = .ok (.iconst 3, 1) := by decide +kernel
theorem dX10_wayBehind_53 : decode cX10_wayBehind 53 = .ok (.iand, 1) := by decide +kernel
theorem dX10_wayBehind_54 : decode cX10_wayBehind 54 = .ok (.ireturn, 1) := by decide +kernel
theorem dX10_lead_0 : decode cX10_lead 0 = .ok (.aload_n 1, 1) := by decide +kernel
theorem dX10_lead_1 : decode cX10_lead 1 = .ok (.lload_n 2, 1) := by decide +kernel
theorem dX10_lead_2 : decode cX10_lead 2 = .ok (.aload_n 0, 1) := by decide +kernel
theorem dX10_lead_3 : decode cX10_lead 3 = .ok (.invokevirtual 24, 3) := by decide +kernel
theorem dX10_lead_6 : decode cX10_lead 6 = .ok (.lcmp, 1) := by decide +kernel
theorem dX10_lead_7 : decode cX10_lead 7 = .ok (.ifCond .le 7, 3) := by decide +kernel
theorem dX10_lead_10 : decode cX10_lead 10 = .ok (.lconst 1, 1) := by decide +kernel
theorem dX10_lead_11 : decode cX10_lead 11 = .ok (.goto 4, 3) := by decide +kernel
theorem dX10_lead_14 : decode cX10_lead 14 = .ok (.lconst 0, 1) := by decide +kernel
theorem dX10_lead_15 : decode cX10_lead 15 = .ok (.lconst 0, 1) := by decide +kernel
theorem dX10_lead_16 : decode cX10_lead 16 = .ok (.invokevirtual 28, 3) := by decide +kernel
theorem dX10_lead_19 : decode cX10_lead 19 = .ok (.iconst 0, 1) := by decide +kernel
theorem dX10_lead_20 : decode cX10_lead 20 = .ok (.istore 4, 2) := by decide +kernel
theorem dX10_lead_22 : decode cX10_lead 22 = .ok (.aload_n 0, 1) := by decide +kernel
theorem dX10_lead_23 : decode cX10_lead 23 = .ok (.getfield 9, 3) := by decide +kernel
theorem dX10_lead_26 : decode cX10_lead 26 = .ok (.iconst 1, 1) := by decide +kernel
theorem dX10_lead_27 : decode cX10_lead 27 = .ok (.isub, 1) := by decide +kernel
theorem dX10_lead_28 : decode cX10_lead 28 = .ok (.istore 5, 2) := by decide +kernel
theorem dX10_lead_30 : decode cX10_lead 30 = .ok (.aload_n 0, 1) := by decide +kernel
theorem dX10_lead_31 : decode cX10_lead 31 = .ok (.invokevirtual 34, 3) := by decide +kernel
theorem dX10_lead_34 : decode cX10_lead 34 = .ok (.ldc2_w 15, 3) := by decide +kernel
theorem dX10_lead_37 : decode cX10_lead 37 = .ok (.ldiv, 1) := by decide +kernel
theorem dX10_lead_38 : decode cX10_lead 38 = .ok (.lstore 6, 2) := by decide +kernel
theorem dX10_lead_40 : decode cX10_lead 40 = .ok (.lload 6, 2) := by decide +kernel
theorem dX10_lead_42 : decode cX10_lead 42 = .ok (.lconst 0, 1) := by decide +kernel
theorem dX10_lead_43 : decode cX10_lead 43 = .ok (.lcmp, 1) := by decide +kernel
theorem dX10_lead_44 : decode cX10_lead 44 = .ok (.ifCond .le 90, 3) := by decide +kernel
theorem dX10_lead_47 : decode cX10_lead 47 = .ok (.iload 5, 2) := by decide +kernel
theorem dX10_lead_49 : decode cX10_lead 49 = .ok (.ifCond .lt 85, 3) := by decide +kernel
theorem dX10_lead_52 : decode cX10_lead 52 = .ok (.aload_n 0, 1) := by decide +kernel
theorem dX10_lead_53 : decode cX10_lead 53 = .ok (.iload 5, 2) := by decide +kernel
theorem dX10_lead_55 : decode cX10_lead 55 = .ok (.invokevirtual 21, 3) := by decide +kernel
theorem dX10_lead_58 : decode cX10_lead 58 = .ok (.istore 8, 2) := by decide +kernel
theorem dX10_lead_60 : decode cX10_lead 60 = .ok (.lload_n 2, 1) := by decide +kernel
theorem dX10_lead_61 : decode cX10_lead 61 = .ok (.lload 6, 2) := by decide +kernel
theorem dX10_lead_63 : decode cX10_lead 63 = .ok (.ldiv, 1) := by decide +kernel
theorem dX10_lead_64 : decode cX10_lead 64 = .ok (.ldc2_w 15, 3) := by decide +kernel
theorem dX10_lead_67 : decode cX10_lead 67 = .ok (.lrem, 1) := by decide +kernel
theorem dX10_lead_68 : decode cX10_lead 68 = .ok (.lstore 9, 2) := by decide +kernel
theorem dX10_lead_70 : decode cX10_lead 70 = .ok (.aload_n 1, 1) := by decide +kernel
theorem dX10_lead_71 : decode cX10_lead 71 = .ok (.iconst 2, 1) := by decide +kernel
theorem dX10_lead_72 : decode cX10_lead 72 = .ok (.iload 8, 2) := by decide +kernel
theorem dX10_lead_74 : decode cX10_lead 74 = .ok (.invokevirtual 37, 3) := by decide +kernel
theorem dX10_lead_77 : decode cX10_lead 77 = .ok (.lload 9, 2) := by decide +kernel
theorem dX10_lead_79 : decode cX10_lead 79 = .ok (.lconst 0, 1) := by decide +kernel
theorem dX10_lead_80 : decode cX10_lead 80 = .ok (.lcmp, 1) := by decide +kernel
theorem dX10_lead_81 : decode cX10_lead 81 = .ok (.ifCond .le 9, 3) := by decide +kernel
theorem dX10_lead_84 : decode cX10_lead 84 = .ok (.aload_n 1, 1) := by decide +kernel
theorem dX10_lead_85 : decode cX10_lead 85 = .ok (.iload 4, 2) := by decide +kernel
theorem dX10_lead_87 : decode cX10_lead 87 = .ok (.invokevirtual 41, 3) := by decide +kernel
theorem dX10_lead_90 : decode cX10_lead 90 = .ok (.lload 9, 2) := by decide +kernel
theorem dX10_lead_92 : decode cX10_lead 92 = .ok (.lconst 1, 1) := by decide +kernel
theorem dX10_lead_93 : decode cX10_lead 93 = .ok (.lcmp, 1) := by decide +kernel
theorem dX10_lead_94 : decode cX10_lead 94 = .ok (.ifCond .le 12, 3) := by decide +kernel
theorem dX10_lead_97 : decode cX10_lead 97 = .ok (.aload_n 1, 1) := by decide +kernel
theorem dX10_lead_98 : decode cX10_lead 98 = .ok (.iload 4, 2) := by decide +kernel
theorem dX10_lead_100 : decode cX10_lead 100 = .ok (.iload 8, 2) := by decide +kernel
theorem dX10_lead_102 : decode cX10_lead 102 = .ok (.iadd, 1) := by decide +kernel
theorem dX10_lead_103 : decode cX10_lead 103 = .ok (.invokevirtual 41, 3) := by decide +kernel
theorem dX10_lead_106 : decode cX10_lead 106 = .ok (.lload 9, 2) := by decide +kernel
theorem dX10_lead_108 : decode cX10_lead 108 = .ok (.lconst 1, 1) := by decide +kernel
theorem dX10_lead_109 : decode cX10_lead 109 = .ok (.lcmp, 1) := by decide +kernel
theorem dX10_lead_110 : decode cX10_lead 110 = .ok (.ifCond .ne 10, 3) := by decide +kernel
theorem dX10_lead_113 : decode cX10_lead 113 = .ok (.iload 4, 2) := by decide +kernel
theorem dX10_lead_115 : decode cX10_lead 115 = .ok (.iload 8, 2) := by decide +kernel
theorem dX10_lead_117 : decode cX10_lead 117 = .ok (.iadd, 1) := by decide +kernel
theorem dX10_lead_118 : decode cX10_lead 118 = .ok (.istore 4, 2) := by decide +kernel
theorem dX10_lead_120 : decode cX10_lead 120 = .ok (.iinc 5 (-1), 3) := by decide +kernel
theorem dX10_lead_123 : decode cX10_lead 123 = .ok (.lload 6, 2) := by decide +kernel
theorem dX10_lead_125 : decode cX10_lead 125 = .ok (.ldc2_w 15, 3) := by decide +kernel
theorem dX10_lead_128 : decode cX10_lead 128 = .ok (.ldiv, 1) := by decide +kernel
theorem dX10_lead_129 : decode cX10_lead 129 = .ok (.lstore 6, 2) := by decide +kernel
theorem dX10_lead_131 : decode cX10_lead 131 = .ok (.goto (-91), 3) := by decide +kernel
theorem dX10_lead_134 : decode cX10_lead 134 = .ok (.return_, 1) := by decide +kernel
theorem dX10_opens_0 : decode cX10_opens 0 = .ok (.aload_n 1, 1) := by decide +kernel
theorem dX10_opens_1 : decode cX10_opens 1 = .ok (.bipush 30, 2) := by decide +kernel
theorem dX10_opens_3 : decode cX10_opens 3 = .ok (.invokevirtual 45, 3) := by decide +kernel
theorem dX10_opens_6 : decode cX10_opens 6 = .ok (.pop, 1) := by decide +kernel
theorem dX10_opens_7 : decode cX10_opens 7 = .ok (.aload_n 0, 1) := by decide +kernel
theorem dX10_opens_8 : decode cX10_opens 8 = .ok (.aload_n 1, 1) := by decide +kernel
theorem dX10_opens_9 : decode cX10_opens 9 = .ok (.iload_n 2, 1) := by decide +kernel
theorem dX10_opens_10 : decode cX10_opens 10 = .ok (.invokespecial 51, 3) := by decide +kernel
theorem dX10_opens_13 : decode cX10_opens 13 = .ok (.iconst 3, 1) := by decide +kernel
theorem dX10_opens_14 : decode cX10_opens 14 = .ok (.imul, 1) := by decide +kernel
theorem dX10_opens_15 : decode cX10_opens 15 = .ok (.ireturn, 1) := by decide +kernel
