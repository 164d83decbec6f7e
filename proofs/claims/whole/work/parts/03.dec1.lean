theorem dX11_init_0 : decode cX11_init 0 = .ok (.aload_n 0, 1) := by decide +kernel
theorem dX11_init_1 : decode cX11_init 1 = .ok (.invokespecial 1, 3) := by decide +kernel
theorem dX11_init_4 : decode cX11_init 4 = .ok (.aload_n 0, 1) := by decide +kernel
theorem dX11_init_5 : decode cX11_init 5 = .ok (.bipush 8, 2) := by decide +kernel
theorem dX11_init_7 : decode cX11_init 7 = .ok (.anewarray 9, 3) := by decide +kernel
theorem dX11_init_10 : decode cX11_init 10 = .ok (.putfield 11, 3) := by decide +kernel
theorem dX11_init_13 : decode cX11_init 13 = .ok (.aload_n 0, 1) := by decide +kernel
theorem dX11_init_14 : decode cX11_init 14 = .ok (.bipush 8, 2) := by decide +kernel
theorem dX11_init_16 : decode cX11_init 16 = .ok (.anewarray 9, 3) := by decide +kernel
theorem dX11_init_19 : decode cX11_init 19 = .ok (.putfield 15, 3) := by decide +kernel
theorem dX11_init_22 : decode cX11_init 22 = .ok (.aload_n 0, 1) := by decide +kernel
theorem dX11_init_23 : decode cX11_init 23 = .ok (.iconst (-1), 1) := by decide +kernel
theorem dX11_init_24 : decode cX11_init 24 = .ok (.putfield 18, 3) := by decide +kernel
theorem dX11_init_27 : decode cX11_init 27 = .ok (.aload_n 0, 1) := by decide +kernel
theorem dX11_init_28 : decode cX11_init 28 = .ok (.bipush 8, 2) := by decide +kernel
theorem dX11_init_30 : decode cX11_init 30 = .ok (.anewarray 22, 3) := by decide +kernel
theorem dX11_init_33 : decode cX11_init 33 = .ok (.putfield 24, 3) := by decide +kernel
theorem dX11_init_36 : decode cX11_init 36 = .ok (.aload_n 0, 1) := by decide +kernel
theorem dX11_init_37 : decode cX11_init 37 = .ok (.bipush 8, 2) := by decide +kernel
theorem dX11_init_39 : decode cX11_init 39 = .ok (.newarray .int, 2) := by decide +kernel
theorem dX11_init_41 : decode cX11_init 41 = .ok (.putfield 28, 3) := by decide +kernel
theorem dX11_init_44 : decode cX11_init 44 = .ok (.aload_n 0, 1) := by decide +kernel
theorem dX11_init_45 : decode cX11_init 45 = .ok (.iconst (-1), 1) := by decide +kernel
theorem dX11_init_46 : decode cX11_init 46 = .ok (.putfield 32, 3) := by decide +kernel
theorem dX11_init_49 : decode cX11_init 49 = .ok (.aload_n 0, 1) := by decide +kernel
theorem dX11_init_50 : decode cX11_init 50 = .ok (.new 35, 3) := by decide +kernel
theorem dX11_init_53 : decode cX11_init 53 = .ok (.dup, 1) := by decide +kernel
theorem dX11_init_54 : decode cX11_init 54 = .ok (.invokespecial 37, 3) := by decide +kernel
theorem dX11_init_57 : decode cX11_init 57 = .ok (.putfield 38, 3) := by decide +kernel
theorem dX11_init_60 : decode cX11_init 60 = .ok (.aload_n 0, 1) := by decide +kernel
theorem dX11_init_61 : decode cX11_init 61 = .ok (.new 42, 3) := by decide +kernel
theorem dX11_init_64 : decode cX11_init 64 = .ok (.dup, 1) := by decide +kernel
theorem dX11_init_65 : decode cX11_init 65 = .ok (.invokespecial 44, 3) := by decide +kernel
theorem dX11_init_68 : decode cX11_init 68 = .ok (.putfield 45, 3) := by decide +kernel
theorem dX11_init_71 : decode cX11_init 71 = .ok (.aload_n 0, 1) := by decide +kernel
theorem dX11_init_72 : decode cX11_init 72 = .ok (.new 49, 3) := by decide +kernel
theorem dX11_init_75 : decode cX11_init 75 = .ok (.dup, 1) := by decide +kernel
theorem dX11_init_76 : decode cX11_init 76 = .ok (.sipush 8192, 3) := by decide +kernel
theorem dX11_init_79 : decode cX11_init 79 = .ok (.invokespecial 51, 3) := by decide +kernel
theorem dX11_init_82 : decode cX11_init 82 = .ok (.putfield 54, 3) := by decide +kernel
theorem dX11_init_85 : decode cX11_init 85 = .ok (.aload_n 0, 1) := by decide +kernel
theorem dX11_init_86 : decode cX11_init 86 = .ok (.new 49, 3) := by decide +kernel
theorem dX11_init_89 : decode cX11_init 89 = .ok (.dup, 1) := by decide +kernel
theorem dX11_init_90 : decode cX11_init 90 = .ok (.iconst 0, 1) := by decide +kernel
theorem dX11_init_91 : decode cX11_init 91 = .ok (.invokespecial 51, 3) := by decide +kernel
theorem dX11_init_94 : decode cX11_init 94 = .ok (.putfield 58, 3) := by decide +kernel
theorem dX11_init_97 : decode cX11_init 97 = .ok (.aload_n 0, 1) := by decide +kernel
theorem dX11_init_98 : decode cX11_init 98 = .ok (.new 61, 3) := by decide +kernel
theorem dX11_init_101 : decode cX11_init 101 = .ok (.dup, 1) := by decide +kernel
theorem dX11_init_102 : decode cX11_init 102 = .ok (.invokespecial 63, 3) := by decide +kernel
theorem dX11_init_105 : decode cX11_init 105 = .ok (.putfield 64, 3) := by decide +kernel
theorem dX11_init_108 : decode cX11_init 108 = .ok (.iconst 0, 1) := by decide +kernel
theorem dX11_init_109 : decode cX11_init 109 = .ok (.istore_n 1, 1) := by decide +kernel
theorem dX11_init_110 : decode cX11_init 110 = .ok (.iload_n 1, 1) := by decide +kernel
theorem dX11_init_111 : decode cX11_init 111 = .ok (.aload_n 0, 1) := by decide +kernel
theorem dX11_init_112 : decode cX11_init 112 = .ok (.getfield 24, 3) := by decide +kernel
theorem dX11_init_115 : decode cX11_init 115 = .ok (.arraylength, 1) := by decide +kernel
theorem dX11_init_116 : decode cX11_init 116 = .ok (.if_icmp .ge 22, 3) := by decide +kernel
theorem dX11_init_119 : decode cX11_init 119 = .ok (.aload_n 0, 1) := by decide +kernel
theorem dX11_init_120 : decode cX11_init 120 = .ok (.getfield 24, 3) := by decide +kernel
theorem dX11_init_123 : decode cX11_init 123 = .ok (.iload_n 1, 1) := by decide +kernel
theorem dX11_init_124 : decode cX11_init 124 = .ok (.new 22, 3) := by decide +kernel
theorem dX11_init_127 : decode cX11_init 127 = .ok (.dup, 1) := by decide +kernel
theorem dX11_init_128 : decode cX11_init 128 = .ok (.invokespecial 68, 3) := by decide +kernel
theorem dX11_init_131 : decode cX11_init 131 = .ok (.aastore, 1) := by decide +kernel
theorem dX11_init_132 : decode cX11_init 132 = .ok (.iinc 1 1, 3) := by decide +kernel
theorem dX11_init_135 : decode cX11_init 135 = .ok (.goto (-25), 3) := by decide +kernel
theorem dX11_init_138 : decode cX11_init 138 = .ok (.return_, 1) := by decide +kernel
theorem dX11_row_0 : decode cX11_row 0 = .ok (.iconst 0, 1) := by decide +kernel
theorem dX11_row_1 : decode cX11_row 1 = .ok (.istore 4, 2) := by decide +kernel
theorem dX11_row_3 : decode cX11_row 3 = .ok (.aload_n 0, 1) := by decide +kernel
theorem dX11_row_4 : decode cX11_row 4 = .ok (.iload_n 1, 1) := by decide +kernel
theorem dX11_row_5 : decode cX11_row 5 = .ok (.invokevirtual 69, 3) := by decide +kernel
theorem dX11_row_8 : decode cX11_row 8 = .ok (.ifCond .ne 9, 3) := by decide +kernel
theorem dX11_row_11 : decode cX11_row 11 = .ok (.iconst (-1), 1) := by decide +kernel
theorem dX11_row_12 : decode cX11_row 12 = .ok (.istore 4, 2) := by decide +kernel
theorem dX11_row_14 : decode cX11_row 14 = .ok (.goto 41, 3) := by decide +kernel
theorem dX11_row_17 : decode cX11_row 17 = .ok (.iload_n 3, 1) := by decide +kernel
theorem dX11_row_18 : decode cX11_row 18 = .ok (.ifCond .ge 10, 3) := by decide +kernel
theorem dX11_row_21 : decode cX11_row 21 = .ok (.bipush (-4), 2) := by decide +kernel
theorem dX11_row_23 : decode cX11_row 23 = .ok (.istore 4, 2) := by decide +kernel
theorem dX11_row_25 : decode cX11_row 25 = .ok (.goto 30, 3) := by decide +kernel
theorem dX11_row_28 : decode cX11_row 28 = .ok (.iload_n 2, 1) := by decide +kernel
theorem dX11_row_29 : decode cX11_row 29 = .ok (.ifCond .lt 8, 3) := by decide +kernel
theorem dX11_row_32 : decode cX11_row 32 = .ok (.iload_n 2, 1) := by decide +kernel
theorem dX11_row_33 : decode cX11_row 33 = .ok (.iconst 4, 1) := by decide +kernel
theorem dX11_row_34 : decode cX11_row 34 = .ok (.if_icmp .lt 10, 3) := by decide +kernel
theorem dX11_row_37 : decode cX11_row 37 = .ok (.bipush (-6), 2) := by decide +kernel
theorem dX11_row_39 : decode cX11_row 39 = .ok (.istore 4, 2) := by decide +kernel
theorem dX11_row_41 : decode cX11_row 41 = .ok (.goto 14, 3) := by decide +kernel
theorem dX11_row_44 : decode cX11_row 44 = .ok (.iload_n 3, 1) := by decide +kernel
theorem dX11_row_45 : decode cX11_row 45 = .ok (.sipush 160, 3) := by decide +kernel
theorem dX11_row_48 : decode cX11_row 48 = .ok (.if_icmp .le 7, 3) := by decide +kernel
theorem dX11_row_51 : decode cX11_row 51 = .ok (.bipush (-7), 2) := by decide +kernel
theorem dX11_row_53 : decode cX11_row 53 = .ok (.istore 4, 2) := by decide +kernel
theorem dX11_row_55 : decode cX11_row 55 = .ok (.iload 4, 2) := by decide +kernel
theorem dX11_row_57 : decode cX11_row 57 = .ok (.ifCond .eq 10, 3) := by decide +kernel
theorem dX11_row_60 : decode cX11_row 60 = .ok (.aload_n 0, 1) := by decide +kernel
theorem dX11_row_61 : decode cX11_row 61 = .ok (.iload 4, 2) := by decide +kernel
theorem dX11_row_63 : decode cX11_row 63 = .ok (.invokevirtual 73, 3) := by decide +kernel
theorem dX11_row_66 : decode cX11_row 66 = .ok (.ireturn, 1) := by decide +kernel
theorem dX11_row_67 : decode cX11_row 67 = .ok (.aload_n 0, 1) := by decide +kernel
theorem dX11_row_68 : decode cX11_row 68 = .ok (.getfield 24, 3) := by decide +kernel
theorem dX11_row_71 : decode cX11_row 71 = .ok (.iload_n 1, 1) := by decide +kernel
theorem dX11_row_72 : decode cX11_row 72 = .ok (.aaload, 1) := by decide +kernel
theorem dX11_row_73 : decode cX11_row 73 = .ok (.iload_n 2, 1) := by decide +kernel
theorem dX11_row_74 : decode cX11_row 74 = .ok (.iload_n 3, 1) := by decide +kernel
theorem dX11_row_75 : decode cX11_row 75 = .ok (.invokevirtual 77, 3) := by decide +kernel
theorem dX11_row_78 : decode cX11_row 78 = .ok (.iconst 1, 1) := by decide +kernel
theorem dX11_row_79 : decode cX11_row 79 = .ok (.ireturn, 1) := by decide +kernel
theorem dX11_set_0 : decode cX11_set 0 = .ok (.aload_n 0, 1) := by decide +kernel
theorem dX11_set_1 : decode cX11_set 1 = .ok (.iload_n 1, 1) := by decide +kernel
theorem dX11_set_2 : decode cX11_set 2 = .ok (.invokevirtual 81, 3) := by decide +kernel
theorem dX11_set_5 : decode cX11_set 5 = .ok (.istore 5, 2) := by decide +kernel
theorem dX11_set_7 : decode cX11_set 7 = .ok (.iload 5, 2) := by decide +kernel
theorem dX11_set_9 : decode cX11_set 9 = .ok (.ifCond .ne 20, 3) := by decide +kernel
theorem dX11_set_12 : decode cX11_set 12 = .ok (.aload_n 0, 1) := by decide +kernel
theorem dX11_set_13 : decode cX11_set 13 = .ok (.getfield 24, 3) := by decide +kernel
theorem dX11_set_16 : decode cX11_set 16 = .ok (.iload_n 1, 1) := by decide +kernel
theorem dX11_set_17 : decode cX11_set 17 = .ok (.aaload, 1) := by decide +kernel
theorem dX11_set_18 : decode cX11_set 18 = .ok (.iload_n 2, 1) := by decide +kernel
theorem dX11_set_19 : decode cX11_set 19 = .ok (.invokevirtual 84, 3) := by decide +kernel
theorem dX11_set_22 : decode cX11_set 22 = .ok (.ifCond .ne 7, 3) := by decide +kernel
theorem dX11_set_25 : decode cX11_set 25 = .ok (.bipush (-5), 2) := by decide +kernel
theorem dX11_set_27 : decode cX11_set 27 = .ok (.istore 5, 2) := by decide +kernel
theorem dX11_set_29 : decode cX11_set 29 = .ok (.iload 5, 2) := by decide +kernel
theorem dX11_set_31 : decode cX11_set 31 = .ok (.ifCond .eq 10, 3) := by decide +kernel
theorem dX11_set_34 : decode cX11_set 34 = .ok (.aload_n 0, 1) := by decide +kernel
theorem dX11_set_35 : decode cX11_set 35 = .ok (.iload 5, 2) := by decide +kernel
theorem dX11_set_37 : decode cX11_set 37 = .ok (.invokevirtual 73, 3) := by decide +kernel
theorem dX11_set_40 : decode cX11_set 40 = .ok (.ireturn, 1) := by decide +kernel
theorem dX11_set_41 : decode cX11_set 41 = .ok (.aload_n 0, 1) := by decide +kernel
theorem dX11_set_42 : decode cX11_set 42 = .ok (.getfield 24, 3) := by decide +kernel
theorem dX11_set_45 : decode cX11_set 45 = .ok (.iload_n 1, 1) := by decide +kernel
theorem dX11_set_46 : decode cX11_set 46 = .ok (.aaload, 1) := by decide +kernel
theorem dX11_set_47 : decode cX11_set 47 = .ok (.iload_n 2, 1) := by decide +kernel
theorem dX11_set_48 : decode cX11_set 48 = .ok (.lload_n 3, 1) := by decide +kernel
theorem dX11_set_49 : decode cX11_set 49 = .ok (.invokevirtual 87, 3) := by decide +kernel
theorem dX11_set_52 : decode cX11_set 52 = .ok (.iconst 1, 1) := by decide +kernel
theorem dX11_set_53 : decode cX11_set 53 = .ok (.ireturn, 1) := by decide +kernel
theorem dX11_copy_0 : decode cX11_copy 0 = .ok (.aload_n 0, 1) := by decide +kernel
theorem dX11_copy_1 : decode cX11_copy 1 = .ok (.iload_n 1, 1) := by decide +kernel
theorem dX11_copy_2 : decode cX11_copy 2 = .ok (.iload_n 2, 1) := by decide +kernel
theorem dX11_copy_3 : decode cX11_copy 3 = .ok (.iload_n 3, 1) := by decide +kernel
theorem dX11_copy_4 : decode cX11_copy 4 = .ok (.iload 4, 2) := by decide +kernel
theorem dX11_copy_6 : decode cX11_copy 6 = .ok (.iload 5, 2) := by decide +kernel
theorem dX11_copy_8 : decode cX11_copy 8 = .ok (.invokevirtual 91, 3) := by decide +kernel
theorem dX11_copy_11 : decode cX11_copy 11 = .ok (.istore 6, 2) := by decide +kernel
theorem dX11_copy_13 : decode cX11_copy 13 = .ok (.iload 6, 2) := by decide +kernel
theorem dX11_copy_15 : decode cX11_copy 15 = .ok (.ifCond .eq 10, 3) := by decide +kernel
theorem dX11_copy_18 : decode cX11_copy 18 = .ok (.aload_n 0, 1) := by decide +kernel
theorem dX11_copy_19 : decode cX11_copy 19 = .ok (.iload 6, 2) := by decide +kernel
theorem dX11_copy_21 : decode cX11_copy 21 = .ok (.invokevirtual 73, 3) := by decide +kernel
theorem dX11_copy_24 : decode cX11_copy 24 = .ok (.ireturn, 1) := by decide +kernel
theorem dX11_copy_25 : decode cX11_copy 25 = .ok (.aload_n 0, 1) := by decide +kernel
theorem dX11_copy_26 : decode cX11_copy 26 = .ok (.getfield 24, 3) := by decide +kernel
theorem dX11_copy_29 : decode cX11_copy 29 = .ok (.iload_n 1, 1) := by decide +kernel
theorem dX11_copy_30 : decode cX11_copy 30 = .ok (.aaload, 1) := by decide +kernel
theorem dX11_copy_31 : decode cX11_copy 31 = .ok (.getfield 95, 3) := by decide +kernel
theorem dX11_copy_34 : decode cX11_copy 34 = .ok (.iload_n 3, 1) := by decide +kernel
theorem dX11_copy_35 : decode cX11_copy 35 = .ok (.aload_n 0, 1) := by decide +kernel
theorem dX11_copy_36 : decode cX11_copy 36 = .ok (.getfield 24, 3) := by decide +kernel
theorem dX11_copy_39 : decode cX11_copy 39 = .ok (.iload_n 2, 1) := by decide +kernel
theorem dX11_copy_40 : decode cX11_copy 40 = .ok (.aaload, 1) := by decide +kernel
theorem dX11_copy_41 : decode cX11_copy 41 = .ok (.getfield 95, 3) := by decide +kernel
theorem dX11_copy_44 : decode cX11_copy 44 = .ok (.iload 4, 2) := by decide +kernel
theorem dX11_copy_46 : decode cX11_copy 46 = .ok (.iload 5, 2) := by decide +kernel
theorem dX11_copy_48 : decode cX11_copy 48 = .ok (.invokestatic 99, 3) := by decide +kernel
theorem dX11_copy_51 : decode cX11_copy 51 = .ok (.iconst 1, 1) := by decide +kernel
theorem dX11_copy_52 : decode cX11_copy 52 = .ok (.ireturn, 1) := by decide +kernel
theorem dX11_noCopy_0 : decode cX11_noCopy 0 = .ok (.aload_n 0, 1) := by decide +kernel
theorem dX11_noCopy_1 : decode cX11_noCopy 1 = .ok (.iload_n 1, 1) := by decide +kernel
theorem dX11_noCopy_2 : decode cX11_noCopy 2 = .ok (.invokevirtual 69, 3) := by decide +kernel
theorem dX11_noCopy_5 : decode cX11_noCopy 5 = .ok (.ifCond .eq 11, 3) := by decide +kernel
theorem dX11_noCopy_8 : decode cX11_noCopy 8 = .ok (.aload_n 0, 1) := by decide +kernel
theorem dX11_noCopy_9 : decode cX11_noCopy 9 = .ok (.iload_n 2, 1) := by decide +kernel
theorem dX11_noCopy_10 : decode cX11_noCopy 10 = .ok (.invokevirtual 69, 3) := by decide +kernel
theorem dX11_noCopy_13 : decode cX11_noCopy 13 = .ok (.ifCond .ne 5, 3) := by decide +kernel
theorem dX11_noCopy_16 : decode cX11_noCopy 16 = .ok (.iconst (-1), 1) := by decide +kernel
theorem dX11_noCopy_17 : decode cX11_noCopy 17 = .ok (.ireturn, 1) := by decide +kernel
theorem dX11_noCopy_18 : decode cX11_noCopy 18 = .ok (.aload_n 0, 1) := by decide +kernel
theorem dX11_noCopy_19 : decode cX11_noCopy 19 = .ok (.getfield 24, 3) := by decide +kernel
theorem dX11_noCopy_22 : decode cX11_noCopy 22 = .ok (.iload_n 1, 1) := by decide +kernel
theorem dX11_noCopy_23 : decode cX11_noCopy 23 = .ok (.aaload, 1) := by decide +kernel
theorem dX11_noCopy_24 : decode cX11_noCopy 24 = .ok (.astore 6, 2) := by decide +kernel
theorem dX11_noCopy_26 : decode cX11_noCopy 26 = .ok (.aload_n 0, 1) := by decide +kernel
theorem dX11_noCopy_27 : decode cX11_noCopy 27 = .ok (.getfield 24, 3) := by decide +kernel
theorem dX11_noCopy_30 : decode cX11_noCopy 30 = .ok (.iload_n 2, 1) := by decide +kernel
theorem dX11_noCopy_31 : decode cX11_noCopy 31 = .ok (.aaload, 1) := by decide +kernel
theorem dX11_noCopy_32 : decode cX11_noCopy 32 = .ok (.astore 7, 2) := by decide +kernel
theorem dX11_noCopy_34 : decode cX11_noCopy 34 = .ok (.aload 6, 2) := by decide +kernel
theorem dX11_noCopy_36 : decode cX11_noCopy 36 = .ok (.invokevirtual 105, 3) := by decide +kernel
theorem dX11_noCopy_39 : decode cX11_noCopy 39 = .ok (.ifCond .ne 11, 3) := by decide +kernel
theorem dX11_noCopy_42 : decode cX11_noCopy 42 = .ok (.aload 7, 2) := by decide +kernel
theorem dX11_noCopy_44 : decode cX11_noCopy 44 = .ok (.invokevirtual 105, 3) := by decide +kernel
theorem dX11_noCopy_47 : decode cX11_noCopy 47 = .ok (.ifCond .eq 6, 3) := by decide +kernel
theorem dX11_noCopy_50 : decode cX11_noCopy 50 = .ok (.bipush (-2), 2) := by decide +kernel
theorem dX11_noCopy_52 : decode cX11_noCopy 52 = .ok (.ireturn, 1) := by decide +kernel
theorem dX11_noCopy_53 : decode cX11_noCopy 53 = .ok (.aload 6, 2) := by decide +kernel
theorem dX11_noCopy_55 : decode cX11_noCopy 55 = .ok (.invokevirtual 109, 3) := by decide +kernel
theorem dX11_noCopy_58 : decode cX11_noCopy 58 = .ok (.ifCond .eq 27, 3) := by decide +kernel
theorem dX11_noCopy_61 : decode cX11_noCopy 61 = .ok (.aload 7, 2) := by decide +kernel
theorem dX11_noCopy_63 : decode cX11_noCopy 63 = .ok (.invokevirtual 109, 3) := by decide +kernel
theorem dX11_noCopy_66 : decode cX11_noCopy 66 = .ok (.ifCond .eq 19, 3) := by decide +kernel
theorem dX11_noCopy_69 : decode cX11_noCopy 69 = .ok (.aload 6, 2) := by decide +kernel
theorem dX11_noCopy_71 : decode cX11_noCopy 71 = .ok (.getfield 112, 3) := by decide +kernel
theorem dX11_noCopy_74 : decode cX11_noCopy 74 = .ok (.aload 7, 2) := by decide +kernel
theorem dX11_noCopy_76 : decode cX11_noCopy 76 = .ok (.getfield 112, 3) := by decide +kernel
theorem dX11_noCopy_79 : decode cX11_noCopy 79 = .ok (.if_icmp .eq 6, 3) := by decide +kernel
theorem dX11_noCopy_82 : decode cX11_noCopy 82 = .ok (.bipush (-2), 2) := by decide +kernel
theorem dX11_noCopy_84 : decode cX11_noCopy 84 = .ok (.ireturn, 1) := by decide +kernel
theorem dX11_noCopy_85 : decode cX11_noCopy 85 = .ok (.aload 6, 2) := by decide +kernel
theorem dX11_noCopy_87 : decode cX11_noCopy 87 = .ok (.invokevirtual 109, 3) := by decide +kernel
theorem dX11_noCopy_90 : decode cX11_noCopy 90 = .ok (.ifCond .eq 11, 3) := by decide +kernel
theorem dX11_noCopy_93 : decode cX11_noCopy 93 = .ok (.aload 7, 2) := by decide +kernel
theorem dX11_noCopy_95 : decode cX11_noCopy 95 = .ok (.invokevirtual 109, 3) := by decide +kernel
theorem dX11_noCopy_98 : decode cX11_noCopy 98 = .ok (.ifCond .ne 6, 3) := by decide +kernel
theorem dX11_noCopy_101 : decode cX11_noCopy 101 = .ok (.bipush (-3), 2) := by decide +kernel
theorem dX11_noCopy_103 : decode cX11_noCopy 103 = .ok (.ireturn, 1) := by decide +kernel
theorem dX11_noCopy_104 : decode cX11_noCopy 104 = .ok (.iload 5, 2) := by decide +kernel
theorem dX11_noCopy_106 : decode cX11_noCopy 106 = .ok (.ifCond .ge 6, 3) := by decide +kernel
theorem dX11_noCopy_109 : decode cX11_noCopy 109 = .ok (.bipush (-4), 2) := by decide +kernel
theorem dX11_noCopy_111 : decode cX11_noCopy 111 = .ok (.ireturn, 1) := by decide +kernel
theorem dX11_noCopy_112 : decode cX11_noCopy 112 = .ok (.iload_n 3, 1) := by decide +kernel
theorem dX11_noCopy_113 : decode cX11_noCopy 113 = .ok (.ifCond .lt 57, 3) := by decide +kernel
theorem dX11_noCopy_116 : decode cX11_noCopy 116 = .ok (.iload 4, 2) := by decide +kernel
theorem dX11_noCopy_118 : decode cX11_noCopy 118 = .ok (.ifCond .lt 52, 3) := by decide +kernel
theorem dX11_noCopy_121 : decode cX11_noCopy 121 = .ok (.iload 5, 2) := by decide +kernel
theorem dX11_noCopy_123 : decode cX11_noCopy 123 = .ok (.aload 6, 2) := by decide +kernel
theorem dX11_noCopy_125 : decode cX11_noCopy 125 = .ok (.getfield 115, 3) := by decide +kernel
theorem dX11_noCopy_128 : decode cX11_noCopy 128 = .ok (.if_icmp .gt 42, 3) := by decide +kernel
theorem dX11_noCopy_131 : decode cX11_noCopy 131 = .ok (.iload 5, 2) := by decide +kernel
theorem dX11_noCopy_133 : decode cX11_noCopy 133 = .ok (.aload 7, 2) := by decide +kernel
theorem dX11_noCopy_135 : decode cX11_noCopy 135 = .ok (.getfield 115, 3) := by decide +kernel
theorem dX11_noCopy_138 : decode cX11_noCopy 138 = .ok (.if_icmp .gt 32, 3) := by decide +kernel
theorem dX11_noCopy_141 : decode cX11_noCopy 141 = .ok (.iload_n 3, 1) := by decide +kernel
theorem dX11_noCopy_142 : decode cX11_noCopy 142 = .ok (.aload 6, 2) := by decide +kernel
theorem dX11_noCopy_144 : decode cX11_noCopy 144 = .ok (.getfield 115, 3) := by decide +kernel
theorem dX11_noCopy_147 : decode cX11_noCopy 147 = .ok (.iload 5, 2) := by decide +kernel
theorem dX11_noCopy_149 : decode cX11_noCopy 149 = .ok (.isub, 1) := by decide +kernel
theorem dX11_noCopy_150 : decode cX11_noCopy 150 = .ok (.if_icmp .gt 20, 3) := by decide +kernel
theorem dX11_noCopy_153 : decode cX11_noCopy 153 = .ok (.iload 4, 2) := by decide +kernel
theorem dX11_noCopy_155 : decode cX11_noCopy 155 = .ok (.aload 7, 2) := by decide +kernel
theorem dX11_noCopy_157 : decode cX11_noCopy 157 = .ok (.getfield 115, 3) := by decide +kernel
theorem dX11_noCopy_160 : decode cX11_noCopy 160 = .ok (.iload 5, 2) := by decide +kernel
theorem dX11_noCopy_162 : decode cX11_noCopy 162 = .ok (.isub, 1) := by decide +kernel
theorem dX11_noCopy_163 : decode cX11_noCopy 163 = .ok (.if_icmp .gt 7, 3) := by decide +kernel
theorem dX11_noCopy_166 : decode cX11_noCopy 166 = .ok (.iconst 1, 1) := by decide +kernel
theorem dX11_noCopy_167 : decode cX11_noCopy 167 = .ok (.goto 4, 3) := by decide +kernel
theorem dX11_noCopy_170 : decode cX11_noCopy 170 = .ok (.iconst 0, 1) := by decide +kernel
theorem dX11_noCopy_171 : decode cX11_noCopy 171 = .ok (.istore 8, 2) := by decide +kernel
theorem dX11_noCopy_173 : decode cX11_noCopy 173 = .ok (.iload 8, 2) := by decide +kernel
theorem dX11_noCopy_175 : decode cX11_noCopy 175 = .ok (.ifCond .eq 7, 3) := by decide +kernel
theorem dX11_noCopy_178 : decode cX11_noCopy 178 = .ok (.iconst 0, 1) := by decide +kernel
theorem dX11_noCopy_179 : decode cX11_noCopy 179 = .ok (.goto 5, 3) := by decide +kernel
theorem dX11_noCopy_182 : decode cX11_noCopy 182 = .ok (.bipush (-5), 2) := by decide +kernel
theorem dX11_noCopy_184 : decode cX11_noCopy 184 = .ok (.ireturn, 1) := by decide +kernel
theorem dX11_element_0 : decode cX11_element 0 = .ok (.aload_n 0, 1) := by decide +kernel
theorem dX11_element_1 : decode cX11_element 1 = .ok (.iload_n 1, 1) := by decide +kernel
theorem dX11_element_2 : decode cX11_element 2 = .ok (.invokevirtual 69, 3) := by decide +kernel
theorem dX11_element_5 : decode cX11_element 5 = .ok (.ifCond .eq 16, 3) := by decide +kernel
theorem dX11_element_8 : decode cX11_element 8 = .ok (.aload_n 0, 1) := by decide +kernel
theorem dX11_element_9 : decode cX11_element 9 = .ok (.getfield 24, 3) := by decide +kernel
theorem dX11_element_12 : decode cX11_element 12 = .ok (.iload_n 1, 1) := by decide +kernel
theorem dX11_element_13 : decode cX11_element 13 = .ok (.aaload, 1) := by decide +kernel
theorem dX11_element_14 : decode cX11_element 14 = .ok (.iload_n 2, 1) := by decide +kernel
theorem dX11_element_15 : decode cX11_element 15 = .ok (.invokevirtual 84, 3) := by decide +kernel
theorem dX11_element_18 : decode cX11_element 18 = .ok (.ifCond .ne 5, 3) := by decide +kernel
theorem dX11_element_21 : decode cX11_element 21 = .ok (.lconst 0, 1) := by decide +kernel
theorem dX11_element_22 : decode cX11_element 22 = .ok (.lreturn, 1) := by decide +kernel
theorem dX11_element_23 : decode cX11_element 23 = .ok (.aload_n 0, 1) := by decide +kernel
theorem dX11_element_24 : decode cX11_element 24 = .ok (.getfield 24, 3) := by decide +kernel
theorem dX11_element_27 : decode cX11_element 27 = .ok (.iload_n 1, 1) := by decide +kernel
theorem dX11_element_28 : decode cX11_element 28 = .ok (.aaload, 1) := by decide +kernel
theorem dX11_element_29 : decode cX11_element 29 = .ok (.getfield 95, 3) := by decide +kernel
theorem dX11_element_32 : decode cX11_element 32 = .ok (.iload_n 2, 1) := by decide +kernel
theorem dX11_element_33 : decode cX11_element 33 = .ok (.laload, 1) := by decide +kernel
theorem dX11_element_34 : decode cX11_element 34 = .ok (.lreturn, 1) := by decide +kernel
theorem dX11_show_0 : decode cX11_show 0 = .ok (.aload_n 0, 1) := by decide +kernel
theorem dX11_show_1 : decode cX11_show 1 = .ok (.iload_n 1, 1) := by decide +kernel
theorem dX11_show_2 : decode cX11_show 2 = .ok (.invokevirtual 69, 3) := by decide +kernel
theorem dX11_show_5 : decode cX11_show 5 = .ok (.ifCond .eq 16, 3) := by decide +kernel
theorem dX11_show_8 : decode cX11_show 8 = .ok (.iload_n 2, 1) := by decide +kernel
theorem dX11_show_9 : decode cX11_show 9 = .ok (.iconst (-1), 1) := by decide +kernel
theorem dX11_show_10 : decode cX11_show 10 = .ok (.if_icmp .eq 17, 3) := by decide +kernel
theorem dX11_show_13 : decode cX11_show 13 = .ok (.aload_n 0, 1) := by decide +kernel
theorem dX11_show_14 : decode cX11_show 14 = .ok (.iload_n 2, 1) := by decide +kernel
theorem dX11_show_15 : decode cX11_show 15 = .ok (.invokevirtual 118, 3) := by decide +kernel
theorem dX11_show_18 : decode cX11_show 18 = .ok (.ifCond .ne 9, 3) := by decide +kernel
theorem dX11_show_21 : decode cX11_show 21 = .ok (.aload_n 0, 1) := by decide +kernel
theorem dX11_show_22 : decode cX11_show 22 = .ok (.iconst (-1), 1) := by decide +kernel
theorem dX11_show_23 : decode cX11_show 23 = .ok (.invokevirtual 73, 3) := by decide +kernel
theorem dX11_show_26 : decode cX11_show 26 = .ok (.ireturn, 1) := by decide +kernel
theorem dX11_show_27 : decode cX11_show 27 = .ok (.aload_n 0, 1) := by decide +kernel
theorem dX11_show_28 : decode cX11_show 28 = .ok (.getfield 24, 3) := by decide +kernel
theorem dX11_show_31 : decode cX11_show 31 = .ok (.iload_n 1, 1) := by decide +kernel
theorem dX11_show_32 : decode cX11_show 32 = .ok (.aaload, 1) := by decide +kernel
theorem dX11_show_33 : decode cX11_show 33 = .ok (.iload_n 2, 1) := by decide +kernel
theorem dX11_show_34 : decode cX11_show 34 = .ok (.invokevirtual 121, 3) := by decide +kernel
theorem dX11_show_37 : decode cX11_show 37 = .ok (.iload_n 2, 1) := by decide +kernel
theorem dX11_show_38 : decode cX11_show 38 = .ok (.iconst (-1), 1) := by decide +kernel
theorem dX11_show_39 : decode cX11_show 39 = .ok (.if_icmp .ne 7, 3) := by decide +kernel
theorem dX11_show_42 : decode cX11_show 42 = .ok (.iconst 0, 1) := by decide +kernel
theorem dX11_show_43 : decode cX11_show 43 = .ok (.goto 4, 3) := by decide +kernel
theorem dX11_show_46 : decode cX11_show 46 = .ok (.iconst 1, 1) := by decide +kernel
theorem dX11_show_47 : decode cX11_show 47 = .ok (.ireturn, 1) := by decide +kernel
theorem dX11_holds_0 : decode cX11_holds 0 = .ok (.aload_n 0, 1) := by decide +kernel
theorem dX11_holds_1 : decode cX11_holds 1 = .ok (.iload_n 1, 1) := by decide +kernel
theorem dX11_holds_2 : decode cX11_holds 2 = .ok (.invokevirtual 69, 3) := by decide +kernel
theorem dX11_holds_5 : decode cX11_holds 5 = .ok (.ifCond .eq 15, 3) := by decide +kernel
theorem dX11_holds_8 : decode cX11_holds 8 = .ok (.aload_n 0, 1) := by decide +kernel
theorem dX11_holds_9 : decode cX11_holds 9 = .ok (.getfield 24, 3) := by decide +kernel
theorem dX11_holds_12 : decode cX11_holds 12 = .ok (.iload_n 1, 1) := by decide +kernel
theorem dX11_holds_13 : decode cX11_holds 13 = .ok (.aaload, 1) := by decide +kernel
theorem dX11_holds_14 : decode cX11_holds 14 = .ok (.getfield 112, 3) := by decide +kernel
theorem dX11_holds_17 : decode cX11_holds 17 = .ok (.goto 4, 3) := by decide +kernel
theorem dX11_holds_20 : decode cX11_holds 20 = .ok (.iconst (-1), 1) := by decide +kernel
theorem dX11_holds_21 : decode cX11_holds 21 = .ok (.ireturn, 1) := by decide +kernel
theorem dX11_says_0 : decode cX11_says 0 = .ok (.aload_n 0, 1) := by decide +kernel
theorem dX11_says_1 : decode cX11_says 1 = .ok (.iload_n 1, 1) := by decide +kernel
theorem dX11_says_2 : decode cX11_says 2 = .ok (.invokevirtual 69, 3) := by decide +kernel
theorem dX11_says_5 : decode cX11_says 5 = .ok (.ifCond .eq 13, 3) := by decide +kernel
theorem dX11_says_8 : decode cX11_says 8 = .ok (.iload_n 2, 1) := by decide +kernel
theorem dX11_says_9 : decode cX11_says 9 = .ok (.ifCond .lt 9, 3) := by decide +kernel
theorem dX11_says_12 : decode cX11_says 12 = .ok (.iload_n 2, 1) := by decide +kernel
theorem dX11_says_13 : decode cX11_says 13 = .ok (.bipush 7, 2) := by decide +kernel
theorem dX11_says_15 : decode cX11_says 15 = .ok (.if_icmp .lt 9, 3) := by decide +kernel
theorem dX11_says_18 : decode cX11_says 18 = .ok (.aload_n 0, 1) := by decide +kernel
theorem dX11_says_19 : decode cX11_says 19 = .ok (.iconst (-1), 1) := by decide +kernel
theorem dX11_says_20 : decode cX11_says 20 = .ok (.invokevirtual 73, 3) := by decide +kernel
theorem dX11_says_23 : decode cX11_says 23 = .ok (.ireturn, 1) := by decide +kernel
theorem dX11_says_24 : decode cX11_says 24 = .ok (.aload_n 0, 1) := by decide +kernel
theorem dX11_says_25 : decode cX11_says 25 = .ok (.getfield 24, 3) := by decide +kernel
theorem dX11_says_28 : decode cX11_says 28 = .ok (.iload_n 1, 1) := by decide +kernel
theorem dX11_says_29 : decode cX11_says 29 = .ok (.aaload, 1) := by decide +kernel
theorem dX11_says_30 : decode cX11_says 30 = .ok (.getfield 112, 3) := by decide +kernel
theorem dX11_says_33 : decode cX11_says 33 = .ok (.istore_n 3, 1) := by decide +kernel
theorem dX11_says_34 : decode cX11_says 34 = .ok (.iload_n 3, 1) := by decide +kernel
theorem dX11_says_35 : decode cX11_says 35 = .ok (.iconst (-1), 1) := by decide +kernel
theorem dX11_says_36 : decode cX11_says 36 = .ok (.if_icmp .ne 10, 3) := by decide +kernel
theorem dX11_says_39 : decode cX11_says 39 = .ok (.aload_n 0, 1) := by decide +kernel
theorem dX11_says_40 : decode cX11_says 40 = .ok (.bipush (-3), 2) := by decide +kernel
theorem dX11_says_42 : decode cX11_says 42 = .ok (.invokevirtual 73, 3) := by decide +kernel
theorem dX11_says_45 : decode cX11_says 45 = .ok (.ireturn, 1) := by decide +kernel
theorem dX11_says_46 : decode cX11_says 46 = .ok (.aload_n 0, 1) := by decide +kernel
theorem dX11_says_47 : decode cX11_says 47 = .ok (.iload_n 3, 1) := by decide +kernel
theorem dX11_says_48 : decode cX11_says 48 = .ok (.invokevirtual 118, 3) := by decide +kernel
theorem dX11_says_51 : decode cX11_says 51 = .ok (.ifCond .eq 19, 3) := by decide +kernel
theorem dX11_says_54 : decode cX11_says 54 = .ok (.aload_n 0, 1) := by decide +kernel
theorem dX11_says_55 : decode cX11_says 55 = .ok (.getfield 11, 3) := by decide +kernel
theorem dX11_says_58 : decode cX11_says 58 = .ok (.iload_n 3, 1) := by decide +kernel
theorem dX11_says_59 : decode cX11_says 59 = .ok (.aaload, 1) := by decide +kernel
theorem dX11_says_60 : decode cX11_says 60 = .ok (.getfield 124, 3) := by decide +kernel
theorem dX11_says_63 : decode cX11_says 63 = .ok (.iload_n 2, 1) := by decide +kernel
theorem dX11_says_64 : decode cX11_says 64 = .ok (.invokestatic 127, 3) := by decide +kernel
theorem dX11_says_67 : decode cX11_says 67 = .ok (.ifCond .ne 10, 3) := by decide +kernel
theorem dX11_says_70 : decode cX11_says 70 = .ok (.aload_n 0, 1) := by decide +kernel
theorem dX11_says_71 : decode cX11_says 71 = .ok (.bipush (-2), 2) := by decide +kernel
theorem dX11_says_73 : decode cX11_says 73 = .ok (.invokevirtual 73, 3) := by decide +kernel
theorem dX11_says_76 : decode cX11_says 76 = .ok (.ireturn, 1) := by decide +kernel
theorem dX11_says_77 : decode cX11_says 77 = .ok (.aload_n 0, 1) := by decide +kernel
theorem dX11_says_78 : decode cX11_says 78 = .ok (.getfield 11, 3) := by decide +kernel
theorem dX11_says_81 : decode cX11_says 81 = .ok (.iload_n 3, 1) := by decide +kernel
theorem dX11_says_82 : decode cX11_says 82 = .ok (.aaload, 1) := by decide +kernel
theorem dX11_says_83 : decode cX11_says 83 = .ok (.iload_n 2, 1) := by decide +kernel
theorem dX11_says_84 : decode cX11_says 84 = .ok (.invokestatic 131, 3) := by decide +kernel
theorem dX11_says_87 : decode cX11_says 87 = .ok (.ireturn, 1) := by decide +kernel
theorem dX11_saysAs_0 : decode cX11_saysAs 0 = .ok (.iload_n 1, 1) := by decide +kernel
theorem dX11_saysAs_1 : decode cX11_saysAs 1 = .ok (.tableswitch 67 0 4 #[35, 40, 47, 57, 57], 35) := by decide +kernel
theorem dX11_saysAs_36 : decode cX11_saysAs 36 = .ok (.aload_n 0, 1) := by decide +kernel
theorem dX11_saysAs_37 : decode cX11_saysAs 37 = .ok (.getfield 135, 3) := by decide +kernel
theorem dX11_saysAs_40 : decode cX11_saysAs 40 = .ok (.ireturn, 1) := by decide +kernel
theorem dX11_saysAs_41 : decode cX11_saysAs 41 = .ok (.aload_n 0, 1) := by decide +kernel
theorem dX11_saysAs_42 : decode cX11_saysAs 42 = .ok (.getfield 138, 3) := by decide +kernel
theorem dX11_saysAs_45 : decode cX11_saysAs 45 = .ok (.iconst 2, 1) := by decide +kernel
theorem dX11_saysAs_46 : decode cX11_saysAs 46 = .ok (.irem, 1) := by decide +kernel
theorem dX11_saysAs_47 : decode cX11_saysAs 47 = .ok (.ireturn, 1) := by decide +kernel
theorem dX11_saysAs_48 : decode cX11_saysAs 48 = .ok (.aload_n 0, 1) := by decide +kernel
theorem dX11_saysAs_49 : decode cX11_saysAs 49 = .ok (.invokevirtual 141, 3) := by decide +kernel
theorem dX11_saysAs_52 : decode cX11_saysAs 52 = .ok (.ldc2_w 145, 3) := by decide +kernel
theorem dX11_saysAs_55 : decode cX11_saysAs 55 = .ok (.lrem, 1) := by decide +kernel
theorem dX11_saysAs_56 : decode cX11_saysAs 56 = .ok (.l2i, 1) := by decide +kernel
theorem dX11_saysAs_57 : decode cX11_saysAs 57 = .ok (.ireturn, 1) := by decide +kernel
theorem dX11_saysAs_58 : decode cX11_saysAs 58 = .ok (.aload_n 0, 1) := by decide +kernel
theorem dX11_saysAs_59 : decode cX11_saysAs 59 = .ok (.invokevirtual 147, 3) := by decide +kernel
theorem dX11_saysAs_62 : decode cX11_saysAs 62 = .ok (.ldc2_w 145, 3) := by decide +kernel
theorem dX11_saysAs_65 : decode cX11_saysAs 65 = .ok (.lrem, 1) := by decide +kernel
theorem dX11_saysAs_66 : decode cX11_saysAs 66 = .ok (.l2i, 1) := by decide +kernel
theorem dX11_saysAs_67 : decode cX11_saysAs 67 = .ok (.ireturn, 1) := by decide +kernel
theorem dX11_saysAs_68 : decode cX11_saysAs 68 = .ok (.aload_n 0, 1) := by decide +kernel
theorem dX11_saysAs_69 : decode cX11_saysAs 69 = .ok (.lconst 1, 1) := by decide +kernel
theorem dX11_saysAs_70 : decode cX11_saysAs 70 = .ok (.invokevirtual 150, 3) := by decide +kernel
theorem dX11_saysAs_73 : decode cX11_saysAs 73 = .ok (.ireturn, 1) := by decide +kernel
theorem dX11_isUnder_0 : decode cX11_isUnder 0 = .ok (.iload_n 0, 1) := by decide +kernel
theorem dX11_isUnder_1 : decode cX11_isUnder 1 = .ok (.istore_n 2, 1) := by decide +kernel
theorem dX11_isUnder_2 : decode cX11_isUnder 2 = .ok (.iconst 0, 1) := by decide +kernel
theorem dX11_isUnder_3 : decode cX11_isUnder 3 = .ok (.istore_n 3, 1) := by decide +kernel
theorem dX11_isUnder_4 : decode cX11_isUnder 4 = .ok (.iload_n 3, 1) := by decide +kernel
theorem dX11_isUnder_5 : decode cX11_isUnder 5 = .ok (.bipush 7, 2) := by decide +kernel
theorem dX11_isUnder_7 : decode cX11_isUnder 7 = .ok (.if_icmp .ge 32, 3) := by decide +kernel
theorem dX11_isUnder_10 : decode cX11_isUnder 10 = .ok (.iload_n 2, 1) := by decide +kernel
theorem dX11_isUnder_11 : decode cX11_isUnder 11 = .ok (.ifCond .lt 28, 3) := by decide +kernel
theorem dX11_isUnder_14 : decode cX11_isUnder 14 = .ok (.iload_n 2, 1) := by decide +kernel
theorem dX11_isUnder_15 : decode cX11_isUnder 15 = .ok (.bipush 7, 2) := by decide +kernel
theorem dX11_isUnder_17 : decode cX11_isUnder 17 = .ok (.if_icmp .ge 22, 3) := by decide +kernel
theorem dX11_isUnder_20 : decode cX11_isUnder 20 = .ok (.iload_n 2, 1) := by decide +kernel
theorem dX11_isUnder_21 : decode cX11_isUnder 21 = .ok (.iload_n 1, 1) := by decide +kernel
theorem dX11_isUnder_22 : decode cX11_isUnder 22 = .ok (.if_icmp .ne 5, 3) := by decide +kernel
theorem dX11_isUnder_25 : decode cX11_isUnder 25 = .ok (.iconst 1, 1) := by decide +kernel
theorem dX11_isUnder_26 : decode cX11_isUnder 26 = .ok (.ireturn, 1) := by decide +kernel
theorem dX11_isUnder_27 : decode cX11_isUnder 27 = .ok (.getstatic 154, 3) := by decide +kernel
theorem dX11_isUnder_30 : decode cX11_isUnder 30 = .ok (.iload_n 2, 1) := by decide +kernel
theorem dX11_isUnder_31 : decode cX11_isUnder 31 = .ok (.iaload, 1) := by decide +kernel
theorem dX11_isUnder_32 : decode cX11_isUnder 32 = .ok (.istore_n 2, 1) := by decide +kernel
theorem dX11_isUnder_33 : decode cX11_isUnder 33 = .ok (.iinc 3 1, 3) := by decide +kernel
theorem dX11_isUnder_36 : decode cX11_isUnder 36 = .ok (.goto (-32), 3) := by decide +kernel
theorem dX11_isUnder_39 : decode cX11_isUnder 39 = .ok (.iconst 0, 1) := by decide +kernel
theorem dX11_isUnder_40 : decode cX11_isUnder 40 = .ok (.ireturn, 1) := by decide +kernel
theorem dX11_strip_0 : decode cX11_strip 0 = .ok (.aload_n 0, 1) := by decide +kernel
theorem dX11_strip_1 : decode cX11_strip 1 = .ok (.iload_n 1, 1) := by decide +kernel
theorem dX11_strip_2 : decode cX11_strip 2 = .ok (.iload_n 2, 1) := by decide +kernel
theorem dX11_strip_3 : decode cX11_strip 3 = .ok (.iload_n 3, 1) := by decide +kernel
theorem dX11_strip_4 : decode cX11_strip 4 = .ok (.iload 4, 2) := by decide +kernel
theorem dX11_strip_6 : decode cX11_strip 6 = .ok (.invokevirtual 157, 3) := by decide +kernel
theorem dX11_strip_9 : decode cX11_strip 9 = .ok (.istore 5, 2) := by decide +kernel
theorem dX11_strip_11 : decode cX11_strip 11 = .ok (.iload 5, 2) := by decide +kernel
theorem dX11_strip_13 : decode cX11_strip 13 = .ok (.ifCond .eq 10, 3) := by decide +kernel
theorem dX11_strip_16 : decode cX11_strip 16 = .ok (.aload_n 0, 1) := by decide +kernel
theorem dX11_strip_17 : decode cX11_strip 17 = .ok (.iload 5, 2) := by decide +kernel
theorem dX11_strip_19 : decode cX11_strip 19 = .ok (.invokevirtual 73, 3) := by decide +kernel
theorem dX11_strip_22 : decode cX11_strip 22 = .ok (.ireturn, 1) := by decide +kernel
theorem dX11_strip_23 : decode cX11_strip 23 = .ok (.lconst 0, 1) := by decide +kernel
theorem dX11_strip_24 : decode cX11_strip 24 = .ok (.lstore 6, 2) := by decide +kernel
theorem dX11_strip_26 : decode cX11_strip 26 = .ok (.iconst 0, 1) := by decide +kernel
theorem dX11_strip_27 : decode cX11_strip 27 = .ok (.istore 8, 2) := by decide +kernel
theorem dX11_strip_29 : decode cX11_strip 29 = .ok (.iload 8, 2) := by decide +kernel
theorem dX11_strip_31 : decode cX11_strip 31 = .ok (.iload 4, 2) := by decide +kernel
theorem dX11_strip_33 : decode cX11_strip 33 = .ok (.if_icmp .ge 31, 3) := by decide +kernel
theorem dX11_strip_36 : decode cX11_strip 36 = .ok (.lload 6, 2) := by decide +kernel
theorem dX11_strip_38 : decode cX11_strip 38 = .ok (.aload_n 0, 1) := by decide +kernel
theorem dX11_strip_39 : decode cX11_strip 39 = .ok (.getfield 24, 3) := by decide +kernel
theorem dX11_strip_42 : decode cX11_strip 42 = .ok (.iload_n 3, 1) := by decide +kernel
theorem dX11_strip_43 : decode cX11_strip 43 = .ok (.aaload, 1) := by decide +kernel
theorem dX11_strip_44 : decode cX11_strip 44 = .ok (.iload 8, 2) := by decide +kernel
theorem dX11_strip_46 : decode cX11_strip 46 = .ok (.invokevirtual 161, 3) := by decide +kernel
theorem dX11_strip_49 : decode cX11_strip 49 = .ok (.i2l, 1) := by decide +kernel
theorem dX11_strip_50 : decode cX11_strip 50 = .ok (.lconst 1, 1) := by decide +kernel
theorem dX11_strip_51 : decode cX11_strip 51 = .ok (.land, 1) := by decide +kernel
theorem dX11_strip_52 : decode cX11_strip 52 = .ok (.iload 8, 2) := by decide +kernel
theorem dX11_strip_54 : decode cX11_strip 54 = .ok (.lshl, 1) := by decide +kernel
theorem dX11_strip_55 : decode cX11_strip 55 = .ok (.lor, 1) := by decide +kernel
theorem dX11_strip_56 : decode cX11_strip 56 = .ok (.lstore 6, 2) := by decide +kernel
theorem dX11_strip_58 : decode cX11_strip 58 = .ok (.iinc 8 1, 3) := by decide +kernel
theorem dX11_strip_61 : decode cX11_strip 61 = .ok (.goto (-32), 3) := by decide +kernel
theorem dX11_strip_64 : decode cX11_strip 64 = .ok (.aload_n 0, 1) := by decide +kernel
theorem dX11_strip_65 : decode cX11_strip 65 = .ok (.getfield 11, 3) := by decide +kernel
theorem dX11_strip_68 : decode cX11_strip 68 = .ok (.aload_n 0, 1) := by decide +kernel
theorem dX11_strip_69 : decode cX11_strip 69 = .ok (.getfield 164, 3) := by decide +kernel
theorem dX11_strip_72 : decode cX11_strip 72 = .ok (.iload_n 1, 1) := by decide +kernel
theorem dX11_strip_73 : decode cX11_strip 73 = .ok (.aload_n 0, 1) := by decide +kernel
theorem dX11_strip_74 : decode cX11_strip 74 = .ok (.getfield 164, 3) := by decide +kernel
theorem dX11_strip_77 : decode cX11_strip 77 = .ok (.iload_n 2, 1) := by decide +kernel
theorem dX11_strip_78 : decode cX11_strip 78 = .ok (.iload 4, 2) := by decide +kernel
theorem dX11_strip_80 : decode cX11_strip 80 = .ok (.lload 6, 2) := by decide +kernel
theorem dX11_strip_82 : decode cX11_strip 82 = .ok (.invokestatic 167, 3) := by decide +kernel
theorem dX11_strip_85 : decode cX11_strip 85 = .ok (.aastore, 1) := by decide +kernel
theorem dX11_strip_86 : decode cX11_strip 86 = .ok (.aload_n 0, 1) := by decide +kernel
theorem dX11_strip_87 : decode cX11_strip 87 = .ok (.dup, 1) := by decide +kernel
theorem dX11_strip_88 : decode cX11_strip 88 = .ok (.getfield 164, 3) := by decide +kernel
theorem dX11_strip_91 : decode cX11_strip 91 = .ok (.iconst 1, 1) := by decide +kernel
theorem dX11_strip_92 : decode cX11_strip 92 = .ok (.iadd, 1) := by decide +kernel
theorem dX11_strip_93 : decode cX11_strip 93 = .ok (.putfield 164, 3) := by decide +kernel
theorem dX11_strip_96 : decode cX11_strip 96 = .ok (.aload_n 0, 1) := by decide +kernel
theorem dX11_strip_97 : decode cX11_strip 97 = .ok (.getfield 164, 3) := by decide +kernel
theorem dX11_strip_100 : decode cX11_strip 100 = .ok (.iconst 1, 1) := by decide +kernel
theorem dX11_strip_101 : decode cX11_strip 101 = .ok (.isub, 1) := by decide +kernel
theorem dX11_strip_102 : decode cX11_strip 102 = .ok (.ireturn, 1) := by decide +kernel
theorem dX11_noStrip_0 : decode cX11_noStrip 0 = .ok (.iload_n 1, 1) := by decide +kernel
theorem dX11_noStrip_1 : decode cX11_noStrip 1 = .ok (.ifCond .lt 9, 3) := by decide +kernel
theorem dX11_noStrip_4 : decode cX11_noStrip 4 = .ok (.iload_n 1, 1) := by decide +kernel
theorem dX11_noStrip_5 : decode cX11_noStrip 5 = .ok (.bipush 7, 2) := by decide +kernel
theorem dX11_noStrip_7 : decode cX11_noStrip 7 = .ok (.if_icmp .lt 5, 3) := by decide +kernel
theorem dX11_noStrip_10 : decode cX11_noStrip 10 = .ok (.iconst (-1), 1) := by decide +kernel
theorem dX11_noStrip_11 : decode cX11_noStrip 11 = .ok (.ireturn, 1) := by decide +kernel
theorem dX11_noStrip_12 : decode cX11_noStrip 12 = .ok (.aload_n 0, 1) := by decide +kernel
theorem dX11_noStrip_13 : decode cX11_noStrip 13 = .ok (.iload_n 3, 1) := by decide +kernel
theorem dX11_noStrip_14 : decode cX11_noStrip 14 = .ok (.iload 4, 2) := by decide +kernel
theorem dX11_noStrip_16 : decode cX11_noStrip 16 = .ok (.invokevirtual 171, 3) := by decide +kernel
theorem dX11_noStrip_19 : decode cX11_noStrip 19 = .ok (.istore 5, 2) := by decide +kernel
theorem dX11_noStrip_21 : decode cX11_noStrip 21 = .ok (.iload 5, 2) := by decide +kernel
theorem dX11_noStrip_23 : decode cX11_noStrip 23 = .ok (.ifCond .eq 6, 3) := by decide +kernel
theorem dX11_noStrip_26 : decode cX11_noStrip 26 = .ok (.iload 5, 2) := by decide +kernel
theorem dX11_noStrip_28 : decode cX11_noStrip 28 = .ok (.ireturn, 1) := by decide +kernel
theorem dX11_noStrip_29 : decode cX11_noStrip 29 = .ok (.iload 4, 2) := by decide +kernel
theorem dX11_noStrip_31 : decode cX11_noStrip 31 = .ok (.iconst 1, 1) := by decide +kernel
theorem dX11_noStrip_32 : decode cX11_noStrip 32 = .ok (.if_icmp .lt 22, 3) := by decide +kernel
theorem dX11_noStrip_35 : decode cX11_noStrip 35 = .ok (.iload 4, 2) := by decide +kernel
theorem dX11_noStrip_37 : decode cX11_noStrip 37 = .ok (.iload_n 1, 1) := by decide +kernel
theorem dX11_noStrip_38 : decode cX11_noStrip 38 = .ok (.invokestatic 175, 3) := by decide +kernel
theorem dX11_noStrip_41 : decode cX11_noStrip 41 = .ok (.if_icmp .gt 13, 3) := by decide +kernel
theorem dX11_noStrip_44 : decode cX11_noStrip 44 = .ok (.iload_n 2, 1) := by decide +kernel
theorem dX11_noStrip_45 : decode cX11_noStrip 45 = .ok (.ifCond .lt 9, 3) := by decide +kernel
theorem dX11_noStrip_48 : decode cX11_noStrip 48 = .ok (.iload_n 2, 1) := by decide +kernel
theorem dX11_noStrip_49 : decode cX11_noStrip 49 = .ok (.ldc 178, 2) := by decide +kernel
theorem dX11_noStrip_51 : decode cX11_noStrip 51 = .ok (.if_icmp .le 6, 3) := by decide +kernel
theorem dX11_noStrip_54 : decode cX11_noStrip 54 = .ok (.bipush (-6), 2) := by decide +kernel
theorem dX11_noStrip_56 : decode cX11_noStrip 56 = .ok (.ireturn, 1) := by decide +kernel
theorem dX11_noStrip_57 : decode cX11_noStrip 57 = .ok (.aload_n 0, 1) := by decide +kernel
theorem dX11_noStrip_58 : decode cX11_noStrip 58 = .ok (.getfield 164, 3) := by decide +kernel
theorem dX11_noStrip_61 : decode cX11_noStrip 61 = .ok (.bipush 8, 2) := by decide +kernel
theorem dX11_noStrip_63 : decode cX11_noStrip 63 = .ok (.if_icmp .lt 8, 3) := by decide +kernel
theorem dX11_noStrip_66 : decode cX11_noStrip 66 = .ok (.bipush (-7), 2) := by decide +kernel
theorem dX11_noStrip_68 : decode cX11_noStrip 68 = .ok (.goto 4, 3) := by decide +kernel
theorem dX11_noStrip_71 : decode cX11_noStrip 71 = .ok (.iconst 0, 1) := by decide +kernel
theorem dX11_noStrip_72 : decode cX11_noStrip 72 = .ok (.ireturn, 1) := by decide +kernel
theorem dX11_mostLevels_0 : decode cX11_mostLevels 0 = .ok (.iload_n 0, 1) := by decide +kernel
theorem dX11_mostLevels_1 : decode cX11_mostLevels 1 = .ok (.iconst 2, 1) := by decide +kernel
theorem dX11_mostLevels_2 : decode cX11_mostLevels 2 = .ok (.if_icmp .ne 8, 3) := by decide +kernel
theorem dX11_mostLevels_5 : decode cX11_mostLevels 5 = .ok (.bipush 25, 2) := by decide +kernel
theorem dX11_mostLevels_7 : decode cX11_mostLevels 7 = .ok (.goto 5, 3) := by decide +kernel
theorem dX11_mostLevels_10 : decode cX11_mostLevels 10 = .ok (.bipush 40, 2) := by decide +kernel
theorem dX11_mostLevels_12 : decode cX11_mostLevels 12 = .ok (.ireturn, 1) := by decide +kernel
theorem dX11_stripOf_0 : decode cX11_stripOf 0 = .ok (.aload_n 0, 1) := by decide +kernel
theorem dX11_stripOf_1 : decode cX11_stripOf 1 = .ok (.iload_n 1, 1) := by decide +kernel
theorem dX11_stripOf_2 : decode cX11_stripOf 2 = .ok (.invokevirtual 118, 3) := by decide +kernel
theorem dX11_stripOf_5 : decode cX11_stripOf 5 = .ok (.ifCond .eq 65, 3) := by decide +kernel
theorem dX11_stripOf_8 : decode cX11_stripOf 8 = .ok (.aload_n 0, 1) := by decide +kernel
theorem dX11_stripOf_9 : decode cX11_stripOf 9 = .ok (.getfield 11, 3) := by decide +kernel
theorem dX11_stripOf_12 : decode cX11_stripOf 12 = .ok (.iload_n 1, 1) := by decide +kernel
theorem dX11_stripOf_13 : decode cX11_stripOf 13 = .ok (.aaload, 1) := by decide +kernel
theorem dX11_stripOf_14 : decode cX11_stripOf 14 = .ok (.astore_n 3, 1) := by decide +kernel
theorem dX11_stripOf_15 : decode cX11_stripOf 15 = .ok (.iload_n 2, 1) := by decide +kernel
theorem dX11_stripOf_16 : decode cX11_stripOf 16 = .ok (.ifCond .ne 8, 3) := by decide +kernel
theorem dX11_stripOf_19 : decode cX11_stripOf 19 = .ok (.aload_n 3, 1) := by decide +kernel
theorem dX11_stripOf_20 : decode cX11_stripOf 20 = .ok (.getfield 124, 3) := by decide +kernel
theorem dX11_stripOf_23 : decode cX11_stripOf 23 = .ok (.ireturn, 1) := by decide +kernel
theorem dX11_stripOf_24 : decode cX11_stripOf 24 = .ok (.iload_n 2, 1) := by decide +kernel
theorem dX11_stripOf_25 : decode cX11_stripOf 25 = .ok (.iconst 1, 1) := by decide +kernel
theorem dX11_stripOf_26 : decode cX11_stripOf 26 = .ok (.if_icmp .ne 8, 3) := by decide +kernel
theorem dX11_stripOf_29 : decode cX11_stripOf 29 = .ok (.aload_n 3, 1) := by decide +kernel
theorem dX11_stripOf_30 : decode cX11_stripOf 30 = .ok (.getfield 138, 3) := by decide +kernel
theorem dX11_stripOf_33 : decode cX11_stripOf 33 = .ok (.ireturn, 1) := by decide +kernel
theorem dX11_stripOf_34 : decode cX11_stripOf 34 = .ok (.iload_n 2, 1) := by decide +kernel
theorem dX11_stripOf_35 : decode cX11_stripOf 35 = .ok (.iconst 2, 1) := by decide +kernel
theorem dX11_stripOf_36 : decode cX11_stripOf 36 = .ok (.if_icmp .ne 8, 3) := by decide +kernel
theorem dX11_stripOf_39 : decode cX11_stripOf 39 = .ok (.aload_n 3, 1) := by decide +kernel
theorem dX11_stripOf_40 : decode cX11_stripOf 40 = .ok (.getfield 135, 3) := by decide +kernel
theorem dX11_stripOf_43 : decode cX11_stripOf 43 = .ok (.ireturn, 1) := by decide +kernel
theorem dX11_stripOf_44 : decode cX11_stripOf 44 = .ok (.iload_n 2, 1) := by decide +kernel
theorem dX11_stripOf_45 : decode cX11_stripOf 45 = .ok (.bipush 10, 2) := by decide +kernel
theorem dX11_stripOf_47 : decode cX11_stripOf 47 = .ok (.if_icmp .lt 23, 3) := by decide +kernel
theorem dX11_stripOf_50 : decode cX11_stripOf 50 = .ok (.iload_n 2, 1) := by decide +kernel
theorem dX11_stripOf_51 : decode cX11_stripOf 51 = .ok (.bipush 10, 2) := by decide +kernel
theorem dX11_stripOf_53 : decode cX11_stripOf 53 = .ok (.isub, 1) := by decide +kernel
theorem dX11_stripOf_54 : decode cX11_stripOf 54 = .ok (.aload_n 3, 1) := by decide +kernel
theorem dX11_stripOf_55 : decode cX11_stripOf 55 = .ok (.getfield 135, 3) := by decide +kernel
theorem dX11_stripOf_58 : decode cX11_stripOf 58 = .ok (.if_icmp .ge 12, 3) := by decide +kernel
theorem dX11_stripOf_61 : decode cX11_stripOf 61 = .ok (.aload_n 3, 1) := by decide +kernel
theorem dX11_stripOf_62 : decode cX11_stripOf 62 = .ok (.iload_n 2, 1) := by decide +kernel
theorem dX11_stripOf_63 : decode cX11_stripOf 63 = .ok (.bipush 10, 2) := by decide +kernel
theorem dX11_stripOf_65 : decode cX11_stripOf 65 = .ok (.isub, 1) := by decide +kernel
theorem dX11_stripOf_66 : decode cX11_stripOf 66 = .ok (.invokevirtual 179, 3) := by decide +kernel
theorem dX11_stripOf_69 : decode cX11_stripOf 69 = .ok (.ireturn, 1) := by decide +kernel
theorem dX11_stripOf_70 : decode cX11_stripOf 70 = .ok (.aload_n 0, 1) := by decide +kernel
theorem dX11_stripOf_71 : decode cX11_stripOf 71 = .ok (.bipush (-5), 2) := by decide +kernel
theorem dX11_stripOf_73 : decode cX11_stripOf 73 = .ok (.invokevirtual 73, 3) := by decide +kernel
theorem dX11_stripOf_76 : decode cX11_stripOf 76 = .ok (.ireturn, 1) := by decide +kernel
theorem dX11_turn_0 : decode cX11_turn 0 = .ok (.aload_n 0, 1) := by decide +kernel
theorem dX11_turn_1 : decode cX11_turn 1 = .ok (.iload_n 1, 1) := by decide +kernel
theorem dX11_turn_2 : decode cX11_turn 2 = .ok (.invokevirtual 118, 3) := by decide +kernel
theorem dX11_turn_5 : decode cX11_turn 5 = .ok (.ifCond .ne 9, 3) := by decide +kernel
theorem dX11_turn_8 : decode cX11_turn 8 = .ok (.aload_n 0, 1) := by decide +kernel
theorem dX11_turn_9 : decode cX11_turn 9 = .ok (.iconst (-1), 1) := by decide +kernel
theorem dX11_turn_10 : decode cX11_turn 10 = .ok (.invokevirtual 73, 3) := by decide +kernel
theorem dX11_turn_13 : decode cX11_turn 13 = .ok (.ireturn, 1) := by decide +kernel
theorem dX11_turn_14 : decode cX11_turn 14 = .ok (.aload_n 0, 1) := by decide +kernel
theorem dX11_turn_15 : decode cX11_turn 15 = .ok (.getfield 11, 3) := by decide +kernel
theorem dX11_turn_18 : decode cX11_turn 18 = .ok (.iload_n 1, 1) := by decide +kernel
theorem dX11_turn_19 : decode cX11_turn 19 = .ok (.aaload, 1) := by decide +kernel
theorem dX11_turn_20 : decode cX11_turn 20 = .ok (.astore_n 3, 1) := by decide +kernel
theorem dX11_turn_21 : decode cX11_turn 21 = .ok (.iload_n 2, 1) := by decide +kernel
theorem dX11_turn_22 : decode cX11_turn 22 = .ok (.ifCond .lt 11, 3) := by decide +kernel
theorem dX11_turn_25 : decode cX11_turn 25 = .ok (.iload_n 2, 1) := by decide +kernel
theorem dX11_turn_26 : decode cX11_turn 26 = .ok (.aload_n 3, 1) := by decide +kernel
theorem dX11_turn_27 : decode cX11_turn 27 = .ok (.getfield 135, 3) := by decide +kernel
theorem dX11_turn_30 : decode cX11_turn 30 = .ok (.if_icmp .lt 10, 3) := by decide +kernel
theorem dX11_turn_33 : decode cX11_turn 33 = .ok (.aload_n 0, 1) := by decide +kernel
theorem dX11_turn_34 : decode cX11_turn 34 = .ok (.bipush (-5), 2) := by decide +kernel
theorem dX11_turn_36 : decode cX11_turn 36 = .ok (.invokevirtual 73, 3) := by decide +kernel
theorem dX11_turn_39 : decode cX11_turn 39 = .ok (.ireturn, 1) := by decide +kernel
theorem dX11_turn_40 : decode cX11_turn 40 = .ok (.aload_n 0, 1) := by decide +kernel
theorem dX11_turn_41 : decode cX11_turn 41 = .ok (.getfield 11, 3) := by decide +kernel
theorem dX11_turn_44 : decode cX11_turn 44 = .ok (.iload_n 1, 1) := by decide +kernel
theorem dX11_turn_45 : decode cX11_turn 45 = .ok (.aload_n 3, 1) := by decide +kernel
theorem dX11_turn_46 : decode cX11_turn 46 = .ok (.getfield 124, 3) := by decide +kernel
theorem dX11_turn_49 : decode cX11_turn 49 = .ok (.iload_n 1, 1) := by decide +kernel
theorem dX11_turn_50 : decode cX11_turn 50 = .ok (.aload_n 3, 1) := by decide +kernel
theorem dX11_turn_51 : decode cX11_turn 51 = .ok (.getfield 138, 3) := by decide +kernel
theorem dX11_turn_54 : decode cX11_turn 54 = .ok (.aload_n 3, 1) := by decide +kernel
theorem dX11_turn_55 : decode cX11_turn 55 = .ok (.getfield 135, 3) := by decide +kernel
theorem dX11_turn_58 : decode cX11_turn 58 = .ok (.aload_n 3, 1) := by decide +kernel
theorem dX11_turn_59 : decode cX11_turn 59 = .ok (.getfield 182, 3) := by decide +kernel
theorem dX11_turn_62 : decode cX11_turn 62 = .ok (.lconst 1, 1) := by decide +kernel
theorem dX11_turn_63 : decode cX11_turn 63 = .ok (.iload_n 2, 1) := by decide +kernel
theorem dX11_turn_64 : decode cX11_turn 64 = .ok (.lshl, 1) := by decide +kernel
theorem dX11_turn_65 : decode cX11_turn 65 = .ok (.lxor, 1) := by decide +kernel
theorem dX11_turn_66 : decode cX11_turn 66 = .ok (.invokestatic 167, 3) := by decide +kernel
theorem dX11_turn_69 : decode cX11_turn 69 = .ok (.aastore, 1) := by decide +kernel
theorem dX11_turn_70 : decode cX11_turn 70 = .ok (.aload_n 3, 1) := by decide +kernel
theorem dX11_turn_71 : decode cX11_turn 71 = .ok (.iload_n 2, 1) := by decide +kernel
theorem dX11_turn_72 : decode cX11_turn 72 = .ok (.invokevirtual 179, 3) := by decide +kernel
theorem dX11_turn_75 : decode cX11_turn 75 = .ok (.ireturn, 1) := by decide +kernel
theorem dX11_read_0 : decode cX11_read 0 = .ok (.aload_n 0, 1) := by decide +kernel
theorem dX11_read_1 : decode cX11_read 1 = .ok (.iload_n 1, 1) := by decide +kernel
theorem dX11_read_2 : decode cX11_read 2 = .ok (.invokevirtual 81, 3) := by decide +kernel
theorem dX11_read_5 : decode cX11_read 5 = .ok (.istore_n 2, 1) := by decide +kernel
theorem dX11_read_6 : decode cX11_read 6 = .ok (.iload_n 2, 1) := by decide +kernel
theorem dX11_read_7 : decode cX11_read 7 = .ok (.ifCond .eq 9, 3) := by decide +kernel
theorem dX11_read_10 : decode cX11_read 10 = .ok (.aload_n 0, 1) := by decide +kernel
theorem dX11_read_11 : decode cX11_read 11 = .ok (.iload_n 2, 1) := by decide +kernel
theorem dX11_read_12 : decode cX11_read 12 = .ok (.invokevirtual 73, 3) := by decide +kernel
theorem dX11_read_15 : decode cX11_read 15 = .ok (.ireturn, 1) := by decide +kernel
theorem dX11_read_16 : decode cX11_read 16 = .ok (.aload_n 0, 1) := by decide +kernel
theorem dX11_read_17 : decode cX11_read 17 = .ok (.getfield 45, 3) := by decide +kernel
theorem dX11_read_20 : decode cX11_read 20 = .ok (.aload_n 0, 1) := by decide +kernel
theorem dX11_read_21 : decode cX11_read 21 = .ok (.getfield 11, 3) := by decide +kernel
theorem dX11_read_24 : decode cX11_read 24 = .ok (.aload_n 0, 1) := by decide +kernel
theorem dX11_read_25 : decode cX11_read 25 = .ok (.getfield 164, 3) := by decide +kernel
theorem dX11_read_28 : decode cX11_read 28 = .ok (.invokevirtual 186, 3) := by decide +kernel
theorem dX11_read_31 : decode cX11_read 31 = .ok (.aload_n 0, 1) := by decide +kernel
theorem dX11_read_32 : decode cX11_read 32 = .ok (.getfield 45, 3) := by decide +kernel
theorem dX11_read_35 : decode cX11_read 35 = .ok (.aload_n 0, 1) := by decide +kernel
theorem dX11_read_36 : decode cX11_read 36 = .ok (.getfield 24, 3) := by decide +kernel
theorem dX11_read_39 : decode cX11_read 39 = .ok (.iload_n 1, 1) := by decide +kernel
theorem dX11_read_40 : decode cX11_read 40 = .ok (.aaload, 1) := by decide +kernel
theorem dX11_read_41 : decode cX11_read 41 = .ok (.invokevirtual 190, 3) := by decide +kernel
theorem dX11_read_44 : decode cX11_read 44 = .ok (.istore_n 3, 1) := by decide +kernel
theorem dX11_read_45 : decode cX11_read 45 = .ok (.aload_n 0, 1) := by decide +kernel
theorem dX11_read_46 : decode cX11_read 46 = .ok (.aload_n 0, 1) := by decide +kernel
theorem dX11_read_47 : decode cX11_read 47 = .ok (.getfield 45, 3) := by decide +kernel
theorem dX11_read_50 : decode cX11_read 50 = .ok (.getfield 194, 3) := by decide +kernel
theorem dX11_read_53 : decode cX11_read 53 = .ok (.putfield 32, 3) := by decide +kernel
theorem dX11_read_56 : decode cX11_read 56 = .ok (.aload_n 0, 1) := by decide +kernel
theorem dX11_read_57 : decode cX11_read 57 = .ok (.getfield 32, 3) := by decide +kernel
theorem dX11_read_60 : decode cX11_read 60 = .ok (.iconst (-1), 1) := by decide +kernel
theorem dX11_read_61 : decode cX11_read 61 = .ok (.if_icmp .eq 10, 3) := by decide +kernel
theorem dX11_read_64 : decode cX11_read 64 = .ok (.aload_n 0, 1) := by decide +kernel
theorem dX11_read_65 : decode cX11_read 65 = .ok (.bipush (-6), 2) := by decide +kernel
theorem dX11_read_67 : decode cX11_read 67 = .ok (.invokevirtual 73, 3) := by decide +kernel
theorem dX11_read_70 : decode cX11_read 70 = .ok (.ireturn, 1) := by decide +kernel
theorem dX11_read_71 : decode cX11_read 71 = .ok (.aload_n 0, 1) := by decide +kernel
theorem dX11_read_72 : decode cX11_read 72 = .ok (.getfield 45, 3) := by decide +kernel
theorem dX11_read_75 : decode cX11_read 75 = .ok (.getfield 195, 3) := by decide +kernel
theorem dX11_read_78 : decode cX11_read 78 = .ok (.aload_n 0, 1) := by decide +kernel
theorem dX11_read_79 : decode cX11_read 79 = .ok (.getfield 11, 3) := by decide +kernel
theorem dX11_read_82 : decode cX11_read 82 = .ok (.invokestatic 196, 3) := by decide +kernel
theorem dX11_read_85 : decode cX11_read 85 = .ok (.aload_n 0, 1) := by decide +kernel
theorem dX11_read_86 : decode cX11_read 86 = .ok (.aload_n 0, 1) := by decide +kernel
theorem dX11_read_87 : decode cX11_read 87 = .ok (.getfield 45, 3) := by decide +kernel
theorem dX11_read_90 : decode cX11_read 90 = .ok (.getfield 200, 3) := by decide +kernel
theorem dX11_read_93 : decode cX11_read 93 = .ok (.putfield 164, 3) := by decide +kernel
theorem dX11_read_96 : decode cX11_read 96 = .ok (.iload_n 3, 1) := by decide +kernel
theorem dX11_read_97 : decode cX11_read 97 = .ok (.ireturn, 1) := by decide +kernel
theorem dX11_fault_0 : decode cX11_fault 0 = .ok (.aload_n 0, 1) := by decide +kernel
theorem dX11_fault_1 : decode cX11_fault 1 = .ok (.getfield 32, 3) := by decide +kernel
theorem dX11_fault_4 : decode cX11_fault 4 = .ok (.ireturn, 1) := by decide +kernel
theorem dX11_creases_0 : decode cX11_creases 0 = .ok (.aload_n 0, 1) := by decide +kernel
theorem dX11_creases_1 : decode cX11_creases 1 = .ok (.iload_n 1, 1) := by decide +kernel
theorem dX11_creases_2 : decode cX11_creases 2 = .ok (.invokevirtual 118, 3) := by decide +kernel
theorem dX11_creases_5 : decode cX11_creases 5 = .ok (.ifCond .eq 15, 3) := by decide +kernel
theorem dX11_creases_8 : decode cX11_creases 8 = .ok (.aload_n 0, 1) := by decide +kernel
theorem dX11_creases_9 : decode cX11_creases 9 = .ok (.getfield 11, 3) := by decide +kernel
theorem dX11_creases_12 : decode cX11_creases 12 = .ok (.iload_n 1, 1) := by decide +kernel
theorem dX11_creases_13 : decode cX11_creases 13 = .ok (.aaload, 1) := by decide +kernel
theorem dX11_creases_14 : decode cX11_creases 14 = .ok (.invokevirtual 141, 3) := by decide +kernel
theorem dX11_creases_17 : decode cX11_creases 17 = .ok (.goto 9, 3) := by decide +kernel
theorem dX11_creases_20 : decode cX11_creases 20 = .ok (.aload_n 0, 1) := by decide +kernel
theorem dX11_creases_21 : decode cX11_creases 21 = .ok (.iconst (-1), 1) := by decide +kernel
theorem dX11_creases_22 : decode cX11_creases 22 = .ok (.invokevirtual 73, 3) := by decide +kernel
theorem dX11_creases_25 : decode cX11_creases 25 = .ok (.i2l, 1) := by decide +kernel
theorem dX11_creases_26 : decode cX11_creases 26 = .ok (.lreturn, 1) := by decide +kernel
theorem dX11_crease_0 : decode cX11_crease 0 = .ok (.aload_n 0, 1) := by decide +kernel
theorem dX11_crease_1 : decode cX11_crease 1 = .ok (.iload_n 1, 1) := by decide +kernel
theorem dX11_crease_2 : decode cX11_crease 2 = .ok (.invokevirtual 118, 3) := by decide +kernel
theorem dX11_crease_5 : decode cX11_crease 5 = .ok (.ifCond .ne 9, 3) := by decide +kernel
theorem dX11_crease_8 : decode cX11_crease 8 = .ok (.aload_n 0, 1) := by decide +kernel
theorem dX11_crease_9 : decode cX11_crease 9 = .ok (.iconst (-1), 1) := by decide +kernel
theorem dX11_crease_10 : decode cX11_crease 10 = .ok (.invokevirtual 73, 3) := by decide +kernel
theorem dX11_crease_13 : decode cX11_crease 13 = .ok (.ireturn, 1) := by decide +kernel
theorem dX11_crease_14 : decode cX11_crease 14 = .ok (.lload_n 2, 1) := by decide +kernel
theorem dX11_crease_15 : decode cX11_crease 15 = .ok (.lconst 1, 1) := by decide +kernel
theorem dX11_crease_16 : decode cX11_crease 16 = .ok (.lcmp, 1) := by decide +kernel
theorem dX11_crease_17 : decode cX11_crease 17 = .ok (.ifCond .lt 17, 3) := by decide +kernel
theorem dX11_crease_20 : decode cX11_crease 20 = .ok (.lload_n 2, 1) := by decide +kernel
theorem dX11_crease_21 : decode cX11_crease 21 = .ok (.aload_n 0, 1) := by decide +kernel
theorem dX11_crease_22 : decode cX11_crease 22 = .ok (.getfield 11, 3) := by decide +kernel
theorem dX11_crease_25 : decode cX11_crease 25 = .ok (.iload_n 1, 1) := by decide +kernel
theorem dX11_crease_26 : decode cX11_crease 26 = .ok (.aaload, 1) := by decide +kernel
theorem dX11_crease_27 : decode cX11_crease 27 = .ok (.invokevirtual 141, 3) := by decide +kernel
theorem dX11_crease_30 : decode cX11_crease 30 = .ok (.lcmp, 1) := by decide +kernel
theorem dX11_crease_31 : decode cX11_crease 31 = .ok (.ifCond .le 10, 3) := by decide +kernel
theorem dX11_crease_34 : decode cX11_crease 34 = .ok (.aload_n 0, 1) := by decide +kernel
theorem dX11_crease_35 : decode cX11_crease 35 = .ok (.bipush (-5), 2) := by decide +kernel
theorem dX11_crease_37 : decode cX11_crease 37 = .ok (.invokevirtual 73, 3) := by decide +kernel
theorem dX11_crease_40 : decode cX11_crease 40 = .ok (.ireturn, 1) := by decide +kernel
theorem dX11_crease_41 : decode cX11_crease 41 = .ok (.aload_n 0, 1) := by decide +kernel
theorem dX11_crease_42 : decode cX11_crease 42 = .ok (.getfield 11, 3) := by decide +kernel
theorem dX11_crease_45 : decode cX11_crease 45 = .ok (.iload_n 1, 1) := by decide +kernel
theorem dX11_crease_46 : decode cX11_crease 46 = .ok (.aaload, 1) := by decide +kernel
theorem dX11_crease_47 : decode cX11_crease 47 = .ok (.lload_n 2, 1) := by decide +kernel
theorem dX11_crease_48 : decode cX11_crease 48 = .ok (.invokevirtual 150, 3) := by decide +kernel
theorem dX11_crease_51 : decode cX11_crease 51 = .ok (.ireturn, 1) := by decide +kernel
theorem dX11_way_0 : decode cX11_way 0 = .ok (.aload_n 0, 1) := by decide +kernel
theorem dX11_way_1 : decode cX11_way 1 = .ok (.iload_n 1, 1) := by decide +kernel
theorem dX11_way_2 : decode cX11_way 2 = .ok (.invokevirtual 118, 3) := by decide +kernel
theorem dX11_way_5 : decode cX11_way 5 = .ok (.ifCond .ne 9, 3) := by decide +kernel
theorem dX11_way_8 : decode cX11_way 8 = .ok (.aload_n 0, 1) := by decide +kernel
theorem dX11_way_9 : decode cX11_way 9 = .ok (.iconst (-1), 1) := by decide +kernel
theorem dX11_way_10 : decode cX11_way 10 = .ok (.invokevirtual 73, 3) := by decide +kernel
theorem dX11_way_13 : decode cX11_way 13 = .ok (.ireturn, 1) := by decide +kernel
theorem dX11_way_14 : decode cX11_way 14 = .ok (.lload_n 2, 1) := by decide +kernel
theorem dX11_way_15 : decode cX11_way 15 = .ok (.lconst 1, 1) := by decide +kernel
theorem dX11_way_16 : decode cX11_way 16 = .ok (.lcmp, 1) := by decide +kernel
theorem dX11_way_17 : decode cX11_way 17 = .ok (.ifCond .lt 17, 3) := by decide +kernel
theorem dX11_way_20 : decode cX11_way 20 = .ok (.lload_n 2, 1) := by decide +kernel
theorem dX11_way_21 : decode cX11_way 21 = .ok (.aload_n 0, 1) := by decide +kernel
theorem dX11_way_22 : decode cX11_way 22 = .ok (.getfield 11, 3) := by decide +kernel
theorem dX11_way_25 : decode cX11_way 25 = .ok (.iload_n 1, 1) := by decide +kernel
theorem dX11_way_26 : decode cX11_way 26 = .ok (.aaload, 1) := by decide +kernel
theorem dX11_way_27 : decode cX11_way 27 = .ok (.invokevirtual 201, 3) := by decide +kernel
theorem dX11_way_30 : decode cX11_way 30 = .ok (.lcmp, 1) := by decide +kernel
theorem dX11_way_31 : decode cX11_way 31 = .ok (.ifCond .le 10, 3) := by decide +kernel
theorem dX11_way_34 : decode cX11_way 34 = .ok (.aload_n 0, 1) := by decide +kernel
theorem dX11_way_35 : decode cX11_way 35 = .ok (.bipush (-5), 2) := by decide +kernel
theorem dX11_way_37 : decode cX11_way 37 = .ok (.invokevirtual 73, 3) := by decide +kernel
theorem dX11_way_40 : decode cX11_way 40 = .ok (.ireturn, 1) := by decide +kernel
theorem dX11_way_41 : decode cX11_way 41 = .ok (.aload_n 0, 1) := by decide +kernel
theorem dX11_way_42 : decode cX11_way 42 = .ok (.getfield 11, 3) := by decide +kernel
theorem dX11_way_45 : decode cX11_way 45 = .ok (.iload_n 1, 1) := by decide +kernel
theorem dX11_way_46 : decode cX11_way 46 = .ok (.aaload, 1) := by decide +kernel
theorem dX11_way_47 : decode cX11_way 47 = .ok (.lload_n 2, 1) := by decide +kernel
theorem dX11_way_48 : decode cX11_way 48 = .ok (.lconst 1, 1) := by decide +kernel
theorem dX11_way_49 : decode cX11_way 49 = .ok (.lsub, 1) := by decide +kernel
theorem dX11_way_50 : decode cX11_way 50 = .ok (.invokevirtual 204, 3) := by decide +kernel
theorem dX11_way_53 : decode cX11_way 53 = .ok (.ireturn, 1) := by decide +kernel
theorem dX11_place_0 : decode cX11_place 0 = .ok (.iconst 0, 1) := by decide +kernel
theorem dX11_place_1 : decode cX11_place 1 = .ok (.istore 5, 2) := by decide +kernel
theorem dX11_place_3 : decode cX11_place 3 = .ok (.aload_n 0, 1) := by decide +kernel
theorem dX11_place_4 : decode cX11_place 4 = .ok (.iload_n 1, 1) := by decide +kernel
theorem dX11_place_5 : decode cX11_place 5 = .ok (.invokevirtual 118, 3) := by decide +kernel
theorem dX11_place_8 : decode cX11_place 8 = .ok (.ifCond .ne 9, 3) := by decide +kernel
theorem dX11_place_11 : decode cX11_place 11 = .ok (.iconst (-1), 1) := by decide +kernel
theorem dX11_place_12 : decode cX11_place 12 = .ok (.istore 5, 2) := by decide +kernel
theorem dX11_place_14 : decode cX11_place 14 = .ok (.goto 67, 3) := by decide +kernel
theorem dX11_place_17 : decode cX11_place 17 = .ok (.lload_n 2, 1) := by decide +kernel
theorem dX11_place_18 : decode cX11_place 18 = .ok (.lconst 0, 1) := by decide +kernel
theorem dX11_place_19 : decode cX11_place 19 = .ok (.lcmp, 1) := by decide +kernel
theorem dX11_place_20 : decode cX11_place 20 = .ok (.ifCond .lt 28, 3) := by decide +kernel
theorem dX11_place_23 : decode cX11_place 23 = .ok (.lload_n 2, 1) := by decide +kernel
theorem dX11_place_24 : decode cX11_place 24 = .ok (.aload_n 0, 1) := by decide +kernel
theorem dX11_place_25 : decode cX11_place 25 = .ok (.getfield 11, 3) := by decide +kernel
theorem dX11_place_28 : decode cX11_place 28 = .ok (.iload_n 1, 1) := by decide +kernel
theorem dX11_place_29 : decode cX11_place 29 = .ok (.aaload, 1) := by decide +kernel
theorem dX11_place_30 : decode cX11_place 30 = .ok (.invokevirtual 201, 3) := by decide +kernel
theorem dX11_place_33 : decode cX11_place 33 = .ok (.lcmp, 1) := by decide +kernel
theorem dX11_place_34 : decode cX11_place 34 = .ok (.ifCond .gt 14, 3) := by decide +kernel
theorem dX11_place_37 : decode cX11_place 37 = .ok (.iload 4, 2) := by decide +kernel
theorem dX11_place_39 : decode cX11_place 39 = .ok (.ifCond .eq 16, 3) := by decide +kernel
theorem dX11_place_42 : decode cX11_place 42 = .ok (.iload 4, 2) := by decide +kernel
theorem dX11_place_44 : decode cX11_place 44 = .ok (.iconst 1, 1) := by decide +kernel
theorem dX11_place_45 : decode cX11_place 45 = .ok (.if_icmp .eq 10, 3) := by decide +kernel
theorem dX11_place_48 : decode cX11_place 48 = .ok (.bipush (-5), 2) := by decide +kernel
theorem dX11_place_50 : decode cX11_place 50 = .ok (.istore 5, 2) := by decide +kernel
theorem dX11_place_52 : decode cX11_place 52 = .ok (.goto 29, 3) := by decide +kernel
theorem dX11_place_55 : decode cX11_place 55 = .ok (.aload_n 0, 1) := by decide +kernel
theorem dX11_place_56 : decode cX11_place 56 = .ok (.getfield 11, 3) := by decide +kernel
theorem dX11_place_59 : decode cX11_place 59 = .ok (.iload_n 1, 1) := by decide +kernel
theorem dX11_place_60 : decode cX11_place 60 = .ok (.aaload, 1) := by decide +kernel
theorem dX11_place_61 : decode cX11_place 61 = .ok (.getfield 124, 3) := by decide +kernel
theorem dX11_place_64 : decode cX11_place 64 = .ok (.bipush 6, 2) := by decide +kernel
theorem dX11_place_66 : decode cX11_place 66 = .ok (.if_icmp .ne 15, 3) := by decide +kernel
theorem dX11_place_69 : decode cX11_place 69 = .ok (.lload_n 2, 1) := by decide +kernel
theorem dX11_place_70 : decode cX11_place 70 = .ok (.ldc2_w 207, 3) := by decide +kernel
theorem dX11_place_73 : decode cX11_place 73 = .ok (.lcmp, 1) := by decide +kernel
theorem dX11_place_74 : decode cX11_place 74 = .ok (.ifCond .le 7, 3) := by decide +kernel
theorem dX11_place_77 : decode cX11_place 77 = .ok (.bipush (-7), 2) := by decide +kernel
theorem dX11_place_79 : decode cX11_place 79 = .ok (.istore 5, 2) := by decide +kernel
theorem dX11_place_81 : decode cX11_place 81 = .ok (.iload 5, 2) := by decide +kernel
theorem dX11_place_83 : decode cX11_place 83 = .ok (.ifCond .eq 15, 3) := by decide +kernel
theorem dX11_place_86 : decode cX11_place 86 = .ok (.ldc2_w 209, 3) := by decide +kernel
theorem dX11_place_89 : decode cX11_place 89 = .ok (.aload_n 0, 1) := by decide +kernel
theorem dX11_place_90 : decode cX11_place 90 = .ok (.iload 5, 2) := by decide +kernel
theorem dX11_place_92 : decode cX11_place 92 = .ok (.invokevirtual 73, 3) := by decide +kernel
theorem dX11_place_95 : decode cX11_place 95 = .ok (.i2l, 1) := by decide +kernel
theorem dX11_place_96 : decode cX11_place 96 = .ok (.ladd, 1) := by decide +kernel
theorem dX11_place_97 : decode cX11_place 97 = .ok (.lreturn, 1) := by decide +kernel
theorem dX11_place_98 : decode cX11_place 98 = .ok (.aload_n 0, 1) := by decide +kernel
theorem dX11_place_99 : decode cX11_place 99 = .ok (.getfield 11, 3) := by decide +kernel
theorem dX11_place_102 : decode cX11_place 102 = .ok (.iload_n 1, 1) := by decide +kernel
theorem dX11_place_103 : decode cX11_place 103 = .ok (.aaload, 1) := by decide +kernel
theorem dX11_place_104 : decode cX11_place 104 = .ok (.aload_n 0, 1) := by decide +kernel
theorem dX11_place_105 : decode cX11_place 105 = .ok (.getfield 54, 3) := by decide +kernel
theorem dX11_place_108 : decode cX11_place 108 = .ok (.lload_n 2, 1) := by decide +kernel
theorem dX11_place_109 : decode cX11_place 109 = .ok (.invokevirtual 211, 3) := by decide +kernel
theorem dX11_place_112 : decode cX11_place 112 = .ok (.iload 4, 2) := by decide +kernel
theorem dX11_place_114 : decode cX11_place 114 = .ok (.ifCond .ne 13, 3) := by decide +kernel
theorem dX11_place_117 : decode cX11_place 117 = .ok (.aload_n 0, 1) := by decide +kernel
theorem dX11_place_118 : decode cX11_place 118 = .ok (.getfield 54, 3) := by decide +kernel
theorem dX11_place_121 : decode cX11_place 121 = .ok (.getfield 215, 3) := by decide +kernel
theorem dX11_place_124 : decode cX11_place 124 = .ok (.goto 10, 3) := by decide +kernel
theorem dX11_place_127 : decode cX11_place 127 = .ok (.aload_n 0, 1) := by decide +kernel
theorem dX11_place_128 : decode cX11_place 128 = .ok (.getfield 54, 3) := by decide +kernel
theorem dX11_place_131 : decode cX11_place 131 = .ok (.getfield 218, 3) := by decide +kernel
theorem dX11_place_134 : decode cX11_place 134 = .ok (.lreturn, 1) := by decide +kernel
theorem dX11_passed_0 : decode cX11_passed 0 = .ok (.aload_n 0, 1) := by decide +kernel
theorem dX11_passed_1 : decode cX11_passed 1 = .ok (.iload_n 1, 1) := by decide +kernel
theorem dX11_passed_2 : decode cX11_passed 2 = .ok (.iload_n 2, 1) := by decide +kernel
theorem dX11_passed_3 : decode cX11_passed 3 = .ok (.sipush 4000, 3) := by decide +kernel
theorem dX11_passed_6 : decode cX11_passed 6 = .ok (.invokevirtual 221, 3) := by decide +kernel
theorem dX11_passed_9 : decode cX11_passed 9 = .ok (.istore 5, 2) := by decide +kernel
theorem dX11_passed_11 : decode cX11_passed 11 = .ok (.iload 5, 2) := by decide +kernel
theorem dX11_passed_13 : decode cX11_passed 13 = .ok (.ifCond .eq 10, 3) := by decide +kernel
theorem dX11_passed_16 : decode cX11_passed 16 = .ok (.aload_n 0, 1) := by decide +kernel
theorem dX11_passed_17 : decode cX11_passed 17 = .ok (.iload 5, 2) := by decide +kernel
theorem dX11_passed_19 : decode cX11_passed 19 = .ok (.invokevirtual 73, 3) := by decide +kernel
theorem dX11_passed_22 : decode cX11_passed 22 = .ok (.ireturn, 1) := by decide +kernel
theorem dX11_passed_23 : decode cX11_passed 23 = .ok (.iconst 0, 1) := by decide +kernel
theorem dX11_passed_24 : decode cX11_passed 24 = .ok (.istore 6, 2) := by decide +kernel
theorem dX11_passed_26 : decode cX11_passed 26 = .ok (.aload_n 0, 1) := by decide +kernel
theorem dX11_passed_27 : decode cX11_passed 27 = .ok (.getfield 54, 3) := by decide +kernel
theorem dX11_passed_30 : decode cX11_passed 30 = .ok (.aload_n 0, 1) := by decide +kernel
theorem dX11_passed_31 : decode cX11_passed 31 = .ok (.getfield 11, 3) := by decide +kernel
theorem dX11_passed_34 : decode cX11_passed 34 = .ok (.iload_n 1, 1) := by decide +kernel
theorem dX11_passed_35 : decode cX11_passed 35 = .ok (.aaload, 1) := by decide +kernel
theorem dX11_passed_36 : decode cX11_passed 36 = .ok (.lconst 0, 1) := by decide +kernel
theorem dX11_passed_37 : decode cX11_passed 37 = .ok (.lconst 0, 1) := by decide +kernel
theorem dX11_passed_38 : decode cX11_passed 38 = .ok (.iconst 0, 1) := by decide +kernel
theorem dX11_passed_39 : decode cX11_passed 39 = .ok (.invokevirtual 225, 3) := by decide +kernel
theorem dX11_passed_42 : decode cX11_passed 42 = .ok (.iconst 0, 1) := by decide +kernel
theorem dX11_passed_43 : decode cX11_passed 43 = .ok (.istore 7, 2) := by decide +kernel
theorem dX11_passed_45 : decode cX11_passed 45 = .ok (.iload 7, 2) := by decide +kernel
theorem dX11_passed_47 : decode cX11_passed 47 = .ok (.iload_n 2, 1) := by decide +kernel
theorem dX11_passed_48 : decode cX11_passed 48 = .ok (.if_icmp .gt 32, 3) := by decide +kernel
theorem dX11_passed_51 : decode cX11_passed 51 = .ok (.aload_n 0, 1) := by decide +kernel
theorem dX11_passed_52 : decode cX11_passed 52 = .ok (.getfield 54, 3) := by decide +kernel
theorem dX11_passed_55 : decode cX11_passed 55 = .ok (.iload_n 3, 1) := by decide +kernel
theorem dX11_passed_56 : decode cX11_passed 56 = .ok (.iload 4, 2) := by decide +kernel
theorem dX11_passed_58 : decode cX11_passed 58 = .ok (.invokevirtual 229, 3) := by decide +kernel
theorem dX11_passed_61 : decode cX11_passed 61 = .ok (.ifCond .eq 6, 3) := by decide +kernel
theorem dX11_passed_64 : decode cX11_passed 64 = .ok (.iinc 6 1, 3) := by decide +kernel
theorem dX11_passed_67 : decode cX11_passed 67 = .ok (.aload_n 0, 1) := by decide +kernel
theorem dX11_passed_68 : decode cX11_passed 68 = .ok (.getfield 54, 3) := by decide +kernel
theorem dX11_passed_71 : decode cX11_passed 71 = .ok (.invokevirtual 232, 3) := by decide +kernel
theorem dX11_passed_74 : decode cX11_passed 74 = .ok (.iinc 7 1, 3) := by decide +kernel
theorem dX11_passed_77 : decode cX11_passed 77 = .ok (.goto (-32), 3) := by decide +kernel
theorem dX11_passed_80 : decode cX11_passed 80 = .ok (.iload 6, 2) := by decide +kernel
theorem dX11_passed_82 : decode cX11_passed 82 = .ok (.ireturn, 1) := by decide +kernel
theorem dX11_most_0 : decode cX11_most 0 = .ok (.aload_n 0, 1) := by decide +kernel
theorem dX11_most_1 : decode cX11_most 1 = .ok (.iload_n 1, 1) := by decide +kernel
theorem dX11_most_2 : decode cX11_most 2 = .ok (.iload_n 2, 1) := by decide +kernel
theorem dX11_most_3 : decode cX11_most 3 = .ok (.sipush 4000, 3) := by decide +kernel
theorem dX11_most_6 : decode cX11_most 6 = .ok (.invokevirtual 221, 3) := by decide +kernel
theorem dX11_most_9 : decode cX11_most 9 = .ok (.istore_n 3, 1) := by decide +kernel
theorem dX11_most_10 : decode cX11_most 10 = .ok (.iload_n 3, 1) := by decide +kernel
theorem dX11_most_11 : decode cX11_most 11 = .ok (.ifCond .eq 9, 3) := by decide +kernel
theorem dX11_most_14 : decode cX11_most 14 = .ok (.aload_n 0, 1) := by decide +kernel
theorem dX11_most_15 : decode cX11_most 15 = .ok (.iload_n 3, 1) := by decide +kernel
theorem dX11_most_16 : decode cX11_most 16 = .ok (.invokevirtual 73, 3) := by decide +kernel
theorem dX11_most_19 : decode cX11_most 19 = .ok (.ireturn, 1) := by decide +kernel
theorem dX11_most_20 : decode cX11_most 20 = .ok (.iconst 0, 1) := by decide +kernel
theorem dX11_most_21 : decode cX11_most 21 = .ok (.istore 4, 2) := by decide +kernel
theorem dX11_most_23 : decode cX11_most 23 = .ok (.aload_n 0, 1) := by decide +kernel
theorem dX11_most_24 : decode cX11_most 24 = .ok (.getfield 54, 3) := by decide +kernel
theorem dX11_most_27 : decode cX11_most 27 = .ok (.invokevirtual 235, 3) := by decide +kernel
theorem dX11_most_30 : decode cX11_most 30 = .ok (.aload_n 0, 1) := by decide +kernel
theorem dX11_most_31 : decode cX11_most 31 = .ok (.getfield 54, 3) := by decide +kernel
theorem dX11_most_34 : decode cX11_most 34 = .ok (.aload_n 0, 1) := by decide +kernel
theorem dX11_most_35 : decode cX11_most 35 = .ok (.getfield 11, 3) := by decide +kernel
theorem dX11_most_38 : decode cX11_most 38 = .ok (.iload_n 1, 1) := by decide +kernel
theorem dX11_most_39 : decode cX11_most 39 = .ok (.aaload, 1) := by decide +kernel
theorem dX11_most_40 : decode cX11_most 40 = .ok (.lconst 0, 1) := by decide +kernel
theorem dX11_most_41 : decode cX11_most 41 = .ok (.lconst 0, 1) := by decide +kernel
theorem dX11_most_42 : decode cX11_most 42 = .ok (.iconst 0, 1) := by decide +kernel
theorem dX11_most_43 : decode cX11_most 43 = .ok (.invokevirtual 225, 3) := by decide +kernel
theorem dX11_most_46 : decode cX11_most 46 = .ok (.iconst 0, 1) := by decide +kernel
theorem dX11_most_47 : decode cX11_most 47 = .ok (.istore 5, 2) := by decide +kernel
theorem dX11_most_49 : decode cX11_most 49 = .ok (.iload 5, 2) := by decide +kernel
theorem dX11_most_51 : decode cX11_most 51 = .ok (.iload_n 2, 1) := by decide +kernel
theorem dX11_most_52 : decode cX11_most 52 = .ok (.if_icmp .gt 37, 3) := by decide +kernel
theorem dX11_most_55 : decode cX11_most 55 = .ok (.iload 4, 2) := by decide +kernel
theorem dX11_most_57 : decode cX11_most 57 = .ok (.aload_n 0, 1) := by decide +kernel
theorem dX11_most_58 : decode cX11_most 58 = .ok (.getfield 54, 3) := by decide +kernel
theorem dX11_most_61 : decode cX11_most 61 = .ok (.aload_n 0, 1) := by decide +kernel
theorem dX11_most_62 : decode cX11_most 62 = .ok (.getfield 54, 3) := by decide +kernel
theorem dX11_most_65 : decode cX11_most 65 = .ok (.invokevirtual 238, 3) := by decide +kernel
theorem dX11_most_68 : decode cX11_most 68 = .ok (.invokevirtual 242, 3) := by decide +kernel
theorem dX11_most_71 : decode cX11_most 71 = .ok (.invokestatic 245, 3) := by decide +kernel
theorem dX11_most_74 : decode cX11_most 74 = .ok (.istore 4, 2) := by decide +kernel
theorem dX11_most_76 : decode cX11_most 76 = .ok (.aload_n 0, 1) := by decide +kernel
theorem dX11_most_77 : decode cX11_most 77 = .ok (.getfield 54, 3) := by decide +kernel
theorem dX11_most_80 : decode cX11_most 80 = .ok (.invokevirtual 232, 3) := by decide +kernel
theorem dX11_most_83 : decode cX11_most 83 = .ok (.iinc 5 1, 3) := by decide +kernel
theorem dX11_most_86 : decode cX11_most 86 = .ok (.goto (-37), 3) := by decide +kernel
theorem dX11_most_89 : decode cX11_most 89 = .ok (.iload 4, 2) := by decide +kernel
theorem dX11_most_91 : decode cX11_most 91 = .ok (.ireturn, 1) := by decide +kernel
theorem dX11_twice_0 : decode cX11_twice 0 = .ok (.aload_n 0, 1) := by decide +kernel
theorem dX11_twice_1 : decode cX11_twice 1 = .ok (.iload_n 1, 1) := by decide +kernel
theorem dX11_twice_2 : decode cX11_twice 2 = .ok (.iload_n 2, 1) := by decide +kernel
theorem dX11_twice_3 : decode cX11_twice 3 = .ok (.sipush 4000, 3) := by decide +kernel
theorem dX11_twice_6 : decode cX11_twice 6 = .ok (.invokevirtual 221, 3) := by decide +kernel
theorem dX11_twice_9 : decode cX11_twice 9 = .ok (.istore_n 3, 1) := by decide +kernel
theorem dX11_twice_10 : decode cX11_twice 10 = .ok (.iload_n 3, 1) := by decide +kernel
theorem dX11_twice_11 : decode cX11_twice 11 = .ok (.ifCond .eq 9, 3) := by decide +kernel
theorem dX11_twice_14 : decode cX11_twice 14 = .ok (.aload_n 0, 1) := by decide +kernel
theorem dX11_twice_15 : decode cX11_twice 15 = .ok (.iload_n 3, 1) := by decide +kernel
theorem dX11_twice_16 : decode cX11_twice 16 = .ok (.invokevirtual 73, 3) := by decide +kernel
theorem dX11_twice_19 : decode cX11_twice 19 = .ok (.ireturn, 1) := by decide +kernel
theorem dX11_twice_20 : decode cX11_twice 20 = .ok (.iconst 0, 1) := by decide +kernel
theorem dX11_twice_21 : decode cX11_twice 21 = .ok (.istore 4, 2) := by decide +kernel
theorem dX11_twice_23 : decode cX11_twice 23 = .ok (.aload_n 0, 1) := by decide +kernel
theorem dX11_twice_24 : decode cX11_twice 24 = .ok (.getfield 54, 3) := by decide +kernel
theorem dX11_twice_27 : decode cX11_twice 27 = .ok (.invokevirtual 235, 3) := by decide +kernel
theorem dX11_twice_30 : decode cX11_twice 30 = .ok (.aload_n 0, 1) := by decide +kernel
theorem dX11_twice_31 : decode cX11_twice 31 = .ok (.getfield 54, 3) := by decide +kernel
theorem dX11_twice_34 : decode cX11_twice 34 = .ok (.aload_n 0, 1) := by decide +kernel
theorem dX11_twice_35 : decode cX11_twice 35 = .ok (.getfield 11, 3) := by decide +kernel
theorem dX11_twice_38 : decode cX11_twice 38 = .ok (.iload_n 1, 1) := by decide +kernel
theorem dX11_twice_39 : decode cX11_twice 39 = .ok (.aaload, 1) := by decide +kernel
theorem dX11_twice_40 : decode cX11_twice 40 = .ok (.lconst 0, 1) := by decide +kernel
theorem dX11_twice_41 : decode cX11_twice 41 = .ok (.lconst 0, 1) := by decide +kernel
theorem dX11_twice_42 : decode cX11_twice 42 = .ok (.iconst 0, 1) := by decide +kernel
theorem dX11_twice_43 : decode cX11_twice 43 = .ok (.invokevirtual 225, 3) := by decide +kernel
theorem dX11_twice_46 : decode cX11_twice 46 = .ok (.iconst 0, 1) := by decide +kernel
theorem dX11_twice_47 : decode cX11_twice 47 = .ok (.istore 5, 2) := by decide +kernel
theorem dX11_twice_49 : decode cX11_twice 49 = .ok (.iload 5, 2) := by decide +kernel
theorem dX11_twice_51 : decode cX11_twice 51 = .ok (.iload_n 2, 1) := by decide +kernel
theorem dX11_twice_52 : decode cX11_twice 52 = .ok (.if_icmp .ge 37, 3) := by decide +kernel
theorem dX11_twice_55 : decode cX11_twice 55 = .ok (.aload_n 0, 1) := by decide +kernel
theorem dX11_twice_56 : decode cX11_twice 56 = .ok (.getfield 54, 3) := by decide +kernel
theorem dX11_twice_59 : decode cX11_twice 59 = .ok (.invokevirtual 232, 3) := by decide +kernel
theorem dX11_twice_62 : decode cX11_twice 62 = .ok (.aload_n 0, 1) := by decide +kernel
theorem dX11_twice_63 : decode cX11_twice 63 = .ok (.getfield 54, 3) := by decide +kernel
theorem dX11_twice_66 : decode cX11_twice 66 = .ok (.aload_n 0, 1) := by decide +kernel
theorem dX11_twice_67 : decode cX11_twice 67 = .ok (.getfield 54, 3) := by decide +kernel
theorem dX11_twice_70 : decode cX11_twice 70 = .ok (.invokevirtual 250, 3) := by decide +kernel
theorem dX11_twice_73 : decode cX11_twice 73 = .ok (.invokevirtual 242, 3) := by decide +kernel
theorem dX11_twice_76 : decode cX11_twice 76 = .ok (.iconst 1, 1) := by decide +kernel
theorem dX11_twice_77 : decode cX11_twice 77 = .ok (.if_icmp .le 6, 3) := by decide +kernel
theorem dX11_twice_80 : decode cX11_twice 80 = .ok (.iinc 4 1, 3) := by decide +kernel
theorem dX11_twice_83 : decode cX11_twice 83 = .ok (.iinc 5 1, 3) := by decide +kernel
theorem dX11_twice_86 : decode cX11_twice 86 = .ok (.goto (-37), 3) := by decide +kernel
theorem dX11_twice_89 : decode cX11_twice 89 = .ok (.iload 4, 2) := by decide +kernel
theorem dX11_twice_91 : decode cX11_twice 91 = .ok (.ireturn, 1) := by decide +kernel
theorem dX11_cover_0 : decode cX11_cover 0 = .ok (.aload_n 0, 1) := by decide +kernel
theorem dX11_cover_1 : decode cX11_cover 1 = .ok (.iload_n 1, 1) := by decide +kernel
theorem dX11_cover_2 : decode cX11_cover 2 = .ok (.iload_n 2, 1) := by decide +kernel
theorem dX11_cover_3 : decode cX11_cover 3 = .ok (.sipush 4000, 3) := by decide +kernel
theorem dX11_cover_6 : decode cX11_cover 6 = .ok (.invokevirtual 221, 3) := by decide +kernel
theorem dX11_cover_9 : decode cX11_cover 9 = .ok (.istore_n 3, 1) := by decide +kernel
theorem dX11_cover_10 : decode cX11_cover 10 = .ok (.iload_n 3, 1) := by decide +kernel
theorem dX11_cover_11 : decode cX11_cover 11 = .ok (.ifCond .eq 9, 3) := by decide +kernel
theorem dX11_cover_14 : decode cX11_cover 14 = .ok (.aload_n 0, 1) := by decide +kernel
theorem dX11_cover_15 : decode cX11_cover 15 = .ok (.iload_n 3, 1) := by decide +kernel
theorem dX11_cover_16 : decode cX11_cover 16 = .ok (.invokevirtual 73, 3) := by decide +kernel
theorem dX11_cover_19 : decode cX11_cover 19 = .ok (.ireturn, 1) := by decide +kernel
theorem dX11_cover_20 : decode cX11_cover 20 = .ok (.iconst 0, 1) := by decide +kernel
theorem dX11_cover_21 : decode cX11_cover 21 = .ok (.istore 4, 2) := by decide +kernel
theorem dX11_cover_23 : decode cX11_cover 23 = .ok (.aload_n 0, 1) := by decide +kernel
theorem dX11_cover_24 : decode cX11_cover 24 = .ok (.getfield 54, 3) := by decide +kernel
theorem dX11_cover_27 : decode cX11_cover 27 = .ok (.invokevirtual 235, 3) := by decide +kernel
theorem dX11_cover_30 : decode cX11_cover 30 = .ok (.aload_n 0, 1) := by decide +kernel
theorem dX11_cover_31 : decode cX11_cover 31 = .ok (.getfield 54, 3) := by decide +kernel
theorem dX11_cover_34 : decode cX11_cover 34 = .ok (.aload_n 0, 1) := by decide +kernel
theorem dX11_cover_35 : decode cX11_cover 35 = .ok (.getfield 11, 3) := by decide +kernel
theorem dX11_cover_38 : decode cX11_cover 38 = .ok (.iload_n 1, 1) := by decide +kernel
theorem dX11_cover_39 : decode cX11_cover 39 = .ok (.aaload, 1) := by decide +kernel
theorem dX11_cover_40 : decode cX11_cover 40 = .ok (.lconst 0, 1) := by decide +kernel
theorem dX11_cover_41 : decode cX11_cover 41 = .ok (.lconst 0, 1) := by decide +kernel
theorem dX11_cover_42 : decode cX11_cover 42 = .ok (.iconst 0, 1) := by decide +kernel
theorem dX11_cover_43 : decode cX11_cover 43 = .ok (.invokevirtual 225, 3) := by decide +kernel
theorem dX11_cover_46 : decode cX11_cover 46 = .ok (.iconst 0, 1) := by decide +kernel
theorem dX11_cover_47 : decode cX11_cover 47 = .ok (.istore 5, 2) := by decide +kernel
theorem dX11_cover_49 : decode cX11_cover 49 = .ok (.iload 5, 2) := by decide +kernel
theorem dX11_cover_51 : decode cX11_cover 51 = .ok (.iload_n 2, 1) := by decide +kernel
theorem dX11_cover_52 : decode cX11_cover 52 = .ok (.if_icmp .gt 37, 3) := by decide +kernel
theorem dX11_cover_55 : decode cX11_cover 55 = .ok (.aload_n 0, 1) := by decide +kernel
theorem dX11_cover_56 : decode cX11_cover 56 = .ok (.getfield 54, 3) := by decide +kernel
theorem dX11_cover_59 : decode cX11_cover 59 = .ok (.aload_n 0, 1) := by decide +kernel
theorem dX11_cover_60 : decode cX11_cover 60 = .ok (.getfield 54, 3) := by decide +kernel
theorem dX11_cover_63 : decode cX11_cover 63 = .ok (.invokevirtual 238, 3) := by decide +kernel
theorem dX11_cover_66 : decode cX11_cover 66 = .ok (.invokevirtual 242, 3) := by decide +kernel
theorem dX11_cover_69 : decode cX11_cover 69 = .ok (.iconst 1, 1) := by decide +kernel
theorem dX11_cover_70 : decode cX11_cover 70 = .ok (.if_icmp .ne 6, 3) := by decide +kernel
theorem dX11_cover_73 : decode cX11_cover 73 = .ok (.iinc 4 1, 3) := by decide +kernel
theorem dX11_cover_76 : decode cX11_cover 76 = .ok (.aload_n 0, 1) := by decide +kernel
theorem dX11_cover_77 : decode cX11_cover 77 = .ok (.getfield 54, 3) := by decide +kernel
theorem dX11_cover_80 : decode cX11_cover 80 = .ok (.invokevirtual 232, 3) := by decide +kernel
theorem dX11_cover_83 : decode cX11_cover 83 = .ok (.iinc 5 1, 3) := by decide +kernel
theorem dX11_cover_86 : decode cX11_cover 86 = .ok (.goto (-37), 3) := by decide +kernel
theorem dX11_cover_89 : decode cX11_cover 89 = .ok (.iload 4, 2) := by decide +kernel
theorem dX11_cover_91 : decode cX11_cover 91 = .ok (.ireturn, 1) := by decide +kernel
theorem dX11_when_0 : decode cX11_when 0 = .ok (.aload_n 0, 1) := by decide +kernel
theorem dX11_when_1 : decode cX11_when 1 = .ok (.iload_n 1, 1) := by decide +kernel
theorem dX11_when_2 : decode cX11_when 2 = .ok (.invokevirtual 118, 3) := by decide +kernel
theorem dX11_when_5 : decode cX11_when 5 = .ok (.ifCond .ne 12, 3) := by decide +kernel
theorem dX11_when_8 : decode cX11_when 8 = .ok (.aload_n 0, 1) := by decide +kernel
theorem dX11_when_9 : decode cX11_when 9 = .ok (.iconst (-1), 1) := by decide +kernel
theorem dX11_when_10 : decode cX11_when 10 = .ok (.invokevirtual 73, 3) := by decide +kernel
theorem dX11_when_13 : decode cX11_when 13 = .ok (.bipush (-10), 2) := by decide +kernel
theorem dX11_when_15 : decode cX11_when 15 = .ok (.iadd, 1) := by decide +kernel
theorem dX11_when_16 : decode cX11_when 16 = .ok (.ireturn, 1) := by decide +kernel
theorem dX11_when_17 : decode cX11_when 17 = .ok (.iload 4, 2) := by decide +kernel
theorem dX11_when_19 : decode cX11_when 19 = .ok (.ifCond .ge 13, 3) := by decide +kernel
theorem dX11_when_22 : decode cX11_when 22 = .ok (.aload_n 0, 1) := by decide +kernel
theorem dX11_when_23 : decode cX11_when 23 = .ok (.bipush (-5), 2) := by decide +kernel
theorem dX11_when_25 : decode cX11_when 25 = .ok (.invokevirtual 73, 3) := by decide +kernel
theorem dX11_when_28 : decode cX11_when 28 = .ok (.bipush (-10), 2) := by decide +kernel
theorem dX11_when_30 : decode cX11_when 30 = .ok (.iadd, 1) := by decide +kernel
theorem dX11_when_31 : decode cX11_when 31 = .ok (.ireturn, 1) := by decide +kernel
theorem dX11_when_32 : decode cX11_when 32 = .ok (.ldc2_w 253, 3) := by decide +kernel
theorem dX11_when_35 : decode cX11_when 35 = .ok (.aload_n 0, 1) := by decide +kernel
theorem dX11_when_36 : decode cX11_when 36 = .ok (.getfield 11, 3) := by decide +kernel
theorem dX11_when_39 : decode cX11_when 39 = .ok (.iload_n 1, 1) := by decide +kernel
theorem dX11_when_40 : decode cX11_when 40 = .ok (.aaload, 1) := by decide +kernel
theorem dX11_when_41 : decode cX11_when 41 = .ok (.invokevirtual 201, 3) := by decide +kernel
theorem dX11_when_44 : decode cX11_when 44 = .ok (.invokestatic 255, 3) := by decide +kernel
theorem dX11_when_47 : decode cX11_when 47 = .ok (.l2i, 1) := by decide +kernel
theorem dX11_when_48 : decode cX11_when 48 = .ok (.istore 5, 2) := by decide +kernel
theorem dX11_when_50 : decode cX11_when 50 = .ok (.iconst 0, 1) := by decide +kernel
theorem dX11_when_51 : decode cX11_when 51 = .ok (.istore 6, 2) := by decide +kernel
theorem dX11_when_53 : decode cX11_when 53 = .ok (.aload_n 0, 1) := by decide +kernel
theorem dX11_when_54 : decode cX11_when 54 = .ok (.getfield 54, 3) := by decide +kernel
theorem dX11_when_57 : decode cX11_when 57 = .ok (.aload_n 0, 1) := by decide +kernel
theorem dX11_when_58 : decode cX11_when 58 = .ok (.getfield 11, 3) := by decide +kernel
theorem dX11_when_61 : decode cX11_when 61 = .ok (.iload_n 1, 1) := by decide +kernel
theorem dX11_when_62 : decode cX11_when 62 = .ok (.aaload, 1) := by decide +kernel
theorem dX11_when_63 : decode cX11_when 63 = .ok (.lconst 0, 1) := by decide +kernel
theorem dX11_when_64 : decode cX11_when 64 = .ok (.lconst 0, 1) := by decide +kernel
theorem dX11_when_65 : decode cX11_when 65 = .ok (.iconst 0, 1) := by decide +kernel
theorem dX11_when_66 : decode cX11_when 66 = .ok (.invokevirtual 225, 3) := by decide +kernel
theorem dX11_when_69 : decode cX11_when 69 = .ok (.iconst 0, 1) := by decide +kernel
theorem dX11_when_70 : decode cX11_when 70 = .ok (.istore 7, 2) := by decide +kernel
theorem dX11_when_72 : decode cX11_when 72 = .ok (.iload 7, 2) := by decide +kernel
theorem dX11_when_74 : decode cX11_when 74 = .ok (.iload 5, 2) := by decide +kernel
theorem dX11_when_76 : decode cX11_when 76 = .ok (.if_icmp .gt 41, 3) := by decide +kernel
theorem dX11_when_79 : decode cX11_when 79 = .ok (.aload_n 0, 1) := by decide +kernel
theorem dX11_when_80 : decode cX11_when 80 = .ok (.getfield 54, 3) := by decide +kernel
theorem dX11_when_83 : decode cX11_when 83 = .ok (.iload_n 2, 1) := by decide +kernel
theorem dX11_when_84 : decode cX11_when 84 = .ok (.iload_n 3, 1) := by decide +kernel
theorem dX11_when_85 : decode cX11_when 85 = .ok (.invokevirtual 229, 3) := by decide +kernel
theorem dX11_when_88 : decode cX11_when 88 = .ok (.ifCond .eq 16, 3) := by decide +kernel
theorem dX11_when_91 : decode cX11_when 91 = .ok (.iload 6, 2) := by decide +kernel
theorem dX11_when_93 : decode cX11_when 93 = .ok (.iload 4, 2) := by decide +kernel
theorem dX11_when_95 : decode cX11_when 95 = .ok (.if_icmp .ne 6, 3) := by decide +kernel
theorem dX11_when_98 : decode cX11_when 98 = .ok (.iload 7, 2) := by decide +kernel
theorem dX11_when_100 : decode cX11_when 100 = .ok (.ireturn, 1) := by decide +kernel
theorem dX11_when_101 : decode cX11_when 101 = .ok (.iinc 6 1, 3) := by decide +kernel
theorem dX11_when_104 : decode cX11_when 104 = .ok (.aload_n 0, 1) := by decide +kernel
theorem dX11_when_105 : decode cX11_when 105 = .ok (.getfield 54, 3) := by decide +kernel
theorem dX11_when_108 : decode cX11_when 108 = .ok (.invokevirtual 232, 3) := by decide +kernel
theorem dX11_when_111 : decode cX11_when 111 = .ok (.iinc 7 1, 3) := by decide +kernel
theorem dX11_when_114 : decode cX11_when 114 = .ok (.goto (-42), 3) := by decide +kernel
theorem dX11_when_117 : decode cX11_when 117 = .ok (.iconst (-1), 1) := by decide +kernel
theorem dX11_when_118 : decode cX11_when 118 = .ok (.ireturn, 1) := by decide +kernel
theorem dX11_near_0 : decode cX11_near 0 = .ok (.aload_n 0, 1) := by decide +kernel
theorem dX11_near_1 : decode cX11_near 1 = .ok (.iload_n 1, 1) := by decide +kernel
theorem dX11_near_2 : decode cX11_near 2 = .ok (.iload_n 2, 1) := by decide +kernel
theorem dX11_near_3 : decode cX11_near 3 = .ok (.iload_n 3, 1) := by decide +kernel
theorem dX11_near_4 : decode cX11_near 4 = .ok (.iload 4, 2) := by decide +kernel
theorem dX11_near_6 : decode cX11_near 6 = .ok (.iload 5, 2) := by decide +kernel
theorem dX11_near_8 : decode cX11_near 8 = .ok (.iload 6, 2) := by decide +kernel
theorem dX11_near_10 : decode cX11_near 10 = .ok (.invokevirtual 259, 3) := by decide +kernel
theorem dX11_near_13 : decode cX11_near 13 = .ok (.istore 7, 2) := by decide +kernel
theorem dX11_near_15 : decode cX11_near 15 = .ok (.iload 7, 2) := by decide +kernel
theorem dX11_near_17 : decode cX11_near 17 = .ok (.ifCond .eq 10, 3) := by decide +kernel
theorem dX11_near_20 : decode cX11_near 20 = .ok (.aload_n 0, 1) := by decide +kernel
theorem dX11_near_21 : decode cX11_near 21 = .ok (.iload 7, 2) := by decide +kernel
theorem dX11_near_23 : decode cX11_near 23 = .ok (.invokevirtual 73, 3) := by decide +kernel
theorem dX11_near_26 : decode cX11_near 26 = .ok (.ireturn, 1) := by decide +kernel
theorem dX11_near_27 : decode cX11_near 27 = .ok (.aload_n 0, 1) := by decide +kernel
theorem dX11_near_28 : decode cX11_near 28 = .ok (.getfield 54, 3) := by decide +kernel
theorem dX11_near_31 : decode cX11_near 31 = .ok (.aload_n 0, 1) := by decide +kernel
theorem dX11_near_32 : decode cX11_near 32 = .ok (.getfield 11, 3) := by decide +kernel
theorem dX11_near_35 : decode cX11_near 35 = .ok (.iload_n 1, 1) := by decide +kernel
theorem dX11_near_36 : decode cX11_near 36 = .ok (.aaload, 1) := by decide +kernel
theorem dX11_near_37 : decode cX11_near 37 = .ok (.lconst 0, 1) := by decide +kernel
theorem dX11_near_38 : decode cX11_near 38 = .ok (.lconst 0, 1) := by decide +kernel
theorem dX11_near_39 : decode cX11_near 39 = .ok (.iconst 0, 1) := by decide +kernel
theorem dX11_near_40 : decode cX11_near 40 = .ok (.invokevirtual 225, 3) := by decide +kernel
theorem dX11_near_43 : decode cX11_near 43 = .ok (.aload_n 0, 1) := by decide +kernel
theorem dX11_near_44 : decode cX11_near 44 = .ok (.getfield 58, 3) := by decide +kernel
theorem dX11_near_47 : decode cX11_near 47 = .ok (.aload_n 0, 1) := by decide +kernel
theorem dX11_near_48 : decode cX11_near 48 = .ok (.getfield 11, 3) := by decide +kernel
theorem dX11_near_51 : decode cX11_near 51 = .ok (.iload_n 2, 1) := by decide +kernel
theorem dX11_near_52 : decode cX11_near 52 = .ok (.aaload, 1) := by decide +kernel
theorem dX11_near_53 : decode cX11_near 53 = .ok (.iload 4, 2) := by decide +kernel
theorem dX11_near_55 : decode cX11_near 55 = .ok (.i2l, 1) := by decide +kernel
theorem dX11_near_56 : decode cX11_near 56 = .ok (.iload 5, 2) := by decide +kernel
theorem dX11_near_58 : decode cX11_near 58 = .ok (.i2l, 1) := by decide +kernel
theorem dX11_near_59 : decode cX11_near 59 = .ok (.iconst 0, 1) := by decide +kernel
theorem dX11_near_60 : decode cX11_near 60 = .ok (.invokevirtual 225, 3) := by decide +kernel
theorem dX11_near_63 : decode cX11_near 63 = .ok (.ldc2_w 263, 3) := by decide +kernel
theorem dX11_near_66 : decode cX11_near 66 = .ok (.lstore 8, 2) := by decide +kernel
theorem dX11_near_68 : decode cX11_near 68 = .ok (.iconst 0, 1) := by decide +kernel
theorem dX11_near_69 : decode cX11_near 69 = .ok (.istore 10, 2) := by decide +kernel
theorem dX11_near_71 : decode cX11_near 71 = .ok (.iconst 0, 1) := by decide +kernel
theorem dX11_near_72 : decode cX11_near 72 = .ok (.istore 11, 2) := by decide +kernel
theorem dX11_near_74 : decode cX11_near 74 = .ok (.iload 11, 2) := by decide +kernel
theorem dX11_near_76 : decode cX11_near 76 = .ok (.iload_n 3, 1) := by decide +kernel
theorem dX11_near_77 : decode cX11_near 77 = .ok (.if_icmp .gt 57, 3) := by decide +kernel
theorem dX11_near_80 : decode cX11_near 80 = .ok (.aload_n 0, 1) := by decide +kernel
theorem dX11_near_81 : decode cX11_near 81 = .ok (.getfield 54, 3) := by decide +kernel
theorem dX11_near_84 : decode cX11_near 84 = .ok (.aload_n 0, 1) := by decide +kernel
theorem dX11_near_85 : decode cX11_near 85 = .ok (.getfield 58, 3) := by decide +kernel
theorem dX11_near_88 : decode cX11_near 88 = .ok (.invokevirtual 265, 3) := by decide +kernel
theorem dX11_near_91 : decode cX11_near 91 = .ok (.lstore 12, 2) := by decide +kernel
theorem dX11_near_93 : decode cX11_near 93 = .ok (.iload 11, 2) := by decide +kernel
theorem dX11_near_95 : decode cX11_near 95 = .ok (.ifCond .eq 11, 3) := by decide +kernel
theorem dX11_near_98 : decode cX11_near 98 = .ok (.lload 12, 2) := by decide +kernel
theorem dX11_near_100 : decode cX11_near 100 = .ok (.lload 8, 2) := by decide +kernel
theorem dX11_near_102 : decode cX11_near 102 = .ok (.lcmp, 1) := by decide +kernel
theorem dX11_near_103 : decode cX11_near 103 = .ok (.ifCond .ge 11, 3) := by decide +kernel
theorem dX11_near_106 : decode cX11_near 106 = .ok (.lload 12, 2) := by decide +kernel
theorem dX11_near_108 : decode cX11_near 108 = .ok (.lstore 8, 2) := by decide +kernel
theorem dX11_near_110 : decode cX11_near 110 = .ok (.iload 11, 2) := by decide +kernel
theorem dX11_near_112 : decode cX11_near 112 = .ok (.istore 10, 2) := by decide +kernel
theorem dX11_near_114 : decode cX11_near 114 = .ok (.aload_n 0, 1) := by decide +kernel
theorem dX11_near_115 : decode cX11_near 115 = .ok (.getfield 54, 3) := by decide +kernel
theorem dX11_near_118 : decode cX11_near 118 = .ok (.invokevirtual 232, 3) := by decide +kernel
theorem dX11_near_121 : decode cX11_near 121 = .ok (.aload_n 0, 1) := by decide +kernel
theorem dX11_near_122 : decode cX11_near 122 = .ok (.getfield 58, 3) := by decide +kernel
theorem dX11_near_125 : decode cX11_near 125 = .ok (.invokevirtual 232, 3) := by decide +kernel
theorem dX11_near_128 : decode cX11_near 128 = .ok (.iinc 11 1, 3) := by decide +kernel
theorem dX11_near_131 : decode cX11_near 131 = .ok (.goto (-57), 3) := by decide +kernel
theorem dX11_near_134 : decode cX11_near 134 = .ok (.iload 6, 2) := by decide +kernel
theorem dX11_near_136 : decode cX11_near 136 = .ok (.ifCond .ne 9, 3) := by decide +kernel
theorem dX11_near_139 : decode cX11_near 139 = .ok (.lload 8, 2) := by decide +kernel
theorem dX11_near_141 : decode cX11_near 141 = .ok (.l2i, 1) := by decide +kernel
theorem dX11_near_142 : decode cX11_near 142 = .ok (.goto 5, 3) := by decide +kernel
theorem dX11_near_145 : decode cX11_near 145 = .ok (.iload 10, 2) := by decide +kernel
theorem dX11_near_147 : decode cX11_near 147 = .ok (.ireturn, 1) := by decide +kernel
theorem dX11_noNear_0 : decode cX11_noNear 0 = .ok (.aload_n 0, 1) := by decide +kernel
theorem dX11_noNear_1 : decode cX11_noNear 1 = .ok (.iload_n 1, 1) := by decide +kernel
theorem dX11_noNear_2 : decode cX11_noNear 2 = .ok (.iload_n 3, 1) := by decide +kernel
theorem dX11_noNear_3 : decode cX11_noNear 3 = .ok (.sipush 4000, 3) := by decide +kernel
theorem dX11_noNear_6 : decode cX11_noNear 6 = .ok (.invokevirtual 221, 3) := by decide +kernel
theorem dX11_noNear_9 : decode cX11_noNear 9 = .ok (.istore 7, 2) := by decide +kernel
theorem dX11_noNear_11 : decode cX11_noNear 11 = .ok (.aload_n 0, 1) := by decide +kernel
theorem dX11_noNear_12 : decode cX11_noNear 12 = .ok (.iload_n 2, 1) := by decide +kernel
theorem dX11_noNear_13 : decode cX11_noNear 13 = .ok (.iload_n 3, 1) := by decide +kernel
theorem dX11_noNear_14 : decode cX11_noNear 14 = .ok (.sipush 4000, 3) := by decide +kernel
theorem dX11_noNear_17 : decode cX11_noNear 17 = .ok (.invokevirtual 221, 3) := by decide +kernel
theorem dX11_noNear_20 : decode cX11_noNear 20 = .ok (.istore 8, 2) := by decide +kernel
theorem dX11_noNear_22 : decode cX11_noNear 22 = .ok (.iload 7, 2) := by decide +kernel
theorem dX11_noNear_24 : decode cX11_noNear 24 = .ok (.iconst (-1), 1) := by decide +kernel
theorem dX11_noNear_25 : decode cX11_noNear 25 = .ok (.if_icmp .eq 9, 3) := by decide +kernel
theorem dX11_noNear_28 : decode cX11_noNear 28 = .ok (.iload 8, 2) := by decide +kernel
theorem dX11_noNear_30 : decode cX11_noNear 30 = .ok (.iconst (-1), 1) := by decide +kernel
theorem dX11_noNear_31 : decode cX11_noNear 31 = .ok (.if_icmp .ne 5, 3) := by decide +kernel
theorem dX11_noNear_34 : decode cX11_noNear 34 = .ok (.iconst (-1), 1) := by decide +kernel
theorem dX11_noNear_35 : decode cX11_noNear 35 = .ok (.ireturn, 1) := by decide +kernel
theorem dX11_noNear_36 : decode cX11_noNear 36 = .ok (.iload 7, 2) := by decide +kernel
theorem dX11_noNear_38 : decode cX11_noNear 38 = .ok (.bipush (-5), 2) := by decide +kernel
theorem dX11_noNear_40 : decode cX11_noNear 40 = .ok (.if_icmp .eq 21, 3) := by decide +kernel
theorem dX11_noNear_43 : decode cX11_noNear 43 = .ok (.iload 8, 2) := by decide +kernel
theorem dX11_noNear_45 : decode cX11_noNear 45 = .ok (.bipush (-5), 2) := by decide +kernel
theorem dX11_noNear_47 : decode cX11_noNear 47 = .ok (.if_icmp .eq 14, 3) := by decide +kernel
theorem dX11_noNear_50 : decode cX11_noNear 50 = .ok (.iload 6, 2) := by decide +kernel
theorem dX11_noNear_52 : decode cX11_noNear 52 = .ok (.ifCond .eq 12, 3) := by decide +kernel
theorem dX11_noNear_55 : decode cX11_noNear 55 = .ok (.iload 6, 2) := by decide +kernel
theorem dX11_noNear_57 : decode cX11_noNear 57 = .ok (.iconst 1, 1) := by decide +kernel
theorem dX11_noNear_58 : decode cX11_noNear 58 = .ok (.if_icmp .eq 6, 3) := by decide +kernel
theorem dX11_noNear_61 : decode cX11_noNear 61 = .ok (.bipush (-5), 2) := by decide +kernel
theorem dX11_noNear_63 : decode cX11_noNear 63 = .ok (.ireturn, 1) := by decide +kernel
theorem dX11_noNear_64 : decode cX11_noNear 64 = .ok (.iload 7, 2) := by decide +kernel
theorem dX11_noNear_66 : decode cX11_noNear 66 = .ok (.bipush (-6), 2) := by decide +kernel
theorem dX11_noNear_68 : decode cX11_noNear 68 = .ok (.if_icmp .eq 19, 3) := by decide +kernel
theorem dX11_noNear_71 : decode cX11_noNear 71 = .ok (.iload 4, 2) := by decide +kernel
theorem dX11_noNear_73 : decode cX11_noNear 73 = .ok (.invokestatic 269, 3) := by decide +kernel
theorem dX11_noNear_76 : decode cX11_noNear 76 = .ok (.ifCond .ne 11, 3) := by decide +kernel
theorem dX11_noNear_79 : decode cX11_noNear 79 = .ok (.iload 5, 2) := by decide +kernel
theorem dX11_noNear_81 : decode cX11_noNear 81 = .ok (.invokestatic 269, 3) := by decide +kernel
theorem dX11_noNear_84 : decode cX11_noNear 84 = .ok (.ifCond .eq 7, 3) := by decide +kernel
theorem dX11_noNear_87 : decode cX11_noNear 87 = .ok (.iconst 1, 1) := by decide +kernel
theorem dX11_noNear_88 : decode cX11_noNear 88 = .ok (.goto 4, 3) := by decide +kernel
theorem dX11_noNear_91 : decode cX11_noNear 91 = .ok (.iconst 0, 1) := by decide +kernel
theorem dX11_noNear_92 : decode cX11_noNear 92 = .ok (.istore 9, 2) := by decide +kernel
theorem dX11_noNear_94 : decode cX11_noNear 94 = .ok (.iload 9, 2) := by decide +kernel
theorem dX11_noNear_96 : decode cX11_noNear 96 = .ok (.ifCond .eq 8, 3) := by decide +kernel
theorem dX11_noNear_99 : decode cX11_noNear 99 = .ok (.bipush (-6), 2) := by decide +kernel
theorem dX11_noNear_101 : decode cX11_noNear 101 = .ok (.goto 4, 3) := by decide +kernel
theorem dX11_noNear_104 : decode cX11_noNear 104 = .ok (.iconst 0, 1) := by decide +kernel
theorem dX11_noNear_105 : decode cX11_noNear 105 = .ok (.ireturn, 1) := by decide +kernel
theorem dX11_isFarOff_0 : decode cX11_isFarOff 0 = .ok (.iload_n 0, 1) := by decide +kernel
theorem dX11_isFarOff_1 : decode cX11_isFarOff 1 = .ok (.bipush (-100), 2) := by decide +kernel
theorem dX11_isFarOff_3 : decode cX11_isFarOff 3 = .ok (.if_icmp .lt 9, 3) := by decide +kernel
theorem dX11_isFarOff_6 : decode cX11_isFarOff 6 = .ok (.iload_n 0, 1) := by decide +kernel
theorem dX11_isFarOff_7 : decode cX11_isFarOff 7 = .ok (.bipush 100, 2) := by decide +kernel
theorem dX11_isFarOff_9 : decode cX11_isFarOff 9 = .ok (.if_icmp .le 7, 3) := by decide +kernel
theorem dX11_isFarOff_12 : decode cX11_isFarOff 12 = .ok (.iconst 1, 1) := by decide +kernel
theorem dX11_isFarOff_13 : decode cX11_isFarOff 13 = .ok (.goto 4, 3) := by decide +kernel
theorem dX11_isFarOff_16 : decode cX11_isFarOff 16 = .ok (.iconst 0, 1) := by decide +kernel
theorem dX11_isFarOff_17 : decode cX11_isFarOff 17 = .ok (.ireturn, 1) := by decide +kernel
theorem dX11_four_0 : decode cX11_four 0 = .ok (.aload_n 0, 1) := by decide +kernel
theorem dX11_four_1 : decode cX11_four 1 = .ok (.iload_n 1, 1) := by decide +kernel
theorem dX11_four_2 : decode cX11_four 2 = .ok (.iload_n 2, 1) := by decide +kernel
theorem dX11_four_3 : decode cX11_four 3 = .ok (.sipush 1000, 3) := by decide +kernel
theorem dX11_four_6 : decode cX11_four 6 = .ok (.invokevirtual 221, 3) := by decide +kernel
theorem dX11_four_9 : decode cX11_four 9 = .ok (.istore_n 3, 1) := by decide +kernel
theorem dX11_four_10 : decode cX11_four 10 = .ok (.iload_n 3, 1) := by decide +kernel
theorem dX11_four_11 : decode cX11_four 11 = .ok (.ifCond .eq 9, 3) := by decide +kernel
theorem dX11_four_14 : decode cX11_four 14 = .ok (.aload_n 0, 1) := by decide +kernel
theorem dX11_four_15 : decode cX11_four 15 = .ok (.iload_n 3, 1) := by decide +kernel
theorem dX11_four_16 : decode cX11_four 16 = .ok (.invokevirtual 73, 3) := by decide +kernel
theorem dX11_four_19 : decode cX11_four 19 = .ok (.ireturn, 1) := by decide +kernel
theorem dX11_four_20 : decode cX11_four 20 = .ok (.aload_n 0, 1) := by decide +kernel
theorem dX11_four_21 : decode cX11_four 21 = .ok (.getfield 54, 3) := by decide +kernel
theorem dX11_four_24 : decode cX11_four 24 = .ok (.invokevirtual 235, 3) := by decide +kernel
theorem dX11_four_27 : decode cX11_four 27 = .ok (.iconst 0, 1) := by decide +kernel
theorem dX11_four_28 : decode cX11_four 28 = .ok (.istore 4, 2) := by decide +kernel
theorem dX11_four_30 : decode cX11_four 30 = .ok (.iload 4, 2) := by decide +kernel
theorem dX11_four_32 : decode cX11_four 32 = .ok (.iconst 4, 1) := by decide +kernel
theorem dX11_four_33 : decode cX11_four 33 = .ok (.if_icmp .ge 63, 3) := by decide +kernel
theorem dX11_four_36 : decode cX11_four 36 = .ok (.aload_n 0, 1) := by decide +kernel
theorem dX11_four_37 : decode cX11_four 37 = .ok (.getfield 54, 3) := by decide +kernel
theorem dX11_four_40 : decode cX11_four 40 = .ok (.aload_n 0, 1) := by decide +kernel
theorem dX11_four_41 : decode cX11_four 41 = .ok (.getfield 11, 3) := by decide +kernel
theorem dX11_four_44 : decode cX11_four 44 = .ok (.iload_n 1, 1) := by decide +kernel
theorem dX11_four_45 : decode cX11_four 45 = .ok (.aaload, 1) := by decide +kernel
theorem dX11_four_46 : decode cX11_four 46 = .ok (.lconst 0, 1) := by decide +kernel
theorem dX11_four_47 : decode cX11_four 47 = .ok (.lconst 0, 1) := by decide +kernel
theorem dX11_four_48 : decode cX11_four 48 = .ok (.iload 4, 2) := by decide +kernel
theorem dX11_four_50 : decode cX11_four 50 = .ok (.invokevirtual 225, 3) := by decide +kernel
theorem dX11_four_53 : decode cX11_four 53 = .ok (.iconst 0, 1) := by decide +kernel
theorem dX11_four_54 : decode cX11_four 54 = .ok (.istore 5, 2) := by decide +kernel
theorem dX11_four_56 : decode cX11_four 56 = .ok (.iload 5, 2) := by decide +kernel
theorem dX11_four_58 : decode cX11_four 58 = .ok (.iload_n 2, 1) := by decide +kernel
theorem dX11_four_59 : decode cX11_four 59 = .ok (.if_icmp .ge 31, 3) := by decide +kernel
theorem dX11_four_62 : decode cX11_four 62 = .ok (.aload_n 0, 1) := by decide +kernel
theorem dX11_four_63 : decode cX11_four 63 = .ok (.getfield 54, 3) := by decide +kernel
theorem dX11_four_66 : decode cX11_four 66 = .ok (.invokevirtual 232, 3) := by decide +kernel
theorem dX11_four_69 : decode cX11_four 69 = .ok (.aload_n 0, 1) := by decide +kernel
theorem dX11_four_70 : decode cX11_four 70 = .ok (.getfield 54, 3) := by decide +kernel
theorem dX11_four_73 : decode cX11_four 73 = .ok (.aload_n 0, 1) := by decide +kernel
theorem dX11_four_74 : decode cX11_four 74 = .ok (.getfield 54, 3) := by decide +kernel
theorem dX11_four_77 : decode cX11_four 77 = .ok (.invokevirtual 250, 3) := by decide +kernel
theorem dX11_four_80 : decode cX11_four 80 = .ok (.invokevirtual 242, 3) := by decide +kernel
theorem dX11_four_83 : decode cX11_four 83 = .ok (.pop, 1) := by decide +kernel
theorem dX11_four_84 : decode cX11_four 84 = .ok (.iinc 5 1, 3) := by decide +kernel
theorem dX11_four_87 : decode cX11_four 87 = .ok (.goto (-31), 3) := by decide +kernel
theorem dX11_four_90 : decode cX11_four 90 = .ok (.iinc 4 1, 3) := by decide +kernel
theorem dX11_four_93 : decode cX11_four 93 = .ok (.goto (-63), 3) := by decide +kernel
theorem dX11_four_96 : decode cX11_four 96 = .ok (.iconst 0, 1) := by decide +kernel
theorem dX11_four_97 : decode cX11_four 97 = .ok (.istore 4, 2) := by decide +kernel
theorem dX11_four_99 : decode cX11_four 99 = .ok (.iload 4, 2) := by decide +kernel
theorem dX11_four_101 : decode cX11_four 101 = .ok (.bipush 30, 2) := by decide +kernel
theorem dX11_four_103 : decode cX11_four 103 = .ok (.if_icmp .ge 23, 3) := by decide +kernel
theorem dX11_four_106 : decode cX11_four 106 = .ok (.aload_n 0, 1) := by decide +kernel
theorem dX11_four_107 : decode cX11_four 107 = .ok (.getfield 54, 3) := by decide +kernel
theorem dX11_four_110 : decode cX11_four 110 = .ok (.iload 4, 2) := by decide +kernel
theorem dX11_four_112 : decode cX11_four 112 = .ok (.iconst 1, 1) := by decide +kernel
theorem dX11_four_113 : decode cX11_four 113 = .ok (.iadd, 1) := by decide +kernel
theorem dX11_four_114 : decode cX11_four 114 = .ok (.invokevirtual 272, 3) := by decide +kernel
theorem dX11_four_117 : decode cX11_four 117 = .ok (.ifCond .eq 9, 3) := by decide +kernel
theorem dX11_four_120 : decode cX11_four 120 = .ok (.iinc 4 1, 3) := by decide +kernel
theorem dX11_four_123 : decode cX11_four 123 = .ok (.goto (-24), 3) := by decide +kernel
theorem dX11_four_126 : decode cX11_four 126 = .ok (.iload 4, 2) := by decide +kernel
theorem dX11_four_128 : decode cX11_four 128 = .ok (.ireturn, 1) := by decide +kernel
theorem dX11_words_0 : decode cX11_words 0 = .ok (.aload_n 0, 1) := by decide +kernel
theorem dX11_words_1 : decode cX11_words 1 = .ok (.iload_n 1, 1) := by decide +kernel
theorem dX11_words_2 : decode cX11_words 2 = .ok (.iload_n 2, 1) := by decide +kernel
theorem dX11_words_3 : decode cX11_words 3 = .ok (.invokevirtual 275, 3) := by decide +kernel
theorem dX11_words_6 : decode cX11_words 6 = .ok (.istore 4, 2) := by decide +kernel
theorem dX11_words_8 : decode cX11_words 8 = .ok (.iload 4, 2) := by decide +kernel
theorem dX11_words_10 : decode cX11_words 10 = .ok (.ifCond .ne 20, 3) := by decide +kernel
theorem dX11_words_13 : decode cX11_words 13 = .ok (.iload_n 3, 1) := by decide +kernel
theorem dX11_words_14 : decode cX11_words 14 = .ok (.iconst (-1), 1) := by decide +kernel
theorem dX11_words_15 : decode cX11_words 15 = .ok (.if_icmp .lt 11, 3) := by decide +kernel
theorem dX11_words_18 : decode cX11_words 18 = .ok (.iload_n 3, 1) := by decide +kernel
theorem dX11_words_19 : decode cX11_words 19 = .ok (.iload_n 2, 1) := by decide +kernel
theorem dX11_words_20 : decode cX11_words 20 = .ok (.invokestatic 278, 3) := by decide +kernel
theorem dX11_words_23 : decode cX11_words 23 = .ok (.if_icmp .lt 7, 3) := by decide +kernel
theorem dX11_words_26 : decode cX11_words 26 = .ok (.bipush (-5), 2) := by decide +kernel
theorem dX11_words_28 : decode cX11_words 28 = .ok (.istore 4, 2) := by decide +kernel
theorem dX11_words_30 : decode cX11_words 30 = .ok (.iload 4, 2) := by decide +kernel
theorem dX11_words_32 : decode cX11_words 32 = .ok (.ifCond .eq 13, 3) := by decide +kernel
theorem dX11_words_35 : decode cX11_words 35 = .ok (.aload_n 0, 1) := by decide +kernel
theorem dX11_words_36 : decode cX11_words 36 = .ok (.iload 4, 2) := by decide +kernel
theorem dX11_words_38 : decode cX11_words 38 = .ok (.invokevirtual 73, 3) := by decide +kernel
theorem dX11_words_41 : decode cX11_words 41 = .ok (.bipush (-10), 2) := by decide +kernel
theorem dX11_words_43 : decode cX11_words 43 = .ok (.iadd, 1) := by decide +kernel
theorem dX11_words_44 : decode cX11_words 44 = .ok (.ireturn, 1) := by decide +kernel
theorem dX11_words_45 : decode cX11_words 45 = .ok (.aload_n 0, 1) := by decide +kernel
theorem dX11_words_46 : decode cX11_words 46 = .ok (.getfield 24, 3) := by decide +kernel
theorem dX11_words_49 : decode cX11_words 49 = .ok (.iload_n 1, 1) := by decide +kernel
theorem dX11_words_50 : decode cX11_words 50 = .ok (.aaload, 1) := by decide +kernel
theorem dX11_words_51 : decode cX11_words 51 = .ok (.iload_n 2, 1) := by decide +kernel
theorem dX11_words_52 : decode cX11_words 52 = .ok (.iconst 1, 1) := by decide +kernel
theorem dX11_words_53 : decode cX11_words 53 = .ok (.invokestatic 281, 3) := by decide +kernel
theorem dX11_words_56 : decode cX11_words 56 = .ok (.istore 5, 2) := by decide +kernel
theorem dX11_words_58 : decode cX11_words 58 = .ok (.aload_n 0, 1) := by decide +kernel
theorem dX11_words_59 : decode cX11_words 59 = .ok (.getfield 24, 3) := by decide +kernel
theorem dX11_words_62 : decode cX11_words 62 = .ok (.iload_n 1, 1) := by decide +kernel
theorem dX11_words_63 : decode cX11_words 63 = .ok (.aaload, 1) := by decide +kernel
theorem dX11_words_64 : decode cX11_words 64 = .ok (.iload_n 2, 1) := by decide +kernel
theorem dX11_words_65 : decode cX11_words 65 = .ok (.iconst 0, 1) := by decide +kernel
theorem dX11_words_66 : decode cX11_words 66 = .ok (.invokestatic 281, 3) := by decide +kernel
theorem dX11_words_69 : decode cX11_words 69 = .ok (.istore 6, 2) := by decide +kernel
theorem dX11_words_71 : decode cX11_words 71 = .ok (.iload 5, 2) := by decide +kernel
theorem dX11_words_73 : decode cX11_words 73 = .ok (.iload 6, 2) := by decide +kernel
theorem dX11_words_75 : decode cX11_words 75 = .ok (.iand, 1) := by decide +kernel
theorem dX11_words_76 : decode cX11_words 76 = .ok (.ifCond .ne 7, 3) := by decide +kernel
theorem dX11_words_79 : decode cX11_words 79 = .ok (.iconst 1, 1) := by decide +kernel
theorem dX11_words_80 : decode cX11_words 80 = .ok (.goto 4, 3) := by decide +kernel
theorem dX11_words_83 : decode cX11_words 83 = .ok (.iconst 0, 1) := by decide +kernel
theorem dX11_words_84 : decode cX11_words 84 = .ok (.istore 7, 2) := by decide +kernel
theorem dX11_words_86 : decode cX11_words 86 = .ok (.iload_n 3, 1) := by decide +kernel
theorem dX11_words_87 : decode cX11_words 87 = .ok (.iconst (-1), 1) := by decide +kernel
theorem dX11_words_88 : decode cX11_words 88 = .ok (.if_icmp .ne 26, 3) := by decide +kernel
theorem dX11_words_91 : decode cX11_words 91 = .ok (.iload 7, 2) := by decide +kernel
theorem dX11_words_93 : decode cX11_words 93 = .ok (.ifCond .eq 19, 3) := by decide +kernel
theorem dX11_words_96 : decode cX11_words 96 = .ok (.iload_n 2, 1) := by decide +kernel
theorem dX11_words_97 : decode cX11_words 97 = .ok (.invokestatic 278, 3) := by decide +kernel
theorem dX11_words_100 : decode cX11_words 100 = .ok (.iload 5, 2) := by decide +kernel
theorem dX11_words_102 : decode cX11_words 102 = .ok (.iload 6, 2) := by decide +kernel
theorem dX11_words_104 : decode cX11_words 104 = .ok (.ior, 1) := by decide +kernel
theorem dX11_words_105 : decode cX11_words 105 = .ok (.invokestatic 285, 3) := by decide +kernel
theorem dX11_words_108 : decode cX11_words 108 = .ok (.isub, 1) := by decide +kernel
theorem dX11_words_109 : decode cX11_words 109 = .ok (.goto 4, 3) := by decide +kernel
theorem dX11_words_112 : decode cX11_words 112 = .ok (.iconst (-1), 1) := by decide +kernel
theorem dX11_words_113 : decode cX11_words 113 = .ok (.ireturn, 1) := by decide +kernel
theorem dX11_words_114 : decode cX11_words 114 = .ok (.iload 7, 2) := by decide +kernel
theorem dX11_words_116 : decode cX11_words 116 = .ok (.ifCond .ne 13, 3) := by decide +kernel
theorem dX11_words_119 : decode cX11_words 119 = .ok (.aload_n 0, 1) := by decide +kernel
theorem dX11_words_120 : decode cX11_words 120 = .ok (.bipush (-5), 2) := by decide +kernel
theorem dX11_words_122 : decode cX11_words 122 = .ok (.invokevirtual 73, 3) := by decide +kernel
theorem dX11_words_125 : decode cX11_words 125 = .ok (.bipush (-10), 2) := by decide +kernel
theorem dX11_words_127 : decode cX11_words 127 = .ok (.iadd, 1) := by decide +kernel
theorem dX11_words_128 : decode cX11_words 128 = .ok (.ireturn, 1) := by decide +kernel
theorem dX11_words_129 : decode cX11_words 129 = .ok (.iload 5, 2) := by decide +kernel
theorem dX11_words_131 : decode cX11_words 131 = .ok (.iload_n 3, 1) := by decide +kernel
theorem dX11_words_132 : decode cX11_words 132 = .ok (.ishr, 1) := by decide +kernel
theorem dX11_words_133 : decode cX11_words 133 = .ok (.iconst 1, 1) := by decide +kernel
theorem dX11_words_134 : decode cX11_words 134 = .ok (.iand, 1) := by decide +kernel
theorem dX11_words_135 : decode cX11_words 135 = .ok (.ireturn, 1) := by decide +kernel
theorem dX11_wrong_0 : decode cX11_wrong 0 = .ok (.aload_n 0, 1) := by decide +kernel
theorem dX11_wrong_1 : decode cX11_wrong 1 = .ok (.iload_n 1, 1) := by decide +kernel
theorem dX11_wrong_2 : decode cX11_wrong 2 = .ok (.iload_n 2, 1) := by decide +kernel
theorem dX11_wrong_3 : decode cX11_wrong 3 = .ok (.invokevirtual 275, 3) := by decide +kernel
theorem dX11_wrong_6 : decode cX11_wrong 6 = .ok (.istore_n 3, 1) := by decide +kernel
theorem dX11_wrong_7 : decode cX11_wrong 7 = .ok (.iload_n 3, 1) := by decide +kernel
theorem dX11_wrong_8 : decode cX11_wrong 8 = .ok (.ifCond .eq 12, 3) := by decide +kernel
theorem dX11_wrong_11 : decode cX11_wrong 11 = .ok (.aload_n 0, 1) := by decide +kernel
theorem dX11_wrong_12 : decode cX11_wrong 12 = .ok (.iload_n 3, 1) := by decide +kernel
theorem dX11_wrong_13 : decode cX11_wrong 13 = .ok (.invokevirtual 73, 3) := by decide +kernel
theorem dX11_wrong_16 : decode cX11_wrong 16 = .ok (.bipush (-10), 2) := by decide +kernel
theorem dX11_wrong_18 : decode cX11_wrong 18 = .ok (.iadd, 1) := by decide +kernel
theorem dX11_wrong_19 : decode cX11_wrong 19 = .ok (.ireturn, 1) := by decide +kernel
theorem dX11_wrong_20 : decode cX11_wrong 20 = .ok (.iconst 1, 1) := by decide +kernel
theorem dX11_wrong_21 : decode cX11_wrong 21 = .ok (.istore 4, 2) := by decide +kernel
theorem dX11_wrong_23 : decode cX11_wrong 23 = .ok (.iload 4, 2) := by decide +kernel
theorem dX11_wrong_25 : decode cX11_wrong 25 = .ok (.iload_n 2, 1) := by decide +kernel
theorem dX11_wrong_26 : decode cX11_wrong 26 = .ok (.if_icmp .gt 40, 3) := by decide +kernel
theorem dX11_wrong_29 : decode cX11_wrong 29 = .ok (.aload_n 0, 1) := by decide +kernel
theorem dX11_wrong_30 : decode cX11_wrong 30 = .ok (.getfield 24, 3) := by decide +kernel
theorem dX11_wrong_33 : decode cX11_wrong 33 = .ok (.iload_n 1, 1) := by decide +kernel
theorem dX11_wrong_34 : decode cX11_wrong 34 = .ok (.aaload, 1) := by decide +kernel
theorem dX11_wrong_35 : decode cX11_wrong 35 = .ok (.iload 4, 2) := by decide +kernel
theorem dX11_wrong_37 : decode cX11_wrong 37 = .ok (.iconst 1, 1) := by decide +kernel
theorem dX11_wrong_38 : decode cX11_wrong 38 = .ok (.invokestatic 281, 3) := by decide +kernel
theorem dX11_wrong_41 : decode cX11_wrong 41 = .ok (.aload_n 0, 1) := by decide +kernel
theorem dX11_wrong_42 : decode cX11_wrong 42 = .ok (.getfield 24, 3) := by decide +kernel
theorem dX11_wrong_45 : decode cX11_wrong 45 = .ok (.iload_n 1, 1) := by decide +kernel
theorem dX11_wrong_46 : decode cX11_wrong 46 = .ok (.aaload, 1) := by decide +kernel
theorem dX11_wrong_47 : decode cX11_wrong 47 = .ok (.iload 4, 2) := by decide +kernel
theorem dX11_wrong_49 : decode cX11_wrong 49 = .ok (.iconst 0, 1) := by decide +kernel
theorem dX11_wrong_50 : decode cX11_wrong 50 = .ok (.invokestatic 281, 3) := by decide +kernel
theorem dX11_wrong_53 : decode cX11_wrong 53 = .ok (.iand, 1) := by decide +kernel
theorem dX11_wrong_54 : decode cX11_wrong 54 = .ok (.ifCond .eq 6, 3) := by decide +kernel
theorem dX11_wrong_57 : decode cX11_wrong 57 = .ok (.iload 4, 2) := by decide +kernel
theorem dX11_wrong_59 : decode cX11_wrong 59 = .ok (.ireturn, 1) := by decide +kernel
theorem dX11_wrong_60 : decode cX11_wrong 60 = .ok (.iinc 4 1, 3) := by decide +kernel
theorem dX11_wrong_63 : decode cX11_wrong 63 = .ok (.goto (-40), 3) := by decide +kernel
theorem dX11_wrong_66 : decode cX11_wrong 66 = .ok (.iconst (-1), 1) := by decide +kernel
theorem dX11_wrong_67 : decode cX11_wrong 67 = .ok (.ireturn, 1) := by decide +kernel
theorem dX11_mend_0 : decode cX11_mend 0 = .ok (.aload_n 0, 1) := by decide +kernel
theorem dX11_mend_1 : decode cX11_mend 1 = .ok (.iload_n 1, 1) := by decide +kernel
theorem dX11_mend_2 : decode cX11_mend 2 = .ok (.iload_n 2, 1) := by decide +kernel
theorem dX11_mend_3 : decode cX11_mend 3 = .ok (.invokevirtual 275, 3) := by decide +kernel
theorem dX11_mend_6 : decode cX11_mend 6 = .ok (.istore_n 3, 1) := by decide +kernel
theorem dX11_mend_7 : decode cX11_mend 7 = .ok (.iload_n 3, 1) := by decide +kernel
theorem dX11_mend_8 : decode cX11_mend 8 = .ok (.ifCond .eq 9, 3) := by decide +kernel
theorem dX11_mend_11 : decode cX11_mend 11 = .ok (.aload_n 0, 1) := by decide +kernel
theorem dX11_mend_12 : decode cX11_mend 12 = .ok (.iload_n 3, 1) := by decide +kernel
theorem dX11_mend_13 : decode cX11_mend 13 = .ok (.invokevirtual 73, 3) := by decide +kernel
theorem dX11_mend_16 : decode cX11_mend 16 = .ok (.ireturn, 1) := by decide +kernel
theorem dX11_mend_17 : decode cX11_mend 17 = .ok (.iconst 0, 1) := by decide +kernel
theorem dX11_mend_18 : decode cX11_mend 18 = .ok (.istore 4, 2) := by decide +kernel
theorem dX11_mend_20 : decode cX11_mend 20 = .ok (.iconst 1, 1) := by decide +kernel
theorem dX11_mend_21 : decode cX11_mend 21 = .ok (.istore 5, 2) := by decide +kernel
theorem dX11_mend_23 : decode cX11_mend 23 = .ok (.iload 5, 2) := by decide +kernel
theorem dX11_mend_25 : decode cX11_mend 25 = .ok (.iload_n 2, 1) := by decide +kernel
theorem dX11_mend_26 : decode cX11_mend 26 = .ok (.if_icmp .gt 96, 3) := by decide +kernel
theorem dX11_mend_29 : decode cX11_mend 29 = .ok (.iconst 0, 1) := by decide +kernel
theorem dX11_mend_30 : decode cX11_mend 30 = .ok (.istore 6, 2) := by decide +kernel
theorem dX11_mend_32 : decode cX11_mend 32 = .ok (.iconst 0, 1) := by decide +kernel
theorem dX11_mend_33 : decode cX11_mend 33 = .ok (.istore 7, 2) := by decide +kernel
theorem dX11_mend_35 : decode cX11_mend 35 = .ok (.iload 5, 2) := by decide +kernel
theorem dX11_mend_37 : decode cX11_mend 37 = .ok (.istore 8, 2) := by decide +kernel
theorem dX11_mend_39 : decode cX11_mend 39 = .ok (.iload 8, 2) := by decide +kernel
theorem dX11_mend_41 : decode cX11_mend 41 = .ok (.iload_n 2, 1) := by decide +kernel
theorem dX11_mend_42 : decode cX11_mend 42 = .ok (.if_icmp .gt 59, 3) := by decide +kernel
theorem dX11_mend_45 : decode cX11_mend 45 = .ok (.aload_n 0, 1) := by decide +kernel
theorem dX11_mend_46 : decode cX11_mend 46 = .ok (.getfield 24, 3) := by decide +kernel
theorem dX11_mend_49 : decode cX11_mend 49 = .ok (.iload_n 1, 1) := by decide +kernel
theorem dX11_mend_50 : decode cX11_mend 50 = .ok (.aaload, 1) := by decide +kernel
theorem dX11_mend_51 : decode cX11_mend 51 = .ok (.iload 8, 2) := by decide +kernel
theorem dX11_mend_53 : decode cX11_mend 53 = .ok (.invokestatic 290, 3) := by decide +kernel
theorem dX11_mend_56 : decode cX11_mend 56 = .ok (.istore 9, 2) := by decide +kernel
theorem dX11_mend_58 : decode cX11_mend 58 = .ok (.iload 6, 2) := by decide +kernel
theorem dX11_mend_60 : decode cX11_mend 60 = .ok (.iload 9, 2) := by decide +kernel
theorem dX11_mend_62 : decode cX11_mend 62 = .ok (.iconst 1, 1) := by decide +kernel
theorem dX11_mend_63 : decode cX11_mend 63 = .ok (.if_icmp .ne 7, 3) := by decide +kernel
theorem dX11_mend_66 : decode cX11_mend 66 = .ok (.iconst 1, 1) := by decide +kernel
theorem dX11_mend_67 : decode cX11_mend 67 = .ok (.goto 4, 3) := by decide +kernel
theorem dX11_mend_70 : decode cX11_mend 70 = .ok (.iconst 0, 1) := by decide +kernel
theorem dX11_mend_71 : decode cX11_mend 71 = .ok (.iadd, 1) := by decide +kernel
theorem dX11_mend_72 : decode cX11_mend 72 = .ok (.istore 6, 2) := by decide +kernel
theorem dX11_mend_74 : decode cX11_mend 74 = .ok (.iload 7, 2) := by decide +kernel
theorem dX11_mend_76 : decode cX11_mend 76 = .ok (.iload 9, 2) := by decide +kernel
theorem dX11_mend_78 : decode cX11_mend 78 = .ok (.ifCond .ne 7, 3) := by decide +kernel
theorem dX11_mend_81 : decode cX11_mend 81 = .ok (.iconst 1, 1) := by decide +kernel
theorem dX11_mend_82 : decode cX11_mend 82 = .ok (.goto 4, 3) := by decide +kernel
theorem dX11_mend_85 : decode cX11_mend 85 = .ok (.iconst 0, 1) := by decide +kernel
theorem dX11_mend_86 : decode cX11_mend 86 = .ok (.iadd, 1) := by decide +kernel
theorem dX11_mend_87 : decode cX11_mend 87 = .ok (.istore 7, 2) := by decide +kernel
theorem dX11_mend_89 : decode cX11_mend 89 = .ok (.iload 8, 2) := by decide +kernel
theorem dX11_mend_91 : decode cX11_mend 91 = .ok (.iconst 2, 1) := by decide +kernel
theorem dX11_mend_92 : decode cX11_mend 92 = .ok (.iload 5, 2) := by decide +kernel
theorem dX11_mend_94 : decode cX11_mend 94 = .ok (.imul, 1) := by decide +kernel
theorem dX11_mend_95 : decode cX11_mend 95 = .ok (.iadd, 1) := by decide +kernel
theorem dX11_mend_96 : decode cX11_mend 96 = .ok (.istore 8, 2) := by decide +kernel
theorem dX11_mend_98 : decode cX11_mend 98 = .ok (.goto (-59), 3) := by decide +kernel
theorem dX11_mend_101 : decode cX11_mend 101 = .ok (.iload 4, 2) := by decide +kernel
theorem dX11_mend_103 : decode cX11_mend 103 = .ok (.iload 6, 2) := by decide +kernel
theorem dX11_mend_105 : decode cX11_mend 105 = .ok (.iload 7, 2) := by decide +kernel
theorem dX11_mend_107 : decode cX11_mend 107 = .ok (.invokestatic 294, 3) := by decide +kernel
theorem dX11_mend_110 : decode cX11_mend 110 = .ok (.iadd, 1) := by decide +kernel
theorem dX11_mend_111 : decode cX11_mend 111 = .ok (.istore 4, 2) := by decide +kernel
theorem dX11_mend_113 : decode cX11_mend 113 = .ok (.iload 5, 2) := by decide +kernel
theorem dX11_mend_115 : decode cX11_mend 115 = .ok (.iconst 2, 1) := by decide +kernel
theorem dX11_mend_116 : decode cX11_mend 116 = .ok (.imul, 1) := by decide +kernel
theorem dX11_mend_117 : decode cX11_mend 117 = .ok (.istore 5, 2) := by decide +kernel
theorem dX11_mend_119 : decode cX11_mend 119 = .ok (.goto (-96), 3) := by decide +kernel
theorem dX11_mend_122 : decode cX11_mend 122 = .ok (.iload 4, 2) := by decide +kernel
theorem dX11_mend_124 : decode cX11_mend 124 = .ok (.ireturn, 1) := by decide +kernel
theorem dX11_judge_0 : decode cX11_judge 0 = .ok (.aload_n 0, 1) := by decide +kernel
theorem dX11_judge_1 : decode cX11_judge 1 = .ok (.iload_n 1, 1) := by decide +kernel
theorem dX11_judge_2 : decode cX11_judge 2 = .ok (.invokevirtual 118, 3) := by decide +kernel
theorem dX11_judge_5 : decode cX11_judge 5 = .ok (.ifCond .eq 12, 3) := by decide +kernel
theorem dX11_judge_8 : decode cX11_judge 8 = .ok (.aload_n 0, 1) := by decide +kernel
theorem dX11_judge_9 : decode cX11_judge 9 = .ok (.iload_n 2, 1) := by decide +kernel
theorem dX11_judge_10 : decode cX11_judge 10 = .ok (.iload_n 3, 1) := by decide +kernel
theorem dX11_judge_11 : decode cX11_judge 11 = .ok (.invokevirtual 171, 3) := by decide +kernel
theorem dX11_judge_14 : decode cX11_judge 14 = .ok (.goto 4, 3) := by decide +kernel
theorem dX11_judge_17 : decode cX11_judge 17 = .ok (.iconst (-1), 1) := by decide +kernel
theorem dX11_judge_18 : decode cX11_judge 18 = .ok (.istore 4, 2) := by decide +kernel
theorem dX11_judge_20 : decode cX11_judge 20 = .ok (.iload 4, 2) := by decide +kernel
theorem dX11_judge_22 : decode cX11_judge 22 = .ok (.ifCond .ne 22, 3) := by decide +kernel
theorem dX11_judge_25 : decode cX11_judge 25 = .ok (.iload_n 3, 1) := by decide +kernel
theorem dX11_judge_26 : decode cX11_judge 26 = .ok (.i2l, 1) := by decide +kernel
theorem dX11_judge_27 : decode cX11_judge 27 = .ok (.aload_n 0, 1) := by decide +kernel
theorem dX11_judge_28 : decode cX11_judge 28 = .ok (.getfield 11, 3) := by decide +kernel
theorem dX11_judge_31 : decode cX11_judge 31 = .ok (.iload_n 1, 1) := by decide +kernel
theorem dX11_judge_32 : decode cX11_judge 32 = .ok (.aaload, 1) := by decide +kernel
theorem dX11_judge_33 : decode cX11_judge 33 = .ok (.invokevirtual 141, 3) := by decide +kernel
theorem dX11_judge_36 : decode cX11_judge 36 = .ok (.lcmp, 1) := by decide +kernel
theorem dX11_judge_37 : decode cX11_judge 37 = .ok (.ifCond .le 7, 3) := by decide +kernel
theorem dX11_judge_40 : decode cX11_judge 40 = .ok (.bipush (-5), 2) := by decide +kernel
theorem dX11_judge_42 : decode cX11_judge 42 = .ok (.istore 4, 2) := by decide +kernel
theorem dX11_judge_44 : decode cX11_judge 44 = .ok (.iload 4, 2) := by decide +kernel
theorem dX11_judge_46 : decode cX11_judge 46 = .ok (.ifCond .ne 13, 3) := by decide +kernel
theorem dX11_judge_49 : decode cX11_judge 49 = .ok (.iload_n 3, 1) := by decide +kernel
theorem dX11_judge_50 : decode cX11_judge 50 = .ok (.bipush 63, 2) := by decide +kernel
theorem dX11_judge_52 : decode cX11_judge 52 = .ok (.if_icmp .le 7, 3) := by decide +kernel
theorem dX11_judge_55 : decode cX11_judge 55 = .ok (.bipush (-6), 2) := by decide +kernel
theorem dX11_judge_57 : decode cX11_judge 57 = .ok (.istore 4, 2) := by decide +kernel
theorem dX11_judge_59 : decode cX11_judge 59 = .ok (.iload 4, 2) := by decide +kernel
theorem dX11_judge_61 : decode cX11_judge 61 = .ok (.ifCond .eq 13, 3) := by decide +kernel
theorem dX11_judge_64 : decode cX11_judge 64 = .ok (.aload_n 0, 1) := by decide +kernel
theorem dX11_judge_65 : decode cX11_judge 65 = .ok (.iload 4, 2) := by decide +kernel
theorem dX11_judge_67 : decode cX11_judge 67 = .ok (.invokevirtual 73, 3) := by decide +kernel
theorem dX11_judge_70 : decode cX11_judge 70 = .ok (.bipush (-10), 2) := by decide +kernel
theorem dX11_judge_72 : decode cX11_judge 72 = .ok (.iadd, 1) := by decide +kernel
theorem dX11_judge_73 : decode cX11_judge 73 = .ok (.ireturn, 1) := by decide +kernel
theorem dX11_judge_74 : decode cX11_judge 74 = .ok (.iconst 1, 1) := by decide +kernel
theorem dX11_judge_75 : decode cX11_judge 75 = .ok (.istore 5, 2) := by decide +kernel
theorem dX11_judge_77 : decode cX11_judge 77 = .ok (.iload 5, 2) := by decide +kernel
theorem dX11_judge_79 : decode cX11_judge 79 = .ok (.iload_n 3, 1) := by decide +kernel
theorem dX11_judge_80 : decode cX11_judge 80 = .ok (.if_icmp .gt 40, 3) := by decide +kernel
theorem dX11_judge_83 : decode cX11_judge 83 = .ok (.aload_n 0, 1) := by decide +kernel
theorem dX11_judge_84 : decode cX11_judge 84 = .ok (.getfield 24, 3) := by decide +kernel
theorem dX11_judge_87 : decode cX11_judge 87 = .ok (.iload_n 2, 1) := by decide +kernel
theorem dX11_judge_88 : decode cX11_judge 88 = .ok (.aaload, 1) := by decide +kernel
theorem dX11_judge_89 : decode cX11_judge 89 = .ok (.iload 5, 2) := by decide +kernel
theorem dX11_judge_91 : decode cX11_judge 91 = .ok (.iconst 1, 1) := by decide +kernel
theorem dX11_judge_92 : decode cX11_judge 92 = .ok (.isub, 1) := by decide +kernel
theorem dX11_judge_93 : decode cX11_judge 93 = .ok (.aload_n 0, 1) := by decide +kernel
theorem dX11_judge_94 : decode cX11_judge 94 = .ok (.getfield 11, 3) := by decide +kernel
theorem dX11_judge_97 : decode cX11_judge 97 = .ok (.iload_n 1, 1) := by decide +kernel
theorem dX11_judge_98 : decode cX11_judge 98 = .ok (.aaload, 1) := by decide +kernel
theorem dX11_judge_99 : decode cX11_judge 99 = .ok (.iload 5, 2) := by decide +kernel
theorem dX11_judge_101 : decode cX11_judge 101 = .ok (.i2l, 1) := by decide +kernel
theorem dX11_judge_102 : decode cX11_judge 102 = .ok (.invokevirtual 150, 3) := by decide +kernel
theorem dX11_judge_105 : decode cX11_judge 105 = .ok (.invokevirtual 296, 3) := by decide +kernel
theorem dX11_judge_108 : decode cX11_judge 108 = .ok (.ifCond .ne 6, 3) := by decide +kernel
theorem dX11_judge_111 : decode cX11_judge 111 = .ok (.iload 5, 2) := by decide +kernel
theorem dX11_judge_113 : decode cX11_judge 113 = .ok (.ireturn, 1) := by decide +kernel
theorem dX11_judge_114 : decode cX11_judge 114 = .ok (.iinc 5 1, 3) := by decide +kernel
theorem dX11_judge_117 : decode cX11_judge 117 = .ok (.goto (-40), 3) := by decide +kernel
theorem dX11_judge_120 : decode cX11_judge 120 = .ok (.iconst (-1), 1) := by decide +kernel
theorem dX11_judge_121 : decode cX11_judge 121 = .ok (.ireturn, 1) := by decide +kernel
theorem dX11_levelsAsked_0 : decode cX11_levelsAsked 0 = .ok (.iconst 0, 1) := by decide +kernel
theorem dX11_levelsAsked_1 : decode cX11_levelsAsked 1 = .ok (.istore_n 3, 1) := by decide +kernel
theorem dX11_levelsAsked_2 : decode cX11_levelsAsked 2 = .ok (.iconst 1, 1) := by decide +kernel
theorem dX11_levelsAsked_3 : decode cX11_levelsAsked 3 = .ok (.istore 4, 2) := by decide +kernel
theorem dX11_levelsAsked_5 : decode cX11_levelsAsked 5 = .ok (.iload 4, 2) := by decide +kernel
theorem dX11_levelsAsked_7 : decode cX11_levelsAsked 7 = .ok (.iload_n 1, 1) := by decide +kernel
theorem dX11_levelsAsked_8 : decode cX11_levelsAsked 8 = .ok (.if_icmp .gt 28, 3) := by decide +kernel
theorem dX11_levelsAsked_11 : decode cX11_levelsAsked 11 = .ok (.aload_n 0, 1) := by decide +kernel
theorem dX11_levelsAsked_12 : decode cX11_levelsAsked 12 = .ok (.iload 4, 2) := by decide +kernel
theorem dX11_levelsAsked_14 : decode cX11_levelsAsked 14 = .ok (.invokestatic 290, 3) := by decide +kernel
theorem dX11_levelsAsked_17 : decode cX11_levelsAsked 17 = .ok (.iload_n 2, 1) := by decide +kernel
theorem dX11_levelsAsked_18 : decode cX11_levelsAsked 18 = .ok (.if_icmp .ne 12, 3) := by decide +kernel
theorem dX11_levelsAsked_21 : decode cX11_levelsAsked 21 = .ok (.iload_n 3, 1) := by decide +kernel
theorem dX11_levelsAsked_22 : decode cX11_levelsAsked 22 = .ok (.iload 4, 2) := by decide +kernel
theorem dX11_levelsAsked_24 : decode cX11_levelsAsked 24 = .ok (.iload 4, 2) := by decide +kernel
theorem dX11_levelsAsked_26 : decode cX11_levelsAsked 26 = .ok (.ineg, 1) := by decide +kernel
theorem dX11_levelsAsked_27 : decode cX11_levelsAsked 27 = .ok (.iand, 1) := by decide +kernel
theorem dX11_levelsAsked_28 : decode cX11_levelsAsked 28 = .ok (.ior, 1) := by decide +kernel
theorem dX11_levelsAsked_29 : decode cX11_levelsAsked 29 = .ok (.istore_n 3, 1) := by decide +kernel
theorem dX11_levelsAsked_30 : decode cX11_levelsAsked 30 = .ok (.iinc 4 1, 3) := by decide +kernel
theorem dX11_levelsAsked_33 : decode cX11_levelsAsked 33 = .ok (.goto (-28), 3) := by decide +kernel
theorem dX11_levelsAsked_36 : decode cX11_levelsAsked 36 = .ok (.iload_n 3, 1) := by decide +kernel
theorem dX11_levelsAsked_37 : decode cX11_levelsAsked 37 = .ok (.ireturn, 1) := by decide +kernel
theorem dX11_letterAsked_0 : decode cX11_letterAsked 0 = .ok (.aload_n 0, 1) := by decide +kernel
theorem dX11_letterAsked_1 : decode cX11_letterAsked 1 = .ok (.iload_n 1, 1) := by decide +kernel
theorem dX11_letterAsked_2 : decode cX11_letterAsked 2 = .ok (.iconst 1, 1) := by decide +kernel
theorem dX11_letterAsked_3 : decode cX11_letterAsked 3 = .ok (.isub, 1) := by decide +kernel
theorem dX11_letterAsked_4 : decode cX11_letterAsked 4 = .ok (.invokevirtual 161, 3) := by decide +kernel
theorem dX11_letterAsked_7 : decode cX11_letterAsked 7 = .ok (.istore_n 2, 1) := by decide +kernel
theorem dX11_letterAsked_8 : decode cX11_letterAsked 8 = .ok (.iload_n 2, 1) := by decide +kernel
theorem dX11_letterAsked_9 : decode cX11_letterAsked 9 = .ok (.ifCond .eq 10, 3) := by decide +kernel
theorem dX11_letterAsked_12 : decode cX11_letterAsked 12 = .ok (.iload_n 2, 1) := by decide +kernel
theorem dX11_letterAsked_13 : decode cX11_letterAsked 13 = .ok (.iconst 1, 1) := by decide +kernel
theorem dX11_letterAsked_14 : decode cX11_letterAsked 14 = .ok (.if_icmp .eq 5, 3) := by decide +kernel
theorem dX11_letterAsked_17 : decode cX11_letterAsked 17 = .ok (.iconst (-1), 1) := by decide +kernel
theorem dX11_letterAsked_18 : decode cX11_letterAsked 18 = .ok (.ireturn, 1) := by decide +kernel
theorem dX11_letterAsked_19 : decode cX11_letterAsked 19 = .ok (.iload_n 1, 1) := by decide +kernel
theorem dX11_letterAsked_20 : decode cX11_letterAsked 20 = .ok (.iload_n 1, 1) := by decide +kernel
theorem dX11_letterAsked_21 : decode cX11_letterAsked 21 = .ok (.ineg, 1) := by decide +kernel
theorem dX11_letterAsked_22 : decode cX11_letterAsked 22 = .ok (.iand, 1) := by decide +kernel
theorem dX11_letterAsked_23 : decode cX11_letterAsked 23 = .ok (.istore_n 3, 1) := by decide +kernel
theorem dX11_letterAsked_24 : decode cX11_letterAsked 24 = .ok (.iload_n 1, 1) := by decide +kernel
theorem dX11_letterAsked_25 : decode cX11_letterAsked 25 = .ok (.iload_n 3, 1) := by decide +kernel
theorem dX11_letterAsked_26 : decode cX11_letterAsked 26 = .ok (.iconst 1, 1) := by decide +kernel
theorem dX11_letterAsked_27 : decode cX11_letterAsked 27 = .ok (.ishl, 1) := by decide +kernel
theorem dX11_letterAsked_28 : decode cX11_letterAsked 28 = .ok (.iand, 1) := by decide +kernel
theorem dX11_letterAsked_29 : decode cX11_letterAsked 29 = .ok (.ifCond .ne 7, 3) := by decide +kernel
theorem dX11_letterAsked_32 : decode cX11_letterAsked 32 = .ok (.iconst 1, 1) := by decide +kernel
theorem dX11_letterAsked_33 : decode cX11_letterAsked 33 = .ok (.goto 4, 3) := by decide +kernel
theorem dX11_letterAsked_36 : decode cX11_letterAsked 36 = .ok (.iconst 0, 1) := by decide +kernel
theorem dX11_letterAsked_37 : decode cX11_letterAsked 37 = .ok (.istore 4, 2) := by decide +kernel
theorem dX11_letterAsked_39 : decode cX11_letterAsked 39 = .ok (.iload 4, 2) := by decide +kernel
theorem dX11_letterAsked_41 : decode cX11_letterAsked 41 = .ok (.ifCond .eq 7, 3) := by decide +kernel
theorem dX11_letterAsked_44 : decode cX11_letterAsked 44 = .ok (.iload_n 2, 1) := by decide +kernel
theorem dX11_letterAsked_45 : decode cX11_letterAsked 45 = .ok (.goto 6, 3) := by decide +kernel
theorem dX11_letterAsked_48 : decode cX11_letterAsked 48 = .ok (.iconst 1, 1) := by decide +kernel
theorem dX11_letterAsked_49 : decode cX11_letterAsked 49 = .ok (.iload_n 2, 1) := by decide +kernel
theorem dX11_letterAsked_50 : decode cX11_letterAsked 50 = .ok (.isub, 1) := by decide +kernel
theorem dX11_letterAsked_51 : decode cX11_letterAsked 51 = .ok (.ireturn, 1) := by decide +kernel
theorem dX11_levelsReached_0 : decode cX11_levelsReached 0 = .ok (.bipush 32, 2) := by decide +kernel
theorem dX11_levelsReached_2 : decode cX11_levelsReached 2 = .ok (.iload_n 0, 1) := by decide +kernel
theorem dX11_levelsReached_3 : decode cX11_levelsReached 3 = .ok (.invokestatic 299, 3) := by decide +kernel
theorem dX11_levelsReached_6 : decode cX11_levelsReached 6 = .ok (.isub, 1) := by decide +kernel
theorem dX11_levelsReached_7 : decode cX11_levelsReached 7 = .ok (.ireturn, 1) := by decide +kernel
theorem dX11_ends_0 : decode cX11_ends 0 = .ok (.iload 4, 2) := by decide +kernel
theorem dX11_ends_2 : decode cX11_ends 2 = .ok (.ifCond .eq 16, 3) := by decide +kernel
theorem dX11_ends_5 : decode cX11_ends 5 = .ok (.iload 4, 2) := by decide +kernel
theorem dX11_ends_7 : decode cX11_ends 7 = .ok (.iconst 1, 1) := by decide +kernel
theorem dX11_ends_8 : decode cX11_ends 8 = .ok (.if_icmp .eq 10, 3) := by decide +kernel
theorem dX11_ends_11 : decode cX11_ends 11 = .ok (.aload_n 0, 1) := by decide +kernel
theorem dX11_ends_12 : decode cX11_ends 12 = .ok (.bipush (-5), 2) := by decide +kernel
theorem dX11_ends_14 : decode cX11_ends 14 = .ok (.invokevirtual 73, 3) := by decide +kernel
theorem dX11_ends_17 : decode cX11_ends 17 = .ok (.ireturn, 1) := by decide +kernel
theorem dX11_ends_18 : decode cX11_ends 18 = .ok (.iload_n 1, 1) := by decide +kernel
theorem dX11_ends_19 : decode cX11_ends 19 = .ok (.iconst 1, 1) := by decide +kernel
theorem dX11_ends_20 : decode cX11_ends 20 = .ok (.if_icmp .lt 9, 3) := by decide +kernel
theorem dX11_ends_23 : decode cX11_ends 23 = .ok (.iload_n 1, 1) := by decide +kernel
theorem dX11_ends_24 : decode cX11_ends 24 = .ok (.bipush 10, 2) := by decide +kernel
theorem dX11_ends_26 : decode cX11_ends 26 = .ok (.if_icmp .le 10, 3) := by decide +kernel
theorem dX11_ends_29 : decode cX11_ends 29 = .ok (.aload_n 0, 1) := by decide +kernel
theorem dX11_ends_30 : decode cX11_ends 30 = .ok (.bipush (-6), 2) := by decide +kernel
theorem dX11_ends_32 : decode cX11_ends 32 = .ok (.invokevirtual 73, 3) := by decide +kernel
theorem dX11_ends_35 : decode cX11_ends 35 = .ok (.ireturn, 1) := by decide +kernel
theorem dX11_ends_36 : decode cX11_ends 36 = .ok (.iconst 0, 1) := by decide +kernel
theorem dX11_ends_37 : decode cX11_ends 37 = .ok (.istore 5, 2) := by decide +kernel
theorem dX11_ends_39 : decode cX11_ends 39 = .ok (.iconst (-1), 1) := by decide +kernel
theorem dX11_ends_40 : decode cX11_ends 40 = .ok (.istore 6, 2) := by decide +kernel
theorem dX11_ends_42 : decode cX11_ends 42 = .ok (.iconst 0, 1) := by decide +kernel
theorem dX11_ends_43 : decode cX11_ends 43 = .ok (.istore 7, 2) := by decide +kernel
theorem dX11_ends_45 : decode cX11_ends 45 = .ok (.iload 7, 2) := by decide +kernel
theorem dX11_ends_47 : decode cX11_ends 47 = .ok (.iconst 1, 1) := by decide +kernel
theorem dX11_ends_48 : decode cX11_ends 48 = .ok (.iload_n 1, 1) := by decide +kernel
theorem dX11_ends_49 : decode cX11_ends 49 = .ok (.ishl, 1) := by decide +kernel
theorem dX11_ends_50 : decode cX11_ends 50 = .ok (.if_icmp .ge 41, 3) := by decide +kernel
theorem dX11_ends_53 : decode cX11_ends 53 = .ok (.iload_n 1, 1) := by decide +kernel
theorem dX11_ends_54 : decode cX11_ends 54 = .ok (.iload 7, 2) := by decide +kernel
theorem dX11_ends_56 : decode cX11_ends 56 = .ok (.invokestatic 285, 3) := by decide +kernel
theorem dX11_ends_59 : decode cX11_ends 59 = .ok (.iload_n 2, 1) := by decide +kernel
theorem dX11_ends_60 : decode cX11_ends 60 = .ok (.iload_n 3, 1) := by decide +kernel
theorem dX11_ends_61 : decode cX11_ends 61 = .ok (.invokestatic 302, 3) := by decide +kernel
theorem dX11_ends_64 : decode cX11_ends 64 = .ok (.ifCond .eq 21, 3) := by decide +kernel
theorem dX11_ends_67 : decode cX11_ends 67 = .ok (.iinc 5 1, 3) := by decide +kernel
theorem dX11_ends_70 : decode cX11_ends 70 = .ok (.iload 6, 2) := by decide +kernel
theorem dX11_ends_72 : decode cX11_ends 72 = .ok (.iconst (-1), 1) := by decide +kernel
theorem dX11_ends_73 : decode cX11_ends 73 = .ok (.if_icmp .ne 8, 3) := by decide +kernel
theorem dX11_ends_76 : decode cX11_ends 76 = .ok (.iload 7, 2) := by decide +kernel
theorem dX11_ends_78 : decode cX11_ends 78 = .ok (.goto 5, 3) := by decide +kernel
theorem dX11_ends_81 : decode cX11_ends 81 = .ok (.iload 6, 2) := by decide +kernel
theorem dX11_ends_83 : decode cX11_ends 83 = .ok (.istore 6, 2) := by decide +kernel
theorem dX11_ends_85 : decode cX11_ends 85 = .ok (.iinc 7 1, 3) := by decide +kernel
theorem dX11_ends_88 : decode cX11_ends 88 = .ok (.goto (-43), 3) := by decide +kernel
theorem dX11_ends_91 : decode cX11_ends 91 = .ok (.iload 4, 2) := by decide +kernel
theorem dX11_ends_93 : decode cX11_ends 93 = .ok (.ifCond .ne 6, 3) := by decide +kernel
theorem dX11_ends_96 : decode cX11_ends 96 = .ok (.iload 5, 2) := by decide +kernel
theorem dX11_ends_98 : decode cX11_ends 98 = .ok (.ireturn, 1) := by decide +kernel
theorem dX11_ends_99 : decode cX11_ends 99 = .ok (.iload 6, 2) := by decide +kernel
theorem dX11_ends_101 : decode cX11_ends 101 = .ok (.iconst (-1), 1) := by decide +kernel
theorem dX11_ends_102 : decode cX11_ends 102 = .ok (.if_icmp .ne 12, 3) := by decide +kernel
theorem dX11_ends_105 : decode cX11_ends 105 = .ok (.aload_n 0, 1) := by decide +kernel
theorem dX11_ends_106 : decode cX11_ends 106 = .ok (.bipush (-5), 2) := by decide +kernel
theorem dX11_ends_108 : decode cX11_ends 108 = .ok (.invokevirtual 73, 3) := by decide +kernel
theorem dX11_ends_111 : decode cX11_ends 111 = .ok (.goto 5, 3) := by decide +kernel
theorem dX11_ends_114 : decode cX11_ends 114 = .ok (.iload 6, 2) := by decide +kernel
theorem dX11_ends_116 : decode cX11_ends 116 = .ok (.ireturn, 1) := by decide +kernel
theorem dX11_endsAt_0 : decode cX11_endsAt 0 = .ok (.iconst 1, 1) := by decide +kernel
theorem dX11_endsAt_1 : decode cX11_endsAt 1 = .ok (.istore 4, 2) := by decide +kernel
theorem dX11_endsAt_3 : decode cX11_endsAt 3 = .ok (.iconst 0, 1) := by decide +kernel
theorem dX11_endsAt_4 : decode cX11_endsAt 4 = .ok (.istore 5, 2) := by decide +kernel
theorem dX11_endsAt_6 : decode cX11_endsAt 6 = .ok (.iconst 0, 1) := by decide +kernel
theorem dX11_endsAt_7 : decode cX11_endsAt 7 = .ok (.istore 6, 2) := by decide +kernel
theorem dX11_endsAt_9 : decode cX11_endsAt 9 = .ok (.iload 6, 2) := by decide +kernel
theorem dX11_endsAt_11 : decode cX11_endsAt 11 = .ok (.iload_n 0, 1) := by decide +kernel
theorem dX11_endsAt_12 : decode cX11_endsAt 12 = .ok (.if_icmp .ge 46, 3) := by decide +kernel
theorem dX11_endsAt_15 : decode cX11_endsAt 15 = .ok (.iload 6, 2) := by decide +kernel
theorem dX11_endsAt_17 : decode cX11_endsAt 17 = .ok (.iload_n 1, 1) := by decide +kernel
theorem dX11_endsAt_18 : decode cX11_endsAt 18 = .ok (.if_icmp .ge 7, 3) := by decide +kernel
theorem dX11_endsAt_21 : decode cX11_endsAt 21 = .ok (.iconst 1, 1) := by decide +kernel
theorem dX11_endsAt_22 : decode cX11_endsAt 22 = .ok (.goto 4, 3) := by decide +kernel
theorem dX11_endsAt_25 : decode cX11_endsAt 25 = .ok (.iconst (-1), 1) := by decide +kernel
theorem dX11_endsAt_26 : decode cX11_endsAt 26 = .ok (.istore 7, 2) := by decide +kernel
theorem dX11_endsAt_28 : decode cX11_endsAt 28 = .ok (.iload 4, 2) := by decide +kernel
theorem dX11_endsAt_30 : decode cX11_endsAt 30 = .ok (.iload 7, 2) := by decide +kernel
theorem dX11_endsAt_32 : decode cX11_endsAt 32 = .ok (.iload 5, 2) := by decide +kernel
theorem dX11_endsAt_34 : decode cX11_endsAt 34 = .ok (.imul, 1) := by decide +kernel
theorem dX11_endsAt_35 : decode cX11_endsAt 35 = .ok (.isub, 1) := by decide +kernel
theorem dX11_endsAt_36 : decode cX11_endsAt 36 = .ok (.istore 8, 2) := by decide +kernel
theorem dX11_endsAt_38 : decode cX11_endsAt 38 = .ok (.iload 5, 2) := by decide +kernel
theorem dX11_endsAt_40 : decode cX11_endsAt 40 = .ok (.iload 7, 2) := by decide +kernel
theorem dX11_endsAt_42 : decode cX11_endsAt 42 = .ok (.iload 4, 2) := by decide +kernel
theorem dX11_endsAt_44 : decode cX11_endsAt 44 = .ok (.imul, 1) := by decide +kernel
theorem dX11_endsAt_45 : decode cX11_endsAt 45 = .ok (.iadd, 1) := by decide +kernel
theorem dX11_endsAt_46 : decode cX11_endsAt 46 = .ok (.istore 5, 2) := by decide +kernel
theorem dX11_endsAt_48 : decode cX11_endsAt 48 = .ok (.iload 8, 2) := by decide +kernel
theorem dX11_endsAt_50 : decode cX11_endsAt 50 = .ok (.istore 4, 2) := by decide +kernel
theorem dX11_endsAt_52 : decode cX11_endsAt 52 = .ok (.iinc 6 1, 3) := by decide +kernel
theorem dX11_endsAt_55 : decode cX11_endsAt 55 = .ok (.goto (-46), 3) := by decide +kernel
theorem dX11_endsAt_58 : decode cX11_endsAt 58 = .ok (.iload 4, 2) := by decide +kernel
theorem dX11_endsAt_60 : decode cX11_endsAt 60 = .ok (.iload_n 2, 1) := by decide +kernel
theorem dX11_endsAt_61 : decode cX11_endsAt 61 = .ok (.if_icmp .ne 13, 3) := by decide +kernel
theorem dX11_endsAt_64 : decode cX11_endsAt 64 = .ok (.iload 5, 2) := by decide +kernel
theorem dX11_endsAt_66 : decode cX11_endsAt 66 = .ok (.iload_n 3, 1) := by decide +kernel
theorem dX11_endsAt_67 : decode cX11_endsAt 67 = .ok (.if_icmp .ne 7, 3) := by decide +kernel
theorem dX11_endsAt_70 : decode cX11_endsAt 70 = .ok (.iconst 1, 1) := by decide +kernel
theorem dX11_endsAt_71 : decode cX11_endsAt 71 = .ok (.goto 4, 3) := by decide +kernel
theorem dX11_endsAt_74 : decode cX11_endsAt 74 = .ok (.iconst 0, 1) := by decide +kernel
theorem dX11_endsAt_75 : decode cX11_endsAt 75 = .ok (.ireturn, 1) := by decide +kernel
theorem dX11_piece_0 : decode cX11_piece 0 = .ok (.aload_n 0, 1) := by decide +kernel
theorem dX11_piece_1 : decode cX11_piece 1 = .ok (.iload_n 1, 1) := by decide +kernel
theorem dX11_piece_2 : decode cX11_piece 2 = .ok (.invokevirtual 118, 3) := by decide +kernel
theorem dX11_piece_5 : decode cX11_piece 5 = .ok (.ifCond .eq 12, 3) := by decide +kernel
theorem dX11_piece_8 : decode cX11_piece 8 = .ok (.aload_n 0, 1) := by decide +kernel
theorem dX11_piece_9 : decode cX11_piece 9 = .ok (.iload_n 2, 1) := by decide +kernel
theorem dX11_piece_10 : decode cX11_piece 10 = .ok (.iload_n 3, 1) := by decide +kernel
theorem dX11_piece_11 : decode cX11_piece 11 = .ok (.invokevirtual 171, 3) := by decide +kernel
theorem dX11_piece_14 : decode cX11_piece 14 = .ok (.goto 4, 3) := by decide +kernel
theorem dX11_piece_17 : decode cX11_piece 17 = .ok (.iconst (-1), 1) := by decide +kernel
theorem dX11_piece_18 : decode cX11_piece 18 = .ok (.istore 5, 2) := by decide +kernel
theorem dX11_piece_20 : decode cX11_piece 20 = .ok (.iload 5, 2) := by decide +kernel
theorem dX11_piece_22 : decode cX11_piece 22 = .ok (.ifCond .ne 18, 3) := by decide +kernel
theorem dX11_piece_25 : decode cX11_piece 25 = .ok (.iload 4, 2) := by decide +kernel
theorem dX11_piece_27 : decode cX11_piece 27 = .ok (.ifCond .eq 13, 3) := by decide +kernel
theorem dX11_piece_30 : decode cX11_piece 30 = .ok (.iload 4, 2) := by decide +kernel
theorem dX11_piece_32 : decode cX11_piece 32 = .ok (.iconst 1, 1) := by decide +kernel
theorem dX11_piece_33 : decode cX11_piece 33 = .ok (.if_icmp .eq 7, 3) := by decide +kernel
theorem dX11_piece_36 : decode cX11_piece 36 = .ok (.bipush (-5), 2) := by decide +kernel
theorem dX11_piece_38 : decode cX11_piece 38 = .ok (.istore 5, 2) := by decide +kernel
theorem dX11_piece_40 : decode cX11_piece 40 = .ok (.iload 5, 2) := by decide +kernel
theorem dX11_piece_42 : decode cX11_piece 42 = .ok (.ifCond .ne 18, 3) := by decide +kernel
theorem dX11_piece_45 : decode cX11_piece 45 = .ok (.iload_n 3, 1) := by decide +kernel
theorem dX11_piece_46 : decode cX11_piece 46 = .ok (.iconst 1, 1) := by decide +kernel
theorem dX11_piece_47 : decode cX11_piece 47 = .ok (.if_icmp .lt 9, 3) := by decide +kernel
theorem dX11_piece_50 : decode cX11_piece 50 = .ok (.iload_n 3, 1) := by decide +kernel
theorem dX11_piece_51 : decode cX11_piece 51 = .ok (.bipush 40, 2) := by decide +kernel
theorem dX11_piece_53 : decode cX11_piece 53 = .ok (.if_icmp .le 7, 3) := by decide +kernel
theorem dX11_piece_56 : decode cX11_piece 56 = .ok (.bipush (-6), 2) := by decide +kernel
theorem dX11_piece_58 : decode cX11_piece 58 = .ok (.istore 5, 2) := by decide +kernel
theorem dX11_piece_60 : decode cX11_piece 60 = .ok (.iload 5, 2) := by decide +kernel
theorem dX11_piece_62 : decode cX11_piece 62 = .ok (.ifCond .eq 10, 3) := by decide +kernel
theorem dX11_piece_65 : decode cX11_piece 65 = .ok (.aload_n 0, 1) := by decide +kernel
theorem dX11_piece_66 : decode cX11_piece 66 = .ok (.iload 5, 2) := by decide +kernel
theorem dX11_piece_68 : decode cX11_piece 68 = .ok (.invokevirtual 73, 3) := by decide +kernel
theorem dX11_piece_71 : decode cX11_piece 71 = .ok (.ireturn, 1) := by decide +kernel
theorem dX11_piece_72 : decode cX11_piece 72 = .ok (.ldc2_w 253, 3) := by decide +kernel
theorem dX11_piece_75 : decode cX11_piece 75 = .ok (.aload_n 0, 1) := by decide +kernel
theorem dX11_piece_76 : decode cX11_piece 76 = .ok (.getfield 11, 3) := by decide +kernel
theorem dX11_piece_79 : decode cX11_piece 79 = .ok (.iload_n 1, 1) := by decide +kernel
theorem dX11_piece_80 : decode cX11_piece 80 = .ok (.aaload, 1) := by decide +kernel
theorem dX11_piece_81 : decode cX11_piece 81 = .ok (.invokevirtual 141, 3) := by decide +kernel
theorem dX11_piece_84 : decode cX11_piece 84 = .ok (.invokestatic 255, 3) := by decide +kernel
theorem dX11_piece_87 : decode cX11_piece 87 = .ok (.l2i, 1) := by decide +kernel
theorem dX11_piece_88 : decode cX11_piece 88 = .ok (.iload_n 3, 1) := by decide +kernel
theorem dX11_piece_89 : decode cX11_piece 89 = .ok (.isub, 1) := by decide +kernel
theorem dX11_piece_90 : decode cX11_piece 90 = .ok (.iconst 1, 1) := by decide +kernel
theorem dX11_piece_91 : decode cX11_piece 91 = .ok (.iadd, 1) := by decide +kernel
theorem dX11_piece_92 : decode cX11_piece 92 = .ok (.istore 6, 2) := by decide +kernel
theorem dX11_piece_94 : decode cX11_piece 94 = .ok (.iconst 0, 1) := by decide +kernel
theorem dX11_piece_95 : decode cX11_piece 95 = .ok (.istore 7, 2) := by decide +kernel
theorem dX11_piece_97 : decode cX11_piece 97 = .ok (.iconst 1, 1) := by decide +kernel
theorem dX11_piece_98 : decode cX11_piece 98 = .ok (.istore 8, 2) := by decide +kernel
theorem dX11_piece_100 : decode cX11_piece 100 = .ok (.iload 8, 2) := by decide +kernel
theorem dX11_piece_102 : decode cX11_piece 102 = .ok (.iload 6, 2) := by decide +kernel
theorem dX11_piece_104 : decode cX11_piece 104 = .ok (.if_icmp .gt 42, 3) := by decide +kernel
theorem dX11_piece_107 : decode cX11_piece 107 = .ok (.aload_n 0, 1) := by decide +kernel
theorem dX11_piece_108 : decode cX11_piece 108 = .ok (.getfield 11, 3) := by decide +kernel
theorem dX11_piece_111 : decode cX11_piece 111 = .ok (.iload_n 1, 1) := by decide +kernel
theorem dX11_piece_112 : decode cX11_piece 112 = .ok (.aaload, 1) := by decide +kernel
theorem dX11_piece_113 : decode cX11_piece 113 = .ok (.aload_n 0, 1) := by decide +kernel
theorem dX11_piece_114 : decode cX11_piece 114 = .ok (.getfield 24, 3) := by decide +kernel
theorem dX11_piece_117 : decode cX11_piece 117 = .ok (.iload_n 2, 1) := by decide +kernel
theorem dX11_piece_118 : decode cX11_piece 118 = .ok (.aaload, 1) := by decide +kernel
theorem dX11_piece_119 : decode cX11_piece 119 = .ok (.iload_n 3, 1) := by decide +kernel
theorem dX11_piece_120 : decode cX11_piece 120 = .ok (.iload 8, 2) := by decide +kernel
theorem dX11_piece_122 : decode cX11_piece 122 = .ok (.invokestatic 306, 3) := by decide +kernel
theorem dX11_piece_125 : decode cX11_piece 125 = .ok (.ifCond .eq 15, 3) := by decide +kernel
theorem dX11_piece_128 : decode cX11_piece 128 = .ok (.iload 4, 2) := by decide +kernel
theorem dX11_piece_130 : decode cX11_piece 130 = .ok (.iconst 1, 1) := by decide +kernel
theorem dX11_piece_131 : decode cX11_piece 131 = .ok (.if_icmp .ne 6, 3) := by decide +kernel
theorem dX11_piece_134 : decode cX11_piece 134 = .ok (.iload 8, 2) := by decide +kernel
theorem dX11_piece_136 : decode cX11_piece 136 = .ok (.ireturn, 1) := by decide +kernel
theorem dX11_piece_137 : decode cX11_piece 137 = .ok (.iinc 7 1, 3) := by decide +kernel
theorem dX11_piece_140 : decode cX11_piece 140 = .ok (.iinc 8 1, 3) := by decide +kernel
theorem dX11_piece_143 : decode cX11_piece 143 = .ok (.goto (-43), 3) := by decide +kernel
theorem dX11_piece_146 : decode cX11_piece 146 = .ok (.iload 4, 2) := by decide +kernel
theorem dX11_piece_148 : decode cX11_piece 148 = .ok (.ifCond .ne 8, 3) := by decide +kernel
theorem dX11_piece_151 : decode cX11_piece 151 = .ok (.iload 7, 2) := by decide +kernel
theorem dX11_piece_153 : decode cX11_piece 153 = .ok (.goto 9, 3) := by decide +kernel
theorem dX11_piece_156 : decode cX11_piece 156 = .ok (.aload_n 0, 1) := by decide +kernel
theorem dX11_piece_157 : decode cX11_piece 157 = .ok (.bipush (-5), 2) := by decide +kernel
theorem dX11_piece_159 : decode cX11_piece 159 = .ok (.invokevirtual 73, 3) := by decide +kernel
theorem dX11_piece_162 : decode cX11_piece 162 = .ok (.ireturn, 1) := by decide +kernel
theorem dX11_standsFrom_0 : decode cX11_standsFrom 0 = .ok (.iconst 0, 1) := by decide +kernel
theorem dX11_standsFrom_1 : decode cX11_standsFrom 1 = .ok (.istore 4, 2) := by decide +kernel
theorem dX11_standsFrom_3 : decode cX11_standsFrom 3 = .ok (.iload 4, 2) := by decide +kernel
theorem dX11_standsFrom_5 : decode cX11_standsFrom 5 = .ok (.iload_n 2, 1) := by decide +kernel
theorem dX11_standsFrom_6 : decode cX11_standsFrom 6 = .ok (.if_icmp .ge 29, 3) := by decide +kernel
theorem dX11_standsFrom_9 : decode cX11_standsFrom 9 = .ok (.aload_n 1, 1) := by decide +kernel
theorem dX11_standsFrom_10 : decode cX11_standsFrom 10 = .ok (.iload 4, 2) := by decide +kernel
theorem dX11_standsFrom_12 : decode cX11_standsFrom 12 = .ok (.aload_n 0, 1) := by decide +kernel
theorem dX11_standsFrom_13 : decode cX11_standsFrom 13 = .ok (.iload_n 3, 1) := by decide +kernel
theorem dX11_standsFrom_14 : decode cX11_standsFrom 14 = .ok (.iload 4, 2) := by decide +kernel
theorem dX11_standsFrom_16 : decode cX11_standsFrom 16 = .ok (.iadd, 1) := by decide +kernel
theorem dX11_standsFrom_17 : decode cX11_standsFrom 17 = .ok (.i2l, 1) := by decide +kernel
theorem dX11_standsFrom_18 : decode cX11_standsFrom 18 = .ok (.invokevirtual 150, 3) := by decide +kernel
theorem dX11_standsFrom_21 : decode cX11_standsFrom 21 = .ok (.invokevirtual 296, 3) := by decide +kernel
theorem dX11_standsFrom_24 : decode cX11_standsFrom 24 = .ok (.ifCond .ne 5, 3) := by decide +kernel
theorem dX11_standsFrom_27 : decode cX11_standsFrom 27 = .ok (.iconst 0, 1) := by decide +kernel
theorem dX11_standsFrom_28 : decode cX11_standsFrom 28 = .ok (.ireturn, 1) := by decide +kernel
theorem dX11_standsFrom_29 : decode cX11_standsFrom 29 = .ok (.iinc 4 1, 3) := by decide +kernel
theorem dX11_standsFrom_32 : decode cX11_standsFrom 32 = .ok (.goto (-29), 3) := by decide +kernel
theorem dX11_standsFrom_35 : decode cX11_standsFrom 35 = .ok (.iconst 1, 1) := by decide +kernel
theorem dX11_standsFrom_36 : decode cX11_standsFrom 36 = .ok (.ireturn, 1) := by decide +kernel
theorem dX11_can_0 : decode cX11_can 0 = .ok (.aload_n 0, 1) := by decide +kernel
theorem dX11_can_1 : decode cX11_can 1 = .ok (.iload_n 1, 1) := by decide +kernel
theorem dX11_can_2 : decode cX11_can 2 = .ok (.iload_n 2, 1) := by decide +kernel
theorem dX11_can_3 : decode cX11_can 3 = .ok (.invokevirtual 171, 3) := by decide +kernel
theorem dX11_can_6 : decode cX11_can 6 = .ok (.istore_n 3, 1) := by decide +kernel
theorem dX11_can_7 : decode cX11_can 7 = .ok (.iload_n 3, 1) := by decide +kernel
theorem dX11_can_8 : decode cX11_can 8 = .ok (.ifCond .ne 34, 3) := by decide +kernel
theorem dX11_can_11 : decode cX11_can 11 = .ok (.iload_n 2, 1) := by decide +kernel
theorem dX11_can_12 : decode cX11_can 12 = .ok (.iconst 1, 1) := by decide +kernel
theorem dX11_can_13 : decode cX11_can 13 = .ok (.if_icmp .lt 26, 3) := by decide +kernel
theorem dX11_can_16 : decode cX11_can 16 = .ok (.iload_n 2, 1) := by decide +kernel
theorem dX11_can_17 : decode cX11_can 17 = .ok (.bipush 8, 2) := by decide +kernel
theorem dX11_can_19 : decode cX11_can 19 = .ok (.if_icmp .gt 20, 3) := by decide +kernel
theorem dX11_can_22 : decode cX11_can 22 = .ok (.aload_n 0, 1) := by decide +kernel
theorem dX11_can_23 : decode cX11_can 23 = .ok (.getfield 64, 3) := by decide +kernel
theorem dX11_can_26 : decode cX11_can 26 = .ok (.aload_n 0, 1) := by decide +kernel
theorem dX11_can_27 : decode cX11_can 27 = .ok (.getfield 24, 3) := by decide +kernel
theorem dX11_can_30 : decode cX11_can 30 = .ok (.iload_n 1, 1) := by decide +kernel
theorem dX11_can_31 : decode cX11_can 31 = .ok (.aaload, 1) := by decide +kernel
theorem dX11_can_32 : decode cX11_can 32 = .ok (.iload_n 2, 1) := by decide +kernel
theorem dX11_can_33 : decode cX11_can 33 = .ok (.invokevirtual 310, 3) := by decide +kernel
theorem dX11_can_36 : decode cX11_can 36 = .ok (.ifCond .ne 6, 3) := by decide +kernel
theorem dX11_can_39 : decode cX11_can 39 = .ok (.bipush (-6), 2) := by decide +kernel
theorem dX11_can_41 : decode cX11_can 41 = .ok (.istore_n 3, 1) := by decide +kernel
theorem dX11_can_42 : decode cX11_can 42 = .ok (.iload_n 3, 1) := by decide +kernel
theorem dX11_can_43 : decode cX11_can 43 = .ok (.ifCond .eq 9, 3) := by decide +kernel
theorem dX11_can_46 : decode cX11_can 46 = .ok (.aload_n 0, 1) := by decide +kernel
theorem dX11_can_47 : decode cX11_can 47 = .ok (.iload_n 3, 1) := by decide +kernel
theorem dX11_can_48 : decode cX11_can 48 = .ok (.invokevirtual 73, 3) := by decide +kernel
theorem dX11_can_51 : decode cX11_can 51 = .ok (.ireturn, 1) := by decide +kernel
theorem dX11_can_52 : decode cX11_can 52 = .ok (.aload_n 0, 1) := by decide +kernel
theorem dX11_can_53 : decode cX11_can 53 = .ok (.getfield 64, 3) := by decide +kernel
theorem dX11_can_56 : decode cX11_can 56 = .ok (.aload_n 0, 1) := by decide +kernel
theorem dX11_can_57 : decode cX11_can 57 = .ok (.getfield 24, 3) := by decide +kernel
theorem dX11_can_60 : decode cX11_can 60 = .ok (.iload_n 1, 1) := by decide +kernel
theorem dX11_can_61 : decode cX11_can 61 = .ok (.aaload, 1) := by decide +kernel
theorem dX11_can_62 : decode cX11_can 62 = .ok (.iload_n 2, 1) := by decide +kernel
theorem dX11_can_63 : decode cX11_can 63 = .ok (.invokevirtual 314, 3) := by decide +kernel
theorem dX11_can_66 : decode cX11_can 66 = .ok (.ifCond .eq 7, 3) := by decide +kernel
theorem dX11_can_69 : decode cX11_can 69 = .ok (.iconst 1, 1) := by decide +kernel
theorem dX11_can_70 : decode cX11_can 70 = .ok (.goto 4, 3) := by decide +kernel
theorem dX11_can_73 : decode cX11_can 73 = .ok (.iconst 0, 1) := by decide +kernel
theorem dX11_can_74 : decode cX11_can 74 = .ok (.ireturn, 1) := by decide +kernel
theorem dX11_orders_0 : decode cX11_orders 0 = .ok (.iload_n 1, 1) := by decide +kernel
theorem dX11_orders_1 : decode cX11_orders 1 = .ok (.iconst 1, 1) := by decide +kernel
theorem dX11_orders_2 : decode cX11_orders 2 = .ok (.if_icmp .lt 9, 3) := by decide +kernel
theorem dX11_orders_5 : decode cX11_orders 5 = .ok (.iload_n 1, 1) := by decide +kernel
theorem dX11_orders_6 : decode cX11_orders 6 = .ok (.bipush 8, 2) := by decide +kernel
theorem dX11_orders_8 : decode cX11_orders 8 = .ok (.if_icmp .le 10, 3) := by decide +kernel
theorem dX11_orders_11 : decode cX11_orders 11 = .ok (.aload_n 0, 1) := by decide +kernel
theorem dX11_orders_12 : decode cX11_orders 12 = .ok (.bipush (-6), 2) := by decide +kernel
theorem dX11_orders_14 : decode cX11_orders 14 = .ok (.invokevirtual 73, 3) := by decide +kernel
theorem dX11_orders_17 : decode cX11_orders 17 = .ok (.ireturn, 1) := by decide +kernel
theorem dX11_orders_18 : decode cX11_orders 18 = .ok (.aload_n 0, 1) := by decide +kernel
theorem dX11_orders_19 : decode cX11_orders 19 = .ok (.getfield 64, 3) := by decide +kernel
theorem dX11_orders_22 : decode cX11_orders 22 = .ok (.iload_n 1, 1) := by decide +kernel
theorem dX11_orders_23 : decode cX11_orders 23 = .ok (.invokevirtual 317, 3) := by decide +kernel
theorem dX11_orders_26 : decode cX11_orders 26 = .ok (.ireturn, 1) := by decide +kernel
theorem dX11_order_0 : decode cX11_order 0 = .ok (.iload_n 2, 1) := by decide +kernel
theorem dX11_order_1 : decode cX11_order 1 = .ok (.ifCond .lt 7, 3) := by decide +kernel
theorem dX11_order_4 : decode cX11_order 4 = .ok (.iload_n 3, 1) := by decide +kernel
theorem dX11_order_5 : decode cX11_order 5 = .ok (.ifCond .ge 10, 3) := by decide +kernel
theorem dX11_order_8 : decode cX11_order 8 = .ok (.aload_n 0, 1) := by decide +kernel
theorem dX11_order_9 : decode cX11_order 9 = .ok (.bipush (-5), 2) := by decide +kernel
theorem dX11_order_11 : decode cX11_order 11 = .ok (.invokevirtual 73, 3) := by decide +kernel
theorem dX11_order_14 : decode cX11_order 14 = .ok (.ireturn, 1) := by decide +kernel
theorem dX11_order_15 : decode cX11_order 15 = .ok (.iload_n 1, 1) := by decide +kernel
theorem dX11_order_16 : decode cX11_order 16 = .ok (.iconst 1, 1) := by decide +kernel
theorem dX11_order_17 : decode cX11_order 17 = .ok (.if_icmp .lt 9, 3) := by decide +kernel
theorem dX11_order_20 : decode cX11_order 20 = .ok (.iload_n 1, 1) := by decide +kernel
theorem dX11_order_21 : decode cX11_order 21 = .ok (.bipush 8, 2) := by decide +kernel
theorem dX11_order_23 : decode cX11_order 23 = .ok (.if_icmp .le 10, 3) := by decide +kernel
theorem dX11_order_26 : decode cX11_order 26 = .ok (.aload_n 0, 1) := by decide +kernel
theorem dX11_order_27 : decode cX11_order 27 = .ok (.bipush (-6), 2) := by decide +kernel
theorem dX11_order_29 : decode cX11_order 29 = .ok (.invokevirtual 73, 3) := by decide +kernel
theorem dX11_order_32 : decode cX11_order 32 = .ok (.ireturn, 1) := by decide +kernel
theorem dX11_order_33 : decode cX11_order 33 = .ok (.iload_n 3, 1) := by decide +kernel
theorem dX11_order_34 : decode cX11_order 34 = .ok (.iload_n 1, 1) := by decide +kernel
theorem dX11_order_35 : decode cX11_order 35 = .ok (.if_icmp .ge 15, 3) := by decide +kernel
theorem dX11_order_38 : decode cX11_order 38 = .ok (.iload_n 2, 1) := by decide +kernel
theorem dX11_order_39 : decode cX11_order 39 = .ok (.aload_n 0, 1) := by decide +kernel
theorem dX11_order_40 : decode cX11_order 40 = .ok (.getfield 64, 3) := by decide +kernel
theorem dX11_order_43 : decode cX11_order 43 = .ok (.iload_n 1, 1) := by decide +kernel
theorem dX11_order_44 : decode cX11_order 44 = .ok (.invokevirtual 317, 3) := by decide +kernel
theorem dX11_order_47 : decode cX11_order 47 = .ok (.if_icmp .lt 10, 3) := by decide +kernel
theorem dX11_order_50 : decode cX11_order 50 = .ok (.aload_n 0, 1) := by decide +kernel
theorem dX11_order_51 : decode cX11_order 51 = .ok (.bipush (-5), 2) := by decide +kernel
theorem dX11_order_53 : decode cX11_order 53 = .ok (.invokevirtual 73, 3) := by decide +kernel
theorem dX11_order_56 : decode cX11_order 56 = .ok (.ireturn, 1) := by decide +kernel
theorem dX11_order_57 : decode cX11_order 57 = .ok (.aload_n 0, 1) := by decide +kernel
theorem dX11_order_58 : decode cX11_order 58 = .ok (.getfield 64, 3) := by decide +kernel
theorem dX11_order_61 : decode cX11_order 61 = .ok (.iload_n 1, 1) := by decide +kernel
theorem dX11_order_62 : decode cX11_order 62 = .ok (.iload_n 2, 1) := by decide +kernel
theorem dX11_order_63 : decode cX11_order 63 = .ok (.iload_n 3, 1) := by decide +kernel
theorem dX11_order_64 : decode cX11_order 64 = .ok (.invokevirtual 320, 3) := by decide +kernel
theorem dX11_order_67 : decode cX11_order 67 = .ok (.ireturn, 1) := by decide +kernel
theorem dX11_page_0 : decode cX11_page 0 = .ok (.iload_n 2, 1) := by decide +kernel
theorem dX11_page_1 : decode cX11_page 1 = .ok (.ifCond .ge 10, 3) := by decide +kernel
theorem dX11_page_4 : decode cX11_page 4 = .ok (.aload_n 0, 1) := by decide +kernel
theorem dX11_page_5 : decode cX11_page 5 = .ok (.bipush (-5), 2) := by decide +kernel
theorem dX11_page_7 : decode cX11_page 7 = .ok (.invokevirtual 73, 3) := by decide +kernel
theorem dX11_page_10 : decode cX11_page 10 = .ok (.ireturn, 1) := by decide +kernel
theorem dX11_page_11 : decode cX11_page 11 = .ok (.iload_n 1, 1) := by decide +kernel
theorem dX11_page_12 : decode cX11_page 12 = .ok (.iconst 1, 1) := by decide +kernel
theorem dX11_page_13 : decode cX11_page 13 = .ok (.if_icmp .lt 9, 3) := by decide +kernel
theorem dX11_page_16 : decode cX11_page 16 = .ok (.iload_n 1, 1) := by decide +kernel
theorem dX11_page_17 : decode cX11_page 17 = .ok (.bipush 6, 2) := by decide +kernel
theorem dX11_page_19 : decode cX11_page 19 = .ok (.if_icmp .le 10, 3) := by decide +kernel
theorem dX11_page_22 : decode cX11_page 22 = .ok (.aload_n 0, 1) := by decide +kernel
theorem dX11_page_23 : decode cX11_page 23 = .ok (.bipush (-6), 2) := by decide +kernel
theorem dX11_page_25 : decode cX11_page 25 = .ok (.invokevirtual 73, 3) := by decide +kernel
theorem dX11_page_28 : decode cX11_page 28 = .ok (.ireturn, 1) := by decide +kernel
theorem dX11_page_29 : decode cX11_page 29 = .ok (.iload_n 2, 1) := by decide +kernel
theorem dX11_page_30 : decode cX11_page 30 = .ok (.iconst 1, 1) := by decide +kernel
theorem dX11_page_31 : decode cX11_page 31 = .ok (.iload_n 1, 1) := by decide +kernel
theorem dX11_page_32 : decode cX11_page 32 = .ok (.ishl, 1) := by decide +kernel
theorem dX11_page_33 : decode cX11_page 33 = .ok (.if_icmp .lt 10, 3) := by decide +kernel
theorem dX11_page_36 : decode cX11_page 36 = .ok (.aload_n 0, 1) := by decide +kernel
theorem dX11_page_37 : decode cX11_page 37 = .ok (.bipush (-5), 2) := by decide +kernel
theorem dX11_page_39 : decode cX11_page 39 = .ok (.invokevirtual 73, 3) := by decide +kernel
theorem dX11_page_42 : decode cX11_page 42 = .ok (.ireturn, 1) := by decide +kernel
theorem dX11_page_43 : decode cX11_page 43 = .ok (.iconst 0, 1) := by decide +kernel
theorem dX11_page_44 : decode cX11_page 44 = .ok (.istore_n 3, 1) := by decide +kernel
theorem dX11_page_45 : decode cX11_page 45 = .ok (.iload_n 2, 1) := by decide +kernel
theorem dX11_page_46 : decode cX11_page 46 = .ok (.istore 4, 2) := by decide +kernel
theorem dX11_page_48 : decode cX11_page 48 = .ok (.iload_n 1, 1) := by decide +kernel
theorem dX11_page_49 : decode cX11_page 49 = .ok (.istore 5, 2) := by decide +kernel
theorem dX11_page_51 : decode cX11_page 51 = .ok (.iload 5, 2) := by decide +kernel
theorem dX11_page_53 : decode cX11_page 53 = .ok (.ifCond .le 54, 3) := by decide +kernel
theorem dX11_page_56 : decode cX11_page 56 = .ok (.iconst 1, 1) := by decide +kernel
theorem dX11_page_57 : decode cX11_page 57 = .ok (.iload 5, 2) := by decide +kernel
theorem dX11_page_59 : decode cX11_page 59 = .ok (.iconst 1, 1) := by decide +kernel
theorem dX11_page_60 : decode cX11_page 60 = .ok (.isub, 1) := by decide +kernel
theorem dX11_page_61 : decode cX11_page 61 = .ok (.ishl, 1) := by decide +kernel
theorem dX11_page_62 : decode cX11_page 62 = .ok (.istore 6, 2) := by decide +kernel
theorem dX11_page_64 : decode cX11_page 64 = .ok (.iload 4, 2) := by decide +kernel
theorem dX11_page_66 : decode cX11_page 66 = .ok (.iload 6, 2) := by decide +kernel
theorem dX11_page_68 : decode cX11_page 68 = .ok (.if_icmp .ge 26, 3) := by decide +kernel
theorem dX11_page_71 : decode cX11_page 71 = .ok (.iconst 2, 1) := by decide +kernel
theorem dX11_page_72 : decode cX11_page 72 = .ok (.iload_n 1, 1) := by decide +kernel
theorem dX11_page_73 : decode cX11_page 73 = .ok (.iload 5, 2) := by decide +kernel
theorem dX11_page_75 : decode cX11_page 75 = .ok (.isub, 1) := by decide +kernel
theorem dX11_page_76 : decode cX11_page 76 = .ok (.ishl, 1) := by decide +kernel
theorem dX11_page_77 : decode cX11_page 77 = .ok (.iconst 1, 1) := by decide +kernel
theorem dX11_page_78 : decode cX11_page 78 = .ok (.isub, 1) := by decide +kernel
theorem dX11_page_79 : decode cX11_page 79 = .ok (.iload_n 3, 1) := by decide +kernel
theorem dX11_page_80 : decode cX11_page 80 = .ok (.isub, 1) := by decide +kernel
theorem dX11_page_81 : decode cX11_page 81 = .ok (.istore_n 3, 1) := by decide +kernel
theorem dX11_page_82 : decode cX11_page 82 = .ok (.iload 6, 2) := by decide +kernel
theorem dX11_page_84 : decode cX11_page 84 = .ok (.iconst 1, 1) := by decide +kernel
theorem dX11_page_85 : decode cX11_page 85 = .ok (.isub, 1) := by decide +kernel
theorem dX11_page_86 : decode cX11_page 86 = .ok (.iload 4, 2) := by decide +kernel
theorem dX11_page_88 : decode cX11_page 88 = .ok (.isub, 1) := by decide +kernel
theorem dX11_page_89 : decode cX11_page 89 = .ok (.istore 4, 2) := by decide +kernel
theorem dX11_page_91 : decode cX11_page 91 = .ok (.goto 10, 3) := by decide +kernel
theorem dX11_page_94 : decode cX11_page 94 = .ok (.iload 4, 2) := by decide +kernel
theorem dX11_page_96 : decode cX11_page 96 = .ok (.iload 6, 2) := by decide +kernel
theorem dX11_page_98 : decode cX11_page 98 = .ok (.isub, 1) := by decide +kernel
theorem dX11_page_99 : decode cX11_page 99 = .ok (.istore 4, 2) := by decide +kernel
theorem dX11_page_101 : decode cX11_page 101 = .ok (.iinc 5 (-1), 3) := by decide +kernel
theorem dX11_page_104 : decode cX11_page 104 = .ok (.goto (-53), 3) := by decide +kernel
theorem dX11_page_107 : decode cX11_page 107 = .ok (.iload_n 3, 1) := by decide +kernel
theorem dX11_page_108 : decode cX11_page 108 = .ok (.ireturn, 1) := by decide +kernel
theorem dX11_drop_0 : decode cX11_drop 0 = .ok (.aload_n 0, 1) := by decide +kernel
theorem dX11_drop_1 : decode cX11_drop 1 = .ok (.getfield 164, 3) := by decide +kernel
theorem dX11_drop_4 : decode cX11_drop 4 = .ok (.ifCond .gt 10, 3) := by decide +kernel
theorem dX11_drop_7 : decode cX11_drop 7 = .ok (.aload_n 0, 1) := by decide +kernel
theorem dX11_drop_8 : decode cX11_drop 8 = .ok (.bipush (-6), 2) := by decide +kernel
theorem dX11_drop_10 : decode cX11_drop 10 = .ok (.invokevirtual 73, 3) := by decide +kernel
theorem dX11_drop_13 : decode cX11_drop 13 = .ok (.ireturn, 1) := by decide +kernel
theorem dX11_drop_14 : decode cX11_drop 14 = .ok (.aload_n 0, 1) := by decide +kernel
theorem dX11_drop_15 : decode cX11_drop 15 = .ok (.dup, 1) := by decide +kernel
theorem dX11_drop_16 : decode cX11_drop 16 = .ok (.getfield 164, 3) := by decide +kernel
theorem dX11_drop_19 : decode cX11_drop 19 = .ok (.iconst 1, 1) := by decide +kernel
theorem dX11_drop_20 : decode cX11_drop 20 = .ok (.isub, 1) := by decide +kernel
theorem dX11_drop_21 : decode cX11_drop 21 = .ok (.putfield 164, 3) := by decide +kernel
theorem dX11_drop_24 : decode cX11_drop 24 = .ok (.aload_n 0, 1) := by decide +kernel
theorem dX11_drop_25 : decode cX11_drop 25 = .ok (.getfield 11, 3) := by decide +kernel
theorem dX11_drop_28 : decode cX11_drop 28 = .ok (.aload_n 0, 1) := by decide +kernel
theorem dX11_drop_29 : decode cX11_drop 29 = .ok (.getfield 164, 3) := by decide +kernel
theorem dX11_drop_32 : decode cX11_drop 32 = .ok (.aconst_null, 1) := by decide +kernel
theorem dX11_drop_33 : decode cX11_drop 33 = .ok (.aastore, 1) := by decide +kernel
theorem dX11_drop_34 : decode cX11_drop 34 = .ok (.aload_n 0, 1) := by decide +kernel
theorem dX11_drop_35 : decode cX11_drop 35 = .ok (.invokevirtual 323, 3) := by decide +kernel
theorem dX11_drop_38 : decode cX11_drop 38 = .ok (.aload_n 0, 1) := by decide +kernel
theorem dX11_drop_39 : decode cX11_drop 39 = .ok (.getfield 164, 3) := by decide +kernel
theorem dX11_drop_42 : decode cX11_drop 42 = .ok (.ireturn, 1) := by decide +kernel
theorem dX11_act_0 : decode cX11_act 0 = .ok (.aload_n 0, 1) := by decide +kernel
theorem dX11_act_1 : decode cX11_act 1 = .ok (.getfield 38, 3) := by decide +kernel
theorem dX11_act_4 : decode cX11_act 4 = .ok (.iconst 0, 1) := by decide +kernel
theorem dX11_act_5 : decode cX11_act 5 = .ok (.invokevirtual 326, 3) := by decide +kernel
theorem dX11_act_8 : decode cX11_act 8 = .ok (.aload_n 0, 1) := by decide +kernel
theorem dX11_act_9 : decode cX11_act 9 = .ok (.iload_n 1, 1) := by decide +kernel
theorem dX11_act_10 : decode cX11_act 10 = .ok (.invokevirtual 118, 3) := by decide +kernel
theorem dX11_act_13 : decode cX11_act 13 = .ok (.ifCond .ne 5, 3) := by decide +kernel
theorem dX11_act_16 : decode cX11_act 16 = .ok (.iconst 0, 1) := by decide +kernel
theorem dX11_act_17 : decode cX11_act 17 = .ok (.ireturn, 1) := by decide +kernel
theorem dX11_act_18 : decode cX11_act 18 = .ok (.iload_n 2, 1) := by decide +kernel
theorem dX11_act_19 : decode cX11_act 19 = .ok (.tableswitch 70 0 2 #[25, 40, 55], 25) := by decide +kernel
theorem dX11_act_44 : decode cX11_act 44 = .ok (.aload_n 0, 1) := by decide +kernel
theorem dX11_act_45 : decode cX11_act 45 = .ok (.getfield 11, 3) := by decide +kernel
theorem dX11_act_48 : decode cX11_act 48 = .ok (.iload_n 1, 1) := by decide +kernel
theorem dX11_act_49 : decode cX11_act 49 = .ok (.aaload, 1) := by decide +kernel
theorem dX11_act_50 : decode cX11_act 50 = .ok (.aload_n 0, 1) := by decide +kernel
theorem dX11_act_51 : decode cX11_act 51 = .ok (.getfield 38, 3) := by decide +kernel
theorem dX11_act_54 : decode cX11_act 54 = .ok (.iload_n 3, 1) := by decide +kernel
theorem dX11_act_55 : decode cX11_act 55 = .ok (.invokevirtual 329, 3) := by decide +kernel
theorem dX11_act_58 : decode cX11_act 58 = .ok (.ireturn, 1) := by decide +kernel
theorem dX11_act_59 : decode cX11_act 59 = .ok (.aload_n 0, 1) := by decide +kernel
theorem dX11_act_60 : decode cX11_act 60 = .ok (.getfield 11, 3) := by decide +kernel
theorem dX11_act_63 : decode cX11_act 63 = .ok (.iload_n 1, 1) := by decide +kernel
theorem dX11_act_64 : decode cX11_act 64 = .ok (.aaload, 1) := by decide +kernel
theorem dX11_act_65 : decode cX11_act 65 = .ok (.aload_n 0, 1) := by decide +kernel
theorem dX11_act_66 : decode cX11_act 66 = .ok (.getfield 38, 3) := by decide +kernel
theorem dX11_act_69 : decode cX11_act 69 = .ok (.iload_n 3, 1) := by decide +kernel
theorem dX11_act_70 : decode cX11_act 70 = .ok (.invokevirtual 333, 3) := by decide +kernel
theorem dX11_act_73 : decode cX11_act 73 = .ok (.ireturn, 1) := by decide +kernel
theorem dX11_act_74 : decode cX11_act 74 = .ok (.aload_n 0, 1) := by decide +kernel
theorem dX11_act_75 : decode cX11_act 75 = .ok (.getfield 11, 3) := by decide +kernel
theorem dX11_act_78 : decode cX11_act 78 = .ok (.iload_n 1, 1) := by decide +kernel
theorem dX11_act_79 : decode cX11_act 79 = .ok (.aaload, 1) := by decide +kernel
theorem dX11_act_80 : decode cX11_act 80 = .ok (.aload_n 0, 1) := by decide +kernel
theorem dX11_act_81 : decode cX11_act 81 = .ok (.getfield 38, 3) := by decide +kernel
theorem dX11_act_84 : decode cX11_act 84 = .ok (.iload_n 3, 1) := by decide +kernel
theorem dX11_act_85 : decode cX11_act 85 = .ok (.invokevirtual 336, 3) := by decide +kernel
theorem dX11_act_88 : decode cX11_act 88 = .ok (.ireturn, 1) := by decide +kernel
theorem dX11_act_89 : decode cX11_act 89 = .ok (.iconst 0, 1) := by decide +kernel
theorem dX11_act_90 : decode cX11_act 90 = .ok (.ireturn, 1) := by decide +kernel
theorem dX11_trace_0 : decode cX11_trace 0 = .ok (.iload_n 1, 1) := by decide +kernel
theorem dX11_trace_1 : decode cX11_trace 1 = .ok (.ifCond .lt 20, 3) := by decide +kernel
theorem dX11_trace_4 : decode cX11_trace 4 = .ok (.iload_n 1, 1) := by decide +kernel
theorem dX11_trace_5 : decode cX11_trace 5 = .ok (.bipush 20, 2) := by decide +kernel
theorem dX11_trace_7 : decode cX11_trace 7 = .ok (.if_icmp .ge 14, 3) := by decide +kernel
theorem dX11_trace_10 : decode cX11_trace 10 = .ok (.iload_n 1, 1) := by decide +kernel
theorem dX11_trace_11 : decode cX11_trace 11 = .ok (.aload_n 0, 1) := by decide +kernel
theorem dX11_trace_12 : decode cX11_trace 12 = .ok (.getfield 38, 3) := by decide +kernel
theorem dX11_trace_15 : decode cX11_trace 15 = .ok (.invokevirtual 339, 3) := by decide +kernel
theorem dX11_trace_18 : decode cX11_trace 18 = .ok (.if_icmp .lt 5, 3) := by decide +kernel
theorem dX11_trace_21 : decode cX11_trace 21 = .ok (.iconst (-1), 1) := by decide +kernel
theorem dX11_trace_22 : decode cX11_trace 22 = .ok (.ireturn, 1) := by decide +kernel
theorem dX11_trace_23 : decode cX11_trace 23 = .ok (.aload_n 0, 1) := by decide +kernel
theorem dX11_trace_24 : decode cX11_trace 24 = .ok (.getfield 38, 3) := by decide +kernel
theorem dX11_trace_27 : decode cX11_trace 27 = .ok (.iload_n 1, 1) := by decide +kernel
theorem dX11_trace_28 : decode cX11_trace 28 = .ok (.invokevirtual 342, 3) := by decide +kernel
theorem dX11_trace_31 : decode cX11_trace 31 = .ok (.ireturn, 1) := by decide +kernel
theorem dX11_image_0 : decode cX11_image 0 = .ok (.aload_n 0, 1) := by decide +kernel
theorem dX11_image_1 : decode cX11_image 1 = .ok (.getfield 11, 3) := by decide +kernel
theorem dX11_image_4 : decode cX11_image 4 = .ok (.aload_n 0, 1) := by decide +kernel
theorem dX11_image_5 : decode cX11_image 5 = .ok (.getfield 15, 3) := by decide +kernel
theorem dX11_image_8 : decode cX11_image 8 = .ok (.invokestatic 196, 3) := by decide +kernel
theorem dX11_image_11 : decode cX11_image 11 = .ok (.aload_n 0, 1) := by decide +kernel
theorem dX11_image_12 : decode cX11_image 12 = .ok (.aload_n 0, 1) := by decide +kernel
theorem dX11_image_13 : decode cX11_image 13 = .ok (.getfield 164, 3) := by decide +kernel
theorem dX11_image_16 : decode cX11_image 16 = .ok (.putfield 18, 3) := by decide +kernel
theorem dX11_image_19 : decode cX11_image 19 = .ok (.aload_n 0, 1) := by decide +kernel
theorem dX11_image_20 : decode cX11_image 20 = .ok (.getfield 164, 3) := by decide +kernel
theorem dX11_image_23 : decode cX11_image 23 = .ok (.ireturn, 1) := by decide +kernel
theorem dX11_restore_0 : decode cX11_restore 0 = .ok (.aload_n 0, 1) := by decide +kernel
theorem dX11_restore_1 : decode cX11_restore 1 = .ok (.getfield 18, 3) := by decide +kernel
theorem dX11_restore_4 : decode cX11_restore 4 = .ok (.iconst (-1), 1) := by decide +kernel
theorem dX11_restore_5 : decode cX11_restore 5 = .ok (.if_icmp .ne 10, 3) := by decide +kernel
theorem dX11_restore_8 : decode cX11_restore 8 = .ok (.aload_n 0, 1) := by decide +kernel
theorem dX11_restore_9 : decode cX11_restore 9 = .ok (.bipush (-6), 2) := by decide +kernel
theorem dX11_restore_11 : decode cX11_restore 11 = .ok (.invokevirtual 73, 3) := by decide +kernel
theorem dX11_restore_14 : decode cX11_restore 14 = .ok (.ireturn, 1) := by decide +kernel
theorem dX11_restore_15 : decode cX11_restore 15 = .ok (.aload_n 0, 1) := by decide +kernel
theorem dX11_restore_16 : decode cX11_restore 16 = .ok (.getfield 15, 3) := by decide +kernel
theorem dX11_restore_19 : decode cX11_restore 19 = .ok (.aload_n 0, 1) := by decide +kernel
theorem dX11_restore_20 : decode cX11_restore 20 = .ok (.getfield 11, 3) := by decide +kernel
theorem dX11_restore_23 : decode cX11_restore 23 = .ok (.invokestatic 196, 3) := by decide +kernel
theorem dX11_restore_26 : decode cX11_restore 26 = .ok (.aload_n 0, 1) := by decide +kernel
theorem dX11_restore_27 : decode cX11_restore 27 = .ok (.aload_n 0, 1) := by decide +kernel
theorem dX11_restore_28 : decode cX11_restore 28 = .ok (.getfield 18, 3) := by decide +kernel
theorem dX11_restore_31 : decode cX11_restore 31 = .ok (.putfield 164, 3) := by decide +kernel
theorem dX11_restore_34 : decode cX11_restore 34 = .ok (.aload_n 0, 1) := by decide +kernel
theorem dX11_restore_35 : decode cX11_restore 35 = .ok (.invokevirtual 323, 3) := by decide +kernel
theorem dX11_restore_38 : decode cX11_restore 38 = .ok (.aload_n 0, 1) := by decide +kernel
theorem dX11_restore_39 : decode cX11_restore 39 = .ok (.getfield 164, 3) := by decide +kernel
theorem dX11_restore_42 : decode cX11_restore 42 = .ok (.ireturn, 1) := by decide +kernel
theorem dX11_status_0 : decode cX11_status 0 = .ok (.iload_n 1, 1) := by decide +kernel
theorem dX11_status_1 : decode cX11_status 1 = .ok (.ifCond .ne 8, 3) := by decide +kernel
theorem dX11_status_4 : decode cX11_status 4 = .ok (.aload_n 0, 1) := by decide +kernel
theorem dX11_status_5 : decode cX11_status 5 = .ok (.getfield 164, 3) := by decide +kernel
theorem dX11_status_8 : decode cX11_status 8 = .ok (.ireturn, 1) := by decide +kernel
theorem dX11_status_9 : decode cX11_status 9 = .ok (.iload_n 1, 1) := by decide +kernel
theorem dX11_status_10 : decode cX11_status 10 = .ok (.iconst 1, 1) := by decide +kernel
theorem dX11_status_11 : decode cX11_status 11 = .ok (.if_icmp .ne 8, 3) := by decide +kernel
theorem dX11_status_14 : decode cX11_status 14 = .ok (.aload_n 0, 1) := by decide +kernel
theorem dX11_status_15 : decode cX11_status 15 = .ok (.invokevirtual 346, 3) := by decide +kernel
theorem dX11_status_18 : decode cX11_status 18 = .ok (.ireturn, 1) := by decide +kernel
theorem dX11_status_19 : decode cX11_status 19 = .ok (.iload_n 1, 1) := by decide +kernel
theorem dX11_status_20 : decode cX11_status 20 = .ok (.iconst 2, 1) := by decide +kernel
theorem dX11_status_21 : decode cX11_status 21 = .ok (.if_icmp .ne 8, 3) := by decide +kernel
theorem dX11_status_24 : decode cX11_status 24 = .ok (.aload_n 0, 1) := by decide +kernel
theorem dX11_status_25 : decode cX11_status 25 = .ok (.invokevirtual 349, 3) := by decide +kernel
theorem dX11_status_28 : decode cX11_status 28 = .ok (.ireturn, 1) := by decide +kernel
theorem dX11_status_29 : decode cX11_status 29 = .ok (.iload_n 1, 1) := by decide +kernel
theorem dX11_status_30 : decode cX11_status 30 = .ok (.iconst 3, 1) := by decide +kernel
theorem dX11_status_31 : decode cX11_status 31 = .ok (.if_icmp .ne 11, 3) := by decide +kernel
theorem dX11_status_34 : decode cX11_status 34 = .ok (.aload_n 0, 1) := by decide +kernel
theorem dX11_status_35 : decode cX11_status 35 = .ok (.getfield 38, 3) := by decide +kernel
theorem dX11_status_38 : decode cX11_status 38 = .ok (.invokevirtual 339, 3) := by decide +kernel
theorem dX11_status_41 : decode cX11_status 41 = .ok (.ireturn, 1) := by decide +kernel
theorem dX11_status_42 : decode cX11_status 42 = .ok (.iload_n 1, 1) := by decide +kernel
theorem dX11_status_43 : decode cX11_status 43 = .ok (.bipush 10, 2) := by decide +kernel
theorem dX11_status_45 : decode cX11_status 45 = .ok (.if_icmp .le 25, 3) := by decide +kernel
theorem dX11_status_48 : decode cX11_status 48 = .ok (.iload_n 1, 1) := by decide +kernel
theorem dX11_status_49 : decode cX11_status 49 = .ok (.bipush 10, 2) := by decide +kernel
theorem dX11_status_51 : decode cX11_status 51 = .ok (.isub, 1) := by decide +kernel
theorem dX11_status_52 : decode cX11_status 52 = .ok (.aload_n 0, 1) := by decide +kernel
theorem dX11_status_53 : decode cX11_status 53 = .ok (.getfield 28, 3) := by decide +kernel
theorem dX11_status_56 : decode cX11_status 56 = .ok (.arraylength, 1) := by decide +kernel
theorem dX11_status_57 : decode cX11_status 57 = .ok (.if_icmp .ge 13, 3) := by decide +kernel
theorem dX11_status_60 : decode cX11_status 60 = .ok (.aload_n 0, 1) := by decide +kernel
theorem dX11_status_61 : decode cX11_status 61 = .ok (.getfield 28, 3) := by decide +kernel
theorem dX11_status_64 : decode cX11_status 64 = .ok (.iload_n 1, 1) := by decide +kernel
theorem dX11_status_65 : decode cX11_status 65 = .ok (.bipush 10, 2) := by decide +kernel
theorem dX11_status_67 : decode cX11_status 67 = .ok (.isub, 1) := by decide +kernel
theorem dX11_status_68 : decode cX11_status 68 = .ok (.iaload, 1) := by decide +kernel
theorem dX11_status_69 : decode cX11_status 69 = .ok (.ireturn, 1) := by decide +kernel
theorem dX11_status_70 : decode cX11_status 70 = .ok (.iconst (-1), 1) := by decide +kernel
theorem dX11_status_71 : decode cX11_status 71 = .ok (.ireturn, 1) := by decide +kernel
theorem dX11_levelsOfAll_0 : decode cX11_levelsOfAll 0 = .ok (.iconst 0, 1) := by decide +kernel
theorem dX11_levelsOfAll_1 : decode cX11_levelsOfAll 1 = .ok (.istore_n 1, 1) := by decide +kernel
theorem dX11_levelsOfAll_2 : decode cX11_levelsOfAll 2 = .ok (.iconst 0, 1) := by decide +kernel
theorem dX11_levelsOfAll_3 : decode cX11_levelsOfAll 3 = .ok (.istore_n 2, 1) := by decide +kernel
theorem dX11_levelsOfAll_4 : decode cX11_levelsOfAll 4 = .ok (.iload_n 2, 1) := by decide +kernel
theorem dX11_levelsOfAll_5 : decode cX11_levelsOfAll 5 = .ok (.aload_n 0, 1) := by decide +kernel
theorem dX11_levelsOfAll_6 : decode cX11_levelsOfAll 6 = .ok (.getfield 164, 3) := by decide +kernel
theorem dX11_levelsOfAll_9 : decode cX11_levelsOfAll 9 = .ok (.if_icmp .ge 21, 3) := by decide +kernel
theorem dX11_levelsOfAll_12 : decode cX11_levelsOfAll 12 = .ok (.iload_n 1, 1) := by decide +kernel
theorem dX11_levelsOfAll_13 : decode cX11_levelsOfAll 13 = .ok (.aload_n 0, 1) := by decide +kernel
theorem dX11_levelsOfAll_14 : decode cX11_levelsOfAll 14 = .ok (.getfield 11, 3) := by decide +kernel
theorem dX11_levelsOfAll_17 : decode cX11_levelsOfAll 17 = .ok (.iload_n 2, 1) := by decide +kernel
theorem dX11_levelsOfAll_18 : decode cX11_levelsOfAll 18 = .ok (.aaload, 1) := by decide +kernel
theorem dX11_levelsOfAll_19 : decode cX11_levelsOfAll 19 = .ok (.getfield 135, 3) := by decide +kernel
theorem dX11_levelsOfAll_22 : decode cX11_levelsOfAll 22 = .ok (.iadd, 1) := by decide +kernel
theorem dX11_levelsOfAll_23 : decode cX11_levelsOfAll 23 = .ok (.istore_n 1, 1) := by decide +kernel
theorem dX11_levelsOfAll_24 : decode cX11_levelsOfAll 24 = .ok (.iinc 2 1, 3) := by decide +kernel
theorem dX11_levelsOfAll_27 : decode cX11_levelsOfAll 27 = .ok (.goto (-23), 3) := by decide +kernel
theorem dX11_levelsOfAll_30 : decode cX11_levelsOfAll 30 = .ok (.iload_n 1, 1) := by decide +kernel
theorem dX11_levelsOfAll_31 : decode cX11_levelsOfAll 31 = .ok (.ireturn, 1) := by decide +kernel
theorem dX11_onesOfAll_0 : decode cX11_onesOfAll 0 = .ok (.iconst 0, 1) := by decide +kernel
theorem dX11_onesOfAll_1 : decode cX11_onesOfAll 1 = .ok (.istore_n 1, 1) := by decide +kernel
theorem dX11_onesOfAll_2 : decode cX11_onesOfAll 2 = .ok (.iconst 0, 1) := by decide +kernel
theorem dX11_onesOfAll_3 : decode cX11_onesOfAll 3 = .ok (.istore_n 2, 1) := by decide +kernel
theorem dX11_onesOfAll_4 : decode cX11_onesOfAll 4 = .ok (.iload_n 2, 1) := by decide +kernel
theorem dX11_onesOfAll_5 : decode cX11_onesOfAll 5 = .ok (.aload_n 0, 1) := by decide +kernel
theorem dX11_onesOfAll_6 : decode cX11_onesOfAll 6 = .ok (.getfield 164, 3) := by decide +kernel
theorem dX11_onesOfAll_9 : decode cX11_onesOfAll 9 = .ok (.if_icmp .ge 24, 3) := by decide +kernel
theorem dX11_onesOfAll_12 : decode cX11_onesOfAll 12 = .ok (.iload_n 1, 1) := by decide +kernel
theorem dX11_onesOfAll_13 : decode cX11_onesOfAll 13 = .ok (.aload_n 0, 1) := by decide +kernel
theorem dX11_onesOfAll_14 : decode cX11_onesOfAll 14 = .ok (.getfield 11, 3) := by decide +kernel
theorem dX11_onesOfAll_17 : decode cX11_onesOfAll 17 = .ok (.iload_n 2, 1) := by decide +kernel
theorem dX11_onesOfAll_18 : decode cX11_onesOfAll 18 = .ok (.aaload, 1) := by decide +kernel
theorem dX11_onesOfAll_19 : decode cX11_onesOfAll 19 = .ok (.getfield 182, 3) := by decide +kernel
theorem dX11_onesOfAll_22 : decode cX11_onesOfAll 22 = .ok (.invokestatic 352, 3) := by decide +kernel
theorem dX11_onesOfAll_25 : decode cX11_onesOfAll 25 = .ok (.iadd, 1) := by decide +kernel
theorem dX11_onesOfAll_26 : decode cX11_onesOfAll 26 = .ok (.istore_n 1, 1) := by decide +kernel
theorem dX11_onesOfAll_27 : decode cX11_onesOfAll 27 = .ok (.iinc 2 1, 3) := by decide +kernel
theorem dX11_onesOfAll_30 : decode cX11_onesOfAll 30 = .ok (.goto (-26), 3) := by decide +kernel
theorem dX11_onesOfAll_33 : decode cX11_onesOfAll 33 = .ok (.iload_n 1, 1) := by decide +kernel
theorem dX11_onesOfAll_34 : decode cX11_onesOfAll 34 = .ok (.ireturn, 1) := by decide +kernel
theorem dX11_refuse_0 : decode cX11_refuse 0 = .ok (.iload_n 1, 1) := by decide +kernel
theorem dX11_refuse_1 : decode cX11_refuse 1 = .ok (.ifCond .ge 24, 3) := by decide +kernel
theorem dX11_refuse_4 : decode cX11_refuse 4 = .ok (.iload_n 1, 1) := by decide +kernel
theorem dX11_refuse_5 : decode cX11_refuse 5 = .ok (.ineg, 1) := by decide +kernel
theorem dX11_refuse_6 : decode cX11_refuse 6 = .ok (.aload_n 0, 1) := by decide +kernel
theorem dX11_refuse_7 : decode cX11_refuse 7 = .ok (.getfield 28, 3) := by decide +kernel
theorem dX11_refuse_10 : decode cX11_refuse 10 = .ok (.arraylength, 1) := by decide +kernel
theorem dX11_refuse_11 : decode cX11_refuse 11 = .ok (.if_icmp .ge 14, 3) := by decide +kernel
theorem dX11_refuse_14 : decode cX11_refuse 14 = .ok (.aload_n 0, 1) := by decide +kernel
theorem dX11_refuse_15 : decode cX11_refuse 15 = .ok (.getfield 28, 3) := by decide +kernel
theorem dX11_refuse_18 : decode cX11_refuse 18 = .ok (.iload_n 1, 1) := by decide +kernel
theorem dX11_refuse_19 : decode cX11_refuse 19 = .ok (.ineg, 1) := by decide +kernel
theorem dX11_refuse_20 : decode cX11_refuse 20 = .ok (.dup2, 1) := by decide +kernel
theorem dX11_refuse_21 : decode cX11_refuse 21 = .ok (.iaload, 1) := by decide +kernel
theorem dX11_refuse_22 : decode cX11_refuse 22 = .ok (.iconst 1, 1) := by decide +kernel
theorem dX11_refuse_23 : decode cX11_refuse 23 = .ok (.iadd, 1) := by decide +kernel
theorem dX11_refuse_24 : decode cX11_refuse 24 = .ok (.iastore, 1) := by decide +kernel
theorem dX11_refuse_25 : decode cX11_refuse 25 = .ok (.iload_n 1, 1) := by decide +kernel
theorem dX11_refuse_26 : decode cX11_refuse 26 = .ok (.ireturn, 1) := by decide +kernel
theorem dX11_isShelf_0 : decode cX11_isShelf 0 = .ok (.iload_n 1, 1) := by decide +kernel
theorem dX11_isShelf_1 : decode cX11_isShelf 1 = .ok (.ifCond .lt 16, 3) := by decide +kernel
theorem dX11_isShelf_4 : decode cX11_isShelf 4 = .ok (.iload_n 1, 1) := by decide +kernel
theorem dX11_isShelf_5 : decode cX11_isShelf 5 = .ok (.aload_n 0, 1) := by decide +kernel
theorem dX11_isShelf_6 : decode cX11_isShelf 6 = .ok (.getfield 24, 3) := by decide +kernel
theorem dX11_isShelf_9 : decode cX11_isShelf 9 = .ok (.arraylength, 1) := by decide +kernel
theorem dX11_isShelf_10 : decode cX11_isShelf 10 = .ok (.if_icmp .ge 7, 3) := by decide +kernel
theorem dX11_isShelf_13 : decode cX11_isShelf 13 = .ok (.iconst 1, 1) := by decide +kernel
theorem dX11_isShelf_14 : decode cX11_isShelf 14 = .ok (.goto 4, 3) := by decide +kernel
theorem dX11_isShelf_17 : decode cX11_isShelf 17 = .ok (.iconst 0, 1) := by decide +kernel
theorem dX11_isShelf_18 : decode cX11_isShelf 18 = .ok (.ireturn, 1) := by decide +kernel
theorem dX11_isStrip_0 : decode cX11_isStrip 0 = .ok (.iload_n 1, 1) := by decide +kernel
theorem dX11_isStrip_1 : decode cX11_isStrip 1 = .ok (.ifCond .lt 27, 3) := by decide +kernel
theorem dX11_isStrip_4 : decode cX11_isStrip 4 = .ok (.iload_n 1, 1) := by decide +kernel
theorem dX11_isStrip_5 : decode cX11_isStrip 5 = .ok (.aload_n 0, 1) := by decide +kernel
theorem dX11_isStrip_6 : decode cX11_isStrip 6 = .ok (.getfield 164, 3) := by decide +kernel
theorem dX11_isStrip_9 : decode cX11_isStrip 9 = .ok (.if_icmp .ge 19, 3) := by decide +kernel
theorem dX11_isStrip_12 : decode cX11_isStrip 12 = .ok (.aload_n 0, 1) := by decide +kernel
theorem dX11_isStrip_13 : decode cX11_isStrip 13 = .ok (.getfield 164, 3) := by decide +kernel
theorem dX11_isStrip_16 : decode cX11_isStrip 16 = .ok (.aload_n 0, 1) := by decide +kernel
theorem dX11_isStrip_17 : decode cX11_isStrip 17 = .ok (.getfield 11, 3) := by decide +kernel
theorem dX11_isStrip_20 : decode cX11_isStrip 20 = .ok (.arraylength, 1) := by decide +kernel
theorem dX11_isStrip_21 : decode cX11_isStrip 21 = .ok (.if_icmp .gt 7, 3) := by decide +kernel
theorem dX11_isStrip_24 : decode cX11_isStrip 24 = .ok (.iconst 1, 1) := by decide +kernel
theorem dX11_isStrip_25 : decode cX11_isStrip 25 = .ok (.goto 4, 3) := by decide +kernel
theorem dX11_isStrip_28 : decode cX11_isStrip 28 = .ok (.iconst 0, 1) := by decide +kernel
theorem dX11_isStrip_29 : decode cX11_isStrip 29 = .ok (.ireturn, 1) := by decide +kernel
theorem dX11_noRow_0 : decode cX11_noRow 0 = .ok (.aload_n 0, 1) := by decide +kernel
theorem dX11_noRow_1 : decode cX11_noRow 1 = .ok (.iload_n 1, 1) := by decide +kernel
theorem dX11_noRow_2 : decode cX11_noRow 2 = .ok (.invokevirtual 69, 3) := by decide +kernel
theorem dX11_noRow_5 : decode cX11_noRow 5 = .ok (.ifCond .ne 5, 3) := by decide +kernel
theorem dX11_noRow_8 : decode cX11_noRow 8 = .ok (.iconst (-1), 1) := by decide +kernel
theorem dX11_noRow_9 : decode cX11_noRow 9 = .ok (.ireturn, 1) := by decide +kernel
theorem dX11_noRow_10 : decode cX11_noRow 10 = .ok (.aload_n 0, 1) := by decide +kernel
theorem dX11_noRow_11 : decode cX11_noRow 11 = .ok (.getfield 24, 3) := by decide +kernel
theorem dX11_noRow_14 : decode cX11_noRow 14 = .ok (.iload_n 1, 1) := by decide +kernel
theorem dX11_noRow_15 : decode cX11_noRow 15 = .ok (.aaload, 1) := by decide +kernel
theorem dX11_noRow_16 : decode cX11_noRow 16 = .ok (.invokevirtual 109, 3) := by decide +kernel
theorem dX11_noRow_19 : decode cX11_noRow 19 = .ok (.ifCond .eq 5, 3) := by decide +kernel
theorem dX11_noRow_22 : decode cX11_noRow 22 = .ok (.iconst 0, 1) := by decide +kernel
theorem dX11_noRow_23 : decode cX11_noRow 23 = .ok (.ireturn, 1) := by decide +kernel
theorem dX11_noRow_24 : decode cX11_noRow 24 = .ok (.aload_n 0, 1) := by decide +kernel
theorem dX11_noRow_25 : decode cX11_noRow 25 = .ok (.getfield 24, 3) := by decide +kernel
theorem dX11_noRow_28 : decode cX11_noRow 28 = .ok (.iload_n 1, 1) := by decide +kernel
theorem dX11_noRow_29 : decode cX11_noRow 29 = .ok (.aaload, 1) := by decide +kernel
theorem dX11_noRow_30 : decode cX11_noRow 30 = .ok (.invokevirtual 105, 3) := by decide +kernel
theorem dX11_noRow_33 : decode cX11_noRow 33 = .ok (.ifCond .eq 8, 3) := by decide +kernel
theorem dX11_noRow_36 : decode cX11_noRow 36 = .ok (.bipush (-2), 2) := by decide +kernel
theorem dX11_noRow_38 : decode cX11_noRow 38 = .ok (.goto 5, 3) := by decide +kernel
theorem dX11_noRow_41 : decode cX11_noRow 41 = .ok (.bipush (-3), 2) := by decide +kernel
theorem dX11_noRow_43 : decode cX11_noRow 43 = .ok (.ireturn, 1) := by decide +kernel
theorem dX11_noFirstElements_0 : decode cX11_noFirstElements 0 = .ok (.aload_n 0, 1) := by decide +kernel
theorem dX11_noFirstElements_1 : decode cX11_noFirstElements 1 = .ok (.iload_n 1, 1) := by decide +kernel
theorem dX11_noFirstElements_2 : decode cX11_noFirstElements 2 = .ok (.invokevirtual 81, 3) := by decide +kernel
theorem dX11_noFirstElements_5 : decode cX11_noFirstElements 5 = .ok (.istore_n 3, 1) := by decide +kernel
theorem dX11_noFirstElements_6 : decode cX11_noFirstElements 6 = .ok (.iload_n 3, 1) := by decide +kernel
theorem dX11_noFirstElements_7 : decode cX11_noFirstElements 7 = .ok (.ifCond .eq 5, 3) := by decide +kernel
theorem dX11_noFirstElements_10 : decode cX11_noFirstElements 10 = .ok (.iload_n 3, 1) := by decide +kernel
theorem dX11_noFirstElements_11 : decode cX11_noFirstElements 11 = .ok (.ireturn, 1) := by decide +kernel
theorem dX11_noFirstElements_12 : decode cX11_noFirstElements 12 = .ok (.iload_n 2, 1) := by decide +kernel
theorem dX11_noFirstElements_13 : decode cX11_noFirstElements 13 = .ok (.ifCond .ge 6, 3) := by decide +kernel
theorem dX11_noFirstElements_16 : decode cX11_noFirstElements 16 = .ok (.bipush (-4), 2) := by decide +kernel
theorem dX11_noFirstElements_18 : decode cX11_noFirstElements 18 = .ok (.ireturn, 1) := by decide +kernel
theorem dX11_noFirstElements_19 : decode cX11_noFirstElements 19 = .ok (.iload_n 2, 1) := by decide +kernel
theorem dX11_noFirstElements_20 : decode cX11_noFirstElements 20 = .ok (.aload_n 0, 1) := by decide +kernel
theorem dX11_noFirstElements_21 : decode cX11_noFirstElements 21 = .ok (.getfield 24, 3) := by decide +kernel
theorem dX11_noFirstElements_24 : decode cX11_noFirstElements 24 = .ok (.iload_n 1, 1) := by decide +kernel
theorem dX11_noFirstElements_25 : decode cX11_noFirstElements 25 = .ok (.aaload, 1) := by decide +kernel
theorem dX11_noFirstElements_26 : decode cX11_noFirstElements 26 = .ok (.getfield 115, 3) := by decide +kernel
theorem dX11_noFirstElements_29 : decode cX11_noFirstElements 29 = .ok (.if_icmp .le 8, 3) := by decide +kernel
theorem dX11_noFirstElements_32 : decode cX11_noFirstElements 32 = .ok (.bipush (-5), 2) := by decide +kernel
theorem dX11_noFirstElements_34 : decode cX11_noFirstElements 34 = .ok (.goto 4, 3) := by decide +kernel
theorem dX11_noFirstElements_37 : decode cX11_noFirstElements 37 = .ok (.iconst 0, 1) := by decide +kernel
theorem dX11_noFirstElements_38 : decode cX11_noFirstElements 38 = .ok (.ireturn, 1) := by decide +kernel
theorem dX11_noTold_0 : decode cX11_noTold 0 = .ok (.aload_n 0, 1) := by decide +kernel
theorem dX11_noTold_1 : decode cX11_noTold 1 = .ok (.iload_n 1, 1) := by decide +kernel
theorem dX11_noTold_2 : decode cX11_noTold 2 = .ok (.iload_n 2, 1) := by decide +kernel
theorem dX11_noTold_3 : decode cX11_noTold 3 = .ok (.invokevirtual 171, 3) := by decide +kernel
theorem dX11_noTold_6 : decode cX11_noTold 6 = .ok (.istore_n 3, 1) := by decide +kernel
theorem dX11_noTold_7 : decode cX11_noTold 7 = .ok (.iload_n 3, 1) := by decide +kernel
theorem dX11_noTold_8 : decode cX11_noTold 8 = .ok (.ifCond .ne 14, 3) := by decide +kernel
theorem dX11_noTold_11 : decode cX11_noTold 11 = .ok (.iload_n 2, 1) := by decide +kernel
theorem dX11_noTold_12 : decode cX11_noTold 12 = .ok (.bipush 63, 2) := by decide +kernel
theorem dX11_noTold_14 : decode cX11_noTold 14 = .ok (.if_icmp .le 8, 3) := by decide +kernel
theorem dX11_noTold_17 : decode cX11_noTold 17 = .ok (.bipush (-6), 2) := by decide +kernel
theorem dX11_noTold_19 : decode cX11_noTold 19 = .ok (.goto 4, 3) := by decide +kernel
theorem dX11_noTold_22 : decode cX11_noTold 22 = .ok (.iload_n 3, 1) := by decide +kernel
theorem dX11_noTold_23 : decode cX11_noTold 23 = .ok (.ireturn, 1) := by decide +kernel
theorem dX11_noWalk_0 : decode cX11_noWalk 0 = .ok (.aload_n 0, 1) := by decide +kernel
theorem dX11_noWalk_1 : decode cX11_noWalk 1 = .ok (.iload_n 1, 1) := by decide +kernel
theorem dX11_noWalk_2 : decode cX11_noWalk 2 = .ok (.invokevirtual 118, 3) := by decide +kernel
theorem dX11_noWalk_5 : decode cX11_noWalk 5 = .ok (.ifCond .ne 5, 3) := by decide +kernel
theorem dX11_noWalk_8 : decode cX11_noWalk 8 = .ok (.iconst (-1), 1) := by decide +kernel
theorem dX11_noWalk_9 : decode cX11_noWalk 9 = .ok (.ireturn, 1) := by decide +kernel
theorem dX11_noWalk_10 : decode cX11_noWalk 10 = .ok (.iload_n 2, 1) := by decide +kernel
theorem dX11_noWalk_11 : decode cX11_noWalk 11 = .ok (.i2l, 1) := by decide +kernel
theorem dX11_noWalk_12 : decode cX11_noWalk 12 = .ok (.aload_n 0, 1) := by decide +kernel
theorem dX11_noWalk_13 : decode cX11_noWalk 13 = .ok (.getfield 11, 3) := by decide +kernel
theorem dX11_noWalk_16 : decode cX11_noWalk 16 = .ok (.iload_n 1, 1) := by decide +kernel
theorem dX11_noWalk_17 : decode cX11_noWalk 17 = .ok (.aaload, 1) := by decide +kernel
theorem dX11_noWalk_18 : decode cX11_noWalk 18 = .ok (.invokevirtual 201, 3) := by decide +kernel
theorem dX11_noWalk_21 : decode cX11_noWalk 21 = .ok (.lcmp, 1) := by decide +kernel
theorem dX11_noWalk_22 : decode cX11_noWalk 22 = .ok (.ifCond .le 6, 3) := by decide +kernel
theorem dX11_noWalk_25 : decode cX11_noWalk 25 = .ok (.bipush (-5), 2) := by decide +kernel
theorem dX11_noWalk_27 : decode cX11_noWalk 27 = .ok (.ireturn, 1) := by decide +kernel
theorem dX11_noWalk_28 : decode cX11_noWalk 28 = .ok (.iload_n 2, 1) := by decide +kernel
theorem dX11_noWalk_29 : decode cX11_noWalk 29 = .ok (.ifCond .lt 8, 3) := by decide +kernel
theorem dX11_noWalk_32 : decode cX11_noWalk 32 = .ok (.iload_n 2, 1) := by decide +kernel
theorem dX11_noWalk_33 : decode cX11_noWalk 33 = .ok (.iload_n 3, 1) := by decide +kernel
theorem dX11_noWalk_34 : decode cX11_noWalk 34 = .ok (.if_icmp .le 8, 3) := by decide +kernel
theorem dX11_noWalk_37 : decode cX11_noWalk 37 = .ok (.bipush (-6), 2) := by decide +kernel
theorem dX11_noWalk_39 : decode cX11_noWalk 39 = .ok (.goto 4, 3) := by decide +kernel
theorem dX11_noWalk_42 : decode cX11_noWalk 42 = .ok (.iconst 0, 1) := by decide +kernel
theorem dX11_noWalk_43 : decode cX11_noWalk 43 = .ok (.ireturn, 1) := by decide +kernel
theorem dX11_clearShelvesOfLostStrips_0 : decode cX11_clearShelvesOfLostStrips 0 = .ok (.iconst 0, 1) := by decide +kernel
theorem dX11_clearShelvesOfLostStrips_1 : decode cX11_clearShelvesOfLostStrips 1 = .ok (.istore_n 1, 1) := by decide +kernel
theorem dX11_clearShelvesOfLostStrips_2 : decode cX11_clearShelvesOfLostStrips 2 = .ok (.iload_n 1, 1) := by decide +kernel
theorem dX11_clearShelvesOfLostStrips_3 : decode cX11_clearShelvesOfLostStrips 3 = .ok (.aload_n 0, 1) := by decide +kernel
theorem dX11_clearShelvesOfLostStrips_4 : decode cX11_clearShelvesOfLostStrips 4 = .ok (.getfield 24, 3) := by decide +kernel
theorem dX11_clearShelvesOfLostStrips_7 : decode cX11_clearShelvesOfLostStrips 7 = .ok (.arraylength, 1) := by decide +kernel
theorem dX11_clearShelvesOfLostStrips_8 : decode cX11_clearShelvesOfLostStrips 8 = .ok (.if_icmp .ge 47, 3) := by decide +kernel
theorem dX11_clearShelvesOfLostStrips_11 : decode cX11_clearShelvesOfLostStrips 11 = .ok (.aload_n 0, 1) := by decide +kernel
theorem dX11_clearShelvesOfLostStrips_12 : decode cX11_clearShelvesOfLostStrips 12 = .ok (.getfield 24, 3) := by decide +kernel
theorem dX11_clearShelvesOfLostStrips_15 : decode cX11_clearShelvesOfLostStrips 15 = .ok (.iload_n 1, 1) := by decide +kernel
theorem dX11_clearShelvesOfLostStrips_16 : decode cX11_clearShelvesOfLostStrips 16 = .ok (.aaload, 1) := by decide +kernel
theorem dX11_clearShelvesOfLostStrips_17 : decode cX11_clearShelvesOfLostStrips 17 = .ok (.invokevirtual 105, 3) := by decide +kernel
theorem dX11_clearShelvesOfLostStrips_20 : decode cX11_clearShelvesOfLostStrips 20 = .ok (.ifCond .eq 29, 3) := by decide +kernel
theorem dX11_clearShelvesOfLostStrips_23 : decode cX11_clearShelvesOfLostStrips 23 = .ok (.aload_n 0, 1) := by decide +kernel
theorem dX11_clearShelvesOfLostStrips_24 : decode cX11_clearShelvesOfLostStrips 24 = .ok (.getfield 24, 3) := by decide +kernel
theorem dX11_clearShelvesOfLostStrips_27 : decode cX11_clearShelvesOfLostStrips 27 = .ok (.iload_n 1, 1) := by decide +kernel
theorem dX11_clearShelvesOfLostStrips_28 : decode cX11_clearShelvesOfLostStrips 28 = .ok (.aaload, 1) := by decide +kernel
theorem dX11_clearShelvesOfLostStrips_29 : decode cX11_clearShelvesOfLostStrips 29 = .ok (.getfield 112, 3) := by decide +kernel
theorem dX11_clearShelvesOfLostStrips_32 : decode cX11_clearShelvesOfLostStrips 32 = .ok (.aload_n 0, 1) := by decide +kernel
theorem dX11_clearShelvesOfLostStrips_33 : decode cX11_clearShelvesOfLostStrips 33 = .ok (.getfield 164, 3) := by decide +kernel
theorem dX11_clearShelvesOfLostStrips_36 : decode cX11_clearShelvesOfLostStrips 36 = .ok (.if_icmp .lt 13, 3) := by decide +kernel
theorem dX11_clearShelvesOfLostStrips_39 : decode cX11_clearShelvesOfLostStrips 39 = .ok (.aload_n 0, 1) := by decide +kernel
theorem dX11_clearShelvesOfLostStrips_40 : decode cX11_clearShelvesOfLostStrips 40 = .ok (.getfield 24, 3) := by decide +kernel
theorem dX11_clearShelvesOfLostStrips_43 : decode cX11_clearShelvesOfLostStrips 43 = .ok (.iload_n 1, 1) := by decide +kernel
theorem dX11_clearShelvesOfLostStrips_44 : decode cX11_clearShelvesOfLostStrips 44 = .ok (.aaload, 1) := by decide +kernel
theorem dX11_clearShelvesOfLostStrips_45 : decode cX11_clearShelvesOfLostStrips 45 = .ok (.iconst (-1), 1) := by decide +kernel
theorem dX11_clearShelvesOfLostStrips_46 : decode cX11_clearShelvesOfLostStrips 46 = .ok (.invokevirtual 121, 3) := by decide +kernel
theorem dX11_clearShelvesOfLostStrips_49 : decode cX11_clearShelvesOfLostStrips 49 = .ok (.iinc 1 1, 3) := by decide +kernel
theorem dX11_clearShelvesOfLostStrips_52 : decode cX11_clearShelvesOfLostStrips 52 = .ok (.goto (-50), 3) := by decide +kernel
theorem dX11_clearShelvesOfLostStrips_55 : decode cX11_clearShelvesOfLostStrips 55 = .ok (.return_, 1) := by decide +kernel
theorem dX11_copyStrips_0 : decode cX11_copyStrips 0 = .ok (.iconst 0, 1) := by decide +kernel
theorem dX11_copyStrips_1 : decode cX11_copyStrips 1 = .ok (.istore_n 2, 1) := by decide +kernel
theorem dX11_copyStrips_2 : decode cX11_copyStrips 2 = .ok (.iload_n 2, 1) := by decide +kernel
theorem dX11_copyStrips_3 : decode cX11_copyStrips 3 = .ok (.aload_n 0, 1) := by decide +kernel
theorem dX11_copyStrips_4 : decode cX11_copyStrips 4 = .ok (.arraylength, 1) := by decide +kernel
theorem dX11_copyStrips_5 : decode cX11_copyStrips 5 = .ok (.if_icmp .ge 21, 3) := by decide +kernel
theorem dX11_copyStrips_8 : decode cX11_copyStrips 8 = .ok (.iload_n 2, 1) := by decide +kernel
theorem dX11_copyStrips_9 : decode cX11_copyStrips 9 = .ok (.aload_n 1, 1) := by decide +kernel
theorem dX11_copyStrips_10 : decode cX11_copyStrips 10 = .ok (.arraylength, 1) := by decide +kernel
theorem dX11_copyStrips_11 : decode cX11_copyStrips 11 = .ok (.if_icmp .ge 15, 3) := by decide +kernel
theorem dX11_copyStrips_14 : decode cX11_copyStrips 14 = .ok (.aload_n 1, 1) := by decide +kernel
theorem dX11_copyStrips_15 : decode cX11_copyStrips 15 = .ok (.iload_n 2, 1) := by decide +kernel
theorem dX11_copyStrips_16 : decode cX11_copyStrips 16 = .ok (.aload_n 0, 1) := by decide +kernel
theorem dX11_copyStrips_17 : decode cX11_copyStrips 17 = .ok (.iload_n 2, 1) := by decide +kernel
theorem dX11_copyStrips_18 : decode cX11_copyStrips 18 = .ok (.aaload, 1) := by decide +kernel
theorem dX11_copyStrips_19 : decode cX11_copyStrips 19 = .ok (.aastore, 1) := by decide +kernel
theorem dX11_copyStrips_20 : decode cX11_copyStrips 20 = .ok (.iinc 2 1, 3) := by decide +kernel
theorem dX11_copyStrips_23 : decode cX11_copyStrips 23 = .ok (.goto (-21), 3) := by decide +kernel
theorem dX11_copyStrips_26 : decode cX11_copyStrips 26 = .ok (.return_, 1) := by decide +kernel
