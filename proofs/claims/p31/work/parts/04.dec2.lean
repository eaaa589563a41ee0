theorem dX9_init_0 : decode cX9_init 0 = .ok (.aload_n 0, 1) := by decide +kernel
theorem dX9_init_1 : decode cX9_init 1 = .ok (.invokespecial 3, 3) := by decide +kernel
theorem dX9_init_4 : decode cX9_init 4 = .ok (.aload_n 0, 1) := by decide +kernel
theorem dX9_init_5 : decode cX9_init 5 = .ok (.new 9, 3) := by decide +kernel
theorem dX9_init_8 : decode cX9_init 8 = .ok (.dup, 1) := by decide +kernel
theorem dX9_init_9 : decode cX9_init 9 = .ok (.invokespecial 11, 3) := by decide +kernel
theorem dX9_init_12 : decode cX9_init 12 = .ok (.putfield 12, 3) := by decide +kernel
theorem dX9_init_15 : decode cX9_init 15 = .ok (.aload_n 0, 1) := by decide +kernel
theorem dX9_init_16 : decode cX9_init 16 = .ok (.new 16, 3) := by decide +kernel
theorem dX9_init_19 : decode cX9_init 19 = .ok (.dup, 1) := by decide +kernel
theorem dX9_init_20 : decode cX9_init 20 = .ok (.invokespecial 18, 3) := by decide +kernel
theorem dX9_init_23 : decode cX9_init 23 = .ok (.putfield 19, 3) := by decide +kernel
theorem dX9_init_26 : decode cX9_init 26 = .ok (.aload_n 0, 1) := by decide +kernel
theorem dX9_init_27 : decode cX9_init 27 = .ok (.new 23, 3) := by decide +kernel
theorem dX9_init_30 : decode cX9_init 30 = .ok (.dup, 1) := by decide +kernel
theorem dX9_init_31 : decode cX9_init 31 = .ok (.invokespecial 25, 3) := by decide +kernel
theorem dX9_init_34 : decode cX9_init 34 = .ok (.putfield 26, 3) := by decide +kernel
theorem dX9_init_37 : decode cX9_init 37 = .ok (.aload_n 0, 1) := by decide +kernel
theorem dX9_init_38 : decode cX9_init 38 = .ok (.new 30, 3) := by decide +kernel
theorem dX9_init_41 : decode cX9_init 41 = .ok (.dup, 1) := by decide +kernel
theorem dX9_init_42 : decode cX9_init 42 = .ok (.aload_n 0, 1) := by decide +kernel
theorem dX9_init_43 : decode cX9_init 43 = .ok (.getfield 26, 3) := by decide +kernel
theorem dX9_init_46 : decode cX9_init 46 = .ok (.invokespecial 32, 3) := by decide +kernel
theorem dX9_init_49 : decode cX9_init 49 = .ok (.putfield 35, 3) := by decide +kernel
theorem dX9_init_52 : decode cX9_init 52 = .ok (.aload_n 0, 1) := by decide +kernel
theorem dX9_init_53 : decode cX9_init 53 = .ok (.new 39, 3) := by decide +kernel
theorem dX9_init_56 : decode cX9_init 56 = .ok (.dup, 1) := by decide +kernel
theorem dX9_init_57 : decode cX9_init 57 = .ok (.aload_n 0, 1) := by decide +kernel
theorem dX9_init_58 : decode cX9_init 58 = .ok (.getfield 26, 3) := by decide +kernel
theorem dX9_init_61 : decode cX9_init 61 = .ok (.invokespecial 41, 3) := by decide +kernel
theorem dX9_init_64 : decode cX9_init 64 = .ok (.putfield 42, 3) := by decide +kernel
theorem dX9_init_67 : decode cX9_init 67 = .ok (.aload_n 0, 1) := by decide +kernel
theorem dX9_init_68 : decode cX9_init 68 = .ok (.iconst 2, 1) := by decide +kernel
theorem dX9_init_69 : decode cX9_init 69 = .ok (.anewarray 30, 3) := by decide +kernel
theorem dX9_init_72 : decode cX9_init 72 = .ok (.putfield 46, 3) := by decide +kernel
theorem dX9_init_75 : decode cX9_init 75 = .ok (.iconst 0, 1) := by decide +kernel
theorem dX9_init_76 : decode cX9_init 76 = .ok (.istore_n 1, 1) := by decide +kernel
theorem dX9_init_77 : decode cX9_init 77 = .ok (.iload_n 1, 1) := by decide +kernel
theorem dX9_init_78 : decode cX9_init 78 = .ok (.iconst 2, 1) := by decide +kernel
theorem dX9_init_79 : decode cX9_init 79 = .ok (.if_icmp .ge 26, 3) := by decide +kernel
theorem dX9_init_82 : decode cX9_init 82 = .ok (.aload_n 0, 1) := by decide +kernel
theorem dX9_init_83 : decode cX9_init 83 = .ok (.getfield 46, 3) := by decide +kernel
theorem dX9_init_86 : decode cX9_init 86 = .ok (.iload_n 1, 1) := by decide +kernel
theorem dX9_init_87 : decode cX9_init 87 = .ok (.new 30, 3) := by decide +kernel
theorem dX9_init_90 : decode cX9_init 90 = .ok (.dup, 1) := by decide +kernel
theorem dX9_init_91 : decode cX9_init 91 = .ok (.aload_n 0, 1) := by decide +kernel
theorem dX9_init_92 : decode cX9_init 92 = .ok (.getfield 26, 3) := by decide +kernel
theorem dX9_init_95 : decode cX9_init 95 = .ok (.invokespecial 32, 3) := by decide +kernel
theorem dX9_init_98 : decode cX9_init 98 = .ok (.aastore, 1) := by decide +kernel
theorem dX9_init_99 : decode cX9_init 99 = .ok (.iinc 1 1, 3) := by decide +kernel
theorem dX9_init_102 : decode cX9_init 102 = .ok (.goto (-25), 3) := by decide +kernel
theorem dX9_init_105 : decode cX9_init 105 = .ok (.aload_n 0, 1) := by decide +kernel
theorem dX9_init_106 : decode cX9_init 106 = .ok (.iconst 2, 1) := by decide +kernel
theorem dX9_init_107 : decode cX9_init 107 = .ok (.newarray .boolean, 2) := by decide +kernel
theorem dX9_init_109 : decode cX9_init 109 = .ok (.putfield 50, 3) := by decide +kernel
theorem dX9_init_112 : decode cX9_init 112 = .ok (.aload_n 0, 1) := by decide +kernel
theorem dX9_init_113 : decode cX9_init 113 = .ok (.new 54, 3) := by decide +kernel
theorem dX9_init_116 : decode cX9_init 116 = .ok (.dup, 1) := by decide +kernel
theorem dX9_init_117 : decode cX9_init 117 = .ok (.aload_n 0, 1) := by decide +kernel
theorem dX9_init_118 : decode cX9_init 118 = .ok (.getfield 26, 3) := by decide +kernel
theorem dX9_init_121 : decode cX9_init 121 = .ok (.invokespecial 56, 3) := by decide +kernel
theorem dX9_init_124 : decode cX9_init 124 = .ok (.putfield 57, 3) := by decide +kernel
theorem dX9_init_127 : decode cX9_init 127 = .ok (.aload_n 0, 1) := by decide +kernel
theorem dX9_init_128 : decode cX9_init 128 = .ok (.new 61, 3) := by decide +kernel
theorem dX9_init_131 : decode cX9_init 131 = .ok (.dup, 1) := by decide +kernel
theorem dX9_init_132 : decode cX9_init 132 = .ok (.aload_n 0, 1) := by decide +kernel
theorem dX9_init_133 : decode cX9_init 133 = .ok (.getfield 26, 3) := by decide +kernel
theorem dX9_init_136 : decode cX9_init 136 = .ok (.aload_n 0, 1) := by decide +kernel
theorem dX9_init_137 : decode cX9_init 137 = .ok (.getfield 57, 3) := by decide +kernel
theorem dX9_init_140 : decode cX9_init 140 = .ok (.invokespecial 63, 3) := by decide +kernel
theorem dX9_init_143 : decode cX9_init 143 = .ok (.putfield 66, 3) := by decide +kernel
theorem dX9_init_146 : decode cX9_init 146 = .ok (.aload_n 0, 1) := by decide +kernel
theorem dX9_init_147 : decode cX9_init 147 = .ok (.new 70, 3) := by decide +kernel
theorem dX9_init_150 : decode cX9_init 150 = .ok (.dup, 1) := by decide +kernel
theorem dX9_init_151 : decode cX9_init 151 = .ok (.aload_n 0, 1) := by decide +kernel
theorem dX9_init_152 : decode cX9_init 152 = .ok (.getfield 26, 3) := by decide +kernel
theorem dX9_init_155 : decode cX9_init 155 = .ok (.invokespecial 72, 3) := by decide +kernel
theorem dX9_init_158 : decode cX9_init 158 = .ok (.putfield 73, 3) := by decide +kernel
theorem dX9_init_161 : decode cX9_init 161 = .ok (.return_, 1) := by decide +kernel
theorem dX9_append_0 : decode cX9_append 0 = .ok (.iload_n 1, 1) := by decide +kernel
theorem dX9_append_1 : decode cX9_append 1 = .ok (.ifCond .lt 10, 3) := by decide +kernel
theorem dX9_append_4 : decode cX9_append 4 = .ok (.iload_n 1, 1) := by decide +kernel
theorem dX9_append_5 : decode cX9_append 5 = .ok (.sipush 255, 3) := by decide +kernel
theorem dX9_append_8 : decode cX9_append 8 = .ok (.if_icmp .le 13, 3) := by decide +kernel
theorem dX9_append_11 : decode cX9_append 11 = .ok (.new 77, 3) := by decide +kernel
theorem dX9_append_14 : decode cX9_append 14 = .ok (.dup, 1) := by decide +kernel
theorem dX9_append_15 : decode cX9_append 15 = .ok (.ldc 79, 2) := by decide +kernel
theorem dX9_append_17 : decode cX9_append 17 = .ok (.invokespecial 81, 3) := by decide +kernel
theorem dX9_append_20 : decode cX9_append 20 = .ok (.athrow, 1) := by decide +kernel
theorem dX9_append_21 : decode cX9_append 21 = .ok (.aload_n 0, 1) := by decide +kernel
theorem dX9_append_22 : decode cX9_append 22 = .ok (.getfield 12, 3) := by decide +kernel
theorem dX9_append_25 : decode cX9_append 25 = .ok (.invokevirtual 84, 3) := by decide +kernel
theorem dX9_append_28 : decode cX9_append 28 = .ok (.ifCond .eq 13, 3) := by decide +kernel
theorem dX9_append_31 : decode cX9_append 31 = .ok (.new 88, 3) := by decide +kernel
theorem dX9_append_34 : decode cX9_append 34 = .ok (.dup, 1) := by decide +kernel
theorem dX9_append_35 : decode cX9_append 35 = .ok (.ldc 90, 2) := by decide +kernel
theorem dX9_append_37 : decode cX9_append 37 = .ok (.invokespecial 92, 3) := by decide +kernel
theorem dX9_append_40 : decode cX9_append 40 = .ok (.athrow, 1) := by decide +kernel
theorem dX9_append_41 : decode cX9_append 41 = .ok (.aload_n 0, 1) := by decide +kernel
theorem dX9_append_42 : decode cX9_append 42 = .ok (.getfield 12, 3) := by decide +kernel
theorem dX9_append_45 : decode cX9_append 45 = .ok (.iload_n 1, 1) := by decide +kernel
theorem dX9_append_46 : decode cX9_append 46 = .ok (.invokevirtual 93, 3) := by decide +kernel
theorem dX9_append_49 : decode cX9_append 49 = .ok (.ireturn, 1) := by decide +kernel
theorem dX9_clearText_0 : decode cX9_clearText 0 = .ok (.aload_n 0, 1) := by decide +kernel
theorem dX9_clearText_1 : decode cX9_clearText 1 = .ok (.getfield 12, 3) := by decide +kernel
theorem dX9_clearText_4 : decode cX9_clearText 4 = .ok (.invokevirtual 97, 3) := by decide +kernel
theorem dX9_clearText_7 : decode cX9_clearText 7 = .ok (.ireturn, 1) := by decide +kernel
theorem dX9_errorPosition_0 : decode cX9_errorPosition 0 = .ok (.aload_n 0, 1) := by decide +kernel
theorem dX9_errorPosition_1 : decode cX9_errorPosition 1 = .ok (.getfield 19, 3) := by decide +kernel
theorem dX9_errorPosition_4 : decode cX9_errorPosition 4 = .ok (.aload_n 0, 1) := by decide +kernel
theorem dX9_errorPosition_5 : decode cX9_errorPosition 5 = .ok (.getfield 12, 3) := by decide +kernel
theorem dX9_errorPosition_8 : decode cX9_errorPosition 8 = .ok (.invokevirtual 101, 3) := by decide +kernel
theorem dX9_errorPosition_11 : decode cX9_errorPosition 11 = .ok (.ireturn, 1) := by decide +kernel
theorem dX9_load_0 : decode cX9_load 0 = .ok (.aload_n 0, 1) := by decide +kernel
theorem dX9_load_1 : decode cX9_load 1 = .ok (.getfield 19, 3) := by decide +kernel
theorem dX9_load_4 : decode cX9_load 4 = .ok (.aload_n 0, 1) := by decide +kernel
theorem dX9_load_5 : decode cX9_load 5 = .ok (.getfield 12, 3) := by decide +kernel
theorem dX9_load_8 : decode cX9_load 8 = .ok (.invokevirtual 101, 3) := by decide +kernel
theorem dX9_load_11 : decode cX9_load 11 = .ok (.bipush (-9), 2) := by decide +kernel
theorem dX9_load_13 : decode cX9_load 13 = .ok (.if_icmp .eq 13, 3) := by decide +kernel
theorem dX9_load_16 : decode cX9_load 16 = .ok (.new 88, 3) := by decide +kernel
theorem dX9_load_19 : decode cX9_load 19 = .ok (.dup, 1) := by decide +kernel
theorem dX9_load_20 : decode cX9_load 20 = .ok (.ldc 105, 2) := by decide +kernel
theorem dX9_load_22 : decode cX9_load 22 = .ok (.invokespecial 92, 3) := by decide +kernel
theorem dX9_load_25 : decode cX9_load 25 = .ok (.athrow, 1) := by decide +kernel
theorem dX9_load_26 : decode cX9_load 26 = .ok (.aload_n 0, 1) := by decide +kernel
theorem dX9_load_27 : decode cX9_load 27 = .ok (.getfield 26, 3) := by decide +kernel
theorem dX9_load_30 : decode cX9_load 30 = .ok (.aload_n 0, 1) := by decide +kernel
theorem dX9_load_31 : decode cX9_load 31 = .ok (.getfield 19, 3) := by decide +kernel
theorem dX9_load_34 : decode cX9_load 34 = .ok (.invokevirtual 107, 3) := by decide +kernel
theorem dX9_load_37 : decode cX9_load 37 = .ok (.aload_n 0, 1) := by decide +kernel
theorem dX9_load_38 : decode cX9_load 38 = .ok (.getfield 35, 3) := by decide +kernel
theorem dX9_load_41 : decode cX9_load 41 = .ok (.aload_n 0, 1) := by decide +kernel
theorem dX9_load_42 : decode cX9_load 42 = .ok (.getfield 19, 3) := by decide +kernel
theorem dX9_load_45 : decode cX9_load 45 = .ok (.invokevirtual 111, 3) := by decide +kernel
theorem dX9_load_48 : decode cX9_load 48 = .ok (.aload_n 0, 1) := by decide +kernel
theorem dX9_load_49 : decode cX9_load 49 = .ok (.getfield 42, 3) := by decide +kernel
theorem dX9_load_52 : decode cX9_load 52 = .ok (.invokevirtual 114, 3) := by decide +kernel
theorem dX9_load_55 : decode cX9_load 55 = .ok (.iconst 0, 1) := by decide +kernel
theorem dX9_load_56 : decode cX9_load 56 = .ok (.istore_n 1, 1) := by decide +kernel
theorem dX9_load_57 : decode cX9_load 57 = .ok (.iload_n 1, 1) := by decide +kernel
theorem dX9_load_58 : decode cX9_load 58 = .ok (.iconst 2, 1) := by decide +kernel
theorem dX9_load_59 : decode cX9_load 59 = .ok (.if_icmp .ge 16, 3) := by decide +kernel
theorem dX9_load_62 : decode cX9_load 62 = .ok (.aload_n 0, 1) := by decide +kernel
theorem dX9_load_63 : decode cX9_load 63 = .ok (.getfield 50, 3) := by decide +kernel
theorem dX9_load_66 : decode cX9_load 66 = .ok (.iload_n 1, 1) := by decide +kernel
theorem dX9_load_67 : decode cX9_load 67 = .ok (.iconst 0, 1) := by decide +kernel
theorem dX9_load_68 : decode cX9_load 68 = .ok (.bastore, 1) := by decide +kernel
theorem dX9_load_69 : decode cX9_load 69 = .ok (.iinc 1 1, 3) := by decide +kernel
theorem dX9_load_72 : decode cX9_load 72 = .ok (.goto (-15), 3) := by decide +kernel
theorem dX9_load_75 : decode cX9_load 75 = .ok (.aload_n 0, 1) := by decide +kernel
theorem dX9_load_76 : decode cX9_load 76 = .ok (.getfield 26, 3) := by decide +kernel
theorem dX9_load_79 : decode cX9_load 79 = .ok (.invokevirtual 117, 3) := by decide +kernel
theorem dX9_load_82 : decode cX9_load 82 = .ok (.ireturn, 1) := by decide +kernel
theorem dX9_about_0 : decode cX9_about 0 = .ok (.iload_n 1, 1) := by decide +kernel
theorem dX9_about_1 : decode cX9_about 1 = .ok (.tableswitch 97 0 5 #[39, 47, 55, 70, 78, 89], 39) := by decide +kernel
theorem dX9_about_40 : decode cX9_about 40 = .ok (.aload_n 0, 1) := by decide +kernel
theorem dX9_about_41 : decode cX9_about 41 = .ok (.getfield 26, 3) := by decide +kernel
theorem dX9_about_44 : decode cX9_about 44 = .ok (.invokevirtual 117, 3) := by decide +kernel
theorem dX9_about_47 : decode cX9_about 47 = .ok (.ireturn, 1) := by decide +kernel
theorem dX9_about_48 : decode cX9_about 48 = .ok (.aload_n 0, 1) := by decide +kernel
theorem dX9_about_49 : decode cX9_about 49 = .ok (.getfield 35, 3) := by decide +kernel
theorem dX9_about_52 : decode cX9_about 52 = .ok (.invokevirtual 120, 3) := by decide +kernel
theorem dX9_about_55 : decode cX9_about 55 = .ok (.ireturn, 1) := by decide +kernel
theorem dX9_about_56 : decode cX9_about 56 = .ok (.aload_n 0, 1) := by decide +kernel
theorem dX9_about_57 : decode cX9_about 57 = .ok (.getfield 35, 3) := by decide +kernel
theorem dX9_about_60 : decode cX9_about 60 = .ok (.aload_n 0, 1) := by decide +kernel
theorem dX9_about_61 : decode cX9_about 61 = .ok (.getfield 26, 3) := by decide +kernel
theorem dX9_about_64 : decode cX9_about 64 = .ok (.invokevirtual 123, 3) := by decide +kernel
theorem dX9_about_67 : decode cX9_about 67 = .ok (.invokevirtual 126, 3) := by decide +kernel
theorem dX9_about_70 : decode cX9_about 70 = .ok (.ireturn, 1) := by decide +kernel
theorem dX9_about_71 : decode cX9_about 71 = .ok (.aload_n 0, 1) := by decide +kernel
theorem dX9_about_72 : decode cX9_about 72 = .ok (.getfield 35, 3) := by decide +kernel
theorem dX9_about_75 : decode cX9_about 75 = .ok (.invokevirtual 129, 3) := by decide +kernel
theorem dX9_about_78 : decode cX9_about 78 = .ok (.ireturn, 1) := by decide +kernel
theorem dX9_about_79 : decode cX9_about 79 = .ok (.aload_n 0, 1) := by decide +kernel
theorem dX9_about_80 : decode cX9_about 80 = .ok (.getfield 35, 3) := by decide +kernel
theorem dX9_about_83 : decode cX9_about 83 = .ok (.invokevirtual 132, 3) := by decide +kernel
theorem dX9_about_86 : decode cX9_about 86 = .ok (.invokestatic 135, 3) := by decide +kernel
theorem dX9_about_89 : decode cX9_about 89 = .ok (.ireturn, 1) := by decide +kernel
theorem dX9_about_90 : decode cX9_about 90 = .ok (.aload_n 0, 1) := by decide +kernel
theorem dX9_about_91 : decode cX9_about 91 = .ok (.getfield 35, 3) := by decide +kernel
theorem dX9_about_94 : decode cX9_about 94 = .ok (.invokevirtual 140, 3) := by decide +kernel
theorem dX9_about_97 : decode cX9_about 97 = .ok (.ireturn, 1) := by decide +kernel
theorem dX9_about_98 : decode cX9_about 98 = .ok (.new 77, 3) := by decide +kernel
theorem dX9_about_101 : decode cX9_about 101 = .ok (.dup, 1) := by decide +kernel
theorem dX9_about_102 : decode cX9_about 102 = .ok (.ldc 143, 2) := by decide +kernel
theorem dX9_about_104 : decode cX9_about 104 = .ok (.invokespecial 81, 3) := by decide +kernel
theorem dX9_about_107 : decode cX9_about 107 = .ok (.athrow, 1) := by decide +kernel
theorem dX9_place_0 : decode cX9_place 0 = .ok (.aload_n 0, 1) := by decide +kernel
theorem dX9_place_1 : decode cX9_place 1 = .ok (.iload_n 1, 1) := by decide +kernel
theorem dX9_place_2 : decode cX9_place 2 = .ok (.invokevirtual 145, 3) := by decide +kernel
theorem dX9_place_5 : decode cX9_place 5 = .ok (.iload_n 2, 1) := by decide +kernel
theorem dX9_place_6 : decode cX9_place 6 = .ok (.tableswitch 66 0 3 #[30, 39, 48, 57], 30) := by decide +kernel
theorem dX9_place_36 : decode cX9_place 36 = .ok (.aload_n 0, 1) := by decide +kernel
theorem dX9_place_37 : decode cX9_place 37 = .ok (.getfield 35, 3) := by decide +kernel
theorem dX9_place_40 : decode cX9_place 40 = .ok (.iload_n 1, 1) := by decide +kernel
theorem dX9_place_41 : decode cX9_place 41 = .ok (.invokevirtual 149, 3) := by decide +kernel
theorem dX9_place_44 : decode cX9_place 44 = .ok (.ireturn, 1) := by decide +kernel
theorem dX9_place_45 : decode cX9_place 45 = .ok (.aload_n 0, 1) := by decide +kernel
theorem dX9_place_46 : decode cX9_place 46 = .ok (.getfield 35, 3) := by decide +kernel
theorem dX9_place_49 : decode cX9_place 49 = .ok (.iload_n 1, 1) := by decide +kernel
theorem dX9_place_50 : decode cX9_place 50 = .ok (.invokevirtual 152, 3) := by decide +kernel
theorem dX9_place_53 : decode cX9_place 53 = .ok (.ireturn, 1) := by decide +kernel
theorem dX9_place_54 : decode cX9_place 54 = .ok (.aload_n 0, 1) := by decide +kernel
theorem dX9_place_55 : decode cX9_place 55 = .ok (.getfield 35, 3) := by decide +kernel
theorem dX9_place_58 : decode cX9_place 58 = .ok (.iload_n 1, 1) := by decide +kernel
theorem dX9_place_59 : decode cX9_place 59 = .ok (.invokevirtual 126, 3) := by decide +kernel
theorem dX9_place_62 : decode cX9_place 62 = .ok (.ireturn, 1) := by decide +kernel
theorem dX9_place_63 : decode cX9_place 63 = .ok (.aload_n 0, 1) := by decide +kernel
theorem dX9_place_64 : decode cX9_place 64 = .ok (.getfield 35, 3) := by decide +kernel
theorem dX9_place_67 : decode cX9_place 67 = .ok (.iload_n 1, 1) := by decide +kernel
theorem dX9_place_68 : decode cX9_place 68 = .ok (.invokevirtual 155, 3) := by decide +kernel
theorem dX9_place_71 : decode cX9_place 71 = .ok (.ireturn, 1) := by decide +kernel
theorem dX9_place_72 : decode cX9_place 72 = .ok (.new 77, 3) := by decide +kernel
theorem dX9_place_75 : decode cX9_place 75 = .ok (.dup, 1) := by decide +kernel
theorem dX9_place_76 : decode cX9_place 76 = .ok (.ldc 143, 2) := by decide +kernel
theorem dX9_place_78 : decode cX9_place 78 = .ok (.invokespecial 81, 3) := by decide +kernel
theorem dX9_place_81 : decode cX9_place 81 = .ok (.athrow, 1) := by decide +kernel
theorem dX9_holds_0 : decode cX9_holds 0 = .ok (.aload_n 0, 1) := by decide +kernel
theorem dX9_holds_1 : decode cX9_holds 1 = .ok (.iload_n 1, 1) := by decide +kernel
theorem dX9_holds_2 : decode cX9_holds 2 = .ok (.invokevirtual 145, 3) := by decide +kernel
theorem dX9_holds_5 : decode cX9_holds 5 = .ok (.iload_n 2, 1) := by decide +kernel
theorem dX9_holds_6 : decode cX9_holds 6 = .ok (.ifCond .lt 14, 3) := by decide +kernel
theorem dX9_holds_9 : decode cX9_holds 9 = .ok (.iload_n 2, 1) := by decide +kernel
theorem dX9_holds_10 : decode cX9_holds 10 = .ok (.aload_n 0, 1) := by decide +kernel
theorem dX9_holds_11 : decode cX9_holds 11 = .ok (.getfield 26, 3) := by decide +kernel
theorem dX9_holds_14 : decode cX9_holds 14 = .ok (.invokevirtual 158, 3) := by decide +kernel
theorem dX9_holds_17 : decode cX9_holds 17 = .ok (.if_icmp .le 13, 3) := by decide +kernel
theorem dX9_holds_20 : decode cX9_holds 20 = .ok (.new 77, 3) := by decide +kernel
theorem dX9_holds_23 : decode cX9_holds 23 = .ok (.dup, 1) := by decide +kernel
theorem dX9_holds_24 : decode cX9_holds 24 = .ok (.ldc 161, 2) := by decide +kernel
theorem dX9_holds_26 : decode cX9_holds 26 = .ok (.invokespecial 81, 3) := by decide +kernel
theorem dX9_holds_29 : decode cX9_holds 29 = .ok (.athrow, 1) := by decide +kernel
theorem dX9_holds_30 : decode cX9_holds 30 = .ok (.aload_n 0, 1) := by decide +kernel
theorem dX9_holds_31 : decode cX9_holds 31 = .ok (.getfield 26, 3) := by decide +kernel
theorem dX9_holds_34 : decode cX9_holds 34 = .ok (.iload_n 1, 1) := by decide +kernel
theorem dX9_holds_35 : decode cX9_holds 35 = .ok (.iload_n 2, 1) := by decide +kernel
theorem dX9_holds_36 : decode cX9_holds 36 = .ok (.aload_n 0, 1) := by decide +kernel
theorem dX9_holds_37 : decode cX9_holds 37 = .ok (.getfield 35, 3) := by decide +kernel
theorem dX9_holds_40 : decode cX9_holds 40 = .ok (.invokevirtual 163, 3) := by decide +kernel
theorem dX9_holds_43 : decode cX9_holds 43 = .ok (.invokevirtual 166, 3) := by decide +kernel
theorem dX9_holds_46 : decode cX9_holds 46 = .ok (.ireturn, 1) := by decide +kernel
theorem dX9_team_0 : decode cX9_team 0 = .ok (.aload_n 0, 1) := by decide +kernel
theorem dX9_team_1 : decode cX9_team 1 = .ok (.iload_n 1, 1) := by decide +kernel
theorem dX9_team_2 : decode cX9_team 2 = .ok (.invokevirtual 170, 3) := by decide +kernel
theorem dX9_team_5 : decode cX9_team 5 = .ok (.iload_n 2, 1) := by decide +kernel
theorem dX9_team_6 : decode cX9_team 6 = .ok (.tableswitch 92 0 5 #[38, 47, 56, 65, 74, 83], 38) := by decide +kernel
theorem dX9_team_44 : decode cX9_team 44 = .ok (.aload_n 0, 1) := by decide +kernel
theorem dX9_team_45 : decode cX9_team 45 = .ok (.getfield 35, 3) := by decide +kernel
theorem dX9_team_48 : decode cX9_team 48 = .ok (.iload_n 1, 1) := by decide +kernel
theorem dX9_team_49 : decode cX9_team 49 = .ok (.invokevirtual 173, 3) := by decide +kernel
theorem dX9_team_52 : decode cX9_team 52 = .ok (.ireturn, 1) := by decide +kernel
theorem dX9_team_53 : decode cX9_team 53 = .ok (.aload_n 0, 1) := by decide +kernel
theorem dX9_team_54 : decode cX9_team 54 = .ok (.getfield 35, 3) := by decide +kernel
theorem dX9_team_57 : decode cX9_team 57 = .ok (.iload_n 1, 1) := by decide +kernel
theorem dX9_team_58 : decode cX9_team 58 = .ok (.invokevirtual 176, 3) := by decide +kernel
theorem dX9_team_61 : decode cX9_team 61 = .ok (.ireturn, 1) := by decide +kernel
theorem dX9_team_62 : decode cX9_team 62 = .ok (.aload_n 0, 1) := by decide +kernel
theorem dX9_team_63 : decode cX9_team 63 = .ok (.getfield 35, 3) := by decide +kernel
theorem dX9_team_66 : decode cX9_team 66 = .ok (.iload_n 1, 1) := by decide +kernel
theorem dX9_team_67 : decode cX9_team 67 = .ok (.invokevirtual 179, 3) := by decide +kernel
theorem dX9_team_70 : decode cX9_team 70 = .ok (.ireturn, 1) := by decide +kernel
theorem dX9_team_71 : decode cX9_team 71 = .ok (.aload_n 0, 1) := by decide +kernel
theorem dX9_team_72 : decode cX9_team 72 = .ok (.getfield 35, 3) := by decide +kernel
theorem dX9_team_75 : decode cX9_team 75 = .ok (.iload_n 1, 1) := by decide +kernel
theorem dX9_team_76 : decode cX9_team 76 = .ok (.invokevirtual 182, 3) := by decide +kernel
theorem dX9_team_79 : decode cX9_team 79 = .ok (.ireturn, 1) := by decide +kernel
theorem dX9_team_80 : decode cX9_team 80 = .ok (.aload_n 0, 1) := by decide +kernel
theorem dX9_team_81 : decode cX9_team 81 = .ok (.getfield 35, 3) := by decide +kernel
theorem dX9_team_84 : decode cX9_team 84 = .ok (.iload_n 1, 1) := by decide +kernel
theorem dX9_team_85 : decode cX9_team 85 = .ok (.invokevirtual 185, 3) := by decide +kernel
theorem dX9_team_88 : decode cX9_team 88 = .ok (.ireturn, 1) := by decide +kernel
theorem dX9_team_89 : decode cX9_team 89 = .ok (.aload_n 0, 1) := by decide +kernel
theorem dX9_team_90 : decode cX9_team 90 = .ok (.getfield 35, 3) := by decide +kernel
theorem dX9_team_93 : decode cX9_team 93 = .ok (.iload_n 1, 1) := by decide +kernel
theorem dX9_team_94 : decode cX9_team 94 = .ok (.invokevirtual 188, 3) := by decide +kernel
theorem dX9_team_97 : decode cX9_team 97 = .ok (.ireturn, 1) := by decide +kernel
theorem dX9_team_98 : decode cX9_team 98 = .ok (.new 77, 3) := by decide +kernel
theorem dX9_team_101 : decode cX9_team 101 = .ok (.dup, 1) := by decide +kernel
theorem dX9_team_102 : decode cX9_team 102 = .ok (.ldc 143, 2) := by decide +kernel
theorem dX9_team_104 : decode cX9_team 104 = .ok (.invokespecial 81, 3) := by decide +kernel
theorem dX9_team_107 : decode cX9_team 107 = .ok (.athrow, 1) := by decide +kernel
theorem dX9_trail_0 : decode cX9_trail 0 = .ok (.aload_n 0, 1) := by decide +kernel
theorem dX9_trail_1 : decode cX9_trail 1 = .ok (.iload_n 1, 1) := by decide +kernel
theorem dX9_trail_2 : decode cX9_trail 2 = .ok (.invokevirtual 170, 3) := by decide +kernel
theorem dX9_trail_5 : decode cX9_trail 5 = .ok (.iload_n 2, 1) := by decide +kernel
theorem dX9_trail_6 : decode cX9_trail 6 = .ok (.ifCond .ge 13, 3) := by decide +kernel
theorem dX9_trail_9 : decode cX9_trail 9 = .ok (.new 77, 3) := by decide +kernel
theorem dX9_trail_12 : decode cX9_trail 12 = .ok (.dup, 1) := by decide +kernel
theorem dX9_trail_13 : decode cX9_trail 13 = .ok (.ldc 191, 2) := by decide +kernel
theorem dX9_trail_15 : decode cX9_trail 15 = .ok (.invokespecial 81, 3) := by decide +kernel
theorem dX9_trail_18 : decode cX9_trail 18 = .ok (.athrow, 1) := by decide +kernel
theorem dX9_trail_19 : decode cX9_trail 19 = .ok (.aload_n 0, 1) := by decide +kernel
theorem dX9_trail_20 : decode cX9_trail 20 = .ok (.getfield 35, 3) := by decide +kernel
theorem dX9_trail_23 : decode cX9_trail 23 = .ok (.iload_n 1, 1) := by decide +kernel
theorem dX9_trail_24 : decode cX9_trail 24 = .ok (.iload_n 2, 1) := by decide +kernel
theorem dX9_trail_25 : decode cX9_trail 25 = .ok (.invokevirtual 193, 3) := by decide +kernel
theorem dX9_trail_28 : decode cX9_trail 28 = .ok (.ireturn, 1) := by decide +kernel
theorem dX9_open_0 : decode cX9_open 0 = .ok (.aload_n 0, 1) := by decide +kernel
theorem dX9_open_1 : decode cX9_open 1 = .ok (.iload_n 1, 1) := by decide +kernel
theorem dX9_open_2 : decode cX9_open 2 = .ok (.invokevirtual 170, 3) := by decide +kernel
theorem dX9_open_5 : decode cX9_open 5 = .ok (.aload_n 0, 1) := by decide +kernel
theorem dX9_open_6 : decode cX9_open 6 = .ok (.getfield 35, 3) := by decide +kernel
theorem dX9_open_9 : decode cX9_open 9 = .ok (.iload_n 1, 1) := by decide +kernel
theorem dX9_open_10 : decode cX9_open 10 = .ok (.invokevirtual 197, 3) := by decide +kernel
theorem dX9_open_13 : decode cX9_open 13 = .ok (.ireturn, 1) := by decide +kernel
theorem dX9_addTeam_0 : decode cX9_addTeam 0 = .ok (.aload_n 0, 1) := by decide +kernel
theorem dX9_addTeam_1 : decode cX9_addTeam 1 = .ok (.getfield 35, 3) := by decide +kernel
theorem dX9_addTeam_4 : decode cX9_addTeam 4 = .ok (.invokevirtual 200, 3) := by decide +kernel
theorem dX9_addTeam_7 : decode cX9_addTeam 7 = .ok (.ifCond .ne 13, 3) := by decide +kernel
theorem dX9_addTeam_10 : decode cX9_addTeam 10 = .ok (.new 88, 3) := by decide +kernel
theorem dX9_addTeam_13 : decode cX9_addTeam 13 = .ok (.dup, 1) := by decide +kernel
theorem dX9_addTeam_14 : decode cX9_addTeam 14 = .ok (.ldc 203, 2) := by decide +kernel
theorem dX9_addTeam_16 : decode cX9_addTeam 16 = .ok (.invokespecial 92, 3) := by decide +kernel
theorem dX9_addTeam_19 : decode cX9_addTeam 19 = .ok (.athrow, 1) := by decide +kernel
theorem dX9_addTeam_20 : decode cX9_addTeam 20 = .ok (.aload_n 0, 1) := by decide +kernel
theorem dX9_addTeam_21 : decode cX9_addTeam 21 = .ok (.getfield 42, 3) := by decide +kernel
theorem dX9_addTeam_24 : decode cX9_addTeam 24 = .ok (.aload_n 0, 1) := by decide +kernel
theorem dX9_addTeam_25 : decode cX9_addTeam 25 = .ok (.getfield 35, 3) := by decide +kernel
theorem dX9_addTeam_28 : decode cX9_addTeam 28 = .ok (.invokevirtual 205, 3) := by decide +kernel
theorem dX9_addTeam_31 : decode cX9_addTeam 31 = .ok (.aload_n 0, 1) := by decide +kernel
theorem dX9_addTeam_32 : decode cX9_addTeam 32 = .ok (.getfield 35, 3) := by decide +kernel
theorem dX9_addTeam_35 : decode cX9_addTeam 35 = .ok (.invokevirtual 209, 3) := by decide +kernel
theorem dX9_addTeam_38 : decode cX9_addTeam 38 = .ok (.ireturn, 1) := by decide +kernel
theorem dX9_go_0 : decode cX9_go 0 = .ok (.aload_n 0, 1) := by decide +kernel
theorem dX9_go_1 : decode cX9_go 1 = .ok (.iload_n 1, 1) := by decide +kernel
theorem dX9_go_2 : decode cX9_go 2 = .ok (.invokevirtual 170, 3) := by decide +kernel
theorem dX9_go_5 : decode cX9_go 5 = .ok (.aload_n 0, 1) := by decide +kernel
theorem dX9_go_6 : decode cX9_go 6 = .ok (.iload_n 2, 1) := by decide +kernel
theorem dX9_go_7 : decode cX9_go 7 = .ok (.invokevirtual 145, 3) := by decide +kernel
theorem dX9_go_10 : decode cX9_go 10 = .ok (.aload_n 0, 1) := by decide +kernel
theorem dX9_go_11 : decode cX9_go 11 = .ok (.getfield 35, 3) := by decide +kernel
theorem dX9_go_14 : decode cX9_go 14 = .ok (.iload_n 1, 1) := by decide +kernel
theorem dX9_go_15 : decode cX9_go 15 = .ok (.iload_n 2, 1) := by decide +kernel
theorem dX9_go_16 : decode cX9_go 16 = .ok (.invokevirtual 212, 3) := by decide +kernel
theorem dX9_go_19 : decode cX9_go 19 = .ok (.ifCond .ne 13, 3) := by decide +kernel
theorem dX9_go_22 : decode cX9_go 22 = .ok (.new 88, 3) := by decide +kernel
theorem dX9_go_25 : decode cX9_go 25 = .ok (.dup, 1) := by decide +kernel
theorem dX9_go_26 : decode cX9_go 26 = .ok (.ldc 216, 2) := by decide +kernel
theorem dX9_go_28 : decode cX9_go 28 = .ok (.invokespecial 92, 3) := by decide +kernel
theorem dX9_go_31 : decode cX9_go 31 = .ok (.athrow, 1) := by decide +kernel
theorem dX9_go_32 : decode cX9_go 32 = .ok (.aload_n 0, 1) := by decide +kernel
theorem dX9_go_33 : decode cX9_go 33 = .ok (.getfield 42, 3) := by decide +kernel
theorem dX9_go_36 : decode cX9_go 36 = .ok (.aload_n 0, 1) := by decide +kernel
theorem dX9_go_37 : decode cX9_go 37 = .ok (.getfield 35, 3) := by decide +kernel
theorem dX9_go_40 : decode cX9_go 40 = .ok (.invokevirtual 205, 3) := by decide +kernel
theorem dX9_go_43 : decode cX9_go 43 = .ok (.aload_n 0, 1) := by decide +kernel
theorem dX9_go_44 : decode cX9_go 44 = .ok (.getfield 35, 3) := by decide +kernel
theorem dX9_go_47 : decode cX9_go 47 = .ok (.iload_n 1, 1) := by decide +kernel
theorem dX9_go_48 : decode cX9_go 48 = .ok (.iload_n 2, 1) := by decide +kernel
theorem dX9_go_49 : decode cX9_go 49 = .ok (.invokevirtual 218, 3) := by decide +kernel
theorem dX9_go_52 : decode cX9_go 52 = .ok (.ireturn, 1) := by decide +kernel
theorem dX9_hint_0 : decode cX9_hint 0 = .ok (.aload_n 0, 1) := by decide +kernel
theorem dX9_hint_1 : decode cX9_hint 1 = .ok (.iload_n 1, 1) := by decide +kernel
theorem dX9_hint_2 : decode cX9_hint 2 = .ok (.invokevirtual 170, 3) := by decide +kernel
theorem dX9_hint_5 : decode cX9_hint 5 = .ok (.aload_n 0, 1) := by decide +kernel
theorem dX9_hint_6 : decode cX9_hint 6 = .ok (.getfield 57, 3) := by decide +kernel
theorem dX9_hint_9 : decode cX9_hint 9 = .ok (.aload_n 0, 1) := by decide +kernel
theorem dX9_hint_10 : decode cX9_hint 10 = .ok (.getfield 35, 3) := by decide +kernel
theorem dX9_hint_13 : decode cX9_hint 13 = .ok (.iload_n 1, 1) := by decide +kernel
theorem dX9_hint_14 : decode cX9_hint 14 = .ok (.invokevirtual 221, 3) := by decide +kernel
theorem dX9_hint_17 : decode cX9_hint 17 = .ok (.istore_n 2, 1) := by decide +kernel
theorem dX9_hint_18 : decode cX9_hint 18 = .ok (.iload_n 2, 1) := by decide +kernel
theorem dX9_hint_19 : decode cX9_hint 19 = .ok (.ifCond .ne 13, 3) := by decide +kernel
theorem dX9_hint_22 : decode cX9_hint 22 = .ok (.new 88, 3) := by decide +kernel
theorem dX9_hint_25 : decode cX9_hint 25 = .ok (.dup, 1) := by decide +kernel
theorem dX9_hint_26 : decode cX9_hint 26 = .ok (.ldc 225, 2) := by decide +kernel
theorem dX9_hint_28 : decode cX9_hint 28 = .ok (.invokespecial 92, 3) := by decide +kernel
theorem dX9_hint_31 : decode cX9_hint 31 = .ok (.athrow, 1) := by decide +kernel
theorem dX9_hint_32 : decode cX9_hint 32 = .ok (.aload_n 0, 1) := by decide +kernel
theorem dX9_hint_33 : decode cX9_hint 33 = .ok (.getfield 42, 3) := by decide +kernel
theorem dX9_hint_36 : decode cX9_hint 36 = .ok (.aload_n 0, 1) := by decide +kernel
theorem dX9_hint_37 : decode cX9_hint 37 = .ok (.getfield 35, 3) := by decide +kernel
theorem dX9_hint_40 : decode cX9_hint 40 = .ok (.invokevirtual 205, 3) := by decide +kernel
theorem dX9_hint_43 : decode cX9_hint 43 = .ok (.aload_n 0, 1) := by decide +kernel
theorem dX9_hint_44 : decode cX9_hint 44 = .ok (.getfield 35, 3) := by decide +kernel
theorem dX9_hint_47 : decode cX9_hint 47 = .ok (.iload_n 1, 1) := by decide +kernel
theorem dX9_hint_48 : decode cX9_hint 48 = .ok (.invokevirtual 227, 3) := by decide +kernel
theorem dX9_hint_51 : decode cX9_hint 51 = .ok (.iload_n 2, 1) := by decide +kernel
theorem dX9_hint_52 : decode cX9_hint 52 = .ok (.invokestatic 230, 3) := by decide +kernel
theorem dX9_hint_55 : decode cX9_hint 55 = .ok (.ireturn, 1) := by decide +kernel
theorem dX9_giveUp_0 : decode cX9_giveUp 0 = .ok (.aload_n 0, 1) := by decide +kernel
theorem dX9_giveUp_1 : decode cX9_giveUp 1 = .ok (.iload_n 1, 1) := by decide +kernel
theorem dX9_giveUp_2 : decode cX9_giveUp 2 = .ok (.invokevirtual 170, 3) := by decide +kernel
theorem dX9_giveUp_5 : decode cX9_giveUp 5 = .ok (.aload_n 0, 1) := by decide +kernel
theorem dX9_giveUp_6 : decode cX9_giveUp 6 = .ok (.getfield 42, 3) := by decide +kernel
theorem dX9_giveUp_9 : decode cX9_giveUp 9 = .ok (.aload_n 0, 1) := by decide +kernel
theorem dX9_giveUp_10 : decode cX9_giveUp 10 = .ok (.getfield 35, 3) := by decide +kernel
theorem dX9_giveUp_13 : decode cX9_giveUp 13 = .ok (.invokevirtual 205, 3) := by decide +kernel
theorem dX9_giveUp_16 : decode cX9_giveUp 16 = .ok (.aload_n 0, 1) := by decide +kernel
theorem dX9_giveUp_17 : decode cX9_giveUp 17 = .ok (.getfield 35, 3) := by decide +kernel
theorem dX9_giveUp_20 : decode cX9_giveUp 20 = .ok (.iload_n 1, 1) := by decide +kernel
theorem dX9_giveUp_21 : decode cX9_giveUp 21 = .ok (.invokevirtual 233, 3) := by decide +kernel
theorem dX9_giveUp_24 : decode cX9_giveUp 24 = .ok (.ireturn, 1) := by decide +kernel
theorem dX9_move_0 : decode cX9_move 0 = .ok (.aload_n 0, 1) := by decide +kernel
theorem dX9_move_1 : decode cX9_move 1 = .ok (.iload_n 1, 1) := by decide +kernel
theorem dX9_move_2 : decode cX9_move 2 = .ok (.invokevirtual 145, 3) := by decide +kernel
theorem dX9_move_5 : decode cX9_move 5 = .ok (.iload_n 2, 1) := by decide +kernel
theorem dX9_move_6 : decode cX9_move 6 = .ok (.ifCond .lt 19, 3) := by decide +kernel
theorem dX9_move_9 : decode cX9_move 9 = .ok (.iload_n 2, 1) := by decide +kernel
theorem dX9_move_10 : decode cX9_move 10 = .ok (.bipush 9, 2) := by decide +kernel
theorem dX9_move_12 : decode cX9_move 12 = .ok (.if_icmp .gt 13, 3) := by decide +kernel
theorem dX9_move_15 : decode cX9_move 15 = .ok (.iload_n 3, 1) := by decide +kernel
theorem dX9_move_16 : decode cX9_move 16 = .ok (.ifCond .lt 9, 3) := by decide +kernel
theorem dX9_move_19 : decode cX9_move 19 = .ok (.iload_n 3, 1) := by decide +kernel
theorem dX9_move_20 : decode cX9_move 20 = .ok (.bipush 9, 2) := by decide +kernel
theorem dX9_move_22 : decode cX9_move 22 = .ok (.if_icmp .le 13, 3) := by decide +kernel
theorem dX9_move_25 : decode cX9_move 25 = .ok (.new 77, 3) := by decide +kernel
theorem dX9_move_28 : decode cX9_move 28 = .ok (.dup, 1) := by decide +kernel
theorem dX9_move_29 : decode cX9_move 29 = .ok (.ldc 236, 2) := by decide +kernel
theorem dX9_move_31 : decode cX9_move 31 = .ok (.invokespecial 81, 3) := by decide +kernel
theorem dX9_move_34 : decode cX9_move 34 = .ok (.athrow, 1) := by decide +kernel
theorem dX9_move_35 : decode cX9_move 35 = .ok (.aload_n 0, 1) := by decide +kernel
theorem dX9_move_36 : decode cX9_move 36 = .ok (.getfield 42, 3) := by decide +kernel
theorem dX9_move_39 : decode cX9_move 39 = .ok (.aload_n 0, 1) := by decide +kernel
theorem dX9_move_40 : decode cX9_move 40 = .ok (.getfield 35, 3) := by decide +kernel
theorem dX9_move_43 : decode cX9_move 43 = .ok (.invokevirtual 205, 3) := by decide +kernel
theorem dX9_move_46 : decode cX9_move 46 = .ok (.aload_n 0, 1) := by decide +kernel
theorem dX9_move_47 : decode cX9_move 47 = .ok (.getfield 35, 3) := by decide +kernel
theorem dX9_move_50 : decode cX9_move 50 = .ok (.iload_n 1, 1) := by decide +kernel
theorem dX9_move_51 : decode cX9_move 51 = .ok (.iload_n 2, 1) := by decide +kernel
theorem dX9_move_52 : decode cX9_move 52 = .ok (.iload_n 3, 1) := by decide +kernel
theorem dX9_move_53 : decode cX9_move 53 = .ok (.invokevirtual 238, 3) := by decide +kernel
theorem dX9_move_56 : decode cX9_move 56 = .ok (.ireturn, 1) := by decide +kernel
theorem dX9_ease_0 : decode cX9_ease 0 = .ok (.aload_n 0, 1) := by decide +kernel
theorem dX9_ease_1 : decode cX9_ease 1 = .ok (.iload_n 1, 1) := by decide +kernel
theorem dX9_ease_2 : decode cX9_ease 2 = .ok (.invokevirtual 145, 3) := by decide +kernel
theorem dX9_ease_5 : decode cX9_ease 5 = .ok (.aload_n 0, 1) := by decide +kernel
theorem dX9_ease_6 : decode cX9_ease 6 = .ok (.getfield 42, 3) := by decide +kernel
theorem dX9_ease_9 : decode cX9_ease 9 = .ok (.aload_n 0, 1) := by decide +kernel
theorem dX9_ease_10 : decode cX9_ease 10 = .ok (.getfield 35, 3) := by decide +kernel
theorem dX9_ease_13 : decode cX9_ease 13 = .ok (.invokevirtual 205, 3) := by decide +kernel
theorem dX9_ease_16 : decode cX9_ease 16 = .ok (.aload_n 0, 1) := by decide +kernel
theorem dX9_ease_17 : decode cX9_ease 17 = .ok (.getfield 35, 3) := by decide +kernel
theorem dX9_ease_20 : decode cX9_ease 20 = .ok (.iload_n 1, 1) := by decide +kernel
theorem dX9_ease_21 : decode cX9_ease 21 = .ok (.invokevirtual 155, 3) := by decide +kernel
theorem dX9_ease_24 : decode cX9_ease 24 = .ok (.istore_n 2, 1) := by decide +kernel
theorem dX9_ease_25 : decode cX9_ease 25 = .ok (.aload_n 0, 1) := by decide +kernel
theorem dX9_ease_26 : decode cX9_ease 26 = .ok (.getfield 35, 3) := by decide +kernel
theorem dX9_ease_29 : decode cX9_ease 29 = .ok (.iload_n 1, 1) := by decide +kernel
theorem dX9_ease_30 : decode cX9_ease 30 = .ok (.invokevirtual 242, 3) := by decide +kernel
theorem dX9_ease_33 : decode cX9_ease 33 = .ok (.iload_n 2, 1) := by decide +kernel
theorem dX9_ease_34 : decode cX9_ease 34 = .ok (.ireturn, 1) := by decide +kernel
theorem dX9_undo_0 : decode cX9_undo 0 = .ok (.aload_n 0, 1) := by decide +kernel
theorem dX9_undo_1 : decode cX9_undo 1 = .ok (.getfield 42, 3) := by decide +kernel
theorem dX9_undo_4 : decode cX9_undo 4 = .ok (.invokevirtual 245, 3) := by decide +kernel
theorem dX9_undo_7 : decode cX9_undo 7 = .ok (.ifCond .eq 13, 3) := by decide +kernel
theorem dX9_undo_10 : decode cX9_undo 10 = .ok (.new 88, 3) := by decide +kernel
theorem dX9_undo_13 : decode cX9_undo 13 = .ok (.dup, 1) := by decide +kernel
theorem dX9_undo_14 : decode cX9_undo 14 = .ok (.ldc 248, 2) := by decide +kernel
theorem dX9_undo_16 : decode cX9_undo 16 = .ok (.invokespecial 92, 3) := by decide +kernel
theorem dX9_undo_19 : decode cX9_undo 19 = .ok (.athrow, 1) := by decide +kernel
theorem dX9_undo_20 : decode cX9_undo 20 = .ok (.aload_n 0, 1) := by decide +kernel
theorem dX9_undo_21 : decode cX9_undo 21 = .ok (.getfield 42, 3) := by decide +kernel
theorem dX9_undo_24 : decode cX9_undo 24 = .ok (.aload_n 0, 1) := by decide +kernel
theorem dX9_undo_25 : decode cX9_undo 25 = .ok (.getfield 35, 3) := by decide +kernel
theorem dX9_undo_28 : decode cX9_undo 28 = .ok (.invokevirtual 250, 3) := by decide +kernel
theorem dX9_undo_31 : decode cX9_undo 31 = .ok (.ireturn, 1) := by decide +kernel
theorem dX9_shortest_0 : decode cX9_shortest 0 = .ok (.aload_n 0, 1) := by decide +kernel
theorem dX9_shortest_1 : decode cX9_shortest 1 = .ok (.iload_n 1, 1) := by decide +kernel
theorem dX9_shortest_2 : decode cX9_shortest 2 = .ok (.invokevirtual 170, 3) := by decide +kernel
theorem dX9_shortest_5 : decode cX9_shortest 5 = .ok (.iload_n 2, 1) := by decide +kernel
theorem dX9_shortest_6 : decode cX9_shortest 6 = .ok (.invokestatic 254, 3) := by decide +kernel
theorem dX9_shortest_9 : decode cX9_shortest 9 = .ok (.iload_n 2, 1) := by decide +kernel
theorem dX9_shortest_10 : decode cX9_shortest 10 = .ok (.ifCond .ne 18, 3) := by decide +kernel
theorem dX9_shortest_13 : decode cX9_shortest 13 = .ok (.aload_n 0, 1) := by decide +kernel
theorem dX9_shortest_14 : decode cX9_shortest 14 = .ok (.getfield 57, 3) := by decide +kernel
theorem dX9_shortest_17 : decode cX9_shortest 17 = .ok (.aload_n 0, 1) := by decide +kernel
theorem dX9_shortest_18 : decode cX9_shortest 18 = .ok (.getfield 35, 3) := by decide +kernel
theorem dX9_shortest_21 : decode cX9_shortest 21 = .ok (.iload_n 1, 1) := by decide +kernel
theorem dX9_shortest_22 : decode cX9_shortest 22 = .ok (.invokevirtual 257, 3) := by decide +kernel
theorem dX9_shortest_25 : decode cX9_shortest 25 = .ok (.goto 15, 3) := by decide +kernel
theorem dX9_shortest_28 : decode cX9_shortest 28 = .ok (.aload_n 0, 1) := by decide +kernel
theorem dX9_shortest_29 : decode cX9_shortest 29 = .ok (.getfield 57, 3) := by decide +kernel
theorem dX9_shortest_32 : decode cX9_shortest 32 = .ok (.aload_n 0, 1) := by decide +kernel
theorem dX9_shortest_33 : decode cX9_shortest 33 = .ok (.getfield 35, 3) := by decide +kernel
theorem dX9_shortest_36 : decode cX9_shortest 36 = .ok (.iload_n 1, 1) := by decide +kernel
theorem dX9_shortest_37 : decode cX9_shortest 37 = .ok (.invokevirtual 260, 3) := by decide +kernel
theorem dX9_shortest_40 : decode cX9_shortest 40 = .ok (.ireturn, 1) := by decide +kernel
theorem dX9_quickest_0 : decode cX9_quickest 0 = .ok (.aload_n 0, 1) := by decide +kernel
theorem dX9_quickest_1 : decode cX9_quickest 1 = .ok (.iload_n 1, 1) := by decide +kernel
theorem dX9_quickest_2 : decode cX9_quickest 2 = .ok (.invokevirtual 170, 3) := by decide +kernel
theorem dX9_quickest_5 : decode cX9_quickest 5 = .ok (.iload_n 2, 1) := by decide +kernel
theorem dX9_quickest_6 : decode cX9_quickest 6 = .ok (.invokestatic 254, 3) := by decide +kernel
theorem dX9_quickest_9 : decode cX9_quickest 9 = .ok (.iload_n 2, 1) := by decide +kernel
theorem dX9_quickest_10 : decode cX9_quickest 10 = .ok (.ifCond .ne 18, 3) := by decide +kernel
theorem dX9_quickest_13 : decode cX9_quickest 13 = .ok (.aload_n 0, 1) := by decide +kernel
theorem dX9_quickest_14 : decode cX9_quickest 14 = .ok (.getfield 57, 3) := by decide +kernel
theorem dX9_quickest_17 : decode cX9_quickest 17 = .ok (.aload_n 0, 1) := by decide +kernel
theorem dX9_quickest_18 : decode cX9_quickest 18 = .ok (.getfield 35, 3) := by decide +kernel
theorem dX9_quickest_21 : decode cX9_quickest 21 = .ok (.iload_n 1, 1) := by decide +kernel
theorem dX9_quickest_22 : decode cX9_quickest 22 = .ok (.invokevirtual 263, 3) := by decide +kernel
theorem dX9_quickest_25 : decode cX9_quickest 25 = .ok (.goto 15, 3) := by decide +kernel
theorem dX9_quickest_28 : decode cX9_quickest 28 = .ok (.aload_n 0, 1) := by decide +kernel
theorem dX9_quickest_29 : decode cX9_quickest 29 = .ok (.getfield 57, 3) := by decide +kernel
theorem dX9_quickest_32 : decode cX9_quickest 32 = .ok (.aload_n 0, 1) := by decide +kernel
theorem dX9_quickest_33 : decode cX9_quickest 33 = .ok (.getfield 35, 3) := by decide +kernel
theorem dX9_quickest_36 : decode cX9_quickest 36 = .ok (.iload_n 1, 1) := by decide +kernel
theorem dX9_quickest_37 : decode cX9_quickest 37 = .ok (.invokevirtual 266, 3) := by decide +kernel
theorem dX9_quickest_40 : decode cX9_quickest 40 = .ok (.ireturn, 1) := by decide +kernel
theorem dX9_orders_0 : decode cX9_orders 0 = .ok (.aload_n 0, 1) := by decide +kernel
theorem dX9_orders_1 : decode cX9_orders 1 = .ok (.iload_n 1, 1) := by decide +kernel
theorem dX9_orders_2 : decode cX9_orders 2 = .ok (.invokevirtual 170, 3) := by decide +kernel
theorem dX9_orders_5 : decode cX9_orders 5 = .ok (.aload_n 0, 1) := by decide +kernel
theorem dX9_orders_6 : decode cX9_orders 6 = .ok (.getfield 57, 3) := by decide +kernel
theorem dX9_orders_9 : decode cX9_orders 9 = .ok (.aload_n 0, 1) := by decide +kernel
theorem dX9_orders_10 : decode cX9_orders 10 = .ok (.getfield 35, 3) := by decide +kernel
theorem dX9_orders_13 : decode cX9_orders 13 = .ok (.iload_n 1, 1) := by decide +kernel
theorem dX9_orders_14 : decode cX9_orders 14 = .ok (.invokevirtual 269, 3) := by decide +kernel
theorem dX9_orders_17 : decode cX9_orders 17 = .ok (.ireturn, 1) := by decide +kernel
theorem dX9_safe_0 : decode cX9_safe 0 = .ok (.aload_n 0, 1) := by decide +kernel
theorem dX9_safe_1 : decode cX9_safe 1 = .ok (.iload_n 1, 1) := by decide +kernel
theorem dX9_safe_2 : decode cX9_safe 2 = .ok (.invokevirtual 170, 3) := by decide +kernel
theorem dX9_safe_5 : decode cX9_safe 5 = .ok (.aload_n 0, 1) := by decide +kernel
theorem dX9_safe_6 : decode cX9_safe 6 = .ok (.getfield 57, 3) := by decide +kernel
theorem dX9_safe_9 : decode cX9_safe 9 = .ok (.aload_n 0, 1) := by decide +kernel
theorem dX9_safe_10 : decode cX9_safe 10 = .ok (.getfield 35, 3) := by decide +kernel
theorem dX9_safe_13 : decode cX9_safe 13 = .ok (.iload_n 1, 1) := by decide +kernel
theorem dX9_safe_14 : decode cX9_safe 14 = .ok (.invokevirtual 221, 3) := by decide +kernel
theorem dX9_safe_17 : decode cX9_safe 17 = .ok (.ireturn, 1) := by decide +kernel
theorem dX9_needed_0 : decode cX9_needed 0 = .ok (.aload_n 0, 1) := by decide +kernel
theorem dX9_needed_1 : decode cX9_needed 1 = .ok (.iload_n 1, 1) := by decide +kernel
theorem dX9_needed_2 : decode cX9_needed 2 = .ok (.invokevirtual 170, 3) := by decide +kernel
theorem dX9_needed_5 : decode cX9_needed 5 = .ok (.aload_n 0, 1) := by decide +kernel
theorem dX9_needed_6 : decode cX9_needed 6 = .ok (.getfield 57, 3) := by decide +kernel
theorem dX9_needed_9 : decode cX9_needed 9 = .ok (.aload_n 0, 1) := by decide +kernel
theorem dX9_needed_10 : decode cX9_needed 10 = .ok (.getfield 35, 3) := by decide +kernel
theorem dX9_needed_13 : decode cX9_needed 13 = .ok (.iload_n 1, 1) := by decide +kernel
theorem dX9_needed_14 : decode cX9_needed 14 = .ok (.invokevirtual 272, 3) := by decide +kernel
theorem dX9_needed_17 : decode cX9_needed 17 = .ok (.ireturn, 1) := by decide +kernel
theorem dX9_deadEnds_0 : decode cX9_deadEnds 0 = .ok (.aload_n 0, 1) := by decide +kernel
theorem dX9_deadEnds_1 : decode cX9_deadEnds 1 = .ok (.getfield 57, 3) := by decide +kernel
theorem dX9_deadEnds_4 : decode cX9_deadEnds 4 = .ok (.aload_n 0, 1) := by decide +kernel
theorem dX9_deadEnds_5 : decode cX9_deadEnds 5 = .ok (.getfield 35, 3) := by decide +kernel
theorem dX9_deadEnds_8 : decode cX9_deadEnds 8 = .ok (.invokevirtual 163, 3) := by decide +kernel
theorem dX9_deadEnds_11 : decode cX9_deadEnds 11 = .ok (.invokevirtual 275, 3) := by decide +kernel
theorem dX9_deadEnds_14 : decode cX9_deadEnds 14 = .ok (.ireturn, 1) := by decide +kernel
theorem dX9_easeBy_0 : decode cX9_easeBy 0 = .ok (.aload_n 0, 1) := by decide +kernel
theorem dX9_easeBy_1 : decode cX9_easeBy 1 = .ok (.getfield 35, 3) := by decide +kernel
theorem dX9_easeBy_4 : decode cX9_easeBy 4 = .ok (.invokevirtual 163, 3) := by decide +kernel
theorem dX9_easeBy_7 : decode cX9_easeBy 7 = .ok (.istore_n 1, 1) := by decide +kernel
theorem dX9_easeBy_8 : decode cX9_easeBy 8 = .ok (.aload_n 0, 1) := by decide +kernel
theorem dX9_easeBy_9 : decode cX9_easeBy 9 = .ok (.getfield 57, 3) := by decide +kernel
theorem dX9_easeBy_12 : decode cX9_easeBy 12 = .ok (.iload_n 1, 1) := by decide +kernel
theorem dX9_easeBy_13 : decode cX9_easeBy 13 = .ok (.invokevirtual 275, 3) := by decide +kernel
theorem dX9_easeBy_16 : decode cX9_easeBy 16 = .ok (.ifCond .ne 6, 3) := by decide +kernel
theorem dX9_easeBy_19 : decode cX9_easeBy 19 = .ok (.bipush (-9), 2) := by decide +kernel
theorem dX9_easeBy_21 : decode cX9_easeBy 21 = .ok (.ireturn, 1) := by decide +kernel
theorem dX9_easeBy_22 : decode cX9_easeBy 22 = .ok (.iconst 0, 1) := by decide +kernel
theorem dX9_easeBy_23 : decode cX9_easeBy 23 = .ok (.istore_n 2, 1) := by decide +kernel
theorem dX9_easeBy_24 : decode cX9_easeBy 24 = .ok (.iload_n 2, 1) := by decide +kernel
theorem dX9_easeBy_25 : decode cX9_easeBy 25 = .ok (.aload_n 0, 1) := by decide +kernel
theorem dX9_easeBy_26 : decode cX9_easeBy 26 = .ok (.getfield 26, 3) := by decide +kernel
theorem dX9_easeBy_29 : decode cX9_easeBy 29 = .ok (.invokevirtual 117, 3) := by decide +kernel
theorem dX9_easeBy_32 : decode cX9_easeBy 32 = .ok (.if_icmp .ge 26, 3) := by decide +kernel
theorem dX9_easeBy_35 : decode cX9_easeBy 35 = .ok (.aload_n 0, 1) := by decide +kernel
theorem dX9_easeBy_36 : decode cX9_easeBy 36 = .ok (.getfield 57, 3) := by decide +kernel
theorem dX9_easeBy_39 : decode cX9_easeBy 39 = .ok (.iload_n 1, 1) := by decide +kernel
theorem dX9_easeBy_40 : decode cX9_easeBy 40 = .ok (.iconst 1, 1) := by decide +kernel
theorem dX9_easeBy_41 : decode cX9_easeBy 41 = .ok (.iload_n 2, 1) := by decide +kernel
theorem dX9_easeBy_42 : decode cX9_easeBy 42 = .ok (.ishl, 1) := by decide +kernel
theorem dX9_easeBy_43 : decode cX9_easeBy 43 = .ok (.ior, 1) := by decide +kernel
theorem dX9_easeBy_44 : decode cX9_easeBy 44 = .ok (.invokevirtual 275, 3) := by decide +kernel
theorem dX9_easeBy_47 : decode cX9_easeBy 47 = .ok (.ifCond .ne 5, 3) := by decide +kernel
theorem dX9_easeBy_50 : decode cX9_easeBy 50 = .ok (.iload_n 2, 1) := by decide +kernel
theorem dX9_easeBy_51 : decode cX9_easeBy 51 = .ok (.ireturn, 1) := by decide +kernel
theorem dX9_easeBy_52 : decode cX9_easeBy 52 = .ok (.iinc 2 1, 3) := by decide +kernel
theorem dX9_easeBy_55 : decode cX9_easeBy 55 = .ok (.goto (-31), 3) := by decide +kernel
theorem dX9_easeBy_58 : decode cX9_easeBy 58 = .ok (.bipush (-9), 2) := by decide +kernel
theorem dX9_easeBy_60 : decode cX9_easeBy 60 = .ok (.ireturn, 1) := by decide +kernel
theorem dX9_runScript_0 : decode cX9_runScript 0 = .ok (.iload_n 1, 1) := by decide +kernel
theorem dX9_runScript_1 : decode cX9_runScript 1 = .ok (.iconst 1, 1) := by decide +kernel
theorem dX9_runScript_2 : decode cX9_runScript 2 = .ok (.if_icmp .lt 8, 3) := by decide +kernel
theorem dX9_runScript_5 : decode cX9_runScript 5 = .ok (.iload_n 1, 1) := by decide +kernel
theorem dX9_runScript_6 : decode cX9_runScript 6 = .ok (.iconst 4, 1) := by decide +kernel
theorem dX9_runScript_7 : decode cX9_runScript 7 = .ok (.if_icmp .le 14, 3) := by decide +kernel
theorem dX9_runScript_10 : decode cX9_runScript 10 = .ok (.new 77, 3) := by decide +kernel
theorem dX9_runScript_13 : decode cX9_runScript 13 = .ok (.dup, 1) := by decide +kernel
theorem dX9_runScript_14 : decode cX9_runScript 14 = .ok (.ldc_w 278, 3) := by decide +kernel
theorem dX9_runScript_17 : decode cX9_runScript 17 = .ok (.invokespecial 81, 3) := by decide +kernel
theorem dX9_runScript_20 : decode cX9_runScript 20 = .ok (.athrow, 1) := by decide +kernel
theorem dX9_runScript_21 : decode cX9_runScript 21 = .ok (.lload_n 2, 1) := by decide +kernel
theorem dX9_runScript_22 : decode cX9_runScript 22 = .ok (.lconst 0, 1) := by decide +kernel
theorem dX9_runScript_23 : decode cX9_runScript 23 = .ok (.lcmp, 1) := by decide +kernel
theorem dX9_runScript_24 : decode cX9_runScript 24 = .ok (.ifCond .lt 12, 3) := by decide +kernel
theorem dX9_runScript_27 : decode cX9_runScript 27 = .ok (.lload_n 2, 1) := by decide +kernel
theorem dX9_runScript_28 : decode cX9_runScript 28 = .ok (.iload_n 1, 1) := by decide +kernel
theorem dX9_runScript_29 : decode cX9_runScript 29 = .ok (.invokestatic 280, 3) := by decide +kernel
theorem dX9_runScript_32 : decode cX9_runScript 32 = .ok (.lcmp, 1) := by decide +kernel
theorem dX9_runScript_33 : decode cX9_runScript 33 = .ok (.ifCond .lt 14, 3) := by decide +kernel
theorem dX9_runScript_36 : decode cX9_runScript 36 = .ok (.new 77, 3) := by decide +kernel
theorem dX9_runScript_39 : decode cX9_runScript 39 = .ok (.dup, 1) := by decide +kernel
theorem dX9_runScript_40 : decode cX9_runScript 40 = .ok (.ldc_w 284, 3) := by decide +kernel
theorem dX9_runScript_43 : decode cX9_runScript 43 = .ok (.invokespecial 81, 3) := by decide +kernel
theorem dX9_runScript_46 : decode cX9_runScript 46 = .ok (.athrow, 1) := by decide +kernel
theorem dX9_runScript_47 : decode cX9_runScript 47 = .ok (.aload_n 0, 1) := by decide +kernel
theorem dX9_runScript_48 : decode cX9_runScript 48 = .ok (.getfield 66, 3) := by decide +kernel
theorem dX9_runScript_51 : decode cX9_runScript 51 = .ok (.aload_n 0, 1) := by decide +kernel
theorem dX9_runScript_52 : decode cX9_runScript 52 = .ok (.getfield 35, 3) := by decide +kernel
theorem dX9_runScript_55 : decode cX9_runScript 55 = .ok (.invokevirtual 286, 3) := by decide +kernel
theorem dX9_runScript_58 : decode cX9_runScript 58 = .ok (.iconst 0, 1) := by decide +kernel
theorem dX9_runScript_59 : decode cX9_runScript 59 = .ok (.istore 4, 2) := by decide +kernel
theorem dX9_runScript_61 : decode cX9_runScript 61 = .ok (.iload 4, 2) := by decide +kernel
theorem dX9_runScript_63 : decode cX9_runScript 63 = .ok (.iload_n 1, 1) := by decide +kernel
theorem dX9_runScript_64 : decode cX9_runScript 64 = .ok (.if_icmp .ge 29, 3) := by decide +kernel
theorem dX9_runScript_67 : decode cX9_runScript 67 = .ok (.aload_n 0, 1) := by decide +kernel
theorem dX9_runScript_68 : decode cX9_runScript 68 = .ok (.getfield 66, 3) := by decide +kernel
theorem dX9_runScript_71 : decode cX9_runScript 71 = .ok (.iload 4, 2) := by decide +kernel
theorem dX9_runScript_73 : decode cX9_runScript 73 = .ok (.iload_n 1, 1) := by decide +kernel
theorem dX9_runScript_74 : decode cX9_runScript 74 = .ok (.lload_n 2, 1) := by decide +kernel
theorem dX9_runScript_75 : decode cX9_runScript 75 = .ok (.invokestatic 288, 3) := by decide +kernel
theorem dX9_runScript_78 : decode cX9_runScript 78 = .ok (.invokevirtual 292, 3) := by decide +kernel
theorem dX9_runScript_81 : decode cX9_runScript 81 = .ok (.ifCond .ne 6, 3) := by decide +kernel
theorem dX9_runScript_84 : decode cX9_runScript 84 = .ok (.iload 4, 2) := by decide +kernel
theorem dX9_runScript_86 : decode cX9_runScript 86 = .ok (.ireturn, 1) := by decide +kernel
theorem dX9_runScript_87 : decode cX9_runScript 87 = .ok (.iinc 4 1, 3) := by decide +kernel
theorem dX9_runScript_90 : decode cX9_runScript 90 = .ok (.goto (-29), 3) := by decide +kernel
theorem dX9_runScript_93 : decode cX9_runScript 93 = .ok (.bipush (-9), 2) := by decide +kernel
theorem dX9_runScript_95 : decode cX9_runScript 95 = .ok (.ireturn, 1) := by decide +kernel
theorem dX9_simulate_0 : decode cX9_simulate 0 = .ok (.iload_n 3, 1) := by decide +kernel
theorem dX9_simulate_1 : decode cX9_simulate 1 = .ok (.iconst 1, 1) := by decide +kernel
theorem dX9_simulate_2 : decode cX9_simulate 2 = .ok (.if_icmp .lt 9, 3) := by decide +kernel
theorem dX9_simulate_5 : decode cX9_simulate 5 = .ok (.iload_n 3, 1) := by decide +kernel
theorem dX9_simulate_6 : decode cX9_simulate 6 = .ok (.bipush 50, 2) := by decide +kernel
theorem dX9_simulate_8 : decode cX9_simulate 8 = .ok (.if_icmp .le 14, 3) := by decide +kernel
theorem dX9_simulate_11 : decode cX9_simulate 11 = .ok (.new 77, 3) := by decide +kernel
theorem dX9_simulate_14 : decode cX9_simulate 14 = .ok (.dup, 1) := by decide +kernel
theorem dX9_simulate_15 : decode cX9_simulate 15 = .ok (.ldc_w 296, 3) := by decide +kernel
theorem dX9_simulate_18 : decode cX9_simulate 18 = .ok (.invokespecial 81, 3) := by decide +kernel
theorem dX9_simulate_21 : decode cX9_simulate 21 = .ok (.athrow, 1) := by decide +kernel
theorem dX9_simulate_22 : decode cX9_simulate 22 = .ok (.aload_n 0, 1) := by decide +kernel
theorem dX9_simulate_23 : decode cX9_simulate 23 = .ok (.getfield 73, 3) := by decide +kernel
theorem dX9_simulate_26 : decode cX9_simulate 26 = .ok (.aload_n 0, 1) := by decide +kernel
theorem dX9_simulate_27 : decode cX9_simulate 27 = .ok (.getfield 35, 3) := by decide +kernel
theorem dX9_simulate_30 : decode cX9_simulate 30 = .ok (.lload_n 1, 1) := by decide +kernel
theorem dX9_simulate_31 : decode cX9_simulate 31 = .ok (.iload_n 3, 1) := by decide +kernel
theorem dX9_simulate_32 : decode cX9_simulate 32 = .ok (.invokevirtual 298, 3) := by decide +kernel
theorem dX9_simulate_35 : decode cX9_simulate 35 = .ok (.ireturn, 1) := by decide +kernel
theorem dX9_save_0 : decode cX9_save 0 = .ok (.iload_n 1, 1) := by decide +kernel
theorem dX9_save_1 : decode cX9_save 1 = .ok (.invokestatic 302, 3) := by decide +kernel
theorem dX9_save_4 : decode cX9_save 4 = .ok (.aload_n 0, 1) := by decide +kernel
theorem dX9_save_5 : decode cX9_save 5 = .ok (.getfield 46, 3) := by decide +kernel
theorem dX9_save_8 : decode cX9_save 8 = .ok (.iload_n 1, 1) := by decide +kernel
theorem dX9_save_9 : decode cX9_save 9 = .ok (.aaload, 1) := by decide +kernel
theorem dX9_save_10 : decode cX9_save 10 = .ok (.aload_n 0, 1) := by decide +kernel
theorem dX9_save_11 : decode cX9_save 11 = .ok (.getfield 35, 3) := by decide +kernel
theorem dX9_save_14 : decode cX9_save 14 = .ok (.invokevirtual 305, 3) := by decide +kernel
theorem dX9_save_17 : decode cX9_save 17 = .ok (.aload_n 0, 1) := by decide +kernel
theorem dX9_save_18 : decode cX9_save 18 = .ok (.getfield 50, 3) := by decide +kernel
theorem dX9_save_21 : decode cX9_save 21 = .ok (.iload_n 1, 1) := by decide +kernel
theorem dX9_save_22 : decode cX9_save 22 = .ok (.iconst 1, 1) := by decide +kernel
theorem dX9_save_23 : decode cX9_save 23 = .ok (.bastore, 1) := by decide +kernel
theorem dX9_save_24 : decode cX9_save 24 = .ok (.aload_n 0, 1) := by decide +kernel
theorem dX9_save_25 : decode cX9_save 25 = .ok (.getfield 35, 3) := by decide +kernel
theorem dX9_save_28 : decode cX9_save 28 = .ok (.invokevirtual 120, 3) := by decide +kernel
theorem dX9_save_31 : decode cX9_save 31 = .ok (.ireturn, 1) := by decide +kernel
theorem dX9_restore_0 : decode cX9_restore 0 = .ok (.iload_n 1, 1) := by decide +kernel
theorem dX9_restore_1 : decode cX9_restore 1 = .ok (.invokestatic 302, 3) := by decide +kernel
theorem dX9_restore_4 : decode cX9_restore 4 = .ok (.aload_n 0, 1) := by decide +kernel
theorem dX9_restore_5 : decode cX9_restore 5 = .ok (.getfield 50, 3) := by decide +kernel
theorem dX9_restore_8 : decode cX9_restore 8 = .ok (.iload_n 1, 1) := by decide +kernel
theorem dX9_restore_9 : decode cX9_restore 9 = .ok (.baload, 1) := by decide +kernel
theorem dX9_restore_10 : decode cX9_restore 10 = .ok (.ifCond .ne 14, 3) := by decide +kernel
theorem dX9_restore_13 : decode cX9_restore 13 = .ok (.new 88, 3) := by decide +kernel
theorem dX9_restore_16 : decode cX9_restore 16 = .ok (.dup, 1) := by decide +kernel
theorem dX9_restore_17 : decode cX9_restore 17 = .ok (.ldc_w 308, 3) := by decide +kernel
theorem dX9_restore_20 : decode cX9_restore 20 = .ok (.invokespecial 92, 3) := by decide +kernel
theorem dX9_restore_23 : decode cX9_restore 23 = .ok (.athrow, 1) := by decide +kernel
theorem dX9_restore_24 : decode cX9_restore 24 = .ok (.aload_n 0, 1) := by decide +kernel
theorem dX9_restore_25 : decode cX9_restore 25 = .ok (.getfield 35, 3) := by decide +kernel
theorem dX9_restore_28 : decode cX9_restore 28 = .ok (.aload_n 0, 1) := by decide +kernel
theorem dX9_restore_29 : decode cX9_restore 29 = .ok (.getfield 46, 3) := by decide +kernel
theorem dX9_restore_32 : decode cX9_restore 32 = .ok (.iload_n 1, 1) := by decide +kernel
theorem dX9_restore_33 : decode cX9_restore 33 = .ok (.aaload, 1) := by decide +kernel
theorem dX9_restore_34 : decode cX9_restore 34 = .ok (.invokevirtual 305, 3) := by decide +kernel
theorem dX9_restore_37 : decode cX9_restore 37 = .ok (.aload_n 0, 1) := by decide +kernel
theorem dX9_restore_38 : decode cX9_restore 38 = .ok (.getfield 42, 3) := by decide +kernel
theorem dX9_restore_41 : decode cX9_restore 41 = .ok (.invokevirtual 114, 3) := by decide +kernel
theorem dX9_restore_44 : decode cX9_restore 44 = .ok (.aload_n 0, 1) := by decide +kernel
theorem dX9_restore_45 : decode cX9_restore 45 = .ok (.getfield 35, 3) := by decide +kernel
theorem dX9_restore_48 : decode cX9_restore 48 = .ok (.invokevirtual 120, 3) := by decide +kernel
theorem dX9_restore_51 : decode cX9_restore 51 = .ok (.ireturn, 1) := by decide +kernel
theorem dX9_requirePlace_0 : decode cX9_requirePlace 0 = .ok (.aload_n 0, 1) := by decide +kernel
theorem dX9_requirePlace_1 : decode cX9_requirePlace 1 = .ok (.getfield 26, 3) := by decide +kernel
theorem dX9_requirePlace_4 : decode cX9_requirePlace 4 = .ok (.iload_n 1, 1) := by decide +kernel
theorem dX9_requirePlace_5 : decode cX9_requirePlace 5 = .ok (.invokevirtual 310, 3) := by decide +kernel
theorem dX9_requirePlace_8 : decode cX9_requirePlace 8 = .ok (.ifCond .ne 14, 3) := by decide +kernel
theorem dX9_requirePlace_11 : decode cX9_requirePlace 11 = .ok (.new 313, 3) := by decide +kernel
theorem dX9_requirePlace_14 : decode cX9_requirePlace 14 = .ok (.dup, 1) := by decide +kernel
theorem dX9_requirePlace_15 : decode cX9_requirePlace 15 = .ok (.ldc_w 315, 3) := by decide +kernel
theorem dX9_requirePlace_18 : decode cX9_requirePlace 18 = .ok (.invokespecial 317, 3) := by decide +kernel
theorem dX9_requirePlace_21 : decode cX9_requirePlace 21 = .ok (.athrow, 1) := by decide +kernel
theorem dX9_requirePlace_22 : decode cX9_requirePlace 22 = .ok (.return_, 1) := by decide +kernel
theorem dX9_requireTeam_0 : decode cX9_requireTeam 0 = .ok (.aload_n 0, 1) := by decide +kernel
theorem dX9_requireTeam_1 : decode cX9_requireTeam 1 = .ok (.getfield 35, 3) := by decide +kernel
theorem dX9_requireTeam_4 : decode cX9_requireTeam 4 = .ok (.iload_n 1, 1) := by decide +kernel
theorem dX9_requireTeam_5 : decode cX9_requireTeam 5 = .ok (.invokevirtual 318, 3) := by decide +kernel
theorem dX9_requireTeam_8 : decode cX9_requireTeam 8 = .ok (.ifCond .ne 14, 3) := by decide +kernel
theorem dX9_requireTeam_11 : decode cX9_requireTeam 11 = .ok (.new 313, 3) := by decide +kernel
theorem dX9_requireTeam_14 : decode cX9_requireTeam 14 = .ok (.dup, 1) := by decide +kernel
theorem dX9_requireTeam_15 : decode cX9_requireTeam 15 = .ok (.ldc_w 321, 3) := by decide +kernel
theorem dX9_requireTeam_18 : decode cX9_requireTeam 18 = .ok (.invokespecial 317, 3) := by decide +kernel
theorem dX9_requireTeam_21 : decode cX9_requireTeam 21 = .ok (.athrow, 1) := by decide +kernel
theorem dX9_requireTeam_22 : decode cX9_requireTeam 22 = .ok (.return_, 1) := by decide +kernel
theorem dX9_requireSlot_0 : decode cX9_requireSlot 0 = .ok (.iload_n 0, 1) := by decide +kernel
theorem dX9_requireSlot_1 : decode cX9_requireSlot 1 = .ok (.ifCond .lt 8, 3) := by decide +kernel
theorem dX9_requireSlot_4 : decode cX9_requireSlot 4 = .ok (.iload_n 0, 1) := by decide +kernel
theorem dX9_requireSlot_5 : decode cX9_requireSlot 5 = .ok (.iconst 2, 1) := by decide +kernel
theorem dX9_requireSlot_6 : decode cX9_requireSlot 6 = .ok (.if_icmp .lt 14, 3) := by decide +kernel
theorem dX9_requireSlot_9 : decode cX9_requireSlot 9 = .ok (.new 313, 3) := by decide +kernel
theorem dX9_requireSlot_12 : decode cX9_requireSlot 12 = .ok (.dup, 1) := by decide +kernel
theorem dX9_requireSlot_13 : decode cX9_requireSlot 13 = .ok (.ldc_w 323, 3) := by decide +kernel
theorem dX9_requireSlot_16 : decode cX9_requireSlot 16 = .ok (.invokespecial 317, 3) := by decide +kernel
theorem dX9_requireSlot_19 : decode cX9_requireSlot 19 = .ok (.athrow, 1) := by decide +kernel
theorem dX9_requireSlot_20 : decode cX9_requireSlot 20 = .ok (.return_, 1) := by decide +kernel
theorem dX9_requireZeroOrOne_0 : decode cX9_requireZeroOrOne 0 = .ok (.iload_n 0, 1) := by decide +kernel
theorem dX9_requireZeroOrOne_1 : decode cX9_requireZeroOrOne 1 = .ok (.ifCond .eq 18, 3) := by decide +kernel
theorem dX9_requireZeroOrOne_4 : decode cX9_requireZeroOrOne 4 = .ok (.iload_n 0, 1) := by decide +kernel
theorem dX9_requireZeroOrOne_5 : decode cX9_requireZeroOrOne 5 = .ok (.iconst 1, 1) := by decide +kernel
theorem dX9_requireZeroOrOne_6 : decode cX9_requireZeroOrOne 6 = .ok (.if_icmp .eq 13, 3) := by decide +kernel
theorem dX9_requireZeroOrOne_9 : decode cX9_requireZeroOrOne 9 = .ok (.new 77, 3) := by decide +kernel
theorem dX9_requireZeroOrOne_12 : decode cX9_requireZeroOrOne 12 = .ok (.dup, 1) := by decide +kernel
theorem dX9_requireZeroOrOne_13 : decode cX9_requireZeroOrOne 13 = .ok (.ldc 143, 2) := by decide +kernel
theorem dX9_requireZeroOrOne_15 : decode cX9_requireZeroOrOne 15 = .ok (.invokespecial 81, 3) := by decide +kernel
theorem dX9_requireZeroOrOne_18 : decode cX9_requireZeroOrOne 18 = .ok (.athrow, 1) := by decide +kernel
theorem dX9_requireZeroOrOne_19 : decode cX9_requireZeroOrOne 19 = .ok (.return_, 1) := by decide +kernel
theorem dX9_isIn_0 : decode cX9_isIn 0 = .ok (.iload_n 1, 1) := by decide +kernel
theorem dX9_isIn_1 : decode cX9_isIn 1 = .ok (.iload_n 0, 1) := by decide +kernel
theorem dX9_isIn_2 : decode cX9_isIn 2 = .ok (.ishr, 1) := by decide +kernel
theorem dX9_isIn_3 : decode cX9_isIn 3 = .ok (.iconst 1, 1) := by decide +kernel
theorem dX9_isIn_4 : decode cX9_isIn 4 = .ok (.iand, 1) := by decide +kernel
theorem dX9_isIn_5 : decode cX9_isIn 5 = .ok (.ifCond .eq 7, 3) := by decide +kernel
theorem dX9_isIn_8 : decode cX9_isIn 8 = .ok (.iconst 1, 1) := by decide +kernel
theorem dX9_isIn_9 : decode cX9_isIn 9 = .ok (.goto 4, 3) := by decide +kernel
theorem dX9_isIn_12 : decode cX9_isIn 12 = .ok (.iconst 0, 1) := by decide +kernel
theorem dX9_isIn_13 : decode cX9_isIn 13 = .ok (.ireturn, 1) := by decide +kernel
theorem dX9_smallestOf_0 : decode cX9_smallestOf 0 = .ok (.iconst 0, 1) := by decide +kernel
theorem dX9_smallestOf_1 : decode cX9_smallestOf 1 = .ok (.istore_n 1, 1) := by decide +kernel
theorem dX9_smallestOf_2 : decode cX9_smallestOf 2 = .ok (.iload_n 1, 1) := by decide +kernel
theorem dX9_smallestOf_3 : decode cX9_smallestOf 3 = .ok (.bipush 10, 2) := by decide +kernel
theorem dX9_smallestOf_5 : decode cX9_smallestOf 5 = .ok (.if_icmp .ge 19, 3) := by decide +kernel
theorem dX9_smallestOf_8 : decode cX9_smallestOf 8 = .ok (.iload_n 1, 1) := by decide +kernel
theorem dX9_smallestOf_9 : decode cX9_smallestOf 9 = .ok (.iload_n 0, 1) := by decide +kernel
theorem dX9_smallestOf_10 : decode cX9_smallestOf 10 = .ok (.invokestatic 325, 3) := by decide +kernel
theorem dX9_smallestOf_13 : decode cX9_smallestOf 13 = .ok (.ifCond .eq 5, 3) := by decide +kernel
theorem dX9_smallestOf_16 : decode cX9_smallestOf 16 = .ok (.iload_n 1, 1) := by decide +kernel
theorem dX9_smallestOf_17 : decode cX9_smallestOf 17 = .ok (.ireturn, 1) := by decide +kernel
theorem dX9_smallestOf_18 : decode cX9_smallestOf 18 = .ok (.iinc 1 1, 3) := by decide +kernel
theorem dX9_smallestOf_21 : decode cX9_smallestOf 21 = .ok (.goto (-19), 3) := by decide +kernel
theorem dX9_smallestOf_24 : decode cX9_smallestOf 24 = .ok (.bipush (-9), 2) := by decide +kernel
theorem dX9_smallestOf_26 : decode cX9_smallestOf 26 = .ok (.ireturn, 1) := by decide +kernel
