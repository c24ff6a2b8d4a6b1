theorem dX0_init_0 : decode cX0_init 0 = .ok (.aload_n 0, 1) := by decide +kernel
theorem dX0_init_1 : decode cX0_init 1 = .ok (.invokespecial 1, 3) := by decide +kernel
theorem dX0_init_4 : decode cX0_init 4 = .ok (.aload_n 0, 1) := by decide +kernel
theorem dX0_init_5 : decode cX0_init 5 = .ok (.iload_n 1, 1) := by decide +kernel
theorem dX0_init_6 : decode cX0_init 6 = .ok (.putfield 7, 3) := by decide +kernel
theorem dX0_init_9 : decode cX0_init 9 = .ok (.aload_n 0, 1) := by decide +kernel
theorem dX0_init_10 : decode cX0_init 10 = .ok (.iload_n 2, 1) := by decide +kernel
theorem dX0_init_11 : decode cX0_init 11 = .ok (.putfield 13, 3) := by decide +kernel
theorem dX0_init_14 : decode cX0_init 14 = .ok (.aload_n 0, 1) := by decide +kernel
theorem dX0_init_15 : decode cX0_init 15 = .ok (.iload_n 3, 1) := by decide +kernel
theorem dX0_init_16 : decode cX0_init 16 = .ok (.putfield 16, 3) := by decide +kernel
theorem dX0_init_19 : decode cX0_init 19 = .ok (.return_, 1) := by decide +kernel
theorem dX1_init_0 : decode cX1_init 0 = .ok (.aload_n 0, 1) := by decide +kernel
theorem dX1_init_1 : decode cX1_init 1 = .ok (.invokespecial 3, 3) := by decide +kernel
theorem dX1_init_4 : decode cX1_init 4 = .ok (.aload_n 0, 1) := by decide +kernel
theorem dX1_init_5 : decode cX1_init 5 = .ok (.new 9, 3) := by decide +kernel
theorem dX1_init_8 : decode cX1_init 8 = .ok (.dup, 1) := by decide +kernel
theorem dX1_init_9 : decode cX1_init 9 = .ok (.invokespecial 11, 3) := by decide +kernel
theorem dX1_init_12 : decode cX1_init 12 = .ok (.putfield 12, 3) := by decide +kernel
theorem dX1_init_15 : decode cX1_init 15 = .ok (.return_, 1) := by decide +kernel
theorem dX1_check_0 : decode cX1_check 0 = .ok (.aload_n 0, 1) := by decide +kernel
theorem dX1_check_1 : decode cX1_check 1 = .ok (.iconst 0, 1) := by decide +kernel
theorem dX1_check_2 : decode cX1_check 2 = .ok (.putfield 18, 3) := by decide +kernel
theorem dX1_check_5 : decode cX1_check 5 = .ok (.aload_n 0, 1) := by decide +kernel
theorem dX1_check_6 : decode cX1_check 6 = .ok (.iconst (-1), 1) := by decide +kernel
theorem dX1_check_7 : decode cX1_check 7 = .ok (.putfield 22, 3) := by decide +kernel
theorem dX1_check_10 : decode cX1_check 10 = .ok (.aload_n 1, 1) := by decide +kernel
theorem dX1_check_11 : decode cX1_check 11 = .ok (.getfield 25, 3) := by decide +kernel
theorem dX1_check_14 : decode cX1_check 14 = .ok (.astore 4, 2) := by decide +kernel
theorem dX1_check_16 : decode cX1_check 16 = .ok (.aload_n 2, 1) := by decide +kernel
theorem dX1_check_17 : decode cX1_check 17 = .ok (.aload 4, 2) := by decide +kernel
theorem dX1_check_19 : decode cX1_check 19 = .ok (.aload_n 1, 1) := by decide +kernel
theorem dX1_check_20 : decode cX1_check 20 = .ok (.getfield 31, 3) := by decide +kernel
theorem dX1_check_23 : decode cX1_check 23 = .ok (.invokevirtual 34, 3) := by decide +kernel
theorem dX1_check_26 : decode cX1_check 26 = .ok (.invokestatic 40, 3) := by decide +kernel
theorem dX1_check_29 : decode cX1_check 29 = .ok (.iconst (-1), 1) := by decide +kernel
theorem dX1_check_30 : decode cX1_check 30 = .ok (.if_icmp .eq 20, 3) := by decide +kernel
theorem dX1_check_33 : decode cX1_check 33 = .ok (.aload_n 0, 1) := by decide +kernel
theorem dX1_check_34 : decode cX1_check 34 = .ok (.iconst 4, 1) := by decide +kernel
theorem dX1_check_35 : decode cX1_check 35 = .ok (.aload 4, 2) := by decide +kernel
theorem dX1_check_37 : decode cX1_check 37 = .ok (.getfield 44, 3) := by decide +kernel
theorem dX1_check_40 : decode cX1_check 40 = .ok (.aload_n 1, 1) := by decide +kernel
theorem dX1_check_41 : decode cX1_check 41 = .ok (.getfield 31, 3) := by decide +kernel
theorem dX1_check_44 : decode cX1_check 44 = .ok (.invokevirtual 48, 3) := by decide +kernel
theorem dX1_check_47 : decode cX1_check 47 = .ok (.invokevirtual 54, 3) := by decide +kernel
theorem dX1_check_50 : decode cX1_check 50 = .ok (.aload_n 0, 1) := by decide +kernel
theorem dX1_check_51 : decode cX1_check 51 = .ok (.aload_n 1, 1) := by decide +kernel
theorem dX1_check_52 : decode cX1_check 52 = .ok (.getfield 58, 3) := by decide +kernel
theorem dX1_check_55 : decode cX1_check 55 = .ok (.aload 4, 2) := by decide +kernel
theorem dX1_check_57 : decode cX1_check 57 = .ok (.invokevirtual 61, 3) := by decide +kernel
theorem dX1_check_60 : decode cX1_check 60 = .ok (.aload_n 0, 1) := by decide +kernel
theorem dX1_check_61 : decode cX1_check 61 = .ok (.aload_n 1, 1) := by decide +kernel
theorem dX1_check_62 : decode cX1_check 62 = .ok (.getfield 65, 3) := by decide +kernel
theorem dX1_check_65 : decode cX1_check 65 = .ok (.aload 4, 2) := by decide +kernel
theorem dX1_check_67 : decode cX1_check 67 = .ok (.invokevirtual 61, 3) := by decide +kernel
theorem dX1_check_70 : decode cX1_check 70 = .ok (.aload_n 0, 1) := by decide +kernel
theorem dX1_check_71 : decode cX1_check 71 = .ok (.aload_n 1, 1) := by decide +kernel
theorem dX1_check_72 : decode cX1_check 72 = .ok (.aload_n 2, 1) := by decide +kernel
theorem dX1_check_73 : decode cX1_check 73 = .ok (.invokevirtual 68, 3) := by decide +kernel
theorem dX1_check_76 : decode cX1_check 76 = .ok (.iconst 0, 1) := by decide +kernel
theorem dX1_check_77 : decode cX1_check 77 = .ok (.istore 5, 2) := by decide +kernel
theorem dX1_check_79 : decode cX1_check 79 = .ok (.iload 5, 2) := by decide +kernel
theorem dX1_check_81 : decode cX1_check 81 = .ok (.aload_n 1, 1) := by decide +kernel
theorem dX1_check_82 : decode cX1_check 82 = .ok (.getfield 72, 3) := by decide +kernel
theorem dX1_check_85 : decode cX1_check 85 = .ok (.getfield 76, 3) := by decide +kernel
theorem dX1_check_88 : decode cX1_check 88 = .ok (.invokevirtual 81, 3) := by decide +kernel
theorem dX1_check_91 : decode cX1_check 91 = .ok (.if_icmp .ge 55, 3) := by decide +kernel
theorem dX1_check_94 : decode cX1_check 94 = .ok (.aload_n 1, 1) := by decide +kernel
theorem dX1_check_95 : decode cX1_check 95 = .ok (.getfield 72, 3) := by decide +kernel
theorem dX1_check_98 : decode cX1_check 98 = .ok (.getfield 76, 3) := by decide +kernel
theorem dX1_check_101 : decode cX1_check 101 = .ok (.iload 5, 2) := by decide +kernel
theorem dX1_check_103 : decode cX1_check 103 = .ok (.invokevirtual 48, 3) := by decide +kernel
theorem dX1_check_106 : decode cX1_check 106 = .ok (.istore 6, 2) := by decide +kernel
theorem dX1_check_108 : decode cX1_check 108 = .ok (.iload 6, 2) := by decide +kernel
theorem dX1_check_110 : decode cX1_check 110 = .ok (.sipush 2000, 3) := by decide +kernel
theorem dX1_check_113 : decode cX1_check 113 = .ok (.if_icmp .lt 27, 3) := by decide +kernel
theorem dX1_check_116 : decode cX1_check 116 = .ok (.aload_n 1, 1) := by decide +kernel
theorem dX1_check_117 : decode cX1_check 117 = .ok (.getfield 72, 3) := by decide +kernel
theorem dX1_check_120 : decode cX1_check 120 = .ok (.getfield 76, 3) := by decide +kernel
theorem dX1_check_123 : decode cX1_check 123 = .ok (.iload 5, 2) := by decide +kernel
theorem dX1_check_125 : decode cX1_check 125 = .ok (.aload_n 0, 1) := by decide +kernel
theorem dX1_check_126 : decode cX1_check 126 = .ok (.iload 6, 2) := by decide +kernel
theorem dX1_check_128 : decode cX1_check 128 = .ok (.sipush 2000, 3) := by decide +kernel
theorem dX1_check_131 : decode cX1_check 131 = .ok (.isub, 1) := by decide +kernel
theorem dX1_check_132 : decode cX1_check 132 = .ok (.aload_n 1, 1) := by decide +kernel
theorem dX1_check_133 : decode cX1_check 133 = .ok (.aload_n 2, 1) := by decide +kernel
theorem dX1_check_134 : decode cX1_check 134 = .ok (.invokevirtual 85, 3) := by decide +kernel
theorem dX1_check_137 : decode cX1_check 137 = .ok (.invokevirtual 89, 3) := by decide +kernel
theorem dX1_check_140 : decode cX1_check 140 = .ok (.iinc 5 1, 3) := by decide +kernel
theorem dX1_check_143 : decode cX1_check 143 = .ok (.goto (-64), 3) := by decide +kernel
theorem dX1_check_146 : decode cX1_check 146 = .ok (.aload_n 1, 1) := by decide +kernel
theorem dX1_check_147 : decode cX1_check 147 = .ok (.getfield 92, 3) := by decide +kernel
theorem dX1_check_150 : decode cX1_check 150 = .ok (.ifCond .eq 9, 3) := by decide +kernel
theorem dX1_check_153 : decode cX1_check 153 = .ok (.aload_n 0, 1) := by decide +kernel
theorem dX1_check_154 : decode cX1_check 154 = .ok (.aload_n 1, 1) := by decide +kernel
theorem dX1_check_155 : decode cX1_check 155 = .ok (.aload_n 3, 1) := by decide +kernel
theorem dX1_check_156 : decode cX1_check 156 = .ok (.invokevirtual 95, 3) := by decide +kernel
theorem dX1_check_159 : decode cX1_check 159 = .ok (.return_, 1) := by decide +kernel
theorem dX1_note_0 : decode cX1_note 0 = .ok (.aload_n 0, 1) := by decide +kernel
theorem dX1_note_1 : decode cX1_note 1 = .ok (.getfield 22, 3) := by decide +kernel
theorem dX1_note_4 : decode cX1_note 4 = .ok (.iconst (-1), 1) := by decide +kernel
theorem dX1_note_5 : decode cX1_note 5 = .ok (.if_icmp .eq 11, 3) := by decide +kernel
theorem dX1_note_8 : decode cX1_note 8 = .ok (.iload_n 2, 1) := by decide +kernel
theorem dX1_note_9 : decode cX1_note 9 = .ok (.aload_n 0, 1) := by decide +kernel
theorem dX1_note_10 : decode cX1_note 10 = .ok (.getfield 22, 3) := by decide +kernel
theorem dX1_note_13 : decode cX1_note 13 = .ok (.if_icmp .ge 13, 3) := by decide +kernel
theorem dX1_note_16 : decode cX1_note 16 = .ok (.aload_n 0, 1) := by decide +kernel
theorem dX1_note_17 : decode cX1_note 17 = .ok (.iload_n 1, 1) := by decide +kernel
theorem dX1_note_18 : decode cX1_note 18 = .ok (.putfield 18, 3) := by decide +kernel
theorem dX1_note_21 : decode cX1_note 21 = .ok (.aload_n 0, 1) := by decide +kernel
theorem dX1_note_22 : decode cX1_note 22 = .ok (.iload_n 2, 1) := by decide +kernel
theorem dX1_note_23 : decode cX1_note 23 = .ok (.putfield 22, 3) := by decide +kernel
theorem dX1_note_26 : decode cX1_note 26 = .ok (.return_, 1) := by decide +kernel
theorem dX1_noteRepeats_0 : decode cX1_noteRepeats 0 = .ok (.iconst 1, 1) := by decide +kernel
theorem dX1_noteRepeats_1 : decode cX1_noteRepeats 1 = .ok (.istore_n 3, 1) := by decide +kernel
theorem dX1_noteRepeats_2 : decode cX1_noteRepeats 2 = .ok (.iload_n 3, 1) := by decide +kernel
theorem dX1_noteRepeats_3 : decode cX1_noteRepeats 3 = .ok (.aload_n 1, 1) := by decide +kernel
theorem dX1_noteRepeats_4 : decode cX1_noteRepeats 4 = .ok (.invokevirtual 81, 3) := by decide +kernel
theorem dX1_noteRepeats_7 : decode cX1_noteRepeats 7 = .ok (.if_icmp .ge 65, 3) := by decide +kernel
theorem dX1_noteRepeats_10 : decode cX1_noteRepeats 10 = .ok (.aload_n 1, 1) := by decide +kernel
theorem dX1_noteRepeats_11 : decode cX1_noteRepeats 11 = .ok (.iload_n 3, 1) := by decide +kernel
theorem dX1_noteRepeats_12 : decode cX1_noteRepeats 12 = .ok (.invokevirtual 48, 3) := by decide +kernel
theorem dX1_noteRepeats_15 : decode cX1_noteRepeats 15 = .ok (.istore 4, 2) := by decide +kernel
theorem dX1_noteRepeats_17 : decode cX1_noteRepeats 17 = .ok (.iconst 0, 1) := by decide +kernel
theorem dX1_noteRepeats_18 : decode cX1_noteRepeats 18 = .ok (.istore 5, 2) := by decide +kernel
theorem dX1_noteRepeats_20 : decode cX1_noteRepeats 20 = .ok (.iload 5, 2) := by decide +kernel
theorem dX1_noteRepeats_22 : decode cX1_noteRepeats 22 = .ok (.iload_n 3, 1) := by decide +kernel
theorem dX1_noteRepeats_23 : decode cX1_noteRepeats 23 = .ok (.if_icmp .ge 43, 3) := by decide +kernel
theorem dX1_noteRepeats_26 : decode cX1_noteRepeats 26 = .ok (.aload_n 2, 1) := by decide +kernel
theorem dX1_noteRepeats_27 : decode cX1_noteRepeats 27 = .ok (.aload_n 1, 1) := by decide +kernel
theorem dX1_noteRepeats_28 : decode cX1_noteRepeats 28 = .ok (.iload 5, 2) := by decide +kernel
theorem dX1_noteRepeats_30 : decode cX1_noteRepeats 30 = .ok (.invokevirtual 48, 3) := by decide +kernel
theorem dX1_noteRepeats_33 : decode cX1_noteRepeats 33 = .ok (.invokevirtual 34, 3) := by decide +kernel
theorem dX1_noteRepeats_36 : decode cX1_noteRepeats 36 = .ok (.aload_n 2, 1) := by decide +kernel
theorem dX1_noteRepeats_37 : decode cX1_noteRepeats 37 = .ok (.iload 4, 2) := by decide +kernel
theorem dX1_noteRepeats_39 : decode cX1_noteRepeats 39 = .ok (.invokevirtual 34, 3) := by decide +kernel
theorem dX1_noteRepeats_42 : decode cX1_noteRepeats 42 = .ok (.lcmp, 1) := by decide +kernel
theorem dX1_noteRepeats_43 : decode cX1_noteRepeats 43 = .ok (.ifCond .ne 17, 3) := by decide +kernel
theorem dX1_noteRepeats_46 : decode cX1_noteRepeats 46 = .ok (.aload_n 0, 1) := by decide +kernel
theorem dX1_noteRepeats_47 : decode cX1_noteRepeats 47 = .ok (.iconst 4, 1) := by decide +kernel
theorem dX1_noteRepeats_48 : decode cX1_noteRepeats 48 = .ok (.aload_n 2, 1) := by decide +kernel
theorem dX1_noteRepeats_49 : decode cX1_noteRepeats 49 = .ok (.getfield 44, 3) := by decide +kernel
theorem dX1_noteRepeats_52 : decode cX1_noteRepeats 52 = .ok (.iload 4, 2) := by decide +kernel
theorem dX1_noteRepeats_54 : decode cX1_noteRepeats 54 = .ok (.invokevirtual 48, 3) := by decide +kernel
theorem dX1_noteRepeats_57 : decode cX1_noteRepeats 57 = .ok (.invokevirtual 54, 3) := by decide +kernel
theorem dX1_noteRepeats_60 : decode cX1_noteRepeats 60 = .ok (.iinc 5 1, 3) := by decide +kernel
theorem dX1_noteRepeats_63 : decode cX1_noteRepeats 63 = .ok (.goto (-43), 3) := by decide +kernel
theorem dX1_noteRepeats_66 : decode cX1_noteRepeats 66 = .ok (.iinc 3 1, 3) := by decide +kernel
theorem dX1_noteRepeats_69 : decode cX1_noteRepeats 69 = .ok (.goto (-67), 3) := by decide +kernel
theorem dX1_noteRepeats_72 : decode cX1_noteRepeats 72 = .ok (.return_, 1) := by decide +kernel
theorem dX1_lookBehind_0 : decode cX1_lookBehind 0 = .ok (.iconst 0, 1) := by decide +kernel
theorem dX1_lookBehind_1 : decode cX1_lookBehind 1 = .ok (.istore_n 3, 1) := by decide +kernel
theorem dX1_lookBehind_2 : decode cX1_lookBehind 2 = .ok (.iload_n 3, 1) := by decide +kernel
theorem dX1_lookBehind_3 : decode cX1_lookBehind 3 = .ok (.aload_n 1, 1) := by decide +kernel
theorem dX1_lookBehind_4 : decode cX1_lookBehind 4 = .ok (.getfield 65, 3) := by decide +kernel
theorem dX1_lookBehind_7 : decode cX1_lookBehind 7 = .ok (.invokevirtual 81, 3) := by decide +kernel
theorem dX1_lookBehind_10 : decode cX1_lookBehind 10 = .ok (.if_icmp .ge 66, 3) := by decide +kernel
theorem dX1_lookBehind_13 : decode cX1_lookBehind 13 = .ok (.aload_n 1, 1) := by decide +kernel
theorem dX1_lookBehind_14 : decode cX1_lookBehind 14 = .ok (.getfield 65, 3) := by decide +kernel
theorem dX1_lookBehind_17 : decode cX1_lookBehind 17 = .ok (.iload_n 3, 1) := by decide +kernel
theorem dX1_lookBehind_18 : decode cX1_lookBehind 18 = .ok (.invokevirtual 48, 3) := by decide +kernel
theorem dX1_lookBehind_21 : decode cX1_lookBehind 21 = .ok (.istore 4, 2) := by decide +kernel
theorem dX1_lookBehind_23 : decode cX1_lookBehind 23 = .ok (.aload_n 2, 1) := by decide +kernel
theorem dX1_lookBehind_24 : decode cX1_lookBehind 24 = .ok (.aload_n 1, 1) := by decide +kernel
theorem dX1_lookBehind_25 : decode cX1_lookBehind 25 = .ok (.getfield 25, 3) := by decide +kernel
theorem dX1_lookBehind_28 : decode cX1_lookBehind 28 = .ok (.iload 4, 2) := by decide +kernel
theorem dX1_lookBehind_30 : decode cX1_lookBehind 30 = .ok (.invokevirtual 34, 3) := by decide +kernel
theorem dX1_lookBehind_33 : decode cX1_lookBehind 33 = .ok (.invokestatic 40, 3) := by decide +kernel
theorem dX1_lookBehind_36 : decode cX1_lookBehind 36 = .ok (.istore 5, 2) := by decide +kernel
theorem dX1_lookBehind_38 : decode cX1_lookBehind 38 = .ok (.aload_n 1, 1) := by decide +kernel
theorem dX1_lookBehind_39 : decode cX1_lookBehind 39 = .ok (.getfield 99, 3) := by decide +kernel
theorem dX1_lookBehind_42 : decode cX1_lookBehind 42 = .ok (.iload 5, 2) := by decide +kernel
theorem dX1_lookBehind_44 : decode cX1_lookBehind 44 = .ok (.invokevirtual 102, 3) := by decide +kernel
theorem dX1_lookBehind_47 : decode cX1_lookBehind 47 = .ok (.iload 5, 2) := by decide +kernel
theorem dX1_lookBehind_49 : decode cX1_lookBehind 49 = .ok (.iconst (-1), 1) := by decide +kernel
theorem dX1_lookBehind_50 : decode cX1_lookBehind 50 = .ok (.if_icmp .ne 20, 3) := by decide +kernel
theorem dX1_lookBehind_53 : decode cX1_lookBehind 53 = .ok (.aload_n 0, 1) := by decide +kernel
theorem dX1_lookBehind_54 : decode cX1_lookBehind 54 = .ok (.iconst 2, 1) := by decide +kernel
theorem dX1_lookBehind_55 : decode cX1_lookBehind 55 = .ok (.aload_n 1, 1) := by decide +kernel
theorem dX1_lookBehind_56 : decode cX1_lookBehind 56 = .ok (.getfield 25, 3) := by decide +kernel
theorem dX1_lookBehind_59 : decode cX1_lookBehind 59 = .ok (.getfield 44, 3) := by decide +kernel
theorem dX1_lookBehind_62 : decode cX1_lookBehind 62 = .ok (.iload 4, 2) := by decide +kernel
theorem dX1_lookBehind_64 : decode cX1_lookBehind 64 = .ok (.invokevirtual 48, 3) := by decide +kernel
theorem dX1_lookBehind_67 : decode cX1_lookBehind 67 = .ok (.invokevirtual 54, 3) := by decide +kernel
theorem dX1_lookBehind_70 : decode cX1_lookBehind 70 = .ok (.iinc 3 1, 3) := by decide +kernel
theorem dX1_lookBehind_73 : decode cX1_lookBehind 73 = .ok (.goto (-71), 3) := by decide +kernel
theorem dX1_lookBehind_76 : decode cX1_lookBehind 76 = .ok (.return_, 1) := by decide +kernel
theorem dX1_columnItem_0 : decode cX1_columnItem 0 = .ok (.aload_n 2, 1) := by decide +kernel
theorem dX1_columnItem_1 : decode cX1_columnItem 1 = .ok (.getfield 25, 3) := by decide +kernel
theorem dX1_columnItem_4 : decode cX1_columnItem 4 = .ok (.astore 4, 2) := by decide +kernel
theorem dX1_columnItem_6 : decode cX1_columnItem 6 = .ok (.iconst (-1), 1) := by decide +kernel
theorem dX1_columnItem_7 : decode cX1_columnItem 7 = .ok (.istore 5, 2) := by decide +kernel
theorem dX1_columnItem_9 : decode cX1_columnItem 9 = .ok (.aload_n 2, 1) := by decide +kernel
theorem dX1_columnItem_10 : decode cX1_columnItem 10 = .ok (.getfield 65, 3) := by decide +kernel
theorem dX1_columnItem_13 : decode cX1_columnItem 13 = .ok (.invokevirtual 81, 3) := by decide +kernel
theorem dX1_columnItem_16 : decode cX1_columnItem 16 = .ok (.iconst 1, 1) := by decide +kernel
theorem dX1_columnItem_17 : decode cX1_columnItem 17 = .ok (.isub, 1) := by decide +kernel
theorem dX1_columnItem_18 : decode cX1_columnItem 18 = .ok (.istore 6, 2) := by decide +kernel
theorem dX1_columnItem_20 : decode cX1_columnItem 20 = .ok (.iload 6, 2) := by decide +kernel
theorem dX1_columnItem_22 : decode cX1_columnItem 22 = .ok (.ifCond .lt 37, 3) := by decide +kernel
theorem dX1_columnItem_25 : decode cX1_columnItem 25 = .ok (.aload 4, 2) := by decide +kernel
theorem dX1_columnItem_27 : decode cX1_columnItem 27 = .ok (.aload_n 2, 1) := by decide +kernel
theorem dX1_columnItem_28 : decode cX1_columnItem 28 = .ok (.getfield 65, 3) := by decide +kernel
theorem dX1_columnItem_31 : decode cX1_columnItem 31 = .ok (.iload 6, 2) := by decide +kernel
theorem dX1_columnItem_33 : decode cX1_columnItem 33 = .ok (.invokevirtual 48, 3) := by decide +kernel
theorem dX1_columnItem_36 : decode cX1_columnItem 36 = .ok (.invokevirtual 34, 3) := by decide +kernel
theorem dX1_columnItem_39 : decode cX1_columnItem 39 = .ok (.aload 4, 2) := by decide +kernel
theorem dX1_columnItem_41 : decode cX1_columnItem 41 = .ok (.iload_n 1, 1) := by decide +kernel
theorem dX1_columnItem_42 : decode cX1_columnItem 42 = .ok (.invokevirtual 34, 3) := by decide +kernel
theorem dX1_columnItem_45 : decode cX1_columnItem 45 = .ok (.lcmp, 1) := by decide +kernel
theorem dX1_columnItem_46 : decode cX1_columnItem 46 = .ok (.ifCond .ne 7, 3) := by decide +kernel
theorem dX1_columnItem_49 : decode cX1_columnItem 49 = .ok (.iload 6, 2) := by decide +kernel
theorem dX1_columnItem_51 : decode cX1_columnItem 51 = .ok (.istore 5, 2) := by decide +kernel
theorem dX1_columnItem_53 : decode cX1_columnItem 53 = .ok (.iinc 6 (-1), 3) := by decide +kernel
theorem dX1_columnItem_56 : decode cX1_columnItem 56 = .ok (.goto (-36), 3) := by decide +kernel
theorem dX1_columnItem_59 : decode cX1_columnItem 59 = .ok (.iload 5, 2) := by decide +kernel
theorem dX1_columnItem_61 : decode cX1_columnItem 61 = .ok (.iconst (-1), 1) := by decide +kernel
theorem dX1_columnItem_62 : decode cX1_columnItem 62 = .ok (.if_icmp .ne 19, 3) := by decide +kernel
theorem dX1_columnItem_65 : decode cX1_columnItem 65 = .ok (.aload_n 0, 1) := by decide +kernel
theorem dX1_columnItem_66 : decode cX1_columnItem 66 = .ok (.iconst 2, 1) := by decide +kernel
theorem dX1_columnItem_67 : decode cX1_columnItem 67 = .ok (.aload 4, 2) := by decide +kernel
theorem dX1_columnItem_69 : decode cX1_columnItem 69 = .ok (.getfield 44, 3) := by decide +kernel
theorem dX1_columnItem_72 : decode cX1_columnItem 72 = .ok (.iload_n 1, 1) := by decide +kernel
theorem dX1_columnItem_73 : decode cX1_columnItem 73 = .ok (.invokevirtual 48, 3) := by decide +kernel
theorem dX1_columnItem_76 : decode cX1_columnItem 76 = .ok (.invokevirtual 54, 3) := by decide +kernel
theorem dX1_columnItem_79 : decode cX1_columnItem 79 = .ok (.iconst 0, 1) := by decide +kernel
theorem dX1_columnItem_80 : decode cX1_columnItem 80 = .ok (.ireturn, 1) := by decide +kernel
theorem dX1_columnItem_81 : decode cX1_columnItem 81 = .ok (.aload_n 2, 1) := by decide +kernel
theorem dX1_columnItem_82 : decode cX1_columnItem 82 = .ok (.getfield 99, 3) := by decide +kernel
theorem dX1_columnItem_85 : decode cX1_columnItem 85 = .ok (.iload 5, 2) := by decide +kernel
theorem dX1_columnItem_87 : decode cX1_columnItem 87 = .ok (.invokevirtual 48, 3) := by decide +kernel
theorem dX1_columnItem_90 : decode cX1_columnItem 90 = .ok (.istore 6, 2) := by decide +kernel
theorem dX1_columnItem_92 : decode cX1_columnItem 92 = .ok (.iload 6, 2) := by decide +kernel
theorem dX1_columnItem_94 : decode cX1_columnItem 94 = .ok (.ifCond .lt 17, 3) := by decide +kernel
theorem dX1_columnItem_97 : decode cX1_columnItem 97 = .ok (.iload 6, 2) := by decide +kernel
theorem dX1_columnItem_99 : decode cX1_columnItem 99 = .ok (.aload_n 3, 1) := by decide +kernel
theorem dX1_columnItem_100 : decode cX1_columnItem 100 = .ok (.arraylength, 1) := by decide +kernel
theorem dX1_columnItem_101 : decode cX1_columnItem 101 = .ok (.if_icmp .ge 10, 3) := by decide +kernel
theorem dX1_columnItem_104 : decode cX1_columnItem 104 = .ok (.aload_n 3, 1) := by decide +kernel
theorem dX1_columnItem_105 : decode cX1_columnItem 105 = .ok (.iload 6, 2) := by decide +kernel
theorem dX1_columnItem_107 : decode cX1_columnItem 107 = .ok (.aaload, 1) := by decide +kernel
theorem dX1_columnItem_108 : decode cX1_columnItem 108 = .ok (.goto 4, 3) := by decide +kernel
theorem dX1_columnItem_111 : decode cX1_columnItem 111 = .ok (.aconst_null, 1) := by decide +kernel
theorem dX1_columnItem_112 : decode cX1_columnItem 112 = .ok (.astore 7, 2) := by decide +kernel
theorem dX1_columnItem_114 : decode cX1_columnItem 114 = .ok (.aload 7, 2) := by decide +kernel
theorem dX1_columnItem_116 : decode cX1_columnItem 116 = .ok (.ifnonnull 5, 3) := by decide +kernel
theorem dX1_columnItem_119 : decode cX1_columnItem 119 = .ok (.iconst 0, 1) := by decide +kernel
theorem dX1_columnItem_120 : decode cX1_columnItem 120 = .ok (.ireturn, 1) := by decide +kernel
theorem dX1_columnItem_121 : decode cX1_columnItem 121 = .ok (.aload 7, 2) := by decide +kernel
theorem dX1_columnItem_123 : decode cX1_columnItem 123 = .ok (.aload 4, 2) := by decide +kernel
theorem dX1_columnItem_125 : decode cX1_columnItem 125 = .ok (.iload_n 1, 1) := by decide +kernel
theorem dX1_columnItem_126 : decode cX1_columnItem 126 = .ok (.iconst 2, 1) := by decide +kernel
theorem dX1_columnItem_127 : decode cX1_columnItem 127 = .ok (.iadd, 1) := by decide +kernel
theorem dX1_columnItem_128 : decode cX1_columnItem 128 = .ok (.invokevirtual 34, 3) := by decide +kernel
theorem dX1_columnItem_131 : decode cX1_columnItem 131 = .ok (.invokevirtual 106, 3) := by decide +kernel
theorem dX1_columnItem_134 : decode cX1_columnItem 134 = .ok (.istore 8, 2) := by decide +kernel
theorem dX1_columnItem_136 : decode cX1_columnItem 136 = .ok (.iload 8, 2) := by decide +kernel
theorem dX1_columnItem_138 : decode cX1_columnItem 138 = .ok (.iconst (-1), 1) := by decide +kernel
theorem dX1_columnItem_139 : decode cX1_columnItem 139 = .ok (.if_icmp .ne 21, 3) := by decide +kernel
theorem dX1_columnItem_142 : decode cX1_columnItem 142 = .ok (.aload_n 0, 1) := by decide +kernel
theorem dX1_columnItem_143 : decode cX1_columnItem 143 = .ok (.iconst 2, 1) := by decide +kernel
theorem dX1_columnItem_144 : decode cX1_columnItem 144 = .ok (.aload 4, 2) := by decide +kernel
theorem dX1_columnItem_146 : decode cX1_columnItem 146 = .ok (.getfield 44, 3) := by decide +kernel
theorem dX1_columnItem_149 : decode cX1_columnItem 149 = .ok (.iload_n 1, 1) := by decide +kernel
theorem dX1_columnItem_150 : decode cX1_columnItem 150 = .ok (.iconst 2, 1) := by decide +kernel
theorem dX1_columnItem_151 : decode cX1_columnItem 151 = .ok (.iadd, 1) := by decide +kernel
theorem dX1_columnItem_152 : decode cX1_columnItem 152 = .ok (.invokevirtual 48, 3) := by decide +kernel
theorem dX1_columnItem_155 : decode cX1_columnItem 155 = .ok (.invokevirtual 54, 3) := by decide +kernel
theorem dX1_columnItem_158 : decode cX1_columnItem 158 = .ok (.iconst 0, 1) := by decide +kernel
theorem dX1_columnItem_159 : decode cX1_columnItem 159 = .ok (.ireturn, 1) := by decide +kernel
theorem dX1_columnItem_160 : decode cX1_columnItem 160 = .ok (.sipush 1000, 3) := by decide +kernel
theorem dX1_columnItem_163 : decode cX1_columnItem 163 = .ok (.iload 6, 2) := by decide +kernel
theorem dX1_columnItem_165 : decode cX1_columnItem 165 = .ok (.bipush 8, 2) := by decide +kernel
theorem dX1_columnItem_167 : decode cX1_columnItem 167 = .ok (.imul, 1) := by decide +kernel
theorem dX1_columnItem_168 : decode cX1_columnItem 168 = .ok (.iadd, 1) := by decide +kernel
theorem dX1_columnItem_169 : decode cX1_columnItem 169 = .ok (.iload 8, 2) := by decide +kernel
theorem dX1_columnItem_171 : decode cX1_columnItem 171 = .ok (.iadd, 1) := by decide +kernel
theorem dX1_columnItem_172 : decode cX1_columnItem 172 = .ok (.ireturn, 1) := by decide +kernel
theorem dX1_noteTypes_0 : decode cX1_noteTypes 0 = .ok (.iconst 0, 1) := by decide +kernel
theorem dX1_noteTypes_1 : decode cX1_noteTypes 1 = .ok (.istore_n 3, 1) := by decide +kernel
theorem dX1_noteTypes_2 : decode cX1_noteTypes 2 = .ok (.iload_n 3, 1) := by decide +kernel
theorem dX1_noteTypes_3 : decode cX1_noteTypes 3 = .ok (.bipush 6, 2) := by decide +kernel
theorem dX1_noteTypes_5 : decode cX1_noteTypes 5 = .ok (.if_icmp .gt 67, 3) := by decide +kernel
theorem dX1_noteTypes_8 : decode cX1_noteTypes 8 = .ok (.aload_n 0, 1) := by decide +kernel
theorem dX1_noteTypes_9 : decode cX1_noteTypes 9 = .ok (.getfield 12, 3) := by decide +kernel
theorem dX1_noteTypes_12 : decode cX1_noteTypes 12 = .ok (.aload_n 1, 1) := by decide +kernel
theorem dX1_noteTypes_13 : decode cX1_noteTypes 13 = .ok (.getfield 72, 3) := by decide +kernel
theorem dX1_noteTypes_16 : decode cX1_noteTypes 16 = .ok (.iload_n 3, 1) := by decide +kernel
theorem dX1_noteTypes_17 : decode cX1_noteTypes 17 = .ok (.aload_n 2, 1) := by decide +kernel
theorem dX1_noteTypes_18 : decode cX1_noteTypes 18 = .ok (.invokevirtual 112, 3) := by decide +kernel
theorem dX1_noteTypes_21 : decode cX1_noteTypes 21 = .ok (.istore 4, 2) := by decide +kernel
theorem dX1_noteTypes_23 : decode cX1_noteTypes 23 = .ok (.iload_n 3, 1) := by decide +kernel
theorem dX1_noteTypes_24 : decode cX1_noteTypes 24 = .ok (.aload_n 1, 1) := by decide +kernel
theorem dX1_noteTypes_25 : decode cX1_noteTypes 25 = .ok (.getfield 58, 3) := by decide +kernel
theorem dX1_noteTypes_28 : decode cX1_noteTypes 28 = .ok (.invokevirtual 81, 3) := by decide +kernel
theorem dX1_noteTypes_31 : decode cX1_noteTypes 31 = .ok (.if_icmp .ge 12, 3) := by decide +kernel
theorem dX1_noteTypes_34 : decode cX1_noteTypes 34 = .ok (.aload_n 1, 1) := by decide +kernel
theorem dX1_noteTypes_35 : decode cX1_noteTypes 35 = .ok (.getfield 116, 3) := by decide +kernel
theorem dX1_noteTypes_38 : decode cX1_noteTypes 38 = .ok (.iload 4, 2) := by decide +kernel
theorem dX1_noteTypes_40 : decode cX1_noteTypes 40 = .ok (.invokevirtual 102, 3) := by decide +kernel
theorem dX1_noteTypes_43 : decode cX1_noteTypes 43 = .ok (.aload_n 0, 1) := by decide +kernel
theorem dX1_noteTypes_44 : decode cX1_noteTypes 44 = .ok (.getfield 12, 3) := by decide +kernel
theorem dX1_noteTypes_47 : decode cX1_noteTypes 47 = .ok (.getfield 119, 3) := by decide +kernel
theorem dX1_noteTypes_50 : decode cX1_noteTypes 50 = .ok (.iconst (-1), 1) := by decide +kernel
theorem dX1_noteTypes_51 : decode cX1_noteTypes 51 = .ok (.if_icmp .eq 15, 3) := by decide +kernel
theorem dX1_noteTypes_54 : decode cX1_noteTypes 54 = .ok (.aload_n 0, 1) := by decide +kernel
theorem dX1_noteTypes_55 : decode cX1_noteTypes 55 = .ok (.iconst 3, 1) := by decide +kernel
theorem dX1_noteTypes_56 : decode cX1_noteTypes 56 = .ok (.aload_n 0, 1) := by decide +kernel
theorem dX1_noteTypes_57 : decode cX1_noteTypes 57 = .ok (.getfield 12, 3) := by decide +kernel
theorem dX1_noteTypes_60 : decode cX1_noteTypes 60 = .ok (.getfield 119, 3) := by decide +kernel
theorem dX1_noteTypes_63 : decode cX1_noteTypes 63 = .ok (.invokevirtual 54, 3) := by decide +kernel
theorem dX1_noteTypes_66 : decode cX1_noteTypes 66 = .ok (.iinc 3 1, 3) := by decide +kernel
theorem dX1_noteTypes_69 : decode cX1_noteTypes 69 = .ok (.goto (-67), 3) := by decide +kernel
theorem dX1_noteTypes_72 : decode cX1_noteTypes 72 = .ok (.return_, 1) := by decide +kernel
theorem dX2_init_0 : decode cX2_init 0 = .ok (.aload_n 0, 1) := by decide +kernel
theorem dX2_init_1 : decode cX2_init 1 = .ok (.invokespecial 3, 3) := by decide +kernel
theorem dX2_init_4 : decode cX2_init 4 = .ok (.aload_n 0, 1) := by decide +kernel
theorem dX2_init_5 : decode cX2_init 5 = .ok (.bipush 16, 2) := by decide +kernel
theorem dX2_init_7 : decode cX2_init 7 = .ok (.newarray .int, 2) := by decide +kernel
theorem dX2_init_9 : decode cX2_init 9 = .ok (.putfield 9, 3) := by decide +kernel
theorem dX2_init_12 : decode cX2_init 12 = .ok (.return_, 1) := by decide +kernel
theorem dX2_clear_0 : decode cX2_clear 0 = .ok (.iconst 0, 1) := by decide +kernel
theorem dX2_clear_1 : decode cX2_clear 1 = .ok (.istore_n 1, 1) := by decide +kernel
theorem dX2_clear_2 : decode cX2_clear 2 = .ok (.iload_n 1, 1) := by decide +kernel
theorem dX2_clear_3 : decode cX2_clear 3 = .ok (.aload_n 0, 1) := by decide +kernel
theorem dX2_clear_4 : decode cX2_clear 4 = .ok (.getfield 9, 3) := by decide +kernel
theorem dX2_clear_7 : decode cX2_clear 7 = .ok (.arraylength, 1) := by decide +kernel
theorem dX2_clear_8 : decode cX2_clear 8 = .ok (.if_icmp .ge 16, 3) := by decide +kernel
theorem dX2_clear_11 : decode cX2_clear 11 = .ok (.aload_n 0, 1) := by decide +kernel
theorem dX2_clear_12 : decode cX2_clear 12 = .ok (.getfield 9, 3) := by decide +kernel
theorem dX2_clear_15 : decode cX2_clear 15 = .ok (.iload_n 1, 1) := by decide +kernel
theorem dX2_clear_16 : decode cX2_clear 16 = .ok (.iconst 0, 1) := by decide +kernel
theorem dX2_clear_17 : decode cX2_clear 17 = .ok (.iastore, 1) := by decide +kernel
theorem dX2_clear_18 : decode cX2_clear 18 = .ok (.iinc 1 1, 3) := by decide +kernel
theorem dX2_clear_21 : decode cX2_clear 21 = .ok (.goto (-19), 3) := by decide +kernel
theorem dX2_clear_24 : decode cX2_clear 24 = .ok (.return_, 1) := by decide +kernel
theorem dX2_bitsOf_0 : decode cX2_bitsOf 0 = .ok (.iload_n 1, 1) := by decide +kernel
theorem dX2_bitsOf_1 : decode cX2_bitsOf 1 = .ok (.ifCond .lt 21, 3) := by decide +kernel
theorem dX2_bitsOf_4 : decode cX2_bitsOf 4 = .ok (.iload_n 1, 1) := by decide +kernel
theorem dX2_bitsOf_5 : decode cX2_bitsOf 5 = .ok (.aload_n 0, 1) := by decide +kernel
theorem dX2_bitsOf_6 : decode cX2_bitsOf 6 = .ok (.getfield 9, 3) := by decide +kernel
theorem dX2_bitsOf_9 : decode cX2_bitsOf 9 = .ok (.arraylength, 1) := by decide +kernel
theorem dX2_bitsOf_10 : decode cX2_bitsOf 10 = .ok (.if_icmp .ge 12, 3) := by decide +kernel
theorem dX2_bitsOf_13 : decode cX2_bitsOf 13 = .ok (.aload_n 0, 1) := by decide +kernel
theorem dX2_bitsOf_14 : decode cX2_bitsOf 14 = .ok (.getfield 9, 3) := by decide +kernel
theorem dX2_bitsOf_17 : decode cX2_bitsOf 17 = .ok (.iload_n 1, 1) := by decide +kernel
theorem dX2_bitsOf_18 : decode cX2_bitsOf 18 = .ok (.iaload, 1) := by decide +kernel
theorem dX2_bitsOf_19 : decode cX2_bitsOf 19 = .ok (.goto 4, 3) := by decide +kernel
theorem dX2_bitsOf_22 : decode cX2_bitsOf 22 = .ok (.iconst 0, 1) := by decide +kernel
theorem dX2_bitsOf_23 : decode cX2_bitsOf 23 = .ok (.ireturn, 1) := by decide +kernel
theorem dX2_has_0 : decode cX2_has 0 = .ok (.iload_n 1, 1) := by decide +kernel
theorem dX2_has_1 : decode cX2_has 1 = .ok (.ifCond .lt 25, 3) := by decide +kernel
theorem dX2_has_4 : decode cX2_has 4 = .ok (.aload_n 0, 1) := by decide +kernel
theorem dX2_has_5 : decode cX2_has 5 = .ok (.iload_n 1, 1) := by decide +kernel
theorem dX2_has_6 : decode cX2_has 6 = .ok (.bipush 8, 2) := by decide +kernel
theorem dX2_has_8 : decode cX2_has 8 = .ok (.idiv, 1) := by decide +kernel
theorem dX2_has_9 : decode cX2_has 9 = .ok (.invokevirtual 15, 3) := by decide +kernel
theorem dX2_has_12 : decode cX2_has 12 = .ok (.iload_n 1, 1) := by decide +kernel
theorem dX2_has_13 : decode cX2_has 13 = .ok (.bipush 8, 2) := by decide +kernel
theorem dX2_has_15 : decode cX2_has 15 = .ok (.irem, 1) := by decide +kernel
theorem dX2_has_16 : decode cX2_has 16 = .ok (.ishr, 1) := by decide +kernel
theorem dX2_has_17 : decode cX2_has 17 = .ok (.iconst 1, 1) := by decide +kernel
theorem dX2_has_18 : decode cX2_has 18 = .ok (.iand, 1) := by decide +kernel
theorem dX2_has_19 : decode cX2_has 19 = .ok (.ifCond .eq 7, 3) := by decide +kernel
theorem dX2_has_22 : decode cX2_has 22 = .ok (.iconst 1, 1) := by decide +kernel
theorem dX2_has_23 : decode cX2_has 23 = .ok (.goto 4, 3) := by decide +kernel
theorem dX2_has_26 : decode cX2_has 26 = .ok (.iconst 0, 1) := by decide +kernel
theorem dX2_has_27 : decode cX2_has 27 = .ok (.ireturn, 1) := by decide +kernel
theorem dX2_add_0 : decode cX2_add 0 = .ok (.iload_n 1, 1) := by decide +kernel
theorem dX2_add_1 : decode cX2_add 1 = .ok (.ifCond .lt 28, 3) := by decide +kernel
theorem dX2_add_4 : decode cX2_add 4 = .ok (.iload_n 1, 1) := by decide +kernel
theorem dX2_add_5 : decode cX2_add 5 = .ok (.sipush 128, 3) := by decide +kernel
theorem dX2_add_8 : decode cX2_add 8 = .ok (.if_icmp .ge 21, 3) := by decide +kernel
theorem dX2_add_11 : decode cX2_add 11 = .ok (.aload_n 0, 1) := by decide +kernel
theorem dX2_add_12 : decode cX2_add 12 = .ok (.getfield 9, 3) := by decide +kernel
theorem dX2_add_15 : decode cX2_add 15 = .ok (.iload_n 1, 1) := by decide +kernel
theorem dX2_add_16 : decode cX2_add 16 = .ok (.bipush 8, 2) := by decide +kernel
theorem dX2_add_18 : decode cX2_add 18 = .ok (.idiv, 1) := by decide +kernel
theorem dX2_add_19 : decode cX2_add 19 = .ok (.dup2, 1) := by decide +kernel
theorem dX2_add_20 : decode cX2_add 20 = .ok (.iaload, 1) := by decide +kernel
theorem dX2_add_21 : decode cX2_add 21 = .ok (.iconst 1, 1) := by decide +kernel
theorem dX2_add_22 : decode cX2_add 22 = .ok (.iload_n 1, 1) := by decide +kernel
theorem dX2_add_23 : decode cX2_add 23 = .ok (.bipush 8, 2) := by decide +kernel
theorem dX2_add_25 : decode cX2_add 25 = .ok (.irem, 1) := by decide +kernel
theorem dX2_add_26 : decode cX2_add 26 = .ok (.ishl, 1) := by decide +kernel
theorem dX2_add_27 : decode cX2_add 27 = .ok (.ior, 1) := by decide +kernel
theorem dX2_add_28 : decode cX2_add 28 = .ok (.iastore, 1) := by decide +kernel
theorem dX2_add_29 : decode cX2_add 29 = .ok (.return_, 1) := by decide +kernel
theorem dX2_remove_0 : decode cX2_remove 0 = .ok (.iload_n 1, 1) := by decide +kernel
theorem dX2_remove_1 : decode cX2_remove 1 = .ok (.ifCond .lt 30, 3) := by decide +kernel
theorem dX2_remove_4 : decode cX2_remove 4 = .ok (.iload_n 1, 1) := by decide +kernel
theorem dX2_remove_5 : decode cX2_remove 5 = .ok (.sipush 128, 3) := by decide +kernel
theorem dX2_remove_8 : decode cX2_remove 8 = .ok (.if_icmp .ge 23, 3) := by decide +kernel
theorem dX2_remove_11 : decode cX2_remove 11 = .ok (.aload_n 0, 1) := by decide +kernel
theorem dX2_remove_12 : decode cX2_remove 12 = .ok (.getfield 9, 3) := by decide +kernel
theorem dX2_remove_15 : decode cX2_remove 15 = .ok (.iload_n 1, 1) := by decide +kernel
theorem dX2_remove_16 : decode cX2_remove 16 = .ok (.bipush 8, 2) := by decide +kernel
theorem dX2_remove_18 : decode cX2_remove 18 = .ok (.idiv, 1) := by decide +kernel
theorem dX2_remove_19 : decode cX2_remove 19 = .ok (.dup2, 1) := by decide +kernel
theorem dX2_remove_20 : decode cX2_remove 20 = .ok (.iaload, 1) := by decide +kernel
theorem dX2_remove_21 : decode cX2_remove 21 = .ok (.iconst 1, 1) := by decide +kernel
theorem dX2_remove_22 : decode cX2_remove 22 = .ok (.iload_n 1, 1) := by decide +kernel
theorem dX2_remove_23 : decode cX2_remove 23 = .ok (.bipush 8, 2) := by decide +kernel
theorem dX2_remove_25 : decode cX2_remove 25 = .ok (.irem, 1) := by decide +kernel
theorem dX2_remove_26 : decode cX2_remove 26 = .ok (.ishl, 1) := by decide +kernel
theorem dX2_remove_27 : decode cX2_remove 27 = .ok (.iconst (-1), 1) := by decide +kernel
theorem dX2_remove_28 : decode cX2_remove 28 = .ok (.ixor, 1) := by decide +kernel
theorem dX2_remove_29 : decode cX2_remove 29 = .ok (.iand, 1) := by decide +kernel
theorem dX2_remove_30 : decode cX2_remove 30 = .ok (.iastore, 1) := by decide +kernel
theorem dX2_remove_31 : decode cX2_remove 31 = .ok (.return_, 1) := by decide +kernel
theorem dX3_init_0 : decode cX3_init 0 = .ok (.aload_n 0, 1) := by decide +kernel
theorem dX3_init_1 : decode cX3_init 1 = .ok (.invokespecial 3, 3) := by decide +kernel
theorem dX3_init_4 : decode cX3_init 4 = .ok (.aload_n 0, 1) := by decide +kernel
theorem dX3_init_5 : decode cX3_init 5 = .ok (.new 9, 3) := by decide +kernel
theorem dX3_init_8 : decode cX3_init 8 = .ok (.dup, 1) := by decide +kernel
theorem dX3_init_9 : decode cX3_init 9 = .ok (.invokespecial 11, 3) := by decide +kernel
theorem dX3_init_12 : decode cX3_init 12 = .ok (.putfield 12, 3) := by decide +kernel
theorem dX3_init_15 : decode cX3_init 15 = .ok (.aload_n 0, 1) := by decide +kernel
theorem dX3_init_16 : decode cX3_init 16 = .ok (.new 18, 3) := by decide +kernel
theorem dX3_init_19 : decode cX3_init 19 = .ok (.dup, 1) := by decide +kernel
theorem dX3_init_20 : decode cX3_init 20 = .ok (.bipush 6, 2) := by decide +kernel
theorem dX3_init_22 : decode cX3_init 22 = .ok (.invokespecial 20, 3) := by decide +kernel
theorem dX3_init_25 : decode cX3_init 25 = .ok (.putfield 23, 3) := by decide +kernel
theorem dX3_init_28 : decode cX3_init 28 = .ok (.aload_n 0, 1) := by decide +kernel
theorem dX3_init_29 : decode cX3_init 29 = .ok (.new 18, 3) := by decide +kernel
theorem dX3_init_32 : decode cX3_init 32 = .ok (.dup, 1) := by decide +kernel
theorem dX3_init_33 : decode cX3_init 33 = .ok (.bipush 6, 2) := by decide +kernel
theorem dX3_init_35 : decode cX3_init 35 = .ok (.invokespecial 20, 3) := by decide +kernel
theorem dX3_init_38 : decode cX3_init 38 = .ok (.putfield 27, 3) := by decide +kernel
theorem dX3_init_41 : decode cX3_init 41 = .ok (.aload_n 0, 1) := by decide +kernel
theorem dX3_init_42 : decode cX3_init 42 = .ok (.new 18, 3) := by decide +kernel
theorem dX3_init_45 : decode cX3_init 45 = .ok (.dup, 1) := by decide +kernel
theorem dX3_init_46 : decode cX3_init 46 = .ok (.iconst 3, 1) := by decide +kernel
theorem dX3_init_47 : decode cX3_init 47 = .ok (.invokespecial 20, 3) := by decide +kernel
theorem dX3_init_50 : decode cX3_init 50 = .ok (.putfield 30, 3) := by decide +kernel
theorem dX3_init_53 : decode cX3_init 53 = .ok (.aload_n 0, 1) := by decide +kernel
theorem dX3_init_54 : decode cX3_init 54 = .ok (.new 18, 3) := by decide +kernel
theorem dX3_init_57 : decode cX3_init 57 = .ok (.dup, 1) := by decide +kernel
theorem dX3_init_58 : decode cX3_init 58 = .ok (.iconst 3, 1) := by decide +kernel
theorem dX3_init_59 : decode cX3_init 59 = .ok (.invokespecial 20, 3) := by decide +kernel
theorem dX3_init_62 : decode cX3_init 62 = .ok (.putfield 33, 3) := by decide +kernel
theorem dX3_init_65 : decode cX3_init 65 = .ok (.aload_n 0, 1) := by decide +kernel
theorem dX3_init_66 : decode cX3_init 66 = .ok (.new 36, 3) := by decide +kernel
theorem dX3_init_69 : decode cX3_init 69 = .ok (.dup, 1) := by decide +kernel
theorem dX3_init_70 : decode cX3_init 70 = .ok (.sipush 400, 3) := by decide +kernel
theorem dX3_init_73 : decode cX3_init 73 = .ok (.invokespecial 38, 3) := by decide +kernel
theorem dX3_init_76 : decode cX3_init 76 = .ok (.putfield 39, 3) := by decide +kernel
theorem dX3_init_79 : decode cX3_init 79 = .ok (.return_, 1) := by decide +kernel
theorem dX3_clear_0 : decode cX3_clear 0 = .ok (.aload_n 0, 1) := by decide +kernel
theorem dX3_clear_1 : decode cX3_clear 1 = .ok (.getfield 23, 3) := by decide +kernel
theorem dX3_clear_4 : decode cX3_clear 4 = .ok (.iconst 0, 1) := by decide +kernel
theorem dX3_clear_5 : decode cX3_clear 5 = .ok (.invokevirtual 43, 3) := by decide +kernel
theorem dX3_clear_8 : decode cX3_clear 8 = .ok (.aload_n 0, 1) := by decide +kernel
theorem dX3_clear_9 : decode cX3_clear 9 = .ok (.getfield 27, 3) := by decide +kernel
theorem dX3_clear_12 : decode cX3_clear 12 = .ok (.iconst 0, 1) := by decide +kernel
theorem dX3_clear_13 : decode cX3_clear 13 = .ok (.invokevirtual 43, 3) := by decide +kernel
theorem dX3_clear_16 : decode cX3_clear 16 = .ok (.aload_n 0, 1) := by decide +kernel
theorem dX3_clear_17 : decode cX3_clear 17 = .ok (.getfield 30, 3) := by decide +kernel
theorem dX3_clear_20 : decode cX3_clear 20 = .ok (.iconst 0, 1) := by decide +kernel
theorem dX3_clear_21 : decode cX3_clear 21 = .ok (.invokevirtual 43, 3) := by decide +kernel
theorem dX3_clear_24 : decode cX3_clear 24 = .ok (.aload_n 0, 1) := by decide +kernel
theorem dX3_clear_25 : decode cX3_clear 25 = .ok (.getfield 33, 3) := by decide +kernel
theorem dX3_clear_28 : decode cX3_clear 28 = .ok (.iconst 0, 1) := by decide +kernel
theorem dX3_clear_29 : decode cX3_clear 29 = .ok (.invokevirtual 43, 3) := by decide +kernel
theorem dX3_clear_32 : decode cX3_clear 32 = .ok (.aload_n 0, 1) := by decide +kernel
theorem dX3_clear_33 : decode cX3_clear 33 = .ok (.getfield 39, 3) := by decide +kernel
theorem dX3_clear_36 : decode cX3_clear 36 = .ok (.invokevirtual 46, 3) := by decide +kernel
theorem dX3_clear_39 : decode cX3_clear 39 = .ok (.aload_n 0, 1) := by decide +kernel
theorem dX3_clear_40 : decode cX3_clear 40 = .ok (.iconst 0, 1) := by decide +kernel
theorem dX3_clear_41 : decode cX3_clear 41 = .ok (.putfield 49, 3) := by decide +kernel
theorem dX3_clear_44 : decode cX3_clear 44 = .ok (.aload_n 0, 1) := by decide +kernel
theorem dX3_clear_45 : decode cX3_clear 45 = .ok (.iconst 0, 1) := by decide +kernel
theorem dX3_clear_46 : decode cX3_clear 46 = .ok (.putfield 53, 3) := by decide +kernel
theorem dX3_clear_49 : decode cX3_clear 49 = .ok (.aload_n 0, 1) := by decide +kernel
theorem dX3_clear_50 : decode cX3_clear 50 = .ok (.iconst 0, 1) := by decide +kernel
theorem dX3_clear_51 : decode cX3_clear 51 = .ok (.putfield 56, 3) := by decide +kernel
theorem dX3_clear_54 : decode cX3_clear 54 = .ok (.return_, 1) := by decide +kernel
theorem dX3_columnNames_0 : decode cX3_columnNames 0 = .ok (.aload_n 0, 1) := by decide +kernel
theorem dX3_columnNames_1 : decode cX3_columnNames 1 = .ok (.getfield 23, 3) := by decide +kernel
theorem dX3_columnNames_4 : decode cX3_columnNames 4 = .ok (.invokevirtual 59, 3) := by decide +kernel
theorem dX3_columnNames_7 : decode cX3_columnNames 7 = .ok (.iconst 0, 1) := by decide +kernel
theorem dX3_columnNames_8 : decode cX3_columnNames 8 = .ok (.invokestatic 63, 3) := by decide +kernel
theorem dX3_columnNames_11 : decode cX3_columnNames 11 = .ok (.newarray .long, 2) := by decide +kernel
theorem dX3_columnNames_13 : decode cX3_columnNames 13 = .ok (.astore_n 1, 1) := by decide +kernel
theorem dX3_columnNames_14 : decode cX3_columnNames 14 = .ok (.iconst 0, 1) := by decide +kernel
theorem dX3_columnNames_15 : decode cX3_columnNames 15 = .ok (.istore_n 2, 1) := by decide +kernel
theorem dX3_columnNames_16 : decode cX3_columnNames 16 = .ok (.iload_n 2, 1) := by decide +kernel
theorem dX3_columnNames_17 : decode cX3_columnNames 17 = .ok (.aload_n 1, 1) := by decide +kernel
theorem dX3_columnNames_18 : decode cX3_columnNames 18 = .ok (.arraylength, 1) := by decide +kernel
theorem dX3_columnNames_19 : decode cX3_columnNames 19 = .ok (.if_icmp .ge 27, 3) := by decide +kernel
theorem dX3_columnNames_22 : decode cX3_columnNames 22 = .ok (.aload_n 1, 1) := by decide +kernel
theorem dX3_columnNames_23 : decode cX3_columnNames 23 = .ok (.iload_n 2, 1) := by decide +kernel
theorem dX3_columnNames_24 : decode cX3_columnNames 24 = .ok (.aload_n 0, 1) := by decide +kernel
theorem dX3_columnNames_25 : decode cX3_columnNames 25 = .ok (.getfield 12, 3) := by decide +kernel
theorem dX3_columnNames_28 : decode cX3_columnNames 28 = .ok (.aload_n 0, 1) := by decide +kernel
theorem dX3_columnNames_29 : decode cX3_columnNames 29 = .ok (.getfield 23, 3) := by decide +kernel
theorem dX3_columnNames_32 : decode cX3_columnNames 32 = .ok (.iload_n 2, 1) := by decide +kernel
theorem dX3_columnNames_33 : decode cX3_columnNames 33 = .ok (.invokevirtual 69, 3) := by decide +kernel
theorem dX3_columnNames_36 : decode cX3_columnNames 36 = .ok (.invokevirtual 73, 3) := by decide +kernel
theorem dX3_columnNames_39 : decode cX3_columnNames 39 = .ok (.lastore, 1) := by decide +kernel
theorem dX3_columnNames_40 : decode cX3_columnNames 40 = .ok (.iinc 2 1, 3) := by decide +kernel
theorem dX3_columnNames_43 : decode cX3_columnNames 43 = .ok (.goto (-27), 3) := by decide +kernel
theorem dX3_columnNames_46 : decode cX3_columnNames 46 = .ok (.aload_n 1, 1) := by decide +kernel
theorem dX3_columnNames_47 : decode cX3_columnNames 47 = .ok (.areturn, 1) := by decide +kernel
theorem dX3_wording_0 : decode cX3_wording 0 = .ok (.aload_n 0, 1) := by decide +kernel
theorem dX3_wording_1 : decode cX3_wording 1 = .ok (.getfield 49, 3) := by decide +kernel
theorem dX3_wording_4 : decode cX3_wording 4 = .ok (.ifCond .ne 14, 3) := by decide +kernel
theorem dX3_wording_7 : decode cX3_wording 7 = .ok (.new 18, 3) := by decide +kernel
theorem dX3_wording_10 : decode cX3_wording 10 = .ok (.dup, 1) := by decide +kernel
theorem dX3_wording_11 : decode cX3_wording 11 = .ok (.iconst 0, 1) := by decide +kernel
theorem dX3_wording_12 : decode cX3_wording 12 = .ok (.invokespecial 20, 3) := by decide +kernel
theorem dX3_wording_15 : decode cX3_wording 15 = .ok (.goto 14, 3) := by decide +kernel
theorem dX3_wording_18 : decode cX3_wording 18 = .ok (.aload_n 0, 1) := by decide +kernel
theorem dX3_wording_19 : decode cX3_wording 19 = .ok (.getfield 12, 3) := by decide +kernel
theorem dX3_wording_22 : decode cX3_wording 22 = .ok (.aload_n 0, 1) := by decide +kernel
theorem dX3_wording_23 : decode cX3_wording 23 = .ok (.getfield 56, 3) := by decide +kernel
theorem dX3_wording_26 : decode cX3_wording 26 = .ok (.invokevirtual 77, 3) := by decide +kernel
theorem dX3_wording_29 : decode cX3_wording 29 = .ok (.areturn, 1) := by decide +kernel
theorem dX4_init_0 : decode cX4_init 0 = .ok (.aload_n 0, 1) := by decide +kernel
theorem dX4_init_1 : decode cX4_init 1 = .ok (.invokespecial 3, 3) := by decide +kernel
theorem dX4_init_4 : decode cX4_init 4 = .ok (.aload_n 0, 1) := by decide +kernel
theorem dX4_init_5 : decode cX4_init 5 = .ok (.new 9, 3) := by decide +kernel
theorem dX4_init_8 : decode cX4_init 8 = .ok (.dup, 1) := by decide +kernel
theorem dX4_init_9 : decode cX4_init 9 = .ok (.invokespecial 11, 3) := by decide +kernel
theorem dX4_init_12 : decode cX4_init 12 = .ok (.putfield 12, 3) := by decide +kernel
theorem dX4_init_15 : decode cX4_init 15 = .ok (.return_, 1) := by decide +kernel
theorem dX4_readStatement_0 : decode cX4_readStatement 0 = .ok (.aload_n 0, 1) := by decide +kernel
theorem dX4_readStatement_1 : decode cX4_readStatement 1 = .ok (.iconst 0, 1) := by decide +kernel
theorem dX4_readStatement_2 : decode cX4_readStatement 2 = .ok (.putfield 18, 3) := by decide +kernel
theorem dX4_readStatement_5 : decode cX4_readStatement 5 = .ok (.aload_n 0, 1) := by decide +kernel
theorem dX4_readStatement_6 : decode cX4_readStatement 6 = .ok (.iconst 0, 1) := by decide +kernel
theorem dX4_readStatement_7 : decode cX4_readStatement 7 = .ok (.putfield 22, 3) := by decide +kernel
theorem dX4_readStatement_10 : decode cX4_readStatement 10 = .ok (.aload_n 0, 1) := by decide +kernel
theorem dX4_readStatement_11 : decode cX4_readStatement 11 = .ok (.getfield 12, 3) := by decide +kernel
theorem dX4_readStatement_14 : decode cX4_readStatement 14 = .ok (.invokevirtual 25, 3) := by decide +kernel
theorem dX4_readStatement_17 : decode cX4_readStatement 17 = .ok (.aload_n 0, 1) := by decide +kernel
theorem dX4_readStatement_18 : decode cX4_readStatement 18 = .ok (.invokevirtual 28, 3) := by decide +kernel
theorem dX4_readStatement_21 : decode cX4_readStatement 21 = .ok (.ifCond .ne 5, 3) := by decide +kernel
theorem dX4_readStatement_24 : decode cX4_readStatement 24 = .ok (.iconst 0, 1) := by decide +kernel
theorem dX4_readStatement_25 : decode cX4_readStatement 25 = .ok (.ireturn, 1) := by decide +kernel
theorem dX4_readStatement_26 : decode cX4_readStatement 26 = .ok (.aload_n 0, 1) := by decide +kernel
theorem dX4_readStatement_27 : decode cX4_readStatement 27 = .ok (.getfield 12, 3) := by decide +kernel
theorem dX4_readStatement_30 : decode cX4_readStatement 30 = .ok (.getfield 32, 3) := by decide +kernel
theorem dX4_readStatement_33 : decode cX4_readStatement 33 = .ok (.ifCond .ne 10, 3) := by decide +kernel
theorem dX4_readStatement_36 : decode cX4_readStatement 36 = .ok (.aload_n 0, 1) := by decide +kernel
theorem dX4_readStatement_37 : decode cX4_readStatement 37 = .ok (.invokevirtual 35, 3) := by decide +kernel
theorem dX4_readStatement_40 : decode cX4_readStatement 40 = .ok (.goto 38, 3) := by decide +kernel
theorem dX4_readStatement_43 : decode cX4_readStatement 43 = .ok (.aload_n 0, 1) := by decide +kernel
theorem dX4_readStatement_44 : decode cX4_readStatement 44 = .ok (.bipush 61, 2) := by decide +kernel
theorem dX4_readStatement_46 : decode cX4_readStatement 46 = .ok (.invokevirtual 38, 3) := by decide +kernel
theorem dX4_readStatement_49 : decode cX4_readStatement 49 = .ok (.ifCond .eq 28, 3) := by decide +kernel
theorem dX4_readStatement_52 : decode cX4_readStatement 52 = .ok (.aload_n 0, 1) := by decide +kernel
theorem dX4_readStatement_53 : decode cX4_readStatement 53 = .ok (.invokevirtual 42, 3) := by decide +kernel
theorem dX4_readStatement_56 : decode cX4_readStatement 56 = .ok (.ifCond .eq 21, 3) := by decide +kernel
theorem dX4_readStatement_59 : decode cX4_readStatement 59 = .ok (.aload_n 0, 1) := by decide +kernel
theorem dX4_readStatement_60 : decode cX4_readStatement 60 = .ok (.invokevirtual 45, 3) := by decide +kernel
theorem dX4_readStatement_63 : decode cX4_readStatement 63 = .ok (.ifCond .eq 14, 3) := by decide +kernel
theorem dX4_readStatement_66 : decode cX4_readStatement 66 = .ok (.aload_n 0, 1) := by decide +kernel
theorem dX4_readStatement_67 : decode cX4_readStatement 67 = .ok (.invokevirtual 48, 3) := by decide +kernel
theorem dX4_readStatement_70 : decode cX4_readStatement 70 = .ok (.ifCond .eq 7, 3) := by decide +kernel
theorem dX4_readStatement_73 : decode cX4_readStatement 73 = .ok (.iconst 1, 1) := by decide +kernel
theorem dX4_readStatement_74 : decode cX4_readStatement 74 = .ok (.goto 4, 3) := by decide +kernel
theorem dX4_readStatement_77 : decode cX4_readStatement 77 = .ok (.iconst 0, 1) := by decide +kernel
theorem dX4_readStatement_78 : decode cX4_readStatement 78 = .ok (.istore_n 1, 1) := by decide +kernel
theorem dX4_readStatement_79 : decode cX4_readStatement 79 = .ok (.iload_n 1, 1) := by decide +kernel
theorem dX4_readStatement_80 : decode cX4_readStatement 80 = .ok (.ifCond .eq 39, 3) := by decide +kernel
theorem dX4_readStatement_83 : decode cX4_readStatement 83 = .ok (.aload_n 0, 1) := by decide +kernel
theorem dX4_readStatement_84 : decode cX4_readStatement 84 = .ok (.bipush 59, 2) := by decide +kernel
theorem dX4_readStatement_86 : decode cX4_readStatement 86 = .ok (.invokevirtual 38, 3) := by decide +kernel
theorem dX4_readStatement_89 : decode cX4_readStatement 89 = .ok (.ifCond .eq 30, 3) := by decide +kernel
theorem dX4_readStatement_92 : decode cX4_readStatement 92 = .ok (.aload_n 0, 1) := by decide +kernel
theorem dX4_readStatement_93 : decode cX4_readStatement 93 = .ok (.getfield 12, 3) := by decide +kernel
theorem dX4_readStatement_96 : decode cX4_readStatement 96 = .ok (.getfield 51, 3) := by decide +kernel
theorem dX4_readStatement_99 : decode cX4_readStatement 99 = .ok (.getfield 55, 3) := by decide +kernel
theorem dX4_readStatement_102 : decode cX4_readStatement 102 = .ok (.aload_n 0, 1) := by decide +kernel
theorem dX4_readStatement_103 : decode cX4_readStatement 103 = .ok (.getfield 18, 3) := by decide +kernel
theorem dX4_readStatement_106 : decode cX4_readStatement 106 = .ok (.invokevirtual 61, 3) := by decide +kernel
theorem dX4_readStatement_109 : decode cX4_readStatement 109 = .ok (.sipush 260, 3) := by decide +kernel
theorem dX4_readStatement_112 : decode cX4_readStatement 112 = .ok (.if_icmp .ne 7, 3) := by decide +kernel
theorem dX4_readStatement_115 : decode cX4_readStatement 115 = .ok (.iconst 1, 1) := by decide +kernel
theorem dX4_readStatement_116 : decode cX4_readStatement 116 = .ok (.goto 4, 3) := by decide +kernel
theorem dX4_readStatement_119 : decode cX4_readStatement 119 = .ok (.iconst 0, 1) := by decide +kernel
theorem dX4_readStatement_120 : decode cX4_readStatement 120 = .ok (.ireturn, 1) := by decide +kernel
theorem dX4_stopPlace_0 : decode cX4_stopPlace 0 = .ok (.aload_n 0, 1) := by decide +kernel
theorem dX4_stopPlace_1 : decode cX4_stopPlace 1 = .ok (.getfield 12, 3) := by decide +kernel
theorem dX4_stopPlace_4 : decode cX4_stopPlace 4 = .ok (.getfield 51, 3) := by decide +kernel
theorem dX4_stopPlace_7 : decode cX4_stopPlace 7 = .ok (.getfield 67, 3) := by decide +kernel
theorem dX4_stopPlace_10 : decode cX4_stopPlace 10 = .ok (.aload_n 0, 1) := by decide +kernel
theorem dX4_stopPlace_11 : decode cX4_stopPlace 11 = .ok (.getfield 18, 3) := by decide +kernel
theorem dX4_stopPlace_14 : decode cX4_stopPlace 14 = .ok (.invokevirtual 61, 3) := by decide +kernel
theorem dX4_stopPlace_17 : decode cX4_stopPlace 17 = .ok (.aload_n 0, 1) := by decide +kernel
theorem dX4_stopPlace_18 : decode cX4_stopPlace 18 = .ok (.getfield 22, 3) := by decide +kernel
theorem dX4_stopPlace_21 : decode cX4_stopPlace 21 = .ok (.iadd, 1) := by decide +kernel
theorem dX4_stopPlace_22 : decode cX4_stopPlace 22 = .ok (.ireturn, 1) := by decide +kernel
theorem dX4_readHead_0 : decode cX4_readHead 0 = .ok (.aload_n 0, 1) := by decide +kernel
theorem dX4_readHead_1 : decode cX4_readHead 1 = .ok (.getfield 12, 3) := by decide +kernel
theorem dX4_readHead_4 : decode cX4_readHead 4 = .ok (.getfield 51, 3) := by decide +kernel
theorem dX4_readHead_7 : decode cX4_readHead 7 = .ok (.getfield 55, 3) := by decide +kernel
theorem dX4_readHead_10 : decode cX4_readHead 10 = .ok (.aload_n 0, 1) := by decide +kernel
theorem dX4_readHead_11 : decode cX4_readHead 11 = .ok (.getfield 18, 3) := by decide +kernel
theorem dX4_readHead_14 : decode cX4_readHead 14 = .ok (.invokevirtual 61, 3) := by decide +kernel
theorem dX4_readHead_17 : decode cX4_readHead 17 = .ok (.istore_n 1, 1) := by decide +kernel
theorem dX4_readHead_18 : decode cX4_readHead 18 = .ok (.iload_n 1, 1) := by decide +kernel
theorem dX4_readHead_19 : decode cX4_readHead 19 = .ok (.sipush 261, 3) := by decide +kernel
theorem dX4_readHead_22 : decode cX4_readHead 22 = .ok (.if_icmp .eq 19, 3) := by decide +kernel
theorem dX4_readHead_25 : decode cX4_readHead 25 = .ok (.iload_n 1, 1) := by decide +kernel
theorem dX4_readHead_26 : decode cX4_readHead 26 = .ok (.sipush 262, 3) := by decide +kernel
theorem dX4_readHead_29 : decode cX4_readHead 29 = .ok (.if_icmp .eq 12, 3) := by decide +kernel
theorem dX4_readHead_32 : decode cX4_readHead 32 = .ok (.iload_n 1, 1) := by decide +kernel
theorem dX4_readHead_33 : decode cX4_readHead 33 = .ok (.sipush 263, 3) := by decide +kernel
theorem dX4_readHead_36 : decode cX4_readHead 36 = .ok (.if_icmp .eq 5, 3) := by decide +kernel
theorem dX4_readHead_39 : decode cX4_readHead 39 = .ok (.iconst 0, 1) := by decide +kernel
theorem dX4_readHead_40 : decode cX4_readHead 40 = .ok (.ireturn, 1) := by decide +kernel
theorem dX4_readHead_41 : decode cX4_readHead 41 = .ok (.aload_n 0, 1) := by decide +kernel
theorem dX4_readHead_42 : decode cX4_readHead 42 = .ok (.getfield 12, 3) := by decide +kernel
theorem dX4_readHead_45 : decode cX4_readHead 45 = .ok (.iload_n 1, 1) := by decide +kernel
theorem dX4_readHead_46 : decode cX4_readHead 46 = .ok (.sipush 261, 3) := by decide +kernel
theorem dX4_readHead_49 : decode cX4_readHead 49 = .ok (.if_icmp .ne 7, 3) := by decide +kernel
theorem dX4_readHead_52 : decode cX4_readHead 52 = .ok (.iconst 0, 1) := by decide +kernel
theorem dX4_readHead_53 : decode cX4_readHead 53 = .ok (.goto 15, 3) := by decide +kernel
theorem dX4_readHead_56 : decode cX4_readHead 56 = .ok (.iload_n 1, 1) := by decide +kernel
theorem dX4_readHead_57 : decode cX4_readHead 57 = .ok (.sipush 262, 3) := by decide +kernel
theorem dX4_readHead_60 : decode cX4_readHead 60 = .ok (.if_icmp .ne 7, 3) := by decide +kernel
theorem dX4_readHead_63 : decode cX4_readHead 63 = .ok (.iconst 1, 1) := by decide +kernel
theorem dX4_readHead_64 : decode cX4_readHead 64 = .ok (.goto 4, 3) := by decide +kernel
theorem dX4_readHead_67 : decode cX4_readHead 67 = .ok (.iconst 2, 1) := by decide +kernel
theorem dX4_readHead_68 : decode cX4_readHead 68 = .ok (.putfield 32, 3) := by decide +kernel
theorem dX4_readHead_71 : decode cX4_readHead 71 = .ok (.aload_n 0, 1) := by decide +kernel
theorem dX4_readHead_72 : decode cX4_readHead 72 = .ok (.dup, 1) := by decide +kernel
theorem dX4_readHead_73 : decode cX4_readHead 73 = .ok (.getfield 18, 3) := by decide +kernel
theorem dX4_readHead_76 : decode cX4_readHead 76 = .ok (.iconst 1, 1) := by decide +kernel
theorem dX4_readHead_77 : decode cX4_readHead 77 = .ok (.iadd, 1) := by decide +kernel
theorem dX4_readHead_78 : decode cX4_readHead 78 = .ok (.putfield 18, 3) := by decide +kernel
theorem dX4_readHead_81 : decode cX4_readHead 81 = .ok (.aload_n 0, 1) := by decide +kernel
theorem dX4_readHead_82 : decode cX4_readHead 82 = .ok (.getfield 12, 3) := by decide +kernel
theorem dX4_readHead_85 : decode cX4_readHead 85 = .ok (.aload_n 0, 1) := by decide +kernel
theorem dX4_readHead_86 : decode cX4_readHead 86 = .ok (.getfield 18, 3) := by decide +kernel
theorem dX4_readHead_89 : decode cX4_readHead 89 = .ok (.putfield 70, 3) := by decide +kernel
theorem dX4_readHead_92 : decode cX4_readHead 92 = .ok (.aload_n 0, 1) := by decide +kernel
theorem dX4_readHead_93 : decode cX4_readHead 93 = .ok (.getfield 12, 3) := by decide +kernel
theorem dX4_readHead_96 : decode cX4_readHead 96 = .ok (.aload_n 0, 1) := by decide +kernel
theorem dX4_readHead_97 : decode cX4_readHead 97 = .ok (.getfield 18, 3) := by decide +kernel
theorem dX4_readHead_100 : decode cX4_readHead 100 = .ok (.iconst 1, 1) := by decide +kernel
theorem dX4_readHead_101 : decode cX4_readHead 101 = .ok (.iadd, 1) := by decide +kernel
theorem dX4_readHead_102 : decode cX4_readHead 102 = .ok (.putfield 73, 3) := by decide +kernel
theorem dX4_readHead_105 : decode cX4_readHead 105 = .ok (.aload_n 0, 1) := by decide +kernel
theorem dX4_readHead_106 : decode cX4_readHead 106 = .ok (.invokevirtual 76, 3) := by decide +kernel
theorem dX4_readHead_109 : decode cX4_readHead 109 = .ok (.ireturn, 1) := by decide +kernel
theorem dX4_readSource_0 : decode cX4_readSource 0 = .ok (.aload_n 0, 1) := by decide +kernel
theorem dX4_readSource_1 : decode cX4_readSource 1 = .ok (.bipush 40, 2) := by decide +kernel
theorem dX4_readSource_3 : decode cX4_readSource 3 = .ok (.invokevirtual 38, 3) := by decide +kernel
theorem dX4_readSource_6 : decode cX4_readSource 6 = .ok (.ifCond .ne 5, 3) := by decide +kernel
theorem dX4_readSource_9 : decode cX4_readSource 9 = .ok (.iconst 0, 1) := by decide +kernel
theorem dX4_readSource_10 : decode cX4_readSource 10 = .ok (.ireturn, 1) := by decide +kernel
theorem dX4_readSource_11 : decode cX4_readSource 11 = .ok (.iconst 0, 1) := by decide +kernel
theorem dX4_readSource_12 : decode cX4_readSource 12 = .ok (.istore_n 1, 1) := by decide +kernel
theorem dX4_readSource_13 : decode cX4_readSource 13 = .ok (.iload_n 1, 1) := by decide +kernel
theorem dX4_readSource_14 : decode cX4_readSource 14 = .ok (.bipush 6, 2) := by decide +kernel
theorem dX4_readSource_16 : decode cX4_readSource 16 = .ok (.if_icmp .ge 55, 3) := by decide +kernel
theorem dX4_readSource_19 : decode cX4_readSource 19 = .ok (.aload_n 0, 1) := by decide +kernel
theorem dX4_readSource_20 : decode cX4_readSource 20 = .ok (.getfield 12, 3) := by decide +kernel
theorem dX4_readSource_23 : decode cX4_readSource 23 = .ok (.getfield 79, 3) := by decide +kernel
theorem dX4_readSource_26 : decode cX4_readSource 26 = .ok (.aload_n 0, 1) := by decide +kernel
theorem dX4_readSource_27 : decode cX4_readSource 27 = .ok (.getfield 18, 3) := by decide +kernel
theorem dX4_readSource_30 : decode cX4_readSource 30 = .ok (.invokevirtual 82, 3) := by decide +kernel
theorem dX4_readSource_33 : decode cX4_readSource 33 = .ok (.aload_n 0, 1) := by decide +kernel
theorem dX4_readSource_34 : decode cX4_readSource 34 = .ok (.invokevirtual 76, 3) := by decide +kernel
theorem dX4_readSource_37 : decode cX4_readSource 37 = .ok (.ifCond .eq 10, 3) := by decide +kernel
theorem dX4_readSource_40 : decode cX4_readSource 40 = .ok (.aload_n 0, 1) := by decide +kernel
theorem dX4_readSource_41 : decode cX4_readSource 41 = .ok (.invokevirtual 86, 3) := by decide +kernel
theorem dX4_readSource_44 : decode cX4_readSource 44 = .ok (.ifCond .ne 5, 3) := by decide +kernel
theorem dX4_readSource_47 : decode cX4_readSource 47 = .ok (.iconst 0, 1) := by decide +kernel
theorem dX4_readSource_48 : decode cX4_readSource 48 = .ok (.ireturn, 1) := by decide +kernel
theorem dX4_readSource_49 : decode cX4_readSource 49 = .ok (.aload_n 0, 1) := by decide +kernel
theorem dX4_readSource_50 : decode cX4_readSource 50 = .ok (.bipush 44, 2) := by decide +kernel
theorem dX4_readSource_52 : decode cX4_readSource 52 = .ok (.invokevirtual 38, 3) := by decide +kernel
theorem dX4_readSource_55 : decode cX4_readSource 55 = .ok (.ifCond .ne 10, 3) := by decide +kernel
theorem dX4_readSource_58 : decode cX4_readSource 58 = .ok (.aload_n 0, 1) := by decide +kernel
theorem dX4_readSource_59 : decode cX4_readSource 59 = .ok (.bipush 41, 2) := by decide +kernel
theorem dX4_readSource_61 : decode cX4_readSource 61 = .ok (.invokevirtual 38, 3) := by decide +kernel
theorem dX4_readSource_64 : decode cX4_readSource 64 = .ok (.ireturn, 1) := by decide +kernel
theorem dX4_readSource_65 : decode cX4_readSource 65 = .ok (.iinc 1 1, 3) := by decide +kernel
theorem dX4_readSource_68 : decode cX4_readSource 68 = .ok (.goto (-55), 3) := by decide +kernel
theorem dX4_readSource_71 : decode cX4_readSource 71 = .ok (.iconst 0, 1) := by decide +kernel
theorem dX4_readSource_72 : decode cX4_readSource 72 = .ok (.ireturn, 1) := by decide +kernel
theorem dX4_readResults_0 : decode cX4_readResults 0 = .ok (.iconst 0, 1) := by decide +kernel
theorem dX4_readResults_1 : decode cX4_readResults 1 = .ok (.istore_n 1, 1) := by decide +kernel
theorem dX4_readResults_2 : decode cX4_readResults 2 = .ok (.iload_n 1, 1) := by decide +kernel
theorem dX4_readResults_3 : decode cX4_readResults 3 = .ok (.bipush 6, 2) := by decide +kernel
theorem dX4_readResults_5 : decode cX4_readResults 5 = .ok (.if_icmp .ge 77, 3) := by decide +kernel
theorem dX4_readResults_8 : decode cX4_readResults 8 = .ok (.aload_n 0, 1) := by decide +kernel
theorem dX4_readResults_9 : decode cX4_readResults 9 = .ok (.getfield 12, 3) := by decide +kernel
theorem dX4_readResults_12 : decode cX4_readResults 12 = .ok (.getfield 79, 3) := by decide +kernel
theorem dX4_readResults_15 : decode cX4_readResults 15 = .ok (.aload_n 0, 1) := by decide +kernel
theorem dX4_readResults_16 : decode cX4_readResults 16 = .ok (.getfield 18, 3) := by decide +kernel
theorem dX4_readResults_19 : decode cX4_readResults 19 = .ok (.invokevirtual 82, 3) := by decide +kernel
theorem dX4_readResults_22 : decode cX4_readResults 22 = .ok (.aload_n 0, 1) := by decide +kernel
theorem dX4_readResults_23 : decode cX4_readResults 23 = .ok (.invokevirtual 76, 3) := by decide +kernel
theorem dX4_readResults_26 : decode cX4_readResults 26 = .ok (.ifCond .eq 20, 3) := by decide +kernel
theorem dX4_readResults_29 : decode cX4_readResults 29 = .ok (.aload_n 0, 1) := by decide +kernel
theorem dX4_readResults_30 : decode cX4_readResults 30 = .ok (.bipush 58, 2) := by decide +kernel
theorem dX4_readResults_32 : decode cX4_readResults 32 = .ok (.invokevirtual 38, 3) := by decide +kernel
theorem dX4_readResults_35 : decode cX4_readResults 35 = .ok (.ifCond .eq 11, 3) := by decide +kernel
theorem dX4_readResults_38 : decode cX4_readResults 38 = .ok (.aload_n 0, 1) := by decide +kernel
theorem dX4_readResults_39 : decode cX4_readResults 39 = .ok (.iconst 0, 1) := by decide +kernel
theorem dX4_readResults_40 : decode cX4_readResults 40 = .ok (.invokevirtual 89, 3) := by decide +kernel
theorem dX4_readResults_43 : decode cX4_readResults 43 = .ok (.ifCond .ne 5, 3) := by decide +kernel
theorem dX4_readResults_46 : decode cX4_readResults 46 = .ok (.iconst 0, 1) := by decide +kernel
theorem dX4_readResults_47 : decode cX4_readResults 47 = .ok (.ireturn, 1) := by decide +kernel
theorem dX4_readResults_48 : decode cX4_readResults 48 = .ok (.aload_n 0, 1) := by decide +kernel
theorem dX4_readResults_49 : decode cX4_readResults 49 = .ok (.getfield 12, 3) := by decide +kernel
theorem dX4_readResults_52 : decode cX4_readResults 52 = .ok (.getfield 92, 3) := by decide +kernel
theorem dX4_readResults_55 : decode cX4_readResults 55 = .ok (.iload_n 1, 1) := by decide +kernel
theorem dX4_readResults_56 : decode cX4_readResults 56 = .ok (.invokevirtual 96, 3) := by decide +kernel
theorem dX4_readResults_59 : decode cX4_readResults 59 = .ok (.aload_n 0, 1) := by decide +kernel
theorem dX4_readResults_60 : decode cX4_readResults 60 = .ok (.bipush 44, 2) := by decide +kernel
theorem dX4_readResults_62 : decode cX4_readResults 62 = .ok (.invokevirtual 38, 3) := by decide +kernel
theorem dX4_readResults_65 : decode cX4_readResults 65 = .ok (.ifCond .ne 11, 3) := by decide +kernel
theorem dX4_readResults_68 : decode cX4_readResults 68 = .ok (.aload_n 0, 1) := by decide +kernel
theorem dX4_readResults_69 : decode cX4_readResults 69 = .ok (.sipush 264, 3) := by decide +kernel
theorem dX4_readResults_72 : decode cX4_readResults 72 = .ok (.invokevirtual 38, 3) := by decide +kernel
theorem dX4_readResults_75 : decode cX4_readResults 75 = .ok (.ireturn, 1) := by decide +kernel
theorem dX4_readResults_76 : decode cX4_readResults 76 = .ok (.iinc 1 1, 3) := by decide +kernel
theorem dX4_readResults_79 : decode cX4_readResults 79 = .ok (.goto (-77), 3) := by decide +kernel
theorem dX4_readResults_82 : decode cX4_readResults 82 = .ok (.iconst 0, 1) := by decide +kernel
theorem dX4_readResults_83 : decode cX4_readResults 83 = .ok (.ireturn, 1) := by decide +kernel
theorem dX4_readBehind_0 : decode cX4_readBehind 0 = .ok (.iconst 0, 1) := by decide +kernel
theorem dX4_readBehind_1 : decode cX4_readBehind 1 = .ok (.istore_n 1, 1) := by decide +kernel
theorem dX4_readBehind_2 : decode cX4_readBehind 2 = .ok (.iload_n 1, 1) := by decide +kernel
theorem dX4_readBehind_3 : decode cX4_readBehind 3 = .ok (.iconst 3, 1) := by decide +kernel
theorem dX4_readBehind_4 : decode cX4_readBehind 4 = .ok (.if_icmp .ge 43, 3) := by decide +kernel
theorem dX4_readBehind_7 : decode cX4_readBehind 7 = .ok (.aload_n 0, 1) := by decide +kernel
theorem dX4_readBehind_8 : decode cX4_readBehind 8 = .ok (.getfield 12, 3) := by decide +kernel
theorem dX4_readBehind_11 : decode cX4_readBehind 11 = .ok (.getfield 101, 3) := by decide +kernel
theorem dX4_readBehind_14 : decode cX4_readBehind 14 = .ok (.aload_n 0, 1) := by decide +kernel
theorem dX4_readBehind_15 : decode cX4_readBehind 15 = .ok (.getfield 18, 3) := by decide +kernel
theorem dX4_readBehind_18 : decode cX4_readBehind 18 = .ok (.invokevirtual 82, 3) := by decide +kernel
theorem dX4_readBehind_21 : decode cX4_readBehind 21 = .ok (.aload_n 0, 1) := by decide +kernel
theorem dX4_readBehind_22 : decode cX4_readBehind 22 = .ok (.invokevirtual 76, 3) := by decide +kernel
theorem dX4_readBehind_25 : decode cX4_readBehind 25 = .ok (.ifCond .ne 5, 3) := by decide +kernel
theorem dX4_readBehind_28 : decode cX4_readBehind 28 = .ok (.iconst 0, 1) := by decide +kernel
theorem dX4_readBehind_29 : decode cX4_readBehind 29 = .ok (.ireturn, 1) := by decide +kernel
theorem dX4_readBehind_30 : decode cX4_readBehind 30 = .ok (.aload_n 0, 1) := by decide +kernel
theorem dX4_readBehind_31 : decode cX4_readBehind 31 = .ok (.bipush 44, 2) := by decide +kernel
theorem dX4_readBehind_33 : decode cX4_readBehind 33 = .ok (.invokevirtual 38, 3) := by decide +kernel
theorem dX4_readBehind_36 : decode cX4_readBehind 36 = .ok (.ifCond .ne 5, 3) := by decide +kernel
theorem dX4_readBehind_39 : decode cX4_readBehind 39 = .ok (.iconst 1, 1) := by decide +kernel
theorem dX4_readBehind_40 : decode cX4_readBehind 40 = .ok (.ireturn, 1) := by decide +kernel
theorem dX4_readBehind_41 : decode cX4_readBehind 41 = .ok (.iinc 1 1, 3) := by decide +kernel
theorem dX4_readBehind_44 : decode cX4_readBehind 44 = .ok (.goto (-42), 3) := by decide +kernel
theorem dX4_readBehind_47 : decode cX4_readBehind 47 = .ok (.iconst 0, 1) := by decide +kernel
theorem dX4_readBehind_48 : decode cX4_readBehind 48 = .ok (.ireturn, 1) := by decide +kernel
theorem dX4_readWhere_0 : decode cX4_readWhere 0 = .ok (.aload_n 0, 1) := by decide +kernel
theorem dX4_readWhere_1 : decode cX4_readWhere 1 = .ok (.sipush 265, 3) := by decide +kernel
theorem dX4_readWhere_4 : decode cX4_readWhere 4 = .ok (.invokevirtual 38, 3) := by decide +kernel
theorem dX4_readWhere_7 : decode cX4_readWhere 7 = .ok (.ifCond .ne 5, 3) := by decide +kernel
theorem dX4_readWhere_10 : decode cX4_readWhere 10 = .ok (.iconst 1, 1) := by decide +kernel
theorem dX4_readWhere_11 : decode cX4_readWhere 11 = .ok (.ireturn, 1) := by decide +kernel
theorem dX4_readWhere_12 : decode cX4_readWhere 12 = .ok (.aload_n 0, 1) := by decide +kernel
theorem dX4_readWhere_13 : decode cX4_readWhere 13 = .ok (.iconst 0, 1) := by decide +kernel
theorem dX4_readWhere_14 : decode cX4_readWhere 14 = .ok (.invokevirtual 89, 3) := by decide +kernel
theorem dX4_readWhere_17 : decode cX4_readWhere 17 = .ok (.ifCond .ne 5, 3) := by decide +kernel
theorem dX4_readWhere_20 : decode cX4_readWhere 20 = .ok (.iconst 0, 1) := by decide +kernel
theorem dX4_readWhere_21 : decode cX4_readWhere 21 = .ok (.ireturn, 1) := by decide +kernel
theorem dX4_readWhere_22 : decode cX4_readWhere 22 = .ok (.aload_n 0, 1) := by decide +kernel
theorem dX4_readWhere_23 : decode cX4_readWhere 23 = .ok (.getfield 12, 3) := by decide +kernel
theorem dX4_readWhere_26 : decode cX4_readWhere 26 = .ok (.getfield 51, 3) := by decide +kernel
theorem dX4_readWhere_29 : decode cX4_readWhere 29 = .ok (.getfield 55, 3) := by decide +kernel
theorem dX4_readWhere_32 : decode cX4_readWhere 32 = .ok (.aload_n 0, 1) := by decide +kernel
theorem dX4_readWhere_33 : decode cX4_readWhere 33 = .ok (.getfield 18, 3) := by decide +kernel
theorem dX4_readWhere_36 : decode cX4_readWhere 36 = .ok (.invokevirtual 61, 3) := by decide +kernel
theorem dX4_readWhere_39 : decode cX4_readWhere 39 = .ok (.istore_n 1, 1) := by decide +kernel
theorem dX4_readWhere_40 : decode cX4_readWhere 40 = .ok (.aload_n 0, 1) := by decide +kernel
theorem dX4_readWhere_41 : decode cX4_readWhere 41 = .ok (.getfield 12, 3) := by decide +kernel
theorem dX4_readWhere_44 : decode cX4_readWhere 44 = .ok (.getfield 51, 3) := by decide +kernel
theorem dX4_readWhere_47 : decode cX4_readWhere 47 = .ok (.getfield 67, 3) := by decide +kernel
theorem dX4_readWhere_50 : decode cX4_readWhere 50 = .ok (.aload_n 0, 1) := by decide +kernel
theorem dX4_readWhere_51 : decode cX4_readWhere 51 = .ok (.getfield 18, 3) := by decide +kernel
theorem dX4_readWhere_54 : decode cX4_readWhere 54 = .ok (.invokevirtual 61, 3) := by decide +kernel
theorem dX4_readWhere_57 : decode cX4_readWhere 57 = .ok (.istore_n 2, 1) := by decide +kernel
theorem dX4_readWhere_58 : decode cX4_readWhere 58 = .ok (.aload_n 0, 1) := by decide +kernel
theorem dX4_readWhere_59 : decode cX4_readWhere 59 = .ok (.bipush 60, 2) := by decide +kernel
theorem dX4_readWhere_61 : decode cX4_readWhere 61 = .ok (.invokevirtual 38, 3) := by decide +kernel
theorem dX4_readWhere_64 : decode cX4_readWhere 64 = .ok (.ifCond .ne 14, 3) := by decide +kernel
theorem dX4_readWhere_67 : decode cX4_readWhere 67 = .ok (.aload_n 0, 1) := by decide +kernel
theorem dX4_readWhere_68 : decode cX4_readWhere 68 = .ok (.bipush 61, 2) := by decide +kernel
theorem dX4_readWhere_70 : decode cX4_readWhere 70 = .ok (.invokevirtual 38, 3) := by decide +kernel
theorem dX4_readWhere_73 : decode cX4_readWhere 73 = .ok (.ifCond .ne 5, 3) := by decide +kernel
theorem dX4_readWhere_76 : decode cX4_readWhere 76 = .ok (.iconst 0, 1) := by decide +kernel
theorem dX4_readWhere_77 : decode cX4_readWhere 77 = .ok (.ireturn, 1) := by decide +kernel
theorem dX4_readWhere_78 : decode cX4_readWhere 78 = .ok (.aload_n 0, 1) := by decide +kernel
theorem dX4_readWhere_79 : decode cX4_readWhere 79 = .ok (.iconst 0, 1) := by decide +kernel
theorem dX4_readWhere_80 : decode cX4_readWhere 80 = .ok (.invokevirtual 89, 3) := by decide +kernel
theorem dX4_readWhere_83 : decode cX4_readWhere 83 = .ok (.ifCond .ne 5, 3) := by decide +kernel
theorem dX4_readWhere_86 : decode cX4_readWhere 86 = .ok (.iconst 0, 1) := by decide +kernel
theorem dX4_readWhere_87 : decode cX4_readWhere 87 = .ok (.ireturn, 1) := by decide +kernel
theorem dX4_readWhere_88 : decode cX4_readWhere 88 = .ok (.aload_n 0, 1) := by decide +kernel
theorem dX4_readWhere_89 : decode cX4_readWhere 89 = .ok (.getfield 12, 3) := by decide +kernel
theorem dX4_readWhere_92 : decode cX4_readWhere 92 = .ok (.getfield 92, 3) := by decide +kernel
theorem dX4_readWhere_95 : decode cX4_readWhere 95 = .ok (.iload_n 1, 1) := by decide +kernel
theorem dX4_readWhere_96 : decode cX4_readWhere 96 = .ok (.iload_n 2, 1) := by decide +kernel
theorem dX4_readWhere_97 : decode cX4_readWhere 97 = .ok (.invokevirtual 104, 3) := by decide +kernel
theorem dX4_readWhere_100 : decode cX4_readWhere 100 = .ok (.aload_n 0, 1) := by decide +kernel
theorem dX4_readWhere_101 : decode cX4_readWhere 101 = .ok (.getfield 12, 3) := by decide +kernel
theorem dX4_readWhere_104 : decode cX4_readWhere 104 = .ok (.getfield 92, 3) := by decide +kernel
theorem dX4_readWhere_107 : decode cX4_readWhere 107 = .ok (.bipush 6, 2) := by decide +kernel
theorem dX4_readWhere_109 : decode cX4_readWhere 109 = .ok (.invokevirtual 96, 3) := by decide +kernel
theorem dX4_readWhere_112 : decode cX4_readWhere 112 = .ok (.iconst 1, 1) := by decide +kernel
theorem dX4_readWhere_113 : decode cX4_readWhere 113 = .ok (.ireturn, 1) := by decide +kernel
theorem dX4_readFormula_0 : decode cX4_readFormula 0 = .ok (.aload_n 0, 1) := by decide +kernel
theorem dX4_readFormula_1 : decode cX4_readFormula 1 = .ok (.iload_n 1, 1) := by decide +kernel
theorem dX4_readFormula_2 : decode cX4_readFormula 2 = .ok (.invokevirtual 107, 3) := by decide +kernel
theorem dX4_readFormula_5 : decode cX4_readFormula 5 = .ok (.ifCond .ne 5, 3) := by decide +kernel
theorem dX4_readFormula_8 : decode cX4_readFormula 8 = .ok (.iconst 0, 1) := by decide +kernel
theorem dX4_readFormula_9 : decode cX4_readFormula 9 = .ok (.ireturn, 1) := by decide +kernel
theorem dX4_readFormula_10 : decode cX4_readFormula 10 = .ok (.iconst 0, 1) := by decide +kernel
theorem dX4_readFormula_11 : decode cX4_readFormula 11 = .ok (.istore_n 2, 1) := by decide +kernel
theorem dX4_readFormula_12 : decode cX4_readFormula 12 = .ok (.iload_n 2, 1) := by decide +kernel
theorem dX4_readFormula_13 : decode cX4_readFormula 13 = .ok (.iconst 5, 1) := by decide +kernel
theorem dX4_readFormula_14 : decode cX4_readFormula 14 = .ok (.if_icmp .ge 88, 3) := by decide +kernel
theorem dX4_readFormula_17 : decode cX4_readFormula 17 = .ok (.aload_n 0, 1) := by decide +kernel
theorem dX4_readFormula_18 : decode cX4_readFormula 18 = .ok (.getfield 12, 3) := by decide +kernel
theorem dX4_readFormula_21 : decode cX4_readFormula 21 = .ok (.getfield 51, 3) := by decide +kernel
theorem dX4_readFormula_24 : decode cX4_readFormula 24 = .ok (.getfield 55, 3) := by decide +kernel
theorem dX4_readFormula_27 : decode cX4_readFormula 27 = .ok (.aload_n 0, 1) := by decide +kernel
theorem dX4_readFormula_28 : decode cX4_readFormula 28 = .ok (.getfield 18, 3) := by decide +kernel
theorem dX4_readFormula_31 : decode cX4_readFormula 31 = .ok (.invokevirtual 61, 3) := by decide +kernel
theorem dX4_readFormula_34 : decode cX4_readFormula 34 = .ok (.istore_n 3, 1) := by decide +kernel
theorem dX4_readFormula_35 : decode cX4_readFormula 35 = .ok (.aload_n 0, 1) := by decide +kernel
theorem dX4_readFormula_36 : decode cX4_readFormula 36 = .ok (.getfield 12, 3) := by decide +kernel
theorem dX4_readFormula_39 : decode cX4_readFormula 39 = .ok (.getfield 51, 3) := by decide +kernel
theorem dX4_readFormula_42 : decode cX4_readFormula 42 = .ok (.getfield 67, 3) := by decide +kernel
theorem dX4_readFormula_45 : decode cX4_readFormula 45 = .ok (.aload_n 0, 1) := by decide +kernel
theorem dX4_readFormula_46 : decode cX4_readFormula 46 = .ok (.getfield 18, 3) := by decide +kernel
theorem dX4_readFormula_49 : decode cX4_readFormula 49 = .ok (.invokevirtual 61, 3) := by decide +kernel
theorem dX4_readFormula_52 : decode cX4_readFormula 52 = .ok (.istore 4, 2) := by decide +kernel
theorem dX4_readFormula_54 : decode cX4_readFormula 54 = .ok (.iload_n 3, 1) := by decide +kernel
theorem dX4_readFormula_55 : decode cX4_readFormula 55 = .ok (.invokestatic 110, 3) := by decide +kernel
theorem dX4_readFormula_58 : decode cX4_readFormula 58 = .ok (.ifCond .ne 5, 3) := by decide +kernel
theorem dX4_readFormula_61 : decode cX4_readFormula 61 = .ok (.iconst 1, 1) := by decide +kernel
theorem dX4_readFormula_62 : decode cX4_readFormula 62 = .ok (.ireturn, 1) := by decide +kernel
theorem dX4_readFormula_63 : decode cX4_readFormula 63 = .ok (.aload_n 0, 1) := by decide +kernel
theorem dX4_readFormula_64 : decode cX4_readFormula 64 = .ok (.dup, 1) := by decide +kernel
theorem dX4_readFormula_65 : decode cX4_readFormula 65 = .ok (.getfield 18, 3) := by decide +kernel
theorem dX4_readFormula_68 : decode cX4_readFormula 68 = .ok (.iconst 1, 1) := by decide +kernel
theorem dX4_readFormula_69 : decode cX4_readFormula 69 = .ok (.iadd, 1) := by decide +kernel
theorem dX4_readFormula_70 : decode cX4_readFormula 70 = .ok (.putfield 18, 3) := by decide +kernel
theorem dX4_readFormula_73 : decode cX4_readFormula 73 = .ok (.aload_n 0, 1) := by decide +kernel
theorem dX4_readFormula_74 : decode cX4_readFormula 74 = .ok (.iload_n 1, 1) := by decide +kernel
theorem dX4_readFormula_75 : decode cX4_readFormula 75 = .ok (.invokevirtual 107, 3) := by decide +kernel
theorem dX4_readFormula_78 : decode cX4_readFormula 78 = .ok (.ifCond .ne 5, 3) := by decide +kernel
theorem dX4_readFormula_81 : decode cX4_readFormula 81 = .ok (.iconst 0, 1) := by decide +kernel
theorem dX4_readFormula_82 : decode cX4_readFormula 82 = .ok (.ireturn, 1) := by decide +kernel
theorem dX4_readFormula_83 : decode cX4_readFormula 83 = .ok (.aload_n 0, 1) := by decide +kernel
theorem dX4_readFormula_84 : decode cX4_readFormula 84 = .ok (.getfield 12, 3) := by decide +kernel
theorem dX4_readFormula_87 : decode cX4_readFormula 87 = .ok (.getfield 92, 3) := by decide +kernel
theorem dX4_readFormula_90 : decode cX4_readFormula 90 = .ok (.iload_n 3, 1) := by decide +kernel
theorem dX4_readFormula_91 : decode cX4_readFormula 91 = .ok (.iload 4, 2) := by decide +kernel
theorem dX4_readFormula_93 : decode cX4_readFormula 93 = .ok (.invokevirtual 104, 3) := by decide +kernel
theorem dX4_readFormula_96 : decode cX4_readFormula 96 = .ok (.iinc 2 1, 3) := by decide +kernel
theorem dX4_readFormula_99 : decode cX4_readFormula 99 = .ok (.goto (-87), 3) := by decide +kernel
theorem dX4_readFormula_102 : decode cX4_readFormula 102 = .ok (.aload_n 0, 1) := by decide +kernel
theorem dX4_readFormula_103 : decode cX4_readFormula 103 = .ok (.getfield 12, 3) := by decide +kernel
theorem dX4_readFormula_106 : decode cX4_readFormula 106 = .ok (.getfield 51, 3) := by decide +kernel
theorem dX4_readFormula_109 : decode cX4_readFormula 109 = .ok (.getfield 55, 3) := by decide +kernel
theorem dX4_readFormula_112 : decode cX4_readFormula 112 = .ok (.aload_n 0, 1) := by decide +kernel
theorem dX4_readFormula_113 : decode cX4_readFormula 113 = .ok (.getfield 18, 3) := by decide +kernel
theorem dX4_readFormula_116 : decode cX4_readFormula 116 = .ok (.invokevirtual 61, 3) := by decide +kernel
theorem dX4_readFormula_119 : decode cX4_readFormula 119 = .ok (.invokestatic 110, 3) := by decide +kernel
theorem dX4_readFormula_122 : decode cX4_readFormula 122 = .ok (.ifCond .ne 7, 3) := by decide +kernel
theorem dX4_readFormula_125 : decode cX4_readFormula 125 = .ok (.iconst 1, 1) := by decide +kernel
theorem dX4_readFormula_126 : decode cX4_readFormula 126 = .ok (.goto 4, 3) := by decide +kernel
theorem dX4_readFormula_129 : decode cX4_readFormula 129 = .ok (.iconst 0, 1) := by decide +kernel
theorem dX4_readFormula_130 : decode cX4_readFormula 130 = .ok (.ireturn, 1) := by decide +kernel
theorem dX4_readTerm_0 : decode cX4_readTerm 0 = .ok (.aload_n 0, 1) := by decide +kernel
theorem dX4_readTerm_1 : decode cX4_readTerm 1 = .ok (.getfield 12, 3) := by decide +kernel
theorem dX4_readTerm_4 : decode cX4_readTerm 4 = .ok (.getfield 51, 3) := by decide +kernel
theorem dX4_readTerm_7 : decode cX4_readTerm 7 = .ok (.getfield 55, 3) := by decide +kernel
theorem dX4_readTerm_10 : decode cX4_readTerm 10 = .ok (.aload_n 0, 1) := by decide +kernel
theorem dX4_readTerm_11 : decode cX4_readTerm 11 = .ok (.getfield 18, 3) := by decide +kernel
theorem dX4_readTerm_14 : decode cX4_readTerm 14 = .ok (.invokevirtual 61, 3) := by decide +kernel
theorem dX4_readTerm_17 : decode cX4_readTerm 17 = .ok (.istore_n 2, 1) := by decide +kernel
theorem dX4_readTerm_18 : decode cX4_readTerm 18 = .ok (.aload_n 0, 1) := by decide +kernel
theorem dX4_readTerm_19 : decode cX4_readTerm 19 = .ok (.getfield 12, 3) := by decide +kernel
theorem dX4_readTerm_22 : decode cX4_readTerm 22 = .ok (.getfield 51, 3) := by decide +kernel
theorem dX4_readTerm_25 : decode cX4_readTerm 25 = .ok (.getfield 67, 3) := by decide +kernel
theorem dX4_readTerm_28 : decode cX4_readTerm 28 = .ok (.aload_n 0, 1) := by decide +kernel
theorem dX4_readTerm_29 : decode cX4_readTerm 29 = .ok (.getfield 18, 3) := by decide +kernel
theorem dX4_readTerm_32 : decode cX4_readTerm 32 = .ok (.invokevirtual 61, 3) := by decide +kernel
theorem dX4_readTerm_35 : decode cX4_readTerm 35 = .ok (.istore_n 3, 1) := by decide +kernel
theorem dX4_readTerm_36 : decode cX4_readTerm 36 = .ok (.iload_n 2, 1) := by decide +kernel
theorem dX4_readTerm_37 : decode cX4_readTerm 37 = .ok (.sipush 256, 3) := by decide +kernel
theorem dX4_readTerm_40 : decode cX4_readTerm 40 = .ok (.if_icmp .ne 51, 3) := by decide +kernel
theorem dX4_readTerm_43 : decode cX4_readTerm 43 = .ok (.aload_n 0, 1) := by decide +kernel
theorem dX4_readTerm_44 : decode cX4_readTerm 44 = .ok (.getfield 12, 3) := by decide +kernel
theorem dX4_readTerm_47 : decode cX4_readTerm 47 = .ok (.getfield 92, 3) := by decide +kernel
theorem dX4_readTerm_50 : decode cX4_readTerm 50 = .ok (.sipush 2000, 3) := by decide +kernel
theorem dX4_readTerm_53 : decode cX4_readTerm 53 = .ok (.aload_n 0, 1) := by decide +kernel
theorem dX4_readTerm_54 : decode cX4_readTerm 54 = .ok (.getfield 18, 3) := by decide +kernel
theorem dX4_readTerm_57 : decode cX4_readTerm 57 = .ok (.iadd, 1) := by decide +kernel
theorem dX4_readTerm_58 : decode cX4_readTerm 58 = .ok (.iload_n 3, 1) := by decide +kernel
theorem dX4_readTerm_59 : decode cX4_readTerm 59 = .ok (.invokevirtual 104, 3) := by decide +kernel
theorem dX4_readTerm_62 : decode cX4_readTerm 62 = .ok (.aload_n 0, 1) := by decide +kernel
theorem dX4_readTerm_63 : decode cX4_readTerm 63 = .ok (.invokevirtual 76, 3) := by decide +kernel
theorem dX4_readTerm_66 : decode cX4_readTerm 66 = .ok (.ifCond .eq 23, 3) := by decide +kernel
theorem dX4_readTerm_69 : decode cX4_readTerm 69 = .ok (.aload_n 0, 1) := by decide +kernel
theorem dX4_readTerm_70 : decode cX4_readTerm 70 = .ok (.bipush 46, 2) := by decide +kernel
theorem dX4_readTerm_72 : decode cX4_readTerm 72 = .ok (.invokevirtual 38, 3) := by decide +kernel
theorem dX4_readTerm_75 : decode cX4_readTerm 75 = .ok (.ifCond .eq 14, 3) := by decide +kernel
theorem dX4_readTerm_78 : decode cX4_readTerm 78 = .ok (.aload_n 0, 1) := by decide +kernel
theorem dX4_readTerm_79 : decode cX4_readTerm 79 = .ok (.invokevirtual 76, 3) := by decide +kernel
theorem dX4_readTerm_82 : decode cX4_readTerm 82 = .ok (.ifCond .eq 7, 3) := by decide +kernel
theorem dX4_readTerm_85 : decode cX4_readTerm 85 = .ok (.iconst 1, 1) := by decide +kernel
theorem dX4_readTerm_86 : decode cX4_readTerm 86 = .ok (.goto 4, 3) := by decide +kernel
theorem dX4_readTerm_89 : decode cX4_readTerm 89 = .ok (.iconst 0, 1) := by decide +kernel
theorem dX4_readTerm_90 : decode cX4_readTerm 90 = .ok (.ireturn, 1) := by decide +kernel
theorem dX4_readTerm_91 : decode cX4_readTerm 91 = .ok (.iload_n 2, 1) := by decide +kernel
theorem dX4_readTerm_92 : decode cX4_readTerm 92 = .ok (.sipush 257, 3) := by decide +kernel
theorem dX4_readTerm_95 : decode cX4_readTerm 95 = .ok (.if_icmp .eq 17, 3) := by decide +kernel
theorem dX4_readTerm_98 : decode cX4_readTerm 98 = .ok (.iload_n 2, 1) := by decide +kernel
theorem dX4_readTerm_99 : decode cX4_readTerm 99 = .ok (.sipush 258, 3) := by decide +kernel
theorem dX4_readTerm_102 : decode cX4_readTerm 102 = .ok (.if_icmp .eq 10, 3) := by decide +kernel
theorem dX4_readTerm_105 : decode cX4_readTerm 105 = .ok (.iload_n 2, 1) := by decide +kernel
theorem dX4_readTerm_106 : decode cX4_readTerm 106 = .ok (.sipush 259, 3) := by decide +kernel
theorem dX4_readTerm_109 : decode cX4_readTerm 109 = .ok (.if_icmp .ne 21, 3) := by decide +kernel
theorem dX4_readTerm_112 : decode cX4_readTerm 112 = .ok (.aload_n 0, 1) := by decide +kernel
theorem dX4_readTerm_113 : decode cX4_readTerm 113 = .ok (.getfield 12, 3) := by decide +kernel
theorem dX4_readTerm_116 : decode cX4_readTerm 116 = .ok (.getfield 92, 3) := by decide +kernel
theorem dX4_readTerm_119 : decode cX4_readTerm 119 = .ok (.iload_n 2, 1) := by decide +kernel
theorem dX4_readTerm_120 : decode cX4_readTerm 120 = .ok (.iload_n 3, 1) := by decide +kernel
theorem dX4_readTerm_121 : decode cX4_readTerm 121 = .ok (.invokevirtual 104, 3) := by decide +kernel
theorem dX4_readTerm_124 : decode cX4_readTerm 124 = .ok (.aload_n 0, 1) := by decide +kernel
theorem dX4_readTerm_125 : decode cX4_readTerm 125 = .ok (.iload_n 2, 1) := by decide +kernel
theorem dX4_readTerm_126 : decode cX4_readTerm 126 = .ok (.invokevirtual 113, 3) := by decide +kernel
theorem dX4_readTerm_129 : decode cX4_readTerm 129 = .ok (.ireturn, 1) := by decide +kernel
theorem dX4_readTerm_130 : decode cX4_readTerm 130 = .ok (.iload_n 2, 1) := by decide +kernel
theorem dX4_readTerm_131 : decode cX4_readTerm 131 = .ok (.sipush 266, 3) := by decide +kernel
theorem dX4_readTerm_134 : decode cX4_readTerm 134 = .ok (.if_icmp .eq 12, 3) := by decide +kernel
theorem dX4_readTerm_137 : decode cX4_readTerm 137 = .ok (.iload_n 2, 1) := by decide +kernel
theorem dX4_readTerm_138 : decode cX4_readTerm 138 = .ok (.sipush 267, 3) := by decide +kernel
theorem dX4_readTerm_141 : decode cX4_readTerm 141 = .ok (.if_icmp .eq 5, 3) := by decide +kernel
theorem dX4_readTerm_144 : decode cX4_readTerm 144 = .ok (.iconst 0, 1) := by decide +kernel
theorem dX4_readTerm_145 : decode cX4_readTerm 145 = .ok (.ireturn, 1) := by decide +kernel
theorem dX4_readTerm_146 : decode cX4_readTerm 146 = .ok (.aload_n 0, 1) := by decide +kernel
theorem dX4_readTerm_147 : decode cX4_readTerm 147 = .ok (.dup, 1) := by decide +kernel
theorem dX4_readTerm_148 : decode cX4_readTerm 148 = .ok (.getfield 18, 3) := by decide +kernel
theorem dX4_readTerm_151 : decode cX4_readTerm 151 = .ok (.iconst 1, 1) := by decide +kernel
theorem dX4_readTerm_152 : decode cX4_readTerm 152 = .ok (.iadd, 1) := by decide +kernel
theorem dX4_readTerm_153 : decode cX4_readTerm 153 = .ok (.putfield 18, 3) := by decide +kernel
theorem dX4_readTerm_156 : decode cX4_readTerm 156 = .ok (.iload_n 1, 1) := by decide +kernel
theorem dX4_readTerm_157 : decode cX4_readTerm 157 = .ok (.iconst 3, 1) := by decide +kernel
theorem dX4_readTerm_158 : decode cX4_readTerm 158 = .ok (.if_icmp .ge 22, 3) := by decide +kernel
theorem dX4_readTerm_161 : decode cX4_readTerm 161 = .ok (.aload_n 0, 1) := by decide +kernel
theorem dX4_readTerm_162 : decode cX4_readTerm 162 = .ok (.bipush 40, 2) := by decide +kernel
theorem dX4_readTerm_164 : decode cX4_readTerm 164 = .ok (.invokevirtual 38, 3) := by decide +kernel
theorem dX4_readTerm_167 : decode cX4_readTerm 167 = .ok (.ifCond .eq 13, 3) := by decide +kernel
theorem dX4_readTerm_170 : decode cX4_readTerm 170 = .ok (.aload_n 0, 1) := by decide +kernel
theorem dX4_readTerm_171 : decode cX4_readTerm 171 = .ok (.iload_n 1, 1) := by decide +kernel
theorem dX4_readTerm_172 : decode cX4_readTerm 172 = .ok (.iconst 1, 1) := by decide +kernel
theorem dX4_readTerm_173 : decode cX4_readTerm 173 = .ok (.iadd, 1) := by decide +kernel
theorem dX4_readTerm_174 : decode cX4_readTerm 174 = .ok (.invokevirtual 89, 3) := by decide +kernel
theorem dX4_readTerm_177 : decode cX4_readTerm 177 = .ok (.ifCond .ne 5, 3) := by decide +kernel
theorem dX4_readTerm_180 : decode cX4_readTerm 180 = .ok (.iconst 0, 1) := by decide +kernel
theorem dX4_readTerm_181 : decode cX4_readTerm 181 = .ok (.ireturn, 1) := by decide +kernel
theorem dX4_readTerm_182 : decode cX4_readTerm 182 = .ok (.aload_n 0, 1) := by decide +kernel
theorem dX4_readTerm_183 : decode cX4_readTerm 183 = .ok (.getfield 12, 3) := by decide +kernel
theorem dX4_readTerm_186 : decode cX4_readTerm 186 = .ok (.getfield 92, 3) := by decide +kernel
theorem dX4_readTerm_189 : decode cX4_readTerm 189 = .ok (.iload_n 2, 1) := by decide +kernel
theorem dX4_readTerm_190 : decode cX4_readTerm 190 = .ok (.iload_n 3, 1) := by decide +kernel
theorem dX4_readTerm_191 : decode cX4_readTerm 191 = .ok (.invokevirtual 104, 3) := by decide +kernel
theorem dX4_readTerm_194 : decode cX4_readTerm 194 = .ok (.aload_n 0, 1) := by decide +kernel
theorem dX4_readTerm_195 : decode cX4_readTerm 195 = .ok (.bipush 41, 2) := by decide +kernel
theorem dX4_readTerm_197 : decode cX4_readTerm 197 = .ok (.invokevirtual 38, 3) := by decide +kernel
theorem dX4_readTerm_200 : decode cX4_readTerm 200 = .ok (.ireturn, 1) := by decide +kernel
theorem dX4_isOperator_0 : decode cX4_isOperator 0 = .ok (.iload_n 0, 1) := by decide +kernel
theorem dX4_isOperator_1 : decode cX4_isOperator 1 = .ok (.bipush 43, 2) := by decide +kernel
theorem dX4_isOperator_3 : decode cX4_isOperator 3 = .ok (.if_icmp .eq 15, 3) := by decide +kernel
theorem dX4_isOperator_6 : decode cX4_isOperator 6 = .ok (.iload_n 0, 1) := by decide +kernel
theorem dX4_isOperator_7 : decode cX4_isOperator 7 = .ok (.bipush 45, 2) := by decide +kernel
theorem dX4_isOperator_9 : decode cX4_isOperator 9 = .ok (.if_icmp .eq 9, 3) := by decide +kernel
theorem dX4_isOperator_12 : decode cX4_isOperator 12 = .ok (.iload_n 0, 1) := by decide +kernel
theorem dX4_isOperator_13 : decode cX4_isOperator 13 = .ok (.bipush 38, 2) := by decide +kernel
theorem dX4_isOperator_15 : decode cX4_isOperator 15 = .ok (.if_icmp .ne 7, 3) := by decide +kernel
theorem dX4_isOperator_18 : decode cX4_isOperator 18 = .ok (.iconst 1, 1) := by decide +kernel
theorem dX4_isOperator_19 : decode cX4_isOperator 19 = .ok (.goto 4, 3) := by decide +kernel
theorem dX4_isOperator_22 : decode cX4_isOperator 22 = .ok (.iconst 0, 1) := by decide +kernel
theorem dX4_isOperator_23 : decode cX4_isOperator 23 = .ok (.ireturn, 1) := by decide +kernel
theorem dX4_take_0 : decode cX4_take 0 = .ok (.aload_n 0, 1) := by decide +kernel
theorem dX4_take_1 : decode cX4_take 1 = .ok (.getfield 12, 3) := by decide +kernel
theorem dX4_take_4 : decode cX4_take 4 = .ok (.getfield 51, 3) := by decide +kernel
theorem dX4_take_7 : decode cX4_take 7 = .ok (.getfield 55, 3) := by decide +kernel
theorem dX4_take_10 : decode cX4_take 10 = .ok (.aload_n 0, 1) := by decide +kernel
theorem dX4_take_11 : decode cX4_take 11 = .ok (.getfield 18, 3) := by decide +kernel
theorem dX4_take_14 : decode cX4_take 14 = .ok (.invokevirtual 61, 3) := by decide +kernel
theorem dX4_take_17 : decode cX4_take 17 = .ok (.iload_n 1, 1) := by decide +kernel
theorem dX4_take_18 : decode cX4_take 18 = .ok (.if_icmp .eq 5, 3) := by decide +kernel
theorem dX4_take_21 : decode cX4_take 21 = .ok (.iconst 0, 1) := by decide +kernel
theorem dX4_take_22 : decode cX4_take 22 = .ok (.ireturn, 1) := by decide +kernel
theorem dX4_take_23 : decode cX4_take 23 = .ok (.aload_n 0, 1) := by decide +kernel
theorem dX4_take_24 : decode cX4_take 24 = .ok (.dup, 1) := by decide +kernel
theorem dX4_take_25 : decode cX4_take 25 = .ok (.getfield 18, 3) := by decide +kernel
theorem dX4_take_28 : decode cX4_take 28 = .ok (.iconst 1, 1) := by decide +kernel
theorem dX4_take_29 : decode cX4_take 29 = .ok (.iadd, 1) := by decide +kernel
theorem dX4_take_30 : decode cX4_take 30 = .ok (.putfield 18, 3) := by decide +kernel
theorem dX4_take_33 : decode cX4_take 33 = .ok (.iconst 1, 1) := by decide +kernel
theorem dX4_take_34 : decode cX4_take 34 = .ok (.ireturn, 1) := by decide +kernel
theorem dX4_takeName_0 : decode cX4_takeName 0 = .ok (.aload_n 0, 1) := by decide +kernel
theorem dX4_takeName_1 : decode cX4_takeName 1 = .ok (.getfield 12, 3) := by decide +kernel
theorem dX4_takeName_4 : decode cX4_takeName 4 = .ok (.getfield 51, 3) := by decide +kernel
theorem dX4_takeName_7 : decode cX4_takeName 7 = .ok (.getfield 55, 3) := by decide +kernel
theorem dX4_takeName_10 : decode cX4_takeName 10 = .ok (.aload_n 0, 1) := by decide +kernel
theorem dX4_takeName_11 : decode cX4_takeName 11 = .ok (.getfield 18, 3) := by decide +kernel
theorem dX4_takeName_14 : decode cX4_takeName 14 = .ok (.invokevirtual 61, 3) := by decide +kernel
theorem dX4_takeName_17 : decode cX4_takeName 17 = .ok (.sipush 256, 3) := by decide +kernel
theorem dX4_takeName_20 : decode cX4_takeName 20 = .ok (.if_icmp .eq 5, 3) := by decide +kernel
theorem dX4_takeName_23 : decode cX4_takeName 23 = .ok (.iconst 0, 1) := by decide +kernel
theorem dX4_takeName_24 : decode cX4_takeName 24 = .ok (.ireturn, 1) := by decide +kernel
theorem dX4_takeName_25 : decode cX4_takeName 25 = .ok (.aload_n 0, 1) := by decide +kernel
theorem dX4_takeName_26 : decode cX4_takeName 26 = .ok (.getfield 12, 3) := by decide +kernel
theorem dX4_takeName_29 : decode cX4_takeName 29 = .ok (.getfield 51, 3) := by decide +kernel
theorem dX4_takeName_32 : decode cX4_takeName 32 = .ok (.getfield 116, 3) := by decide +kernel
theorem dX4_takeName_35 : decode cX4_takeName 35 = .ok (.aload_n 0, 1) := by decide +kernel
theorem dX4_takeName_36 : decode cX4_takeName 36 = .ok (.getfield 18, 3) := by decide +kernel
theorem dX4_takeName_39 : decode cX4_takeName 39 = .ok (.invokevirtual 61, 3) := by decide +kernel
theorem dX4_takeName_42 : decode cX4_takeName 42 = .ok (.bipush 8, 2) := by decide +kernel
theorem dX4_takeName_44 : decode cX4_takeName 44 = .ok (.if_icmp .le 11, 3) := by decide +kernel
theorem dX4_takeName_47 : decode cX4_takeName 47 = .ok (.aload_n 0, 1) := by decide +kernel
theorem dX4_takeName_48 : decode cX4_takeName 48 = .ok (.bipush 8, 2) := by decide +kernel
theorem dX4_takeName_50 : decode cX4_takeName 50 = .ok (.putfield 22, 3) := by decide +kernel
theorem dX4_takeName_53 : decode cX4_takeName 53 = .ok (.iconst 0, 1) := by decide +kernel
theorem dX4_takeName_54 : decode cX4_takeName 54 = .ok (.ireturn, 1) := by decide +kernel
theorem dX4_takeName_55 : decode cX4_takeName 55 = .ok (.aload_n 0, 1) := by decide +kernel
theorem dX4_takeName_56 : decode cX4_takeName 56 = .ok (.dup, 1) := by decide +kernel
theorem dX4_takeName_57 : decode cX4_takeName 57 = .ok (.getfield 18, 3) := by decide +kernel
theorem dX4_takeName_60 : decode cX4_takeName 60 = .ok (.iconst 1, 1) := by decide +kernel
theorem dX4_takeName_61 : decode cX4_takeName 61 = .ok (.iadd, 1) := by decide +kernel
theorem dX4_takeName_62 : decode cX4_takeName 62 = .ok (.putfield 18, 3) := by decide +kernel
theorem dX4_takeName_65 : decode cX4_takeName 65 = .ok (.iconst 1, 1) := by decide +kernel
theorem dX4_takeName_66 : decode cX4_takeName 66 = .ok (.ireturn, 1) := by decide +kernel
theorem dX4_takeType_0 : decode cX4_takeType 0 = .ok (.aload_n 0, 1) := by decide +kernel
theorem dX4_takeType_1 : decode cX4_takeType 1 = .ok (.getfield 12, 3) := by decide +kernel
theorem dX4_takeType_4 : decode cX4_takeType 4 = .ok (.getfield 51, 3) := by decide +kernel
theorem dX4_takeType_7 : decode cX4_takeType 7 = .ok (.getfield 55, 3) := by decide +kernel
theorem dX4_takeType_10 : decode cX4_takeType 10 = .ok (.aload_n 0, 1) := by decide +kernel
theorem dX4_takeType_11 : decode cX4_takeType 11 = .ok (.getfield 18, 3) := by decide +kernel
theorem dX4_takeType_14 : decode cX4_takeType 14 = .ok (.invokevirtual 61, 3) := by decide +kernel
theorem dX4_takeType_17 : decode cX4_takeType 17 = .ok (.sipush 256, 3) := by decide +kernel
theorem dX4_takeType_20 : decode cX4_takeType 20 = .ok (.if_icmp .ne 24, 3) := by decide +kernel
theorem dX4_takeType_23 : decode cX4_takeType 23 = .ok (.aload_n 0, 1) := by decide +kernel
theorem dX4_takeType_24 : decode cX4_takeType 24 = .ok (.getfield 12, 3) := by decide +kernel
theorem dX4_takeType_27 : decode cX4_takeType 27 = .ok (.getfield 51, 3) := by decide +kernel
theorem dX4_takeType_30 : decode cX4_takeType 30 = .ok (.getfield 116, 3) := by decide +kernel
theorem dX4_takeType_33 : decode cX4_takeType 33 = .ok (.aload_n 0, 1) := by decide +kernel
theorem dX4_takeType_34 : decode cX4_takeType 34 = .ok (.getfield 18, 3) := by decide +kernel
theorem dX4_takeType_37 : decode cX4_takeType 37 = .ok (.invokevirtual 61, 3) := by decide +kernel
theorem dX4_takeType_40 : decode cX4_takeType 40 = .ok (.iconst 1, 1) := by decide +kernel
theorem dX4_takeType_41 : decode cX4_takeType 41 = .ok (.if_icmp .eq 5, 3) := by decide +kernel
theorem dX4_takeType_44 : decode cX4_takeType 44 = .ok (.iconst 0, 1) := by decide +kernel
theorem dX4_takeType_45 : decode cX4_takeType 45 = .ok (.ireturn, 1) := by decide +kernel
theorem dX4_takeType_46 : decode cX4_takeType 46 = .ok (.aload_n 0, 1) := by decide +kernel
theorem dX4_takeType_47 : decode cX4_takeType 47 = .ok (.getfield 12, 3) := by decide +kernel
theorem dX4_takeType_50 : decode cX4_takeType 50 = .ok (.getfield 51, 3) := by decide +kernel
theorem dX4_takeType_53 : decode cX4_takeType 53 = .ok (.aload_n 0, 1) := by decide +kernel
theorem dX4_takeType_54 : decode cX4_takeType 54 = .ok (.getfield 18, 3) := by decide +kernel
theorem dX4_takeType_57 : decode cX4_takeType 57 = .ok (.invokevirtual 119, 3) := by decide +kernel
theorem dX4_takeType_60 : decode cX4_takeType 60 = .ok (.l2i, 1) := by decide +kernel
theorem dX4_takeType_61 : decode cX4_takeType 61 = .ok (.iconst 1, 1) := by decide +kernel
theorem dX4_takeType_62 : decode cX4_takeType 62 = .ok (.isub, 1) := by decide +kernel
theorem dX4_takeType_63 : decode cX4_takeType 63 = .ok (.bipush 97, 2) := by decide +kernel
theorem dX4_takeType_65 : decode cX4_takeType 65 = .ok (.iadd, 1) := by decide +kernel
theorem dX4_takeType_66 : decode cX4_takeType 66 = .ok (.istore_n 1, 1) := by decide +kernel
theorem dX4_takeType_67 : decode cX4_takeType 67 = .ok (.iload_n 1, 1) := by decide +kernel
theorem dX4_takeType_68 : decode cX4_takeType 68 = .ok (.invokestatic 123, 3) := by decide +kernel
theorem dX4_takeType_71 : decode cX4_takeType 71 = .ok (.ifCond .ne 5, 3) := by decide +kernel
theorem dX4_takeType_74 : decode cX4_takeType 74 = .ok (.iconst 0, 1) := by decide +kernel
theorem dX4_takeType_75 : decode cX4_takeType 75 = .ok (.ireturn, 1) := by decide +kernel
theorem dX4_takeType_76 : decode cX4_takeType 76 = .ok (.aload_n 0, 1) := by decide +kernel
theorem dX4_takeType_77 : decode cX4_takeType 77 = .ok (.getfield 12, 3) := by decide +kernel
theorem dX4_takeType_80 : decode cX4_takeType 80 = .ok (.getfield 126, 3) := by decide +kernel
theorem dX4_takeType_83 : decode cX4_takeType 83 = .ok (.iload_n 1, 1) := by decide +kernel
theorem dX4_takeType_84 : decode cX4_takeType 84 = .ok (.invokevirtual 82, 3) := by decide +kernel
theorem dX4_takeType_87 : decode cX4_takeType 87 = .ok (.aload_n 0, 1) := by decide +kernel
theorem dX4_takeType_88 : decode cX4_takeType 88 = .ok (.dup, 1) := by decide +kernel
theorem dX4_takeType_89 : decode cX4_takeType 89 = .ok (.getfield 18, 3) := by decide +kernel
theorem dX4_takeType_92 : decode cX4_takeType 92 = .ok (.iconst 1, 1) := by decide +kernel
theorem dX4_takeType_93 : decode cX4_takeType 93 = .ok (.iadd, 1) := by decide +kernel
theorem dX4_takeType_94 : decode cX4_takeType 94 = .ok (.putfield 18, 3) := by decide +kernel
theorem dX4_takeType_97 : decode cX4_takeType 97 = .ok (.iconst 1, 1) := by decide +kernel
theorem dX4_takeType_98 : decode cX4_takeType 98 = .ok (.ireturn, 1) := by decide +kernel
theorem dX4_takeConstant_0 : decode cX4_takeConstant 0 = .ok (.aload_n 0, 1) := by decide +kernel
theorem dX4_takeConstant_1 : decode cX4_takeConstant 1 = .ok (.getfield 12, 3) := by decide +kernel
theorem dX4_takeConstant_4 : decode cX4_takeConstant 4 = .ok (.getfield 51, 3) := by decide +kernel
theorem dX4_takeConstant_7 : decode cX4_takeConstant 7 = .ok (.getfield 116, 3) := by decide +kernel
theorem dX4_takeConstant_10 : decode cX4_takeConstant 10 = .ok (.aload_n 0, 1) := by decide +kernel
theorem dX4_takeConstant_11 : decode cX4_takeConstant 11 = .ok (.getfield 18, 3) := by decide +kernel
theorem dX4_takeConstant_14 : decode cX4_takeConstant 14 = .ok (.invokevirtual 61, 3) := by decide +kernel
theorem dX4_takeConstant_17 : decode cX4_takeConstant 17 = .ok (.istore_n 2, 1) := by decide +kernel
theorem dX4_takeConstant_18 : decode cX4_takeConstant 18 = .ok (.iload_n 1, 1) := by decide +kernel
theorem dX4_takeConstant_19 : decode cX4_takeConstant 19 = .ok (.sipush 259, 3) := by decide +kernel
theorem dX4_takeConstant_22 : decode cX4_takeConstant 22 = .ok (.if_icmp .ne 10, 3) := by decide +kernel
theorem dX4_takeConstant_25 : decode cX4_takeConstant 25 = .ok (.aload_n 0, 1) := by decide +kernel
theorem dX4_takeConstant_26 : decode cX4_takeConstant 26 = .ok (.iload_n 2, 1) := by decide +kernel
theorem dX4_takeConstant_27 : decode cX4_takeConstant 27 = .ok (.putfield 22, 3) := by decide +kernel
theorem dX4_takeConstant_30 : decode cX4_takeConstant 30 = .ok (.iconst 0, 1) := by decide +kernel
theorem dX4_takeConstant_31 : decode cX4_takeConstant 31 = .ok (.ireturn, 1) := by decide +kernel
theorem dX4_takeConstant_32 : decode cX4_takeConstant 32 = .ok (.iload_n 1, 1) := by decide +kernel
theorem dX4_takeConstant_33 : decode cX4_takeConstant 33 = .ok (.sipush 257, 3) := by decide +kernel
theorem dX4_takeConstant_36 : decode cX4_takeConstant 36 = .ok (.if_icmp .ne 15, 3) := by decide +kernel
theorem dX4_takeConstant_39 : decode cX4_takeConstant 39 = .ok (.iload_n 2, 1) := by decide +kernel
theorem dX4_takeConstant_40 : decode cX4_takeConstant 40 = .ok (.iconst 4, 1) := by decide +kernel
theorem dX4_takeConstant_41 : decode cX4_takeConstant 41 = .ok (.if_icmp .le 10, 3) := by decide +kernel
theorem dX4_takeConstant_44 : decode cX4_takeConstant 44 = .ok (.aload_n 0, 1) := by decide +kernel
theorem dX4_takeConstant_45 : decode cX4_takeConstant 45 = .ok (.iconst 4, 1) := by decide +kernel
theorem dX4_takeConstant_46 : decode cX4_takeConstant 46 = .ok (.putfield 22, 3) := by decide +kernel
theorem dX4_takeConstant_49 : decode cX4_takeConstant 49 = .ok (.iconst 0, 1) := by decide +kernel
theorem dX4_takeConstant_50 : decode cX4_takeConstant 50 = .ok (.ireturn, 1) := by decide +kernel
theorem dX4_takeConstant_51 : decode cX4_takeConstant 51 = .ok (.aload_n 0, 1) := by decide +kernel
theorem dX4_takeConstant_52 : decode cX4_takeConstant 52 = .ok (.dup, 1) := by decide +kernel
theorem dX4_takeConstant_53 : decode cX4_takeConstant 53 = .ok (.getfield 18, 3) := by decide +kernel
theorem dX4_takeConstant_56 : decode cX4_takeConstant 56 = .ok (.iconst 1, 1) := by decide +kernel
theorem dX4_takeConstant_57 : decode cX4_takeConstant 57 = .ok (.iadd, 1) := by decide +kernel
theorem dX4_takeConstant_58 : decode cX4_takeConstant 58 = .ok (.putfield 18, 3) := by decide +kernel
theorem dX4_takeConstant_61 : decode cX4_takeConstant 61 = .ok (.iconst 1, 1) := by decide +kernel
theorem dX4_takeConstant_62 : decode cX4_takeConstant 62 = .ok (.ireturn, 1) := by decide +kernel
theorem dX5_init_0 : decode cX5_init 0 = .ok (.aload_n 0, 1) := by decide +kernel
theorem dX5_init_1 : decode cX5_init 1 = .ok (.invokespecial 3, 3) := by decide +kernel
theorem dX5_init_4 : decode cX5_init 4 = .ok (.aload_n 0, 1) := by decide +kernel
theorem dX5_init_5 : decode cX5_init 5 = .ok (.bipush 7, 2) := by decide +kernel
theorem dX5_init_7 : decode cX5_init 7 = .ok (.newarray .int, 2) := by decide +kernel
theorem dX5_init_9 : decode cX5_init 9 = .ok (.putfield 9, 3) := by decide +kernel
theorem dX5_init_12 : decode cX5_init 12 = .ok (.aload_n 0, 1) := by decide +kernel
theorem dX5_init_13 : decode cX5_init 13 = .ok (.bipush 7, 2) := by decide +kernel
theorem dX5_init_15 : decode cX5_init 15 = .ok (.newarray .int, 2) := by decide +kernel
theorem dX5_init_17 : decode cX5_init 17 = .ok (.putfield 15, 3) := by decide +kernel
theorem dX5_init_20 : decode cX5_init 20 = .ok (.aload_n 0, 1) := by decide +kernel
theorem dX5_init_21 : decode cX5_init 21 = .ok (.new 18, 3) := by decide +kernel
theorem dX5_init_24 : decode cX5_init 24 = .ok (.dup, 1) := by decide +kernel
theorem dX5_init_25 : decode cX5_init 25 = .ok (.iload_n 1, 1) := by decide +kernel
theorem dX5_init_26 : decode cX5_init 26 = .ok (.invokespecial 20, 3) := by decide +kernel
theorem dX5_init_29 : decode cX5_init 29 = .ok (.putfield 23, 3) := by decide +kernel
theorem dX5_init_32 : decode cX5_init 32 = .ok (.aload_n 0, 1) := by decide +kernel
theorem dX5_init_33 : decode cX5_init 33 = .ok (.new 18, 3) := by decide +kernel
theorem dX5_init_36 : decode cX5_init 36 = .ok (.dup, 1) := by decide +kernel
theorem dX5_init_37 : decode cX5_init 37 = .ok (.iload_n 1, 1) := by decide +kernel
theorem dX5_init_38 : decode cX5_init 38 = .ok (.invokespecial 20, 3) := by decide +kernel
theorem dX5_init_41 : decode cX5_init 41 = .ok (.putfield 27, 3) := by decide +kernel
theorem dX5_init_44 : decode cX5_init 44 = .ok (.return_, 1) := by decide +kernel
theorem dX5_clear_0 : decode cX5_clear 0 = .ok (.aload_n 0, 1) := by decide +kernel
theorem dX5_clear_1 : decode cX5_clear 1 = .ok (.getfield 23, 3) := by decide +kernel
theorem dX5_clear_4 : decode cX5_clear 4 = .ok (.iconst 0, 1) := by decide +kernel
theorem dX5_clear_5 : decode cX5_clear 5 = .ok (.invokevirtual 30, 3) := by decide +kernel
theorem dX5_clear_8 : decode cX5_clear 8 = .ok (.aload_n 0, 1) := by decide +kernel
theorem dX5_clear_9 : decode cX5_clear 9 = .ok (.getfield 27, 3) := by decide +kernel
theorem dX5_clear_12 : decode cX5_clear 12 = .ok (.iconst 0, 1) := by decide +kernel
theorem dX5_clear_13 : decode cX5_clear 13 = .ok (.invokevirtual 30, 3) := by decide +kernel
theorem dX5_clear_16 : decode cX5_clear 16 = .ok (.aload_n 0, 1) := by decide +kernel
theorem dX5_clear_17 : decode cX5_clear 17 = .ok (.iconst 0, 1) := by decide +kernel
theorem dX5_clear_18 : decode cX5_clear 18 = .ok (.putfield 33, 3) := by decide +kernel
theorem dX5_clear_21 : decode cX5_clear 21 = .ok (.iconst 0, 1) := by decide +kernel
theorem dX5_clear_22 : decode cX5_clear 22 = .ok (.istore_n 1, 1) := by decide +kernel
theorem dX5_clear_23 : decode cX5_clear 23 = .ok (.iload_n 1, 1) := by decide +kernel
theorem dX5_clear_24 : decode cX5_clear 24 = .ok (.bipush 6, 2) := by decide +kernel
theorem dX5_clear_26 : decode cX5_clear 26 = .ok (.if_icmp .gt 23, 3) := by decide +kernel
theorem dX5_clear_29 : decode cX5_clear 29 = .ok (.aload_n 0, 1) := by decide +kernel
theorem dX5_clear_30 : decode cX5_clear 30 = .ok (.getfield 9, 3) := by decide +kernel
theorem dX5_clear_33 : decode cX5_clear 33 = .ok (.iload_n 1, 1) := by decide +kernel
theorem dX5_clear_34 : decode cX5_clear 34 = .ok (.iconst 0, 1) := by decide +kernel
theorem dX5_clear_35 : decode cX5_clear 35 = .ok (.iastore, 1) := by decide +kernel
theorem dX5_clear_36 : decode cX5_clear 36 = .ok (.aload_n 0, 1) := by decide +kernel
theorem dX5_clear_37 : decode cX5_clear 37 = .ok (.getfield 15, 3) := by decide +kernel
theorem dX5_clear_40 : decode cX5_clear 40 = .ok (.iload_n 1, 1) := by decide +kernel
theorem dX5_clear_41 : decode cX5_clear 41 = .ok (.iconst 0, 1) := by decide +kernel
theorem dX5_clear_42 : decode cX5_clear 42 = .ok (.iastore, 1) := by decide +kernel
theorem dX5_clear_43 : decode cX5_clear 43 = .ok (.iinc 1 1, 3) := by decide +kernel
theorem dX5_clear_46 : decode cX5_clear 46 = .ok (.goto (-23), 3) := by decide +kernel
theorem dX5_clear_49 : decode cX5_clear 49 = .ok (.return_, 1) := by decide +kernel
theorem dX5_add_0 : decode cX5_add 0 = .ok (.aload_n 0, 1) := by decide +kernel
theorem dX5_add_1 : decode cX5_add 1 = .ok (.getfield 23, 3) := by decide +kernel
theorem dX5_add_4 : decode cX5_add 4 = .ok (.iload_n 1, 1) := by decide +kernel
theorem dX5_add_5 : decode cX5_add 5 = .ok (.invokevirtual 37, 3) := by decide +kernel
theorem dX5_add_8 : decode cX5_add 8 = .ok (.aload_n 0, 1) := by decide +kernel
theorem dX5_add_9 : decode cX5_add 9 = .ok (.getfield 27, 3) := by decide +kernel
theorem dX5_add_12 : decode cX5_add 12 = .ok (.iload_n 2, 1) := by decide +kernel
theorem dX5_add_13 : decode cX5_add 13 = .ok (.invokevirtual 37, 3) := by decide +kernel
theorem dX5_add_16 : decode cX5_add 16 = .ok (.return_, 1) := by decide +kernel
theorem dX5_closePart_0 : decode cX5_closePart 0 = .ok (.iload_n 1, 1) := by decide +kernel
theorem dX5_closePart_1 : decode cX5_closePart 1 = .ok (.ifCond .lt 32, 3) := by decide +kernel
theorem dX5_closePart_4 : decode cX5_closePart 4 = .ok (.iload_n 1, 1) := by decide +kernel
theorem dX5_closePart_5 : decode cX5_closePart 5 = .ok (.bipush 6, 2) := by decide +kernel
theorem dX5_closePart_7 : decode cX5_closePart 7 = .ok (.if_icmp .gt 26, 3) := by decide +kernel
theorem dX5_closePart_10 : decode cX5_closePart 10 = .ok (.aload_n 0, 1) := by decide +kernel
theorem dX5_closePart_11 : decode cX5_closePart 11 = .ok (.getfield 9, 3) := by decide +kernel
theorem dX5_closePart_14 : decode cX5_closePart 14 = .ok (.iload_n 1, 1) := by decide +kernel
theorem dX5_closePart_15 : decode cX5_closePart 15 = .ok (.aload_n 0, 1) := by decide +kernel
theorem dX5_closePart_16 : decode cX5_closePart 16 = .ok (.getfield 33, 3) := by decide +kernel
theorem dX5_closePart_19 : decode cX5_closePart 19 = .ok (.iastore, 1) := by decide +kernel
theorem dX5_closePart_20 : decode cX5_closePart 20 = .ok (.aload_n 0, 1) := by decide +kernel
theorem dX5_closePart_21 : decode cX5_closePart 21 = .ok (.getfield 15, 3) := by decide +kernel
theorem dX5_closePart_24 : decode cX5_closePart 24 = .ok (.iload_n 1, 1) := by decide +kernel
theorem dX5_closePart_25 : decode cX5_closePart 25 = .ok (.aload_n 0, 1) := by decide +kernel
theorem dX5_closePart_26 : decode cX5_closePart 26 = .ok (.getfield 23, 3) := by decide +kernel
theorem dX5_closePart_29 : decode cX5_closePart 29 = .ok (.invokevirtual 40, 3) := by decide +kernel
theorem dX5_closePart_32 : decode cX5_closePart 32 = .ok (.iastore, 1) := by decide +kernel
theorem dX5_closePart_33 : decode cX5_closePart 33 = .ok (.aload_n 0, 1) := by decide +kernel
theorem dX5_closePart_34 : decode cX5_closePart 34 = .ok (.aload_n 0, 1) := by decide +kernel
theorem dX5_closePart_35 : decode cX5_closePart 35 = .ok (.getfield 23, 3) := by decide +kernel
theorem dX5_closePart_38 : decode cX5_closePart 38 = .ok (.invokevirtual 40, 3) := by decide +kernel
theorem dX5_closePart_41 : decode cX5_closePart 41 = .ok (.putfield 33, 3) := by decide +kernel
theorem dX5_closePart_44 : decode cX5_closePart 44 = .ok (.return_, 1) := by decide +kernel
theorem dX5_startOf_0 : decode cX5_startOf 0 = .ok (.iload_n 1, 1) := by decide +kernel
theorem dX5_startOf_1 : decode cX5_startOf 1 = .ok (.ifCond .lt 18, 3) := by decide +kernel
theorem dX5_startOf_4 : decode cX5_startOf 4 = .ok (.iload_n 1, 1) := by decide +kernel
theorem dX5_startOf_5 : decode cX5_startOf 5 = .ok (.bipush 6, 2) := by decide +kernel
theorem dX5_startOf_7 : decode cX5_startOf 7 = .ok (.if_icmp .gt 12, 3) := by decide +kernel
theorem dX5_startOf_10 : decode cX5_startOf 10 = .ok (.aload_n 0, 1) := by decide +kernel
theorem dX5_startOf_11 : decode cX5_startOf 11 = .ok (.getfield 9, 3) := by decide +kernel
theorem dX5_startOf_14 : decode cX5_startOf 14 = .ok (.iload_n 1, 1) := by decide +kernel
theorem dX5_startOf_15 : decode cX5_startOf 15 = .ok (.iaload, 1) := by decide +kernel
theorem dX5_startOf_16 : decode cX5_startOf 16 = .ok (.goto 4, 3) := by decide +kernel
theorem dX5_startOf_19 : decode cX5_startOf 19 = .ok (.iconst 0, 1) := by decide +kernel
theorem dX5_startOf_20 : decode cX5_startOf 20 = .ok (.ireturn, 1) := by decide +kernel
theorem dX5_stopOf_0 : decode cX5_stopOf 0 = .ok (.iload_n 1, 1) := by decide +kernel
theorem dX5_stopOf_1 : decode cX5_stopOf 1 = .ok (.ifCond .lt 18, 3) := by decide +kernel
theorem dX5_stopOf_4 : decode cX5_stopOf 4 = .ok (.iload_n 1, 1) := by decide +kernel
theorem dX5_stopOf_5 : decode cX5_stopOf 5 = .ok (.bipush 6, 2) := by decide +kernel
theorem dX5_stopOf_7 : decode cX5_stopOf 7 = .ok (.if_icmp .gt 12, 3) := by decide +kernel
theorem dX5_stopOf_10 : decode cX5_stopOf 10 = .ok (.aload_n 0, 1) := by decide +kernel
theorem dX5_stopOf_11 : decode cX5_stopOf 11 = .ok (.getfield 15, 3) := by decide +kernel
theorem dX5_stopOf_14 : decode cX5_stopOf 14 = .ok (.iload_n 1, 1) := by decide +kernel
theorem dX5_stopOf_15 : decode cX5_stopOf 15 = .ok (.iaload, 1) := by decide +kernel
theorem dX5_stopOf_16 : decode cX5_stopOf 16 = .ok (.goto 4, 3) := by decide +kernel
theorem dX5_stopOf_19 : decode cX5_stopOf 19 = .ok (.iconst 0, 1) := by decide +kernel
theorem dX5_stopOf_20 : decode cX5_stopOf 20 = .ok (.ireturn, 1) := by decide +kernel
theorem dX5_markUsed_0 : decode cX5_markUsed 0 = .ok (.aload_n 0, 1) := by decide +kernel
theorem dX5_markUsed_1 : decode cX5_markUsed 1 = .ok (.iload_n 1, 1) := by decide +kernel
theorem dX5_markUsed_2 : decode cX5_markUsed 2 = .ok (.invokevirtual 44, 3) := by decide +kernel
theorem dX5_markUsed_5 : decode cX5_markUsed 5 = .ok (.istore_n 3, 1) := by decide +kernel
theorem dX5_markUsed_6 : decode cX5_markUsed 6 = .ok (.aload_n 0, 1) := by decide +kernel
theorem dX5_markUsed_7 : decode cX5_markUsed 7 = .ok (.iload_n 1, 1) := by decide +kernel
theorem dX5_markUsed_8 : decode cX5_markUsed 8 = .ok (.invokevirtual 48, 3) := by decide +kernel
theorem dX5_markUsed_11 : decode cX5_markUsed 11 = .ok (.istore 4, 2) := by decide +kernel
theorem dX5_markUsed_13 : decode cX5_markUsed 13 = .ok (.iload 4, 2) := by decide +kernel
theorem dX5_markUsed_15 : decode cX5_markUsed 15 = .ok (.iload_n 3, 1) := by decide +kernel
theorem dX5_markUsed_16 : decode cX5_markUsed 16 = .ok (.if_icmp .ge 26, 3) := by decide +kernel
theorem dX5_markUsed_19 : decode cX5_markUsed 19 = .ok (.aload_n 2, 1) := by decide +kernel
theorem dX5_markUsed_20 : decode cX5_markUsed 20 = .ok (.aload_n 0, 1) := by decide +kernel
theorem dX5_markUsed_21 : decode cX5_markUsed 21 = .ok (.getfield 23, 3) := by decide +kernel
theorem dX5_markUsed_24 : decode cX5_markUsed 24 = .ok (.iload 4, 2) := by decide +kernel
theorem dX5_markUsed_26 : decode cX5_markUsed 26 = .ok (.invokevirtual 51, 3) := by decide +kernel
theorem dX5_markUsed_29 : decode cX5_markUsed 29 = .ok (.sipush 1000, 3) := by decide +kernel
theorem dX5_markUsed_32 : decode cX5_markUsed 32 = .ok (.isub, 1) := by decide +kernel
theorem dX5_markUsed_33 : decode cX5_markUsed 33 = .ok (.invokevirtual 54, 3) := by decide +kernel
theorem dX5_markUsed_36 : decode cX5_markUsed 36 = .ok (.iinc 4 1, 3) := by decide +kernel
theorem dX5_markUsed_39 : decode cX5_markUsed 39 = .ok (.goto (-26), 3) := by decide +kernel
theorem dX5_markUsed_42 : decode cX5_markUsed 42 = .ok (.return_, 1) := by decide +kernel
theorem dX5_usesMarked_0 : decode cX5_usesMarked 0 = .ok (.aload_n 0, 1) := by decide +kernel
theorem dX5_usesMarked_1 : decode cX5_usesMarked 1 = .ok (.iload_n 1, 1) := by decide +kernel
theorem dX5_usesMarked_2 : decode cX5_usesMarked 2 = .ok (.invokevirtual 44, 3) := by decide +kernel
theorem dX5_usesMarked_5 : decode cX5_usesMarked 5 = .ok (.istore_n 3, 1) := by decide +kernel
theorem dX5_usesMarked_6 : decode cX5_usesMarked 6 = .ok (.aload_n 0, 1) := by decide +kernel
theorem dX5_usesMarked_7 : decode cX5_usesMarked 7 = .ok (.iload_n 1, 1) := by decide +kernel
theorem dX5_usesMarked_8 : decode cX5_usesMarked 8 = .ok (.invokevirtual 48, 3) := by decide +kernel
theorem dX5_usesMarked_11 : decode cX5_usesMarked 11 = .ok (.istore 4, 2) := by decide +kernel
theorem dX5_usesMarked_13 : decode cX5_usesMarked 13 = .ok (.iload 4, 2) := by decide +kernel
theorem dX5_usesMarked_15 : decode cX5_usesMarked 15 = .ok (.iload_n 3, 1) := by decide +kernel
theorem dX5_usesMarked_16 : decode cX5_usesMarked 16 = .ok (.if_icmp .ge 43, 3) := by decide +kernel
theorem dX5_usesMarked_19 : decode cX5_usesMarked 19 = .ok (.aload_n 0, 1) := by decide +kernel
theorem dX5_usesMarked_20 : decode cX5_usesMarked 20 = .ok (.getfield 23, 3) := by decide +kernel
theorem dX5_usesMarked_23 : decode cX5_usesMarked 23 = .ok (.iload 4, 2) := by decide +kernel
theorem dX5_usesMarked_25 : decode cX5_usesMarked 25 = .ok (.invokevirtual 51, 3) := by decide +kernel
theorem dX5_usesMarked_28 : decode cX5_usesMarked 28 = .ok (.istore 5, 2) := by decide +kernel
theorem dX5_usesMarked_30 : decode cX5_usesMarked 30 = .ok (.iload 5, 2) := by decide +kernel
theorem dX5_usesMarked_32 : decode cX5_usesMarked 32 = .ok (.sipush 1000, 3) := by decide +kernel
theorem dX5_usesMarked_35 : decode cX5_usesMarked 35 = .ok (.if_icmp .lt 18, 3) := by decide +kernel
theorem dX5_usesMarked_38 : decode cX5_usesMarked 38 = .ok (.aload_n 2, 1) := by decide +kernel
theorem dX5_usesMarked_39 : decode cX5_usesMarked 39 = .ok (.iload 5, 2) := by decide +kernel
theorem dX5_usesMarked_41 : decode cX5_usesMarked 41 = .ok (.sipush 1000, 3) := by decide +kernel
theorem dX5_usesMarked_44 : decode cX5_usesMarked 44 = .ok (.isub, 1) := by decide +kernel
theorem dX5_usesMarked_45 : decode cX5_usesMarked 45 = .ok (.invokevirtual 57, 3) := by decide +kernel
theorem dX5_usesMarked_48 : decode cX5_usesMarked 48 = .ok (.ifCond .eq 5, 3) := by decide +kernel
theorem dX5_usesMarked_51 : decode cX5_usesMarked 51 = .ok (.iconst 1, 1) := by decide +kernel
theorem dX5_usesMarked_52 : decode cX5_usesMarked 52 = .ok (.ireturn, 1) := by decide +kernel
theorem dX5_usesMarked_53 : decode cX5_usesMarked 53 = .ok (.iinc 4 1, 3) := by decide +kernel
theorem dX5_usesMarked_56 : decode cX5_usesMarked 56 = .ok (.goto (-43), 3) := by decide +kernel
theorem dX5_usesMarked_59 : decode cX5_usesMarked 59 = .ok (.iconst 0, 1) := by decide +kernel
theorem dX5_usesMarked_60 : decode cX5_usesMarked 60 = .ok (.ireturn, 1) := by decide +kernel
theorem dX5_copy_0 : decode cX5_copy 0 = .ok (.new 10, 3) := by decide +kernel
theorem dX5_copy_3 : decode cX5_copy 3 = .ok (.dup, 1) := by decide +kernel
theorem dX5_copy_4 : decode cX5_copy 4 = .ok (.aload_n 0, 1) := by decide +kernel
theorem dX5_copy_5 : decode cX5_copy 5 = .ok (.getfield 23, 3) := by decide +kernel
theorem dX5_copy_8 : decode cX5_copy 8 = .ok (.invokevirtual 40, 3) := by decide +kernel
theorem dX5_copy_11 : decode cX5_copy 11 = .ok (.invokespecial 61, 3) := by decide +kernel
theorem dX5_copy_14 : decode cX5_copy 14 = .ok (.astore_n 1, 1) := by decide +kernel
theorem dX5_copy_15 : decode cX5_copy 15 = .ok (.aload_n 1, 1) := by decide +kernel
theorem dX5_copy_16 : decode cX5_copy 16 = .ok (.getfield 23, 3) := by decide +kernel
theorem dX5_copy_19 : decode cX5_copy 19 = .ok (.aload_n 0, 1) := by decide +kernel
theorem dX5_copy_20 : decode cX5_copy 20 = .ok (.getfield 23, 3) := by decide +kernel
theorem dX5_copy_23 : decode cX5_copy 23 = .ok (.invokevirtual 62, 3) := by decide +kernel
theorem dX5_copy_26 : decode cX5_copy 26 = .ok (.aload_n 1, 1) := by decide +kernel
theorem dX5_copy_27 : decode cX5_copy 27 = .ok (.getfield 27, 3) := by decide +kernel
theorem dX5_copy_30 : decode cX5_copy 30 = .ok (.aload_n 0, 1) := by decide +kernel
theorem dX5_copy_31 : decode cX5_copy 31 = .ok (.getfield 27, 3) := by decide +kernel
theorem dX5_copy_34 : decode cX5_copy 34 = .ok (.invokevirtual 62, 3) := by decide +kernel
theorem dX5_copy_37 : decode cX5_copy 37 = .ok (.aload_n 0, 1) := by decide +kernel
theorem dX5_copy_38 : decode cX5_copy 38 = .ok (.getfield 9, 3) := by decide +kernel
theorem dX5_copy_41 : decode cX5_copy 41 = .ok (.iconst 0, 1) := by decide +kernel
theorem dX5_copy_42 : decode cX5_copy 42 = .ok (.aload_n 1, 1) := by decide +kernel
theorem dX5_copy_43 : decode cX5_copy 43 = .ok (.getfield 9, 3) := by decide +kernel
theorem dX5_copy_46 : decode cX5_copy 46 = .ok (.iconst 0, 1) := by decide +kernel
theorem dX5_copy_47 : decode cX5_copy 47 = .ok (.bipush 7, 2) := by decide +kernel
theorem dX5_copy_49 : decode cX5_copy 49 = .ok (.invokestatic 66, 3) := by decide +kernel
theorem dX5_copy_52 : decode cX5_copy 52 = .ok (.aload_n 0, 1) := by decide +kernel
theorem dX5_copy_53 : decode cX5_copy 53 = .ok (.getfield 15, 3) := by decide +kernel
theorem dX5_copy_56 : decode cX5_copy 56 = .ok (.iconst 0, 1) := by decide +kernel
theorem dX5_copy_57 : decode cX5_copy 57 = .ok (.aload_n 1, 1) := by decide +kernel
theorem dX5_copy_58 : decode cX5_copy 58 = .ok (.getfield 15, 3) := by decide +kernel
theorem dX5_copy_61 : decode cX5_copy 61 = .ok (.iconst 0, 1) := by decide +kernel
theorem dX5_copy_62 : decode cX5_copy 62 = .ok (.bipush 7, 2) := by decide +kernel
theorem dX5_copy_64 : decode cX5_copy 64 = .ok (.invokestatic 66, 3) := by decide +kernel
theorem dX5_copy_67 : decode cX5_copy 67 = .ok (.aload_n 1, 1) := by decide +kernel
theorem dX5_copy_68 : decode cX5_copy 68 = .ok (.aload_n 0, 1) := by decide +kernel
theorem dX5_copy_69 : decode cX5_copy 69 = .ok (.getfield 33, 3) := by decide +kernel
theorem dX5_copy_72 : decode cX5_copy 72 = .ok (.putfield 33, 3) := by decide +kernel
theorem dX5_copy_75 : decode cX5_copy 75 = .ok (.aload_n 1, 1) := by decide +kernel
theorem dX5_copy_76 : decode cX5_copy 76 = .ok (.areturn, 1) := by decide +kernel
theorem dX6_init_0 : decode cX6_init 0 = .ok (.aload_n 0, 1) := by decide +kernel
theorem dX6_init_1 : decode cX6_init 1 = .ok (.invokespecial 3, 3) := by decide +kernel
theorem dX6_init_4 : decode cX6_init 4 = .ok (.aload_n 0, 1) := by decide +kernel
theorem dX6_init_5 : decode cX6_init 5 = .ok (.iload_n 1, 1) := by decide +kernel
theorem dX6_init_6 : decode cX6_init 6 = .ok (.iconst 0, 1) := by decide +kernel
theorem dX6_init_7 : decode cX6_init 7 = .ok (.invokestatic 9, 3) := by decide +kernel
theorem dX6_init_10 : decode cX6_init 10 = .ok (.newarray .int, 2) := by decide +kernel
theorem dX6_init_12 : decode cX6_init 12 = .ok (.putfield 15, 3) := by decide +kernel
theorem dX6_init_15 : decode cX6_init 15 = .ok (.return_, 1) := by decide +kernel
theorem dX6_size_0 : decode cX6_size 0 = .ok (.aload_n 0, 1) := by decide +kernel
theorem dX6_size_1 : decode cX6_size 1 = .ok (.getfield 21, 3) := by decide +kernel
theorem dX6_size_4 : decode cX6_size 4 = .ok (.ireturn, 1) := by decide +kernel
theorem dX6_get_0 : decode cX6_get 0 = .ok (.iload_n 1, 1) := by decide +kernel
theorem dX6_get_1 : decode cX6_get 1 = .ok (.ifCond .lt 29, 3) := by decide +kernel
theorem dX6_get_4 : decode cX6_get 4 = .ok (.iload_n 1, 1) := by decide +kernel
theorem dX6_get_5 : decode cX6_get 5 = .ok (.aload_n 0, 1) := by decide +kernel
theorem dX6_get_6 : decode cX6_get 6 = .ok (.getfield 21, 3) := by decide +kernel
theorem dX6_get_9 : decode cX6_get 9 = .ok (.if_icmp .ge 21, 3) := by decide +kernel
theorem dX6_get_12 : decode cX6_get 12 = .ok (.iload_n 1, 1) := by decide +kernel
theorem dX6_get_13 : decode cX6_get 13 = .ok (.aload_n 0, 1) := by decide +kernel
theorem dX6_get_14 : decode cX6_get 14 = .ok (.getfield 15, 3) := by decide +kernel
theorem dX6_get_17 : decode cX6_get 17 = .ok (.arraylength, 1) := by decide +kernel
theorem dX6_get_18 : decode cX6_get 18 = .ok (.if_icmp .ge 12, 3) := by decide +kernel
theorem dX6_get_21 : decode cX6_get 21 = .ok (.aload_n 0, 1) := by decide +kernel
theorem dX6_get_22 : decode cX6_get 22 = .ok (.getfield 15, 3) := by decide +kernel
theorem dX6_get_25 : decode cX6_get 25 = .ok (.iload_n 1, 1) := by decide +kernel
theorem dX6_get_26 : decode cX6_get 26 = .ok (.iaload, 1) := by decide +kernel
theorem dX6_get_27 : decode cX6_get 27 = .ok (.goto 4, 3) := by decide +kernel
theorem dX6_get_30 : decode cX6_get 30 = .ok (.iconst (-1), 1) := by decide +kernel
theorem dX6_get_31 : decode cX6_get 31 = .ok (.ireturn, 1) := by decide +kernel
theorem dX6_set_0 : decode cX6_set 0 = .ok (.iload_n 1, 1) := by decide +kernel
theorem dX6_set_1 : decode cX6_set 1 = .ok (.ifCond .lt 27, 3) := by decide +kernel
theorem dX6_set_4 : decode cX6_set 4 = .ok (.iload_n 1, 1) := by decide +kernel
theorem dX6_set_5 : decode cX6_set 5 = .ok (.aload_n 0, 1) := by decide +kernel
theorem dX6_set_6 : decode cX6_set 6 = .ok (.getfield 21, 3) := by decide +kernel
theorem dX6_set_9 : decode cX6_set 9 = .ok (.if_icmp .ge 19, 3) := by decide +kernel
theorem dX6_set_12 : decode cX6_set 12 = .ok (.iload_n 1, 1) := by decide +kernel
theorem dX6_set_13 : decode cX6_set 13 = .ok (.aload_n 0, 1) := by decide +kernel
theorem dX6_set_14 : decode cX6_set 14 = .ok (.getfield 15, 3) := by decide +kernel
theorem dX6_set_17 : decode cX6_set 17 = .ok (.arraylength, 1) := by decide +kernel
theorem dX6_set_18 : decode cX6_set 18 = .ok (.if_icmp .ge 10, 3) := by decide +kernel
theorem dX6_set_21 : decode cX6_set 21 = .ok (.aload_n 0, 1) := by decide +kernel
theorem dX6_set_22 : decode cX6_set 22 = .ok (.getfield 15, 3) := by decide +kernel
theorem dX6_set_25 : decode cX6_set 25 = .ok (.iload_n 1, 1) := by decide +kernel
theorem dX6_set_26 : decode cX6_set 26 = .ok (.iload_n 2, 1) := by decide +kernel
theorem dX6_set_27 : decode cX6_set 27 = .ok (.iastore, 1) := by decide +kernel
theorem dX6_set_28 : decode cX6_set 28 = .ok (.return_, 1) := by decide +kernel
theorem dX6_add_0 : decode cX6_add 0 = .ok (.aload_n 0, 1) := by decide +kernel
theorem dX6_add_1 : decode cX6_add 1 = .ok (.getfield 21, 3) := by decide +kernel
theorem dX6_add_4 : decode cX6_add 4 = .ok (.ifCond .lt 35, 3) := by decide +kernel
theorem dX6_add_7 : decode cX6_add 7 = .ok (.aload_n 0, 1) := by decide +kernel
theorem dX6_add_8 : decode cX6_add 8 = .ok (.getfield 21, 3) := by decide +kernel
theorem dX6_add_11 : decode cX6_add 11 = .ok (.aload_n 0, 1) := by decide +kernel
theorem dX6_add_12 : decode cX6_add 12 = .ok (.getfield 15, 3) := by decide +kernel
theorem dX6_add_15 : decode cX6_add 15 = .ok (.arraylength, 1) := by decide +kernel
theorem dX6_add_16 : decode cX6_add 16 = .ok (.if_icmp .ge 23, 3) := by decide +kernel
theorem dX6_add_19 : decode cX6_add 19 = .ok (.aload_n 0, 1) := by decide +kernel
theorem dX6_add_20 : decode cX6_add 20 = .ok (.getfield 15, 3) := by decide +kernel
theorem dX6_add_23 : decode cX6_add 23 = .ok (.aload_n 0, 1) := by decide +kernel
theorem dX6_add_24 : decode cX6_add 24 = .ok (.getfield 21, 3) := by decide +kernel
theorem dX6_add_27 : decode cX6_add 27 = .ok (.iload_n 1, 1) := by decide +kernel
theorem dX6_add_28 : decode cX6_add 28 = .ok (.iastore, 1) := by decide +kernel
theorem dX6_add_29 : decode cX6_add 29 = .ok (.aload_n 0, 1) := by decide +kernel
theorem dX6_add_30 : decode cX6_add 30 = .ok (.dup, 1) := by decide +kernel
theorem dX6_add_31 : decode cX6_add 31 = .ok (.getfield 21, 3) := by decide +kernel
theorem dX6_add_34 : decode cX6_add 34 = .ok (.iconst 1, 1) := by decide +kernel
theorem dX6_add_35 : decode cX6_add 35 = .ok (.iadd, 1) := by decide +kernel
theorem dX6_add_36 : decode cX6_add 36 = .ok (.putfield 21, 3) := by decide +kernel
theorem dX6_add_39 : decode cX6_add 39 = .ok (.return_, 1) := by decide +kernel
theorem dX6_addAll_0 : decode cX6_addAll 0 = .ok (.aload_n 1, 1) := by decide +kernel
theorem dX6_addAll_1 : decode cX6_addAll 1 = .ok (.getfield 21, 3) := by decide +kernel
theorem dX6_addAll_4 : decode cX6_addAll 4 = .ok (.aload_n 0, 1) := by decide +kernel
theorem dX6_addAll_5 : decode cX6_addAll 5 = .ok (.getfield 15, 3) := by decide +kernel
theorem dX6_addAll_8 : decode cX6_addAll 8 = .ok (.arraylength, 1) := by decide +kernel
theorem dX6_addAll_9 : decode cX6_addAll 9 = .ok (.aload_n 0, 1) := by decide +kernel
theorem dX6_addAll_10 : decode cX6_addAll 10 = .ok (.getfield 21, 3) := by decide +kernel
theorem dX6_addAll_13 : decode cX6_addAll 13 = .ok (.isub, 1) := by decide +kernel
theorem dX6_addAll_14 : decode cX6_addAll 14 = .ok (.invokestatic 25, 3) := by decide +kernel
theorem dX6_addAll_17 : decode cX6_addAll 17 = .ok (.istore_n 2, 1) := by decide +kernel
theorem dX6_addAll_18 : decode cX6_addAll 18 = .ok (.iload_n 2, 1) := by decide +kernel
theorem dX6_addAll_19 : decode cX6_addAll 19 = .ok (.ifCond .le 30, 3) := by decide +kernel
theorem dX6_addAll_22 : decode cX6_addAll 22 = .ok (.aload_n 1, 1) := by decide +kernel
theorem dX6_addAll_23 : decode cX6_addAll 23 = .ok (.getfield 15, 3) := by decide +kernel
theorem dX6_addAll_26 : decode cX6_addAll 26 = .ok (.iconst 0, 1) := by decide +kernel
theorem dX6_addAll_27 : decode cX6_addAll 27 = .ok (.aload_n 0, 1) := by decide +kernel
theorem dX6_addAll_28 : decode cX6_addAll 28 = .ok (.getfield 15, 3) := by decide +kernel
theorem dX6_addAll_31 : decode cX6_addAll 31 = .ok (.aload_n 0, 1) := by decide +kernel
theorem dX6_addAll_32 : decode cX6_addAll 32 = .ok (.getfield 21, 3) := by decide +kernel
theorem dX6_addAll_35 : decode cX6_addAll 35 = .ok (.iload_n 2, 1) := by decide +kernel
theorem dX6_addAll_36 : decode cX6_addAll 36 = .ok (.invokestatic 28, 3) := by decide +kernel
theorem dX6_addAll_39 : decode cX6_addAll 39 = .ok (.aload_n 0, 1) := by decide +kernel
theorem dX6_addAll_40 : decode cX6_addAll 40 = .ok (.dup, 1) := by decide +kernel
theorem dX6_addAll_41 : decode cX6_addAll 41 = .ok (.getfield 21, 3) := by decide +kernel
theorem dX6_addAll_44 : decode cX6_addAll 44 = .ok (.iload_n 2, 1) := by decide +kernel
theorem dX6_addAll_45 : decode cX6_addAll 45 = .ok (.iadd, 1) := by decide +kernel
theorem dX6_addAll_46 : decode cX6_addAll 46 = .ok (.putfield 21, 3) := by decide +kernel
theorem dX6_addAll_49 : decode cX6_addAll 49 = .ok (.return_, 1) := by decide +kernel
theorem dX6_cutTo_0 : decode cX6_cutTo 0 = .ok (.iload_n 1, 1) := by decide +kernel
theorem dX6_cutTo_1 : decode cX6_cutTo 1 = .ok (.ifCond .lt 16, 3) := by decide +kernel
theorem dX6_cutTo_4 : decode cX6_cutTo 4 = .ok (.iload_n 1, 1) := by decide +kernel
theorem dX6_cutTo_5 : decode cX6_cutTo 5 = .ok (.aload_n 0, 1) := by decide +kernel
theorem dX6_cutTo_6 : decode cX6_cutTo 6 = .ok (.getfield 21, 3) := by decide +kernel
theorem dX6_cutTo_9 : decode cX6_cutTo 9 = .ok (.if_icmp .ge 8, 3) := by decide +kernel
theorem dX6_cutTo_12 : decode cX6_cutTo 12 = .ok (.aload_n 0, 1) := by decide +kernel
theorem dX6_cutTo_13 : decode cX6_cutTo 13 = .ok (.iload_n 1, 1) := by decide +kernel
theorem dX6_cutTo_14 : decode cX6_cutTo 14 = .ok (.putfield 21, 3) := by decide +kernel
theorem dX6_cutTo_17 : decode cX6_cutTo 17 = .ok (.return_, 1) := by decide +kernel
theorem dX6_has_0 : decode cX6_has 0 = .ok (.iconst 0, 1) := by decide +kernel
theorem dX6_has_1 : decode cX6_has 1 = .ok (.istore_n 2, 1) := by decide +kernel
theorem dX6_has_2 : decode cX6_has 2 = .ok (.iload_n 2, 1) := by decide +kernel
theorem dX6_has_3 : decode cX6_has 3 = .ok (.aload_n 0, 1) := by decide +kernel
theorem dX6_has_4 : decode cX6_has 4 = .ok (.getfield 21, 3) := by decide +kernel
theorem dX6_has_7 : decode cX6_has 7 = .ok (.if_icmp .ge 30, 3) := by decide +kernel
theorem dX6_has_10 : decode cX6_has 10 = .ok (.iload_n 2, 1) := by decide +kernel
theorem dX6_has_11 : decode cX6_has 11 = .ok (.aload_n 0, 1) := by decide +kernel
theorem dX6_has_12 : decode cX6_has 12 = .ok (.getfield 15, 3) := by decide +kernel
theorem dX6_has_15 : decode cX6_has 15 = .ok (.arraylength, 1) := by decide +kernel
theorem dX6_has_16 : decode cX6_has 16 = .ok (.if_icmp .ge 21, 3) := by decide +kernel
theorem dX6_has_19 : decode cX6_has 19 = .ok (.aload_n 0, 1) := by decide +kernel
theorem dX6_has_20 : decode cX6_has 20 = .ok (.getfield 15, 3) := by decide +kernel
theorem dX6_has_23 : decode cX6_has 23 = .ok (.iload_n 2, 1) := by decide +kernel
theorem dX6_has_24 : decode cX6_has 24 = .ok (.iaload, 1) := by decide +kernel
theorem dX6_has_25 : decode cX6_has 25 = .ok (.iload_n 1, 1) := by decide +kernel
theorem dX6_has_26 : decode cX6_has 26 = .ok (.if_icmp .ne 5, 3) := by decide +kernel
theorem dX6_has_29 : decode cX6_has 29 = .ok (.iconst 1, 1) := by decide +kernel
theorem dX6_has_30 : decode cX6_has 30 = .ok (.ireturn, 1) := by decide +kernel
theorem dX6_has_31 : decode cX6_has 31 = .ok (.iinc 2 1, 3) := by decide +kernel
theorem dX6_has_34 : decode cX6_has 34 = .ok (.goto (-32), 3) := by decide +kernel
theorem dX6_has_37 : decode cX6_has 37 = .ok (.iconst 0, 1) := by decide +kernel
theorem dX6_has_38 : decode cX6_has 38 = .ok (.ireturn, 1) := by decide +kernel
theorem dX6_isSame_0 : decode cX6_isSame 0 = .ok (.aload_n 0, 1) := by decide +kernel
theorem dX6_isSame_1 : decode cX6_isSame 1 = .ok (.getfield 21, 3) := by decide +kernel
theorem dX6_isSame_4 : decode cX6_isSame 4 = .ok (.aload_n 1, 1) := by decide +kernel
theorem dX6_isSame_5 : decode cX6_isSame 5 = .ok (.getfield 21, 3) := by decide +kernel
theorem dX6_isSame_8 : decode cX6_isSame 8 = .ok (.if_icmp .eq 5, 3) := by decide +kernel
theorem dX6_isSame_11 : decode cX6_isSame 11 = .ok (.iconst 0, 1) := by decide +kernel
theorem dX6_isSame_12 : decode cX6_isSame 12 = .ok (.ireturn, 1) := by decide +kernel
theorem dX6_isSame_13 : decode cX6_isSame 13 = .ok (.iconst 0, 1) := by decide +kernel
theorem dX6_isSame_14 : decode cX6_isSame 14 = .ok (.istore_n 2, 1) := by decide +kernel
theorem dX6_isSame_15 : decode cX6_isSame 15 = .ok (.iload_n 2, 1) := by decide +kernel
theorem dX6_isSame_16 : decode cX6_isSame 16 = .ok (.aload_n 0, 1) := by decide +kernel
theorem dX6_isSame_17 : decode cX6_isSame 17 = .ok (.getfield 21, 3) := by decide +kernel
theorem dX6_isSame_20 : decode cX6_isSame 20 = .ok (.if_icmp .ge 24, 3) := by decide +kernel
theorem dX6_isSame_23 : decode cX6_isSame 23 = .ok (.aload_n 0, 1) := by decide +kernel
theorem dX6_isSame_24 : decode cX6_isSame 24 = .ok (.iload_n 2, 1) := by decide +kernel
theorem dX6_isSame_25 : decode cX6_isSame 25 = .ok (.invokevirtual 34, 3) := by decide +kernel
theorem dX6_isSame_28 : decode cX6_isSame 28 = .ok (.aload_n 1, 1) := by decide +kernel
theorem dX6_isSame_29 : decode cX6_isSame 29 = .ok (.iload_n 2, 1) := by decide +kernel
theorem dX6_isSame_30 : decode cX6_isSame 30 = .ok (.invokevirtual 34, 3) := by decide +kernel
theorem dX6_isSame_33 : decode cX6_isSame 33 = .ok (.if_icmp .eq 5, 3) := by decide +kernel
theorem dX6_isSame_36 : decode cX6_isSame 36 = .ok (.iconst 0, 1) := by decide +kernel
theorem dX6_isSame_37 : decode cX6_isSame 37 = .ok (.ireturn, 1) := by decide +kernel
theorem dX6_isSame_38 : decode cX6_isSame 38 = .ok (.iinc 2 1, 3) := by decide +kernel
theorem dX6_isSame_41 : decode cX6_isSame 41 = .ok (.goto (-26), 3) := by decide +kernel
theorem dX6_isSame_44 : decode cX6_isSame 44 = .ok (.iconst 1, 1) := by decide +kernel
theorem dX6_isSame_45 : decode cX6_isSame 45 = .ok (.ireturn, 1) := by decide +kernel
theorem dX6_copy_0 : decode cX6_copy 0 = .ok (.new 16, 3) := by decide +kernel
theorem dX6_copy_3 : decode cX6_copy 3 = .ok (.dup, 1) := by decide +kernel
theorem dX6_copy_4 : decode cX6_copy 4 = .ok (.aload_n 0, 1) := by decide +kernel
theorem dX6_copy_5 : decode cX6_copy 5 = .ok (.getfield 21, 3) := by decide +kernel
theorem dX6_copy_8 : decode cX6_copy 8 = .ok (.invokespecial 38, 3) := by decide +kernel
theorem dX6_copy_11 : decode cX6_copy 11 = .ok (.astore_n 1, 1) := by decide +kernel
theorem dX6_copy_12 : decode cX6_copy 12 = .ok (.aload_n 1, 1) := by decide +kernel
theorem dX6_copy_13 : decode cX6_copy 13 = .ok (.aload_n 0, 1) := by decide +kernel
theorem dX6_copy_14 : decode cX6_copy 14 = .ok (.invokevirtual 41, 3) := by decide +kernel
theorem dX6_copy_17 : decode cX6_copy 17 = .ok (.aload_n 1, 1) := by decide +kernel
theorem dX6_copy_18 : decode cX6_copy 18 = .ok (.areturn, 1) := by decide +kernel
theorem dX7_init_0 : decode cX7_init 0 = .ok (.aload_n 0, 1) := by decide +kernel
theorem dX7_init_1 : decode cX7_init 1 = .ok (.invokespecial 3, 3) := by decide +kernel
theorem dX7_init_4 : decode cX7_init 4 = .ok (.aload_n 0, 1) := by decide +kernel
theorem dX7_init_5 : decode cX7_init 5 = .ok (.aload_n 1, 1) := by decide +kernel
theorem dX7_init_6 : decode cX7_init 6 = .ok (.getfield 9, 3) := by decide +kernel
theorem dX7_init_9 : decode cX7_init 9 = .ok (.aload_n 1, 1) := by decide +kernel
theorem dX7_init_10 : decode cX7_init 10 = .ok (.getfield 15, 3) := by decide +kernel
theorem dX7_init_13 : decode cX7_init 13 = .ok (.invokevirtual 19, 3) := by decide +kernel
theorem dX7_init_16 : decode cX7_init 16 = .ok (.putfield 25, 3) := by decide +kernel
theorem dX7_init_19 : decode cX7_init 19 = .ok (.aload_n 0, 1) := by decide +kernel
theorem dX7_init_20 : decode cX7_init 20 = .ok (.aload_n 1, 1) := by decide +kernel
theorem dX7_init_21 : decode cX7_init 21 = .ok (.getfield 31, 3) := by decide +kernel
theorem dX7_init_24 : decode cX7_init 24 = .ok (.putfield 34, 3) := by decide +kernel
theorem dX7_init_27 : decode cX7_init 27 = .ok (.aload_n 0, 1) := by decide +kernel
theorem dX7_init_28 : decode cX7_init 28 = .ok (.aload_n 1, 1) := by decide +kernel
theorem dX7_init_29 : decode cX7_init 29 = .ok (.invokevirtual 35, 3) := by decide +kernel
theorem dX7_init_32 : decode cX7_init 32 = .ok (.putfield 39, 3) := by decide +kernel
theorem dX7_init_35 : decode cX7_init 35 = .ok (.aload_n 0, 1) := by decide +kernel
theorem dX7_init_36 : decode cX7_init 36 = .ok (.aload_n 1, 1) := by decide +kernel
theorem dX7_init_37 : decode cX7_init 37 = .ok (.getfield 42, 3) := by decide +kernel
theorem dX7_init_40 : decode cX7_init 40 = .ok (.invokevirtual 46, 3) := by decide +kernel
theorem dX7_init_43 : decode cX7_init 43 = .ok (.putfield 52, 3) := by decide +kernel
theorem dX7_init_46 : decode cX7_init 46 = .ok (.aload_n 0, 1) := by decide +kernel
theorem dX7_init_47 : decode cX7_init 47 = .ok (.aload_n 1, 1) := by decide +kernel
theorem dX7_init_48 : decode cX7_init 48 = .ok (.getfield 55, 3) := by decide +kernel
theorem dX7_init_51 : decode cX7_init 51 = .ok (.invokevirtual 59, 3) := by decide +kernel
theorem dX7_init_54 : decode cX7_init 54 = .ok (.putfield 64, 3) := by decide +kernel
theorem dX7_init_57 : decode cX7_init 57 = .ok (.aload_n 0, 1) := by decide +kernel
theorem dX7_init_58 : decode cX7_init 58 = .ok (.aload_n 1, 1) := by decide +kernel
theorem dX7_init_59 : decode cX7_init 59 = .ok (.invokevirtual 65, 3) := by decide +kernel
theorem dX7_init_62 : decode cX7_init 62 = .ok (.putfield 68, 3) := by decide +kernel
theorem dX7_init_65 : decode cX7_init 65 = .ok (.aload_n 0, 1) := by decide +kernel
theorem dX7_init_66 : decode cX7_init 66 = .ok (.iconst (-1), 1) := by decide +kernel
theorem dX7_init_67 : decode cX7_init 67 = .ok (.putfield 70, 3) := by decide +kernel
theorem dX7_init_70 : decode cX7_init 70 = .ok (.aload_n 0, 1) := by decide +kernel
theorem dX7_init_71 : decode cX7_init 71 = .ok (.iconst (-1), 1) := by decide +kernel
theorem dX7_init_72 : decode cX7_init 72 = .ok (.putfield 73, 3) := by decide +kernel
theorem dX7_init_75 : decode cX7_init 75 = .ok (.aload_n 0, 1) := by decide +kernel
theorem dX7_init_76 : decode cX7_init 76 = .ok (.iconst (-1), 1) := by decide +kernel
theorem dX7_init_77 : decode cX7_init 77 = .ok (.putfield 76, 3) := by decide +kernel
theorem dX7_init_80 : decode cX7_init 80 = .ok (.aload_n 0, 1) := by decide +kernel
theorem dX7_init_81 : decode cX7_init 81 = .ok (.iconst (-1), 1) := by decide +kernel
theorem dX7_init_82 : decode cX7_init 82 = .ok (.putfield 79, 3) := by decide +kernel
theorem dX7_init_85 : decode cX7_init 85 = .ok (.return_, 1) := by decide +kernel
theorem dX7_columnCount_0 : decode cX7_columnCount 0 = .ok (.aload_n 0, 1) := by decide +kernel
theorem dX7_columnCount_1 : decode cX7_columnCount 1 = .ok (.getfield 39, 3) := by decide +kernel
theorem dX7_columnCount_4 : decode cX7_columnCount 4 = .ok (.arraylength, 1) := by decide +kernel
theorem dX7_columnCount_5 : decode cX7_columnCount 5 = .ok (.ireturn, 1) := by decide +kernel
theorem dX7_columnOfName_0 : decode cX7_columnOfName 0 = .ok (.iconst 0, 1) := by decide +kernel
theorem dX7_columnOfName_1 : decode cX7_columnOfName 1 = .ok (.istore_n 3, 1) := by decide +kernel
theorem dX7_columnOfName_2 : decode cX7_columnOfName 2 = .ok (.iload_n 3, 1) := by decide +kernel
theorem dX7_columnOfName_3 : decode cX7_columnOfName 3 = .ok (.aload_n 0, 1) := by decide +kernel
theorem dX7_columnOfName_4 : decode cX7_columnOfName 4 = .ok (.getfield 39, 3) := by decide +kernel
theorem dX7_columnOfName_7 : decode cX7_columnOfName 7 = .ok (.arraylength, 1) := by decide +kernel
theorem dX7_columnOfName_8 : decode cX7_columnOfName 8 = .ok (.if_icmp .ge 22, 3) := by decide +kernel
theorem dX7_columnOfName_11 : decode cX7_columnOfName 11 = .ok (.aload_n 0, 1) := by decide +kernel
theorem dX7_columnOfName_12 : decode cX7_columnOfName 12 = .ok (.getfield 39, 3) := by decide +kernel
theorem dX7_columnOfName_15 : decode cX7_columnOfName 15 = .ok (.iload_n 3, 1) := by decide +kernel
theorem dX7_columnOfName_16 : decode cX7_columnOfName 16 = .ok (.laload, 1) := by decide +kernel
theorem dX7_columnOfName_17 : decode cX7_columnOfName 17 = .ok (.lload_n 1, 1) := by decide +kernel
theorem dX7_columnOfName_18 : decode cX7_columnOfName 18 = .ok (.lcmp, 1) := by decide +kernel
theorem dX7_columnOfName_19 : decode cX7_columnOfName 19 = .ok (.ifCond .ne 5, 3) := by decide +kernel
theorem dX7_columnOfName_22 : decode cX7_columnOfName 22 = .ok (.iload_n 3, 1) := by decide +kernel
theorem dX7_columnOfName_23 : decode cX7_columnOfName 23 = .ok (.ireturn, 1) := by decide +kernel
theorem dX7_columnOfName_24 : decode cX7_columnOfName 24 = .ok (.iinc 3 1, 3) := by decide +kernel
theorem dX7_columnOfName_27 : decode cX7_columnOfName 27 = .ok (.goto (-25), 3) := by decide +kernel
theorem dX7_columnOfName_30 : decode cX7_columnOfName 30 = .ok (.iconst (-1), 1) := by decide +kernel
theorem dX7_columnOfName_31 : decode cX7_columnOfName 31 = .ok (.ireturn, 1) := by decide +kernel
theorem dX7_hasSelect_0 : decode cX7_hasSelect 0 = .ok (.aload_n 0, 1) := by decide +kernel
theorem dX7_hasSelect_1 : decode cX7_hasSelect 1 = .ok (.getfield 34, 3) := by decide +kernel
theorem dX7_hasSelect_4 : decode cX7_hasSelect 4 = .ok (.iconst 1, 1) := by decide +kernel
theorem dX7_hasSelect_5 : decode cX7_hasSelect 5 = .ok (.if_icmp .eq 11, 3) := by decide +kernel
theorem dX7_hasSelect_8 : decode cX7_hasSelect 8 = .ok (.aload_n 0, 1) := by decide +kernel
theorem dX7_hasSelect_9 : decode cX7_hasSelect 9 = .ok (.getfield 34, 3) := by decide +kernel
theorem dX7_hasSelect_12 : decode cX7_hasSelect 12 = .ok (.iconst 2, 1) := by decide +kernel
theorem dX7_hasSelect_13 : decode cX7_hasSelect 13 = .ok (.if_icmp .ne 7, 3) := by decide +kernel
theorem dX7_hasSelect_16 : decode cX7_hasSelect 16 = .ok (.iconst 1, 1) := by decide +kernel
theorem dX7_hasSelect_17 : decode cX7_hasSelect 17 = .ok (.goto 4, 3) := by decide +kernel
theorem dX7_hasSelect_20 : decode cX7_hasSelect 20 = .ok (.iconst 0, 1) := by decide +kernel
theorem dX7_hasSelect_21 : decode cX7_hasSelect 21 = .ok (.ireturn, 1) := by decide +kernel
theorem dX8_init_0 : decode cX8_init 0 = .ok (.aload_n 0, 1) := by decide +kernel
theorem dX8_init_1 : decode cX8_init 1 = .ok (.invokespecial 3, 3) := by decide +kernel
theorem dX8_init_4 : decode cX8_init 4 = .ok (.aload_n 0, 1) := by decide +kernel
theorem dX8_init_5 : decode cX8_init 5 = .ok (.new 9, 3) := by decide +kernel
theorem dX8_init_8 : decode cX8_init 8 = .ok (.dup, 1) := by decide +kernel
theorem dX8_init_9 : decode cX8_init 9 = .ok (.sipush 401, 3) := by decide +kernel
theorem dX8_init_12 : decode cX8_init 12 = .ok (.invokespecial 11, 3) := by decide +kernel
theorem dX8_init_15 : decode cX8_init 15 = .ok (.putfield 14, 3) := by decide +kernel
theorem dX8_init_18 : decode cX8_init 18 = .ok (.aload_n 0, 1) := by decide +kernel
theorem dX8_init_19 : decode cX8_init 19 = .ok (.new 9, 3) := by decide +kernel
theorem dX8_init_22 : decode cX8_init 22 = .ok (.dup, 1) := by decide +kernel
theorem dX8_init_23 : decode cX8_init 23 = .ok (.sipush 401, 3) := by decide +kernel
theorem dX8_init_26 : decode cX8_init 26 = .ok (.invokespecial 11, 3) := by decide +kernel
theorem dX8_init_29 : decode cX8_init 29 = .ok (.putfield 20, 3) := by decide +kernel
theorem dX8_init_32 : decode cX8_init 32 = .ok (.aload_n 0, 1) := by decide +kernel
theorem dX8_init_33 : decode cX8_init 33 = .ok (.new 9, 3) := by decide +kernel
theorem dX8_init_36 : decode cX8_init 36 = .ok (.dup, 1) := by decide +kernel
theorem dX8_init_37 : decode cX8_init 37 = .ok (.sipush 401, 3) := by decide +kernel
theorem dX8_init_40 : decode cX8_init 40 = .ok (.invokespecial 11, 3) := by decide +kernel
theorem dX8_init_43 : decode cX8_init 43 = .ok (.putfield 23, 3) := by decide +kernel
theorem dX8_init_46 : decode cX8_init 46 = .ok (.aload_n 0, 1) := by decide +kernel
theorem dX8_init_47 : decode cX8_init 47 = .ok (.sipush 401, 3) := by decide +kernel
theorem dX8_init_50 : decode cX8_init 50 = .ok (.newarray .long, 2) := by decide +kernel
theorem dX8_init_52 : decode cX8_init 52 = .ok (.putfield 26, 3) := by decide +kernel
theorem dX8_init_55 : decode cX8_init 55 = .ok (.aload_n 0, 1) := by decide +kernel
theorem dX8_init_56 : decode cX8_init 56 = .ok (.new 9, 3) := by decide +kernel
theorem dX8_init_59 : decode cX8_init 59 = .ok (.dup, 1) := by decide +kernel
theorem dX8_init_60 : decode cX8_init 60 = .ok (.sipush 400, 3) := by decide +kernel
theorem dX8_init_63 : decode cX8_init 63 = .ok (.invokespecial 11, 3) := by decide +kernel
theorem dX8_init_66 : decode cX8_init 66 = .ok (.putfield 30, 3) := by decide +kernel
theorem dX8_init_69 : decode cX8_init 69 = .ok (.aload_n 0, 1) := by decide +kernel
theorem dX8_init_70 : decode cX8_init 70 = .ok (.new 9, 3) := by decide +kernel
theorem dX8_init_73 : decode cX8_init 73 = .ok (.dup, 1) := by decide +kernel
theorem dX8_init_74 : decode cX8_init 74 = .ok (.sipush 400, 3) := by decide +kernel
theorem dX8_init_77 : decode cX8_init 77 = .ok (.invokespecial 11, 3) := by decide +kernel
theorem dX8_init_80 : decode cX8_init 80 = .ok (.putfield 33, 3) := by decide +kernel
theorem dX8_init_83 : decode cX8_init 83 = .ok (.return_, 1) := by decide +kernel
theorem dX8_readAll_0 : decode cX8_readAll 0 = .ok (.aload_n 0, 1) := by decide +kernel
theorem dX8_readAll_1 : decode cX8_readAll 1 = .ok (.getfield 14, 3) := by decide +kernel
theorem dX8_readAll_4 : decode cX8_readAll 4 = .ok (.iconst 0, 1) := by decide +kernel
theorem dX8_readAll_5 : decode cX8_readAll 5 = .ok (.invokevirtual 36, 3) := by decide +kernel
theorem dX8_readAll_8 : decode cX8_readAll 8 = .ok (.aload_n 0, 1) := by decide +kernel
theorem dX8_readAll_9 : decode cX8_readAll 9 = .ok (.getfield 20, 3) := by decide +kernel
theorem dX8_readAll_12 : decode cX8_readAll 12 = .ok (.iconst 0, 1) := by decide +kernel
theorem dX8_readAll_13 : decode cX8_readAll 13 = .ok (.invokevirtual 36, 3) := by decide +kernel
theorem dX8_readAll_16 : decode cX8_readAll 16 = .ok (.aload_n 0, 1) := by decide +kernel
theorem dX8_readAll_17 : decode cX8_readAll 17 = .ok (.getfield 23, 3) := by decide +kernel
theorem dX8_readAll_20 : decode cX8_readAll 20 = .ok (.iconst 0, 1) := by decide +kernel
theorem dX8_readAll_21 : decode cX8_readAll 21 = .ok (.invokevirtual 36, 3) := by decide +kernel
theorem dX8_readAll_24 : decode cX8_readAll 24 = .ok (.aload_n 0, 1) := by decide +kernel
theorem dX8_readAll_25 : decode cX8_readAll 25 = .ok (.getfield 30, 3) := by decide +kernel
theorem dX8_readAll_28 : decode cX8_readAll 28 = .ok (.iconst 0, 1) := by decide +kernel
theorem dX8_readAll_29 : decode cX8_readAll 29 = .ok (.invokevirtual 36, 3) := by decide +kernel
theorem dX8_readAll_32 : decode cX8_readAll 32 = .ok (.aload_n 0, 1) := by decide +kernel
theorem dX8_readAll_33 : decode cX8_readAll 33 = .ok (.getfield 30, 3) := by decide +kernel
theorem dX8_readAll_36 : decode cX8_readAll 36 = .ok (.aload_n 1, 1) := by decide +kernel
theorem dX8_readAll_37 : decode cX8_readAll 37 = .ok (.invokevirtual 39, 3) := by decide +kernel
theorem dX8_readAll_40 : decode cX8_readAll 40 = .ok (.iconst 0, 1) := by decide +kernel
theorem dX8_readAll_41 : decode cX8_readAll 41 = .ok (.istore_n 2, 1) := by decide +kernel
theorem dX8_readAll_42 : decode cX8_readAll 42 = .ok (.iload_n 2, 1) := by decide +kernel
theorem dX8_readAll_43 : decode cX8_readAll 43 = .ok (.aload_n 0, 1) := by decide +kernel
theorem dX8_readAll_44 : decode cX8_readAll 44 = .ok (.getfield 30, 3) := by decide +kernel
theorem dX8_readAll_47 : decode cX8_readAll 47 = .ok (.invokevirtual 43, 3) := by decide +kernel
theorem dX8_readAll_50 : decode cX8_readAll 50 = .ok (.if_icmp .ge 38, 3) := by decide +kernel
theorem dX8_readAll_53 : decode cX8_readAll 53 = .ok (.aload_n 0, 1) := by decide +kernel
theorem dX8_readAll_54 : decode cX8_readAll 54 = .ok (.getfield 30, 3) := by decide +kernel
theorem dX8_readAll_57 : decode cX8_readAll 57 = .ok (.iload_n 2, 1) := by decide +kernel
theorem dX8_readAll_58 : decode cX8_readAll 58 = .ok (.invokevirtual 47, 3) := by decide +kernel
theorem dX8_readAll_61 : decode cX8_readAll 61 = .ok (.invokestatic 51, 3) := by decide +kernel
theorem dX8_readAll_64 : decode cX8_readAll 64 = .ok (.ifCond .eq 7, 3) := by decide +kernel
theorem dX8_readAll_67 : decode cX8_readAll 67 = .ok (.iconst 1, 1) := by decide +kernel
theorem dX8_readAll_68 : decode cX8_readAll 68 = .ok (.goto 8, 3) := by decide +kernel
theorem dX8_readAll_71 : decode cX8_readAll 71 = .ok (.aload_n 0, 1) := by decide +kernel
theorem dX8_readAll_72 : decode cX8_readAll 72 = .ok (.iload_n 2, 1) := by decide +kernel
theorem dX8_readAll_73 : decode cX8_readAll 73 = .ok (.invokevirtual 55, 3) := by decide +kernel
theorem dX8_readAll_76 : decode cX8_readAll 76 = .ok (.istore_n 3, 1) := by decide +kernel
theorem dX8_readAll_77 : decode cX8_readAll 77 = .ok (.iload_n 2, 1) := by decide +kernel
theorem dX8_readAll_78 : decode cX8_readAll 78 = .ok (.iload_n 3, 1) := by decide +kernel
theorem dX8_readAll_79 : decode cX8_readAll 79 = .ok (.iconst 1, 1) := by decide +kernel
theorem dX8_readAll_80 : decode cX8_readAll 80 = .ok (.invokestatic 58, 3) := by decide +kernel
theorem dX8_readAll_83 : decode cX8_readAll 83 = .ok (.iadd, 1) := by decide +kernel
theorem dX8_readAll_84 : decode cX8_readAll 84 = .ok (.istore_n 2, 1) := by decide +kernel
theorem dX8_readAll_85 : decode cX8_readAll 85 = .ok (.goto (-43), 3) := by decide +kernel
theorem dX8_readAll_88 : decode cX8_readAll 88 = .ok (.aload_n 0, 1) := by decide +kernel
theorem dX8_readAll_89 : decode cX8_readAll 89 = .ok (.sipush 260, 3) := by decide +kernel
theorem dX8_readAll_92 : decode cX8_readAll 92 = .ok (.aload_n 0, 1) := by decide +kernel
theorem dX8_readAll_93 : decode cX8_readAll 93 = .ok (.getfield 30, 3) := by decide +kernel
theorem dX8_readAll_96 : decode cX8_readAll 96 = .ok (.invokevirtual 43, 3) := by decide +kernel
theorem dX8_readAll_99 : decode cX8_readAll 99 = .ok (.iconst 0, 1) := by decide +kernel
theorem dX8_readAll_100 : decode cX8_readAll 100 = .ok (.invokevirtual 64, 3) := by decide +kernel
theorem dX8_readAll_103 : decode cX8_readAll 103 = .ok (.pop, 1) := by decide +kernel
theorem dX8_readAll_104 : decode cX8_readAll 104 = .ok (.return_, 1) := by decide +kernel
theorem dX8_isOneName_0 : decode cX8_isOneName 0 = .ok (.aload_n 0, 1) := by decide +kernel
theorem dX8_isOneName_1 : decode cX8_isOneName 1 = .ok (.getfield 14, 3) := by decide +kernel
theorem dX8_isOneName_4 : decode cX8_isOneName 4 = .ok (.iconst 0, 1) := by decide +kernel
theorem dX8_isOneName_5 : decode cX8_isOneName 5 = .ok (.invokevirtual 47, 3) := by decide +kernel
theorem dX8_isOneName_8 : decode cX8_isOneName 8 = .ok (.sipush 256, 3) := by decide +kernel
theorem dX8_isOneName_11 : decode cX8_isOneName 11 = .ok (.if_icmp .ne 34, 3) := by decide +kernel
theorem dX8_isOneName_14 : decode cX8_isOneName 14 = .ok (.aload_n 0, 1) := by decide +kernel
theorem dX8_isOneName_15 : decode cX8_isOneName 15 = .ok (.getfield 23, 3) := by decide +kernel
theorem dX8_isOneName_18 : decode cX8_isOneName 18 = .ok (.iconst 0, 1) := by decide +kernel
theorem dX8_isOneName_19 : decode cX8_isOneName 19 = .ok (.invokevirtual 47, 3) := by decide +kernel
theorem dX8_isOneName_22 : decode cX8_isOneName 22 = .ok (.bipush 8, 2) := by decide +kernel
theorem dX8_isOneName_24 : decode cX8_isOneName 24 = .ok (.if_icmp .gt 21, 3) := by decide +kernel
theorem dX8_isOneName_27 : decode cX8_isOneName 27 = .ok (.aload_n 0, 1) := by decide +kernel
theorem dX8_isOneName_28 : decode cX8_isOneName 28 = .ok (.getfield 14, 3) := by decide +kernel
theorem dX8_isOneName_31 : decode cX8_isOneName 31 = .ok (.iconst 1, 1) := by decide +kernel
theorem dX8_isOneName_32 : decode cX8_isOneName 32 = .ok (.invokevirtual 47, 3) := by decide +kernel
theorem dX8_isOneName_35 : decode cX8_isOneName 35 = .ok (.sipush 260, 3) := by decide +kernel
theorem dX8_isOneName_38 : decode cX8_isOneName 38 = .ok (.if_icmp .ne 7, 3) := by decide +kernel
theorem dX8_isOneName_41 : decode cX8_isOneName 41 = .ok (.iconst 1, 1) := by decide +kernel
theorem dX8_isOneName_42 : decode cX8_isOneName 42 = .ok (.goto 4, 3) := by decide +kernel
theorem dX8_isOneName_45 : decode cX8_isOneName 45 = .ok (.iconst 0, 1) := by decide +kernel
theorem dX8_isOneName_46 : decode cX8_isOneName 46 = .ok (.ireturn, 1) := by decide +kernel
theorem dX8_nameOf_0 : decode cX8_nameOf 0 = .ok (.iload_n 1, 1) := by decide +kernel
theorem dX8_nameOf_1 : decode cX8_nameOf 1 = .ok (.ifCond .lt 21, 3) := by decide +kernel
theorem dX8_nameOf_4 : decode cX8_nameOf 4 = .ok (.iload_n 1, 1) := by decide +kernel
theorem dX8_nameOf_5 : decode cX8_nameOf 5 = .ok (.aload_n 0, 1) := by decide +kernel
theorem dX8_nameOf_6 : decode cX8_nameOf 6 = .ok (.getfield 26, 3) := by decide +kernel
theorem dX8_nameOf_9 : decode cX8_nameOf 9 = .ok (.arraylength, 1) := by decide +kernel
theorem dX8_nameOf_10 : decode cX8_nameOf 10 = .ok (.if_icmp .ge 12, 3) := by decide +kernel
theorem dX8_nameOf_13 : decode cX8_nameOf 13 = .ok (.aload_n 0, 1) := by decide +kernel
theorem dX8_nameOf_14 : decode cX8_nameOf 14 = .ok (.getfield 26, 3) := by decide +kernel
theorem dX8_nameOf_17 : decode cX8_nameOf 17 = .ok (.iload_n 1, 1) := by decide +kernel
theorem dX8_nameOf_18 : decode cX8_nameOf 18 = .ok (.laload, 1) := by decide +kernel
theorem dX8_nameOf_19 : decode cX8_nameOf 19 = .ok (.goto 4, 3) := by decide +kernel
theorem dX8_nameOf_22 : decode cX8_nameOf 22 = .ok (.lconst 0, 1) := by decide +kernel
theorem dX8_nameOf_23 : decode cX8_nameOf 23 = .ok (.lreturn, 1) := by decide +kernel
theorem dX8_readOne_0 : decode cX8_readOne 0 = .ok (.aload_n 0, 1) := by decide +kernel
theorem dX8_readOne_1 : decode cX8_readOne 1 = .ok (.getfield 30, 3) := by decide +kernel
theorem dX8_readOne_4 : decode cX8_readOne 4 = .ok (.iload_n 1, 1) := by decide +kernel
theorem dX8_readOne_5 : decode cX8_readOne 5 = .ok (.invokevirtual 47, 3) := by decide +kernel
theorem dX8_readOne_8 : decode cX8_readOne 8 = .ok (.istore_n 2, 1) := by decide +kernel
theorem dX8_readOne_9 : decode cX8_readOne 9 = .ok (.iload_n 2, 1) := by decide +kernel
theorem dX8_readOne_10 : decode cX8_readOne 10 = .ok (.invokestatic 68, 3) := by decide +kernel
theorem dX8_readOne_13 : decode cX8_readOne 13 = .ok (.ifCond .eq 9, 3) := by decide +kernel
theorem dX8_readOne_16 : decode cX8_readOne 16 = .ok (.aload_n 0, 1) := by decide +kernel
theorem dX8_readOne_17 : decode cX8_readOne 17 = .ok (.iload_n 1, 1) := by decide +kernel
theorem dX8_readOne_18 : decode cX8_readOne 18 = .ok (.invokevirtual 71, 3) := by decide +kernel
theorem dX8_readOne_21 : decode cX8_readOne 21 = .ok (.ireturn, 1) := by decide +kernel
theorem dX8_readOne_22 : decode cX8_readOne 22 = .ok (.iload_n 2, 1) := by decide +kernel
theorem dX8_readOne_23 : decode cX8_readOne 23 = .ok (.invokestatic 74, 3) := by decide +kernel
theorem dX8_readOne_26 : decode cX8_readOne 26 = .ok (.ifCond .eq 50, 3) := by decide +kernel
theorem dX8_readOne_29 : decode cX8_readOne 29 = .ok (.iload_n 1, 1) := by decide +kernel
theorem dX8_readOne_30 : decode cX8_readOne 30 = .ok (.iconst 1, 1) := by decide +kernel
theorem dX8_readOne_31 : decode cX8_readOne 31 = .ok (.iadd, 1) := by decide +kernel
theorem dX8_readOne_32 : decode cX8_readOne 32 = .ok (.istore_n 3, 1) := by decide +kernel
theorem dX8_readOne_33 : decode cX8_readOne 33 = .ok (.iload_n 3, 1) := by decide +kernel
theorem dX8_readOne_34 : decode cX8_readOne 34 = .ok (.aload_n 0, 1) := by decide +kernel
theorem dX8_readOne_35 : decode cX8_readOne 35 = .ok (.getfield 30, 3) := by decide +kernel
theorem dX8_readOne_38 : decode cX8_readOne 38 = .ok (.invokevirtual 43, 3) := by decide +kernel
theorem dX8_readOne_41 : decode cX8_readOne 41 = .ok (.if_icmp .ge 23, 3) := by decide +kernel
theorem dX8_readOne_44 : decode cX8_readOne 44 = .ok (.aload_n 0, 1) := by decide +kernel
theorem dX8_readOne_45 : decode cX8_readOne 45 = .ok (.getfield 30, 3) := by decide +kernel
theorem dX8_readOne_48 : decode cX8_readOne 48 = .ok (.iload_n 3, 1) := by decide +kernel
theorem dX8_readOne_49 : decode cX8_readOne 49 = .ok (.invokevirtual 47, 3) := by decide +kernel
theorem dX8_readOne_52 : decode cX8_readOne 52 = .ok (.invokestatic 74, 3) := by decide +kernel
theorem dX8_readOne_55 : decode cX8_readOne 55 = .ok (.ifCond .eq 9, 3) := by decide +kernel
theorem dX8_readOne_58 : decode cX8_readOne 58 = .ok (.iinc 3 1, 3) := by decide +kernel
theorem dX8_readOne_61 : decode cX8_readOne 61 = .ok (.goto (-28), 3) := by decide +kernel
theorem dX8_readOne_64 : decode cX8_readOne 64 = .ok (.aload_n 0, 1) := by decide +kernel
theorem dX8_readOne_65 : decode cX8_readOne 65 = .ok (.sipush 257, 3) := by decide +kernel
theorem dX8_readOne_68 : decode cX8_readOne 68 = .ok (.iload_n 1, 1) := by decide +kernel
theorem dX8_readOne_69 : decode cX8_readOne 69 = .ok (.iload_n 3, 1) := by decide +kernel
theorem dX8_readOne_70 : decode cX8_readOne 70 = .ok (.iload_n 1, 1) := by decide +kernel
theorem dX8_readOne_71 : decode cX8_readOne 71 = .ok (.isub, 1) := by decide +kernel
theorem dX8_readOne_72 : decode cX8_readOne 72 = .ok (.invokevirtual 64, 3) := by decide +kernel
theorem dX8_readOne_75 : decode cX8_readOne 75 = .ok (.ireturn, 1) := by decide +kernel
theorem dX8_readOne_76 : decode cX8_readOne 76 = .ok (.iload_n 2, 1) := by decide +kernel
theorem dX8_readOne_77 : decode cX8_readOne 77 = .ok (.bipush 39, 2) := by decide +kernel
theorem dX8_readOne_79 : decode cX8_readOne 79 = .ok (.if_icmp .ne 11, 3) := by decide +kernel
theorem dX8_readOne_82 : decode cX8_readOne 82 = .ok (.aload_n 0, 1) := by decide +kernel
theorem dX8_readOne_83 : decode cX8_readOne 83 = .ok (.iload_n 1, 1) := by decide +kernel
theorem dX8_readOne_84 : decode cX8_readOne 84 = .ok (.invokevirtual 77, 3) := by decide +kernel
theorem dX8_readOne_87 : decode cX8_readOne 87 = .ok (.goto 10, 3) := by decide +kernel
theorem dX8_readOne_90 : decode cX8_readOne 90 = .ok (.aload_n 0, 1) := by decide +kernel
theorem dX8_readOne_91 : decode cX8_readOne 91 = .ok (.iload_n 2, 1) := by decide +kernel
theorem dX8_readOne_92 : decode cX8_readOne 92 = .ok (.iload_n 1, 1) := by decide +kernel
theorem dX8_readOne_93 : decode cX8_readOne 93 = .ok (.iconst 1, 1) := by decide +kernel
theorem dX8_readOne_94 : decode cX8_readOne 94 = .ok (.invokevirtual 64, 3) := by decide +kernel
theorem dX8_readOne_97 : decode cX8_readOne 97 = .ok (.ireturn, 1) := by decide +kernel
theorem dX8_readWord_0 : decode cX8_readWord 0 = .ok (.lconst 0, 1) := by decide +kernel
theorem dX8_readWord_1 : decode cX8_readWord 1 = .ok (.lstore_n 2, 1) := by decide +kernel
theorem dX8_readWord_2 : decode cX8_readWord 2 = .ok (.iload_n 1, 1) := by decide +kernel
theorem dX8_readWord_3 : decode cX8_readWord 3 = .ok (.istore 4, 2) := by decide +kernel
theorem dX8_readWord_5 : decode cX8_readWord 5 = .ok (.iload 4, 2) := by decide +kernel
theorem dX8_readWord_7 : decode cX8_readWord 7 = .ok (.aload_n 0, 1) := by decide +kernel
theorem dX8_readWord_8 : decode cX8_readWord 8 = .ok (.getfield 30, 3) := by decide +kernel
theorem dX8_readWord_11 : decode cX8_readWord 11 = .ok (.invokevirtual 43, 3) := by decide +kernel
theorem dX8_readWord_14 : decode cX8_readWord 14 = .ok (.if_icmp .ge 55, 3) := by decide +kernel
theorem dX8_readWord_17 : decode cX8_readWord 17 = .ok (.aload_n 0, 1) := by decide +kernel
theorem dX8_readWord_18 : decode cX8_readWord 18 = .ok (.getfield 30, 3) := by decide +kernel
theorem dX8_readWord_21 : decode cX8_readWord 21 = .ok (.iload 4, 2) := by decide +kernel
theorem dX8_readWord_23 : decode cX8_readWord 23 = .ok (.invokevirtual 47, 3) := by decide +kernel
theorem dX8_readWord_26 : decode cX8_readWord 26 = .ok (.invokestatic 68, 3) := by decide +kernel
theorem dX8_readWord_29 : decode cX8_readWord 29 = .ok (.ifCond .eq 40, 3) := by decide +kernel
theorem dX8_readWord_32 : decode cX8_readWord 32 = .ok (.iload 4, 2) := by decide +kernel
theorem dX8_readWord_34 : decode cX8_readWord 34 = .ok (.iload_n 1, 1) := by decide +kernel
theorem dX8_readWord_35 : decode cX8_readWord 35 = .ok (.isub, 1) := by decide +kernel
theorem dX8_readWord_36 : decode cX8_readWord 36 = .ok (.bipush 8, 2) := by decide +kernel
theorem dX8_readWord_38 : decode cX8_readWord 38 = .ok (.if_icmp .ge 25, 3) := by decide +kernel
theorem dX8_readWord_41 : decode cX8_readWord 41 = .ok (.lload_n 2, 1) := by decide +kernel
theorem dX8_readWord_42 : decode cX8_readWord 42 = .ok (.ldc2_w 80, 3) := by decide +kernel
theorem dX8_readWord_45 : decode cX8_readWord 45 = .ok (.lmul, 1) := by decide +kernel
theorem dX8_readWord_46 : decode cX8_readWord 46 = .ok (.aload_n 0, 1) := by decide +kernel
theorem dX8_readWord_47 : decode cX8_readWord 47 = .ok (.getfield 30, 3) := by decide +kernel
theorem dX8_readWord_50 : decode cX8_readWord 50 = .ok (.iload 4, 2) := by decide +kernel
theorem dX8_readWord_52 : decode cX8_readWord 52 = .ok (.invokevirtual 47, 3) := by decide +kernel
theorem dX8_readWord_55 : decode cX8_readWord 55 = .ok (.bipush 97, 2) := by decide +kernel
theorem dX8_readWord_57 : decode cX8_readWord 57 = .ok (.isub, 1) := by decide +kernel
theorem dX8_readWord_58 : decode cX8_readWord 58 = .ok (.iconst 1, 1) := by decide +kernel
theorem dX8_readWord_59 : decode cX8_readWord 59 = .ok (.iadd, 1) := by decide +kernel
theorem dX8_readWord_60 : decode cX8_readWord 60 = .ok (.i2l, 1) := by decide +kernel
theorem dX8_readWord_61 : decode cX8_readWord 61 = .ok (.ladd, 1) := by decide +kernel
theorem dX8_readWord_62 : decode cX8_readWord 62 = .ok (.lstore_n 2, 1) := by decide +kernel
theorem dX8_readWord_63 : decode cX8_readWord 63 = .ok (.iinc 4 1, 3) := by decide +kernel
theorem dX8_readWord_66 : decode cX8_readWord 66 = .ok (.goto (-61), 3) := by decide +kernel
theorem dX8_readWord_69 : decode cX8_readWord 69 = .ok (.aload_n 0, 1) := by decide +kernel
theorem dX8_readWord_70 : decode cX8_readWord 70 = .ok (.getfield 14, 3) := by decide +kernel
theorem dX8_readWord_73 : decode cX8_readWord 73 = .ok (.invokevirtual 43, 3) := by decide +kernel
theorem dX8_readWord_76 : decode cX8_readWord 76 = .ok (.istore 5, 2) := by decide +kernel
theorem dX8_readWord_78 : decode cX8_readWord 78 = .ok (.iload 5, 2) := by decide +kernel
theorem dX8_readWord_80 : decode cX8_readWord 80 = .ok (.aload_n 0, 1) := by decide +kernel
theorem dX8_readWord_81 : decode cX8_readWord 81 = .ok (.getfield 26, 3) := by decide +kernel
theorem dX8_readWord_84 : decode cX8_readWord 84 = .ok (.arraylength, 1) := by decide +kernel
theorem dX8_readWord_85 : decode cX8_readWord 85 = .ok (.if_icmp .ge 11, 3) := by decide +kernel
theorem dX8_readWord_88 : decode cX8_readWord 88 = .ok (.aload_n 0, 1) := by decide +kernel
theorem dX8_readWord_89 : decode cX8_readWord 89 = .ok (.getfield 26, 3) := by decide +kernel
theorem dX8_readWord_92 : decode cX8_readWord 92 = .ok (.iload 5, 2) := by decide +kernel
theorem dX8_readWord_94 : decode cX8_readWord 94 = .ok (.lload_n 2, 1) := by decide +kernel
theorem dX8_readWord_95 : decode cX8_readWord 95 = .ok (.lastore, 1) := by decide +kernel
theorem dX8_readWord_96 : decode cX8_readWord 96 = .ok (.aload_n 0, 1) := by decide +kernel
theorem dX8_readWord_97 : decode cX8_readWord 97 = .ok (.aload_n 0, 1) := by decide +kernel
theorem dX8_readWord_98 : decode cX8_readWord 98 = .ok (.iload_n 1, 1) := by decide +kernel
theorem dX8_readWord_99 : decode cX8_readWord 99 = .ok (.iload 4, 2) := by decide +kernel
theorem dX8_readWord_101 : decode cX8_readWord 101 = .ok (.iload_n 1, 1) := by decide +kernel
theorem dX8_readWord_102 : decode cX8_readWord 102 = .ok (.isub, 1) := by decide +kernel
theorem dX8_readWord_103 : decode cX8_readWord 103 = .ok (.invokevirtual 82, 3) := by decide +kernel
theorem dX8_readWord_106 : decode cX8_readWord 106 = .ok (.iload_n 1, 1) := by decide +kernel
theorem dX8_readWord_107 : decode cX8_readWord 107 = .ok (.iload 4, 2) := by decide +kernel
theorem dX8_readWord_109 : decode cX8_readWord 109 = .ok (.iload_n 1, 1) := by decide +kernel
theorem dX8_readWord_110 : decode cX8_readWord 110 = .ok (.isub, 1) := by decide +kernel
theorem dX8_readWord_111 : decode cX8_readWord 111 = .ok (.invokevirtual 64, 3) := by decide +kernel
theorem dX8_readWord_114 : decode cX8_readWord 114 = .ok (.ireturn, 1) := by decide +kernel
theorem dX8_readQuote_0 : decode cX8_readQuote 0 = .ok (.iload_n 1, 1) := by decide +kernel
theorem dX8_readQuote_1 : decode cX8_readQuote 1 = .ok (.iconst 1, 1) := by decide +kernel
theorem dX8_readQuote_2 : decode cX8_readQuote 2 = .ok (.iadd, 1) := by decide +kernel
theorem dX8_readQuote_3 : decode cX8_readQuote 3 = .ok (.istore_n 2, 1) := by decide +kernel
theorem dX8_readQuote_4 : decode cX8_readQuote 4 = .ok (.iload_n 2, 1) := by decide +kernel
theorem dX8_readQuote_5 : decode cX8_readQuote 5 = .ok (.aload_n 0, 1) := by decide +kernel
theorem dX8_readQuote_6 : decode cX8_readQuote 6 = .ok (.getfield 30, 3) := by decide +kernel
theorem dX8_readQuote_9 : decode cX8_readQuote 9 = .ok (.invokevirtual 43, 3) := by decide +kernel
theorem dX8_readQuote_12 : decode cX8_readQuote 12 = .ok (.if_icmp .ge 36, 3) := by decide +kernel
theorem dX8_readQuote_15 : decode cX8_readQuote 15 = .ok (.aload_n 0, 1) := by decide +kernel
theorem dX8_readQuote_16 : decode cX8_readQuote 16 = .ok (.getfield 30, 3) := by decide +kernel
theorem dX8_readQuote_19 : decode cX8_readQuote 19 = .ok (.iload_n 2, 1) := by decide +kernel
theorem dX8_readQuote_20 : decode cX8_readQuote 20 = .ok (.invokevirtual 47, 3) := by decide +kernel
theorem dX8_readQuote_23 : decode cX8_readQuote 23 = .ok (.invokestatic 68, 3) := by decide +kernel
theorem dX8_readQuote_26 : decode cX8_readQuote 26 = .ok (.ifCond .ne 16, 3) := by decide +kernel
theorem dX8_readQuote_29 : decode cX8_readQuote 29 = .ok (.aload_n 0, 1) := by decide +kernel
theorem dX8_readQuote_30 : decode cX8_readQuote 30 = .ok (.getfield 30, 3) := by decide +kernel
theorem dX8_readQuote_33 : decode cX8_readQuote 33 = .ok (.iload_n 2, 1) := by decide +kernel
theorem dX8_readQuote_34 : decode cX8_readQuote 34 = .ok (.invokevirtual 47, 3) := by decide +kernel
theorem dX8_readQuote_37 : decode cX8_readQuote 37 = .ok (.bipush 32, 2) := by decide +kernel
theorem dX8_readQuote_39 : decode cX8_readQuote 39 = .ok (.if_icmp .ne 9, 3) := by decide +kernel
theorem dX8_readQuote_42 : decode cX8_readQuote 42 = .ok (.iinc 2 1, 3) := by decide +kernel
theorem dX8_readQuote_45 : decode cX8_readQuote 45 = .ok (.goto (-41), 3) := by decide +kernel
theorem dX8_readQuote_48 : decode cX8_readQuote 48 = .ok (.aload_n 0, 1) := by decide +kernel
theorem dX8_readQuote_49 : decode cX8_readQuote 49 = .ok (.getfield 30, 3) := by decide +kernel
theorem dX8_readQuote_52 : decode cX8_readQuote 52 = .ok (.iload_n 2, 1) := by decide +kernel
theorem dX8_readQuote_53 : decode cX8_readQuote 53 = .ok (.invokevirtual 47, 3) := by decide +kernel
theorem dX8_readQuote_56 : decode cX8_readQuote 56 = .ok (.bipush 39, 2) := by decide +kernel
theorem dX8_readQuote_58 : decode cX8_readQuote 58 = .ok (.if_icmp .ne 17, 3) := by decide +kernel
theorem dX8_readQuote_61 : decode cX8_readQuote 61 = .ok (.aload_n 0, 1) := by decide +kernel
theorem dX8_readQuote_62 : decode cX8_readQuote 62 = .ok (.sipush 258, 3) := by decide +kernel
theorem dX8_readQuote_65 : decode cX8_readQuote 65 = .ok (.iload_n 1, 1) := by decide +kernel
theorem dX8_readQuote_66 : decode cX8_readQuote 66 = .ok (.iload_n 2, 1) := by decide +kernel
theorem dX8_readQuote_67 : decode cX8_readQuote 67 = .ok (.iconst 1, 1) := by decide +kernel
theorem dX8_readQuote_68 : decode cX8_readQuote 68 = .ok (.iadd, 1) := by decide +kernel
theorem dX8_readQuote_69 : decode cX8_readQuote 69 = .ok (.iload_n 1, 1) := by decide +kernel
theorem dX8_readQuote_70 : decode cX8_readQuote 70 = .ok (.isub, 1) := by decide +kernel
theorem dX8_readQuote_71 : decode cX8_readQuote 71 = .ok (.invokevirtual 64, 3) := by decide +kernel
theorem dX8_readQuote_74 : decode cX8_readQuote 74 = .ok (.ireturn, 1) := by decide +kernel
theorem dX8_readQuote_75 : decode cX8_readQuote 75 = .ok (.aload_n 0, 1) := by decide +kernel
theorem dX8_readQuote_76 : decode cX8_readQuote 76 = .ok (.sipush 259, 3) := by decide +kernel
theorem dX8_readQuote_79 : decode cX8_readQuote 79 = .ok (.iload_n 1, 1) := by decide +kernel
theorem dX8_readQuote_80 : decode cX8_readQuote 80 = .ok (.iload_n 2, 1) := by decide +kernel
theorem dX8_readQuote_81 : decode cX8_readQuote 81 = .ok (.iload_n 1, 1) := by decide +kernel
theorem dX8_readQuote_82 : decode cX8_readQuote 82 = .ok (.isub, 1) := by decide +kernel
theorem dX8_readQuote_83 : decode cX8_readQuote 83 = .ok (.invokevirtual 64, 3) := by decide +kernel
theorem dX8_readQuote_86 : decode cX8_readQuote 86 = .ok (.ireturn, 1) := by decide +kernel
theorem dX8_put_0 : decode cX8_put 0 = .ok (.aload_n 0, 1) := by decide +kernel
theorem dX8_put_1 : decode cX8_put 1 = .ok (.getfield 14, 3) := by decide +kernel
theorem dX8_put_4 : decode cX8_put 4 = .ok (.iload_n 1, 1) := by decide +kernel
theorem dX8_put_5 : decode cX8_put 5 = .ok (.invokevirtual 85, 3) := by decide +kernel
theorem dX8_put_8 : decode cX8_put 8 = .ok (.aload_n 0, 1) := by decide +kernel
theorem dX8_put_9 : decode cX8_put 9 = .ok (.getfield 20, 3) := by decide +kernel
theorem dX8_put_12 : decode cX8_put 12 = .ok (.iload_n 2, 1) := by decide +kernel
theorem dX8_put_13 : decode cX8_put 13 = .ok (.invokevirtual 85, 3) := by decide +kernel
theorem dX8_put_16 : decode cX8_put 16 = .ok (.aload_n 0, 1) := by decide +kernel
theorem dX8_put_17 : decode cX8_put 17 = .ok (.getfield 23, 3) := by decide +kernel
theorem dX8_put_20 : decode cX8_put 20 = .ok (.iload_n 3, 1) := by decide +kernel
theorem dX8_put_21 : decode cX8_put 21 = .ok (.invokevirtual 85, 3) := by decide +kernel
theorem dX8_put_24 : decode cX8_put 24 = .ok (.iload_n 3, 1) := by decide +kernel
theorem dX8_put_25 : decode cX8_put 25 = .ok (.ireturn, 1) := by decide +kernel
theorem dX8_kindOfWord_0 : decode cX8_kindOfWord 0 = .ok (.aload_n 0, 1) := by decide +kernel
theorem dX8_kindOfWord_1 : decode cX8_kindOfWord 1 = .ok (.ldc 88, 2) := by decide +kernel
theorem dX8_kindOfWord_3 : decode cX8_kindOfWord 3 = .ok (.iload_n 1, 1) := by decide +kernel
theorem dX8_kindOfWord_4 : decode cX8_kindOfWord 4 = .ok (.iload_n 2, 1) := by decide +kernel
theorem dX8_kindOfWord_5 : decode cX8_kindOfWord 5 = .ok (.invokevirtual 90, 3) := by decide +kernel
theorem dX8_kindOfWord_8 : decode cX8_kindOfWord 8 = .ok (.ifCond .eq 7, 3) := by decide +kernel
theorem dX8_kindOfWord_11 : decode cX8_kindOfWord 11 = .ok (.sipush 261, 3) := by decide +kernel
theorem dX8_kindOfWord_14 : decode cX8_kindOfWord 14 = .ok (.ireturn, 1) := by decide +kernel
theorem dX8_kindOfWord_15 : decode cX8_kindOfWord 15 = .ok (.aload_n 0, 1) := by decide +kernel
theorem dX8_kindOfWord_16 : decode cX8_kindOfWord 16 = .ok (.ldc 94, 2) := by decide +kernel
theorem dX8_kindOfWord_18 : decode cX8_kindOfWord 18 = .ok (.iload_n 1, 1) := by decide +kernel
theorem dX8_kindOfWord_19 : decode cX8_kindOfWord 19 = .ok (.iload_n 2, 1) := by decide +kernel
theorem dX8_kindOfWord_20 : decode cX8_kindOfWord 20 = .ok (.invokevirtual 90, 3) := by decide +kernel
theorem dX8_kindOfWord_23 : decode cX8_kindOfWord 23 = .ok (.ifCond .eq 7, 3) := by decide +kernel
theorem dX8_kindOfWord_26 : decode cX8_kindOfWord 26 = .ok (.sipush 262, 3) := by decide +kernel
theorem dX8_kindOfWord_29 : decode cX8_kindOfWord 29 = .ok (.ireturn, 1) := by decide +kernel
theorem dX8_kindOfWord_30 : decode cX8_kindOfWord 30 = .ok (.aload_n 0, 1) := by decide +kernel
theorem dX8_kindOfWord_31 : decode cX8_kindOfWord 31 = .ok (.ldc 96, 2) := by decide +kernel
theorem dX8_kindOfWord_33 : decode cX8_kindOfWord 33 = .ok (.iload_n 1, 1) := by decide +kernel
theorem dX8_kindOfWord_34 : decode cX8_kindOfWord 34 = .ok (.iload_n 2, 1) := by decide +kernel
theorem dX8_kindOfWord_35 : decode cX8_kindOfWord 35 = .ok (.invokevirtual 90, 3) := by decide +kernel
theorem dX8_kindOfWord_38 : decode cX8_kindOfWord 38 = .ok (.ifCond .eq 7, 3) := by decide +kernel
theorem dX8_kindOfWord_41 : decode cX8_kindOfWord 41 = .ok (.sipush 263, 3) := by decide +kernel
theorem dX8_kindOfWord_44 : decode cX8_kindOfWord 44 = .ok (.ireturn, 1) := by decide +kernel
theorem dX8_kindOfWord_45 : decode cX8_kindOfWord 45 = .ok (.aload_n 0, 1) := by decide +kernel
theorem dX8_kindOfWord_46 : decode cX8_kindOfWord 46 = .ok (.ldc 98, 2) := by decide +kernel
theorem dX8_kindOfWord_48 : decode cX8_kindOfWord 48 = .ok (.iload_n 1, 1) := by decide +kernel
theorem dX8_kindOfWord_49 : decode cX8_kindOfWord 49 = .ok (.iload_n 2, 1) := by decide +kernel
theorem dX8_kindOfWord_50 : decode cX8_kindOfWord 50 = .ok (.invokevirtual 90, 3) := by decide +kernel
theorem dX8_kindOfWord_53 : decode cX8_kindOfWord 53 = .ok (.ifCond .eq 7, 3) := by decide +kernel
theorem dX8_kindOfWord_56 : decode cX8_kindOfWord 56 = .ok (.sipush 264, 3) := by decide +kernel
theorem dX8_kindOfWord_59 : decode cX8_kindOfWord 59 = .ok (.ireturn, 1) := by decide +kernel
theorem dX8_kindOfWord_60 : decode cX8_kindOfWord 60 = .ok (.aload_n 0, 1) := by decide +kernel
theorem dX8_kindOfWord_61 : decode cX8_kindOfWord 61 = .ok (.ldc 100, 2) := by decide +kernel
theorem dX8_kindOfWord_63 : decode cX8_kindOfWord 63 = .ok (.iload_n 1, 1) := by decide +kernel
theorem dX8_kindOfWord_64 : decode cX8_kindOfWord 64 = .ok (.iload_n 2, 1) := by decide +kernel
theorem dX8_kindOfWord_65 : decode cX8_kindOfWord 65 = .ok (.invokevirtual 90, 3) := by decide +kernel
theorem dX8_kindOfWord_68 : decode cX8_kindOfWord 68 = .ok (.ifCond .eq 7, 3) := by decide +kernel
theorem dX8_kindOfWord_71 : decode cX8_kindOfWord 71 = .ok (.sipush 265, 3) := by decide +kernel
theorem dX8_kindOfWord_74 : decode cX8_kindOfWord 74 = .ok (.ireturn, 1) := by decide +kernel
theorem dX8_kindOfWord_75 : decode cX8_kindOfWord 75 = .ok (.aload_n 0, 1) := by decide +kernel
theorem dX8_kindOfWord_76 : decode cX8_kindOfWord 76 = .ok (.ldc 102, 2) := by decide +kernel
theorem dX8_kindOfWord_78 : decode cX8_kindOfWord 78 = .ok (.iload_n 1, 1) := by decide +kernel
theorem dX8_kindOfWord_79 : decode cX8_kindOfWord 79 = .ok (.iload_n 2, 1) := by decide +kernel
theorem dX8_kindOfWord_80 : decode cX8_kindOfWord 80 = .ok (.invokevirtual 90, 3) := by decide +kernel
theorem dX8_kindOfWord_83 : decode cX8_kindOfWord 83 = .ok (.ifCond .eq 7, 3) := by decide +kernel
theorem dX8_kindOfWord_86 : decode cX8_kindOfWord 86 = .ok (.sipush 266, 3) := by decide +kernel
theorem dX8_kindOfWord_89 : decode cX8_kindOfWord 89 = .ok (.ireturn, 1) := by decide +kernel
theorem dX8_kindOfWord_90 : decode cX8_kindOfWord 90 = .ok (.aload_n 0, 1) := by decide +kernel
theorem dX8_kindOfWord_91 : decode cX8_kindOfWord 91 = .ok (.ldc 104, 2) := by decide +kernel
theorem dX8_kindOfWord_93 : decode cX8_kindOfWord 93 = .ok (.iload_n 1, 1) := by decide +kernel
theorem dX8_kindOfWord_94 : decode cX8_kindOfWord 94 = .ok (.iload_n 2, 1) := by decide +kernel
theorem dX8_kindOfWord_95 : decode cX8_kindOfWord 95 = .ok (.invokevirtual 90, 3) := by decide +kernel
theorem dX8_kindOfWord_98 : decode cX8_kindOfWord 98 = .ok (.ifCond .eq 9, 3) := by decide +kernel
theorem dX8_kindOfWord_101 : decode cX8_kindOfWord 101 = .ok (.sipush 267, 3) := by decide +kernel
theorem dX8_kindOfWord_104 : decode cX8_kindOfWord 104 = .ok (.goto 6, 3) := by decide +kernel
theorem dX8_kindOfWord_107 : decode cX8_kindOfWord 107 = .ok (.sipush 256, 3) := by decide +kernel
theorem dX8_kindOfWord_110 : decode cX8_kindOfWord 110 = .ok (.ireturn, 1) := by decide +kernel
theorem dX8_isWord_0 : decode cX8_isWord 0 = .ok (.aload_n 1, 1) := by decide +kernel
theorem dX8_isWord_1 : decode cX8_isWord 1 = .ok (.invokevirtual 106, 3) := by decide +kernel
theorem dX8_isWord_4 : decode cX8_isWord 4 = .ok (.iload_n 3, 1) := by decide +kernel
theorem dX8_isWord_5 : decode cX8_isWord 5 = .ok (.if_icmp .eq 5, 3) := by decide +kernel
theorem dX8_isWord_8 : decode cX8_isWord 8 = .ok (.iconst 0, 1) := by decide +kernel
theorem dX8_isWord_9 : decode cX8_isWord 9 = .ok (.ireturn, 1) := by decide +kernel
theorem dX8_isWord_10 : decode cX8_isWord 10 = .ok (.iconst 0, 1) := by decide +kernel
theorem dX8_isWord_11 : decode cX8_isWord 11 = .ok (.istore 4, 2) := by decide +kernel
theorem dX8_isWord_13 : decode cX8_isWord 13 = .ok (.iload 4, 2) := by decide +kernel
theorem dX8_isWord_15 : decode cX8_isWord 15 = .ok (.aload_n 1, 1) := by decide +kernel
theorem dX8_isWord_16 : decode cX8_isWord 16 = .ok (.invokevirtual 106, 3) := by decide +kernel
theorem dX8_isWord_19 : decode cX8_isWord 19 = .ok (.if_icmp .ge 31, 3) := by decide +kernel
theorem dX8_isWord_22 : decode cX8_isWord 22 = .ok (.aload_n 1, 1) := by decide +kernel
theorem dX8_isWord_23 : decode cX8_isWord 23 = .ok (.iload 4, 2) := by decide +kernel
theorem dX8_isWord_25 : decode cX8_isWord 25 = .ok (.invokevirtual 111, 3) := by decide +kernel
theorem dX8_isWord_28 : decode cX8_isWord 28 = .ok (.aload_n 0, 1) := by decide +kernel
theorem dX8_isWord_29 : decode cX8_isWord 29 = .ok (.getfield 30, 3) := by decide +kernel
theorem dX8_isWord_32 : decode cX8_isWord 32 = .ok (.iload_n 2, 1) := by decide +kernel
theorem dX8_isWord_33 : decode cX8_isWord 33 = .ok (.iload 4, 2) := by decide +kernel
theorem dX8_isWord_35 : decode cX8_isWord 35 = .ok (.iadd, 1) := by decide +kernel
theorem dX8_isWord_36 : decode cX8_isWord 36 = .ok (.invokevirtual 47, 3) := by decide +kernel
theorem dX8_isWord_39 : decode cX8_isWord 39 = .ok (.if_icmp .eq 5, 3) := by decide +kernel
theorem dX8_isWord_42 : decode cX8_isWord 42 = .ok (.iconst 0, 1) := by decide +kernel
theorem dX8_isWord_43 : decode cX8_isWord 43 = .ok (.ireturn, 1) := by decide +kernel
theorem dX8_isWord_44 : decode cX8_isWord 44 = .ok (.iinc 4 1, 3) := by decide +kernel
theorem dX8_isWord_47 : decode cX8_isWord 47 = .ok (.goto (-34), 3) := by decide +kernel
theorem dX8_isWord_50 : decode cX8_isWord 50 = .ok (.iconst 1, 1) := by decide +kernel
theorem dX8_isWord_51 : decode cX8_isWord 51 = .ok (.ireturn, 1) := by decide +kernel
theorem dX8_wordingFrom_0 : decode cX8_wordingFrom 0 = .ok (.aload_n 0, 1) := by decide +kernel
theorem dX8_wordingFrom_1 : decode cX8_wordingFrom 1 = .ok (.getfield 33, 3) := by decide +kernel
theorem dX8_wordingFrom_4 : decode cX8_wordingFrom 4 = .ok (.iconst 0, 1) := by decide +kernel
theorem dX8_wordingFrom_5 : decode cX8_wordingFrom 5 = .ok (.invokevirtual 36, 3) := by decide +kernel
theorem dX8_wordingFrom_8 : decode cX8_wordingFrom 8 = .ok (.iload_n 1, 1) := by decide +kernel
theorem dX8_wordingFrom_9 : decode cX8_wordingFrom 9 = .ok (.istore_n 2, 1) := by decide +kernel
theorem dX8_wordingFrom_10 : decode cX8_wordingFrom 10 = .ok (.iload_n 2, 1) := by decide +kernel
theorem dX8_wordingFrom_11 : decode cX8_wordingFrom 11 = .ok (.aload_n 0, 1) := by decide +kernel
theorem dX8_wordingFrom_12 : decode cX8_wordingFrom 12 = .ok (.getfield 14, 3) := by decide +kernel
theorem dX8_wordingFrom_15 : decode cX8_wordingFrom 15 = .ok (.invokevirtual 43, 3) := by decide +kernel
theorem dX8_wordingFrom_18 : decode cX8_wordingFrom 18 = .ok (.if_icmp .ge 108, 3) := by decide +kernel
theorem dX8_wordingFrom_21 : decode cX8_wordingFrom 21 = .ok (.aload_n 0, 1) := by decide +kernel
theorem dX8_wordingFrom_22 : decode cX8_wordingFrom 22 = .ok (.getfield 20, 3) := by decide +kernel
theorem dX8_wordingFrom_25 : decode cX8_wordingFrom 25 = .ok (.iload_n 2, 1) := by decide +kernel
theorem dX8_wordingFrom_26 : decode cX8_wordingFrom 26 = .ok (.invokevirtual 47, 3) := by decide +kernel
theorem dX8_wordingFrom_29 : decode cX8_wordingFrom 29 = .ok (.istore_n 3, 1) := by decide +kernel
theorem dX8_wordingFrom_30 : decode cX8_wordingFrom 30 = .ok (.iload_n 2, 1) := by decide +kernel
theorem dX8_wordingFrom_31 : decode cX8_wordingFrom 31 = .ok (.iload_n 1, 1) := by decide +kernel
theorem dX8_wordingFrom_32 : decode cX8_wordingFrom 32 = .ok (.if_icmp .le 48, 3) := by decide +kernel
theorem dX8_wordingFrom_35 : decode cX8_wordingFrom 35 = .ok (.aload_n 0, 1) := by decide +kernel
theorem dX8_wordingFrom_36 : decode cX8_wordingFrom 36 = .ok (.getfield 30, 3) := by decide +kernel
theorem dX8_wordingFrom_39 : decode cX8_wordingFrom 39 = .ok (.iload_n 3, 1) := by decide +kernel
theorem dX8_wordingFrom_40 : decode cX8_wordingFrom 40 = .ok (.invokevirtual 47, 3) := by decide +kernel
theorem dX8_wordingFrom_43 : decode cX8_wordingFrom 43 = .ok (.invokestatic 68, 3) := by decide +kernel
theorem dX8_wordingFrom_46 : decode cX8_wordingFrom 46 = .ok (.ifCond .eq 34, 3) := by decide +kernel
theorem dX8_wordingFrom_49 : decode cX8_wordingFrom 49 = .ok (.aload_n 0, 1) := by decide +kernel
theorem dX8_wordingFrom_50 : decode cX8_wordingFrom 50 = .ok (.getfield 33, 3) := by decide +kernel
theorem dX8_wordingFrom_53 : decode cX8_wordingFrom 53 = .ok (.aload_n 0, 1) := by decide +kernel
theorem dX8_wordingFrom_54 : decode cX8_wordingFrom 54 = .ok (.getfield 33, 3) := by decide +kernel
theorem dX8_wordingFrom_57 : decode cX8_wordingFrom 57 = .ok (.invokevirtual 43, 3) := by decide +kernel
theorem dX8_wordingFrom_60 : decode cX8_wordingFrom 60 = .ok (.iconst 1, 1) := by decide +kernel
theorem dX8_wordingFrom_61 : decode cX8_wordingFrom 61 = .ok (.isub, 1) := by decide +kernel
theorem dX8_wordingFrom_62 : decode cX8_wordingFrom 62 = .ok (.invokevirtual 47, 3) := by decide +kernel
theorem dX8_wordingFrom_65 : decode cX8_wordingFrom 65 = .ok (.invokestatic 68, 3) := by decide +kernel
theorem dX8_wordingFrom_68 : decode cX8_wordingFrom 68 = .ok (.ifCond .eq 12, 3) := by decide +kernel
theorem dX8_wordingFrom_71 : decode cX8_wordingFrom 71 = .ok (.aload_n 0, 1) := by decide +kernel
theorem dX8_wordingFrom_72 : decode cX8_wordingFrom 72 = .ok (.getfield 33, 3) := by decide +kernel
theorem dX8_wordingFrom_75 : decode cX8_wordingFrom 75 = .ok (.bipush 32, 2) := by decide +kernel
theorem dX8_wordingFrom_77 : decode cX8_wordingFrom 77 = .ok (.invokevirtual 85, 3) := by decide +kernel
theorem dX8_wordingFrom_80 : decode cX8_wordingFrom 80 = .ok (.iconst 0, 1) := by decide +kernel
theorem dX8_wordingFrom_81 : decode cX8_wordingFrom 81 = .ok (.istore 4, 2) := by decide +kernel
theorem dX8_wordingFrom_83 : decode cX8_wordingFrom 83 = .ok (.iload 4, 2) := by decide +kernel
theorem dX8_wordingFrom_85 : decode cX8_wordingFrom 85 = .ok (.aload_n 0, 1) := by decide +kernel
theorem dX8_wordingFrom_86 : decode cX8_wordingFrom 86 = .ok (.getfield 23, 3) := by decide +kernel
theorem dX8_wordingFrom_89 : decode cX8_wordingFrom 89 = .ok (.iload_n 2, 1) := by decide +kernel
theorem dX8_wordingFrom_90 : decode cX8_wordingFrom 90 = .ok (.invokevirtual 47, 3) := by decide +kernel
theorem dX8_wordingFrom_93 : decode cX8_wordingFrom 93 = .ok (.if_icmp .ge 27, 3) := by decide +kernel
theorem dX8_wordingFrom_96 : decode cX8_wordingFrom 96 = .ok (.aload_n 0, 1) := by decide +kernel
theorem dX8_wordingFrom_97 : decode cX8_wordingFrom 97 = .ok (.getfield 33, 3) := by decide +kernel
theorem dX8_wordingFrom_100 : decode cX8_wordingFrom 100 = .ok (.aload_n 0, 1) := by decide +kernel
theorem dX8_wordingFrom_101 : decode cX8_wordingFrom 101 = .ok (.getfield 30, 3) := by decide +kernel
theorem dX8_wordingFrom_104 : decode cX8_wordingFrom 104 = .ok (.iload_n 3, 1) := by decide +kernel
theorem dX8_wordingFrom_105 : decode cX8_wordingFrom 105 = .ok (.iload 4, 2) := by decide +kernel
theorem dX8_wordingFrom_107 : decode cX8_wordingFrom 107 = .ok (.iadd, 1) := by decide +kernel
theorem dX8_wordingFrom_108 : decode cX8_wordingFrom 108 = .ok (.invokevirtual 47, 3) := by decide +kernel
theorem dX8_wordingFrom_111 : decode cX8_wordingFrom 111 = .ok (.invokevirtual 85, 3) := by decide +kernel
theorem dX8_wordingFrom_114 : decode cX8_wordingFrom 114 = .ok (.iinc 4 1, 3) := by decide +kernel
theorem dX8_wordingFrom_117 : decode cX8_wordingFrom 117 = .ok (.goto (-34), 3) := by decide +kernel
theorem dX8_wordingFrom_120 : decode cX8_wordingFrom 120 = .ok (.iinc 2 1, 3) := by decide +kernel
theorem dX8_wordingFrom_123 : decode cX8_wordingFrom 123 = .ok (.goto (-113), 3) := by decide +kernel
theorem dX8_wordingFrom_126 : decode cX8_wordingFrom 126 = .ok (.aload_n 0, 1) := by decide +kernel
theorem dX8_wordingFrom_127 : decode cX8_wordingFrom 127 = .ok (.getfield 33, 3) := by decide +kernel
theorem dX8_wordingFrom_130 : decode cX8_wordingFrom 130 = .ok (.invokevirtual 115, 3) := by decide +kernel
theorem dX8_wordingFrom_133 : decode cX8_wordingFrom 133 = .ok (.areturn, 1) := by decide +kernel
theorem dX8_isBlank_0 : decode cX8_isBlank 0 = .ok (.iload_n 0, 1) := by decide +kernel
theorem dX8_isBlank_1 : decode cX8_isBlank 1 = .ok (.bipush 32, 2) := by decide +kernel
theorem dX8_isBlank_3 : decode cX8_isBlank 3 = .ok (.if_icmp .eq 9, 3) := by decide +kernel
theorem dX8_isBlank_6 : decode cX8_isBlank 6 = .ok (.iload_n 0, 1) := by decide +kernel
theorem dX8_isBlank_7 : decode cX8_isBlank 7 = .ok (.bipush 10, 2) := by decide +kernel
theorem dX8_isBlank_9 : decode cX8_isBlank 9 = .ok (.if_icmp .ne 7, 3) := by decide +kernel
theorem dX8_isBlank_12 : decode cX8_isBlank 12 = .ok (.iconst 1, 1) := by decide +kernel
theorem dX8_isBlank_13 : decode cX8_isBlank 13 = .ok (.goto 4, 3) := by decide +kernel
theorem dX8_isBlank_16 : decode cX8_isBlank 16 = .ok (.iconst 0, 1) := by decide +kernel
theorem dX8_isBlank_17 : decode cX8_isBlank 17 = .ok (.ireturn, 1) := by decide +kernel
theorem dX8_isLetter_0 : decode cX8_isLetter 0 = .ok (.iload_n 0, 1) := by decide +kernel
theorem dX8_isLetter_1 : decode cX8_isLetter 1 = .ok (.bipush 97, 2) := by decide +kernel
theorem dX8_isLetter_3 : decode cX8_isLetter 3 = .ok (.if_icmp .lt 13, 3) := by decide +kernel
theorem dX8_isLetter_6 : decode cX8_isLetter 6 = .ok (.iload_n 0, 1) := by decide +kernel
theorem dX8_isLetter_7 : decode cX8_isLetter 7 = .ok (.bipush 122, 2) := by decide +kernel
theorem dX8_isLetter_9 : decode cX8_isLetter 9 = .ok (.if_icmp .gt 7, 3) := by decide +kernel
theorem dX8_isLetter_12 : decode cX8_isLetter 12 = .ok (.iconst 1, 1) := by decide +kernel
theorem dX8_isLetter_13 : decode cX8_isLetter 13 = .ok (.goto 4, 3) := by decide +kernel
theorem dX8_isLetter_16 : decode cX8_isLetter 16 = .ok (.iconst 0, 1) := by decide +kernel
theorem dX8_isLetter_17 : decode cX8_isLetter 17 = .ok (.ireturn, 1) := by decide +kernel
theorem dX8_isDigit_0 : decode cX8_isDigit 0 = .ok (.iload_n 0, 1) := by decide +kernel
theorem dX8_isDigit_1 : decode cX8_isDigit 1 = .ok (.bipush 48, 2) := by decide +kernel
theorem dX8_isDigit_3 : decode cX8_isDigit 3 = .ok (.if_icmp .lt 13, 3) := by decide +kernel
theorem dX8_isDigit_6 : decode cX8_isDigit 6 = .ok (.iload_n 0, 1) := by decide +kernel
theorem dX8_isDigit_7 : decode cX8_isDigit 7 = .ok (.bipush 57, 2) := by decide +kernel
theorem dX8_isDigit_9 : decode cX8_isDigit 9 = .ok (.if_icmp .gt 7, 3) := by decide +kernel
theorem dX8_isDigit_12 : decode cX8_isDigit 12 = .ok (.iconst 1, 1) := by decide +kernel
theorem dX8_isDigit_13 : decode cX8_isDigit 13 = .ok (.goto 4, 3) := by decide +kernel
theorem dX8_isDigit_16 : decode cX8_isDigit 16 = .ok (.iconst 0, 1) := by decide +kernel
theorem dX8_isDigit_17 : decode cX8_isDigit 17 = .ok (.ireturn, 1) := by decide +kernel
theorem dX9_init_0 : decode cX9_init 0 = .ok (.aload_n 0, 1) := by decide +kernel
theorem dX9_init_1 : decode cX9_init 1 = .ok (.invokespecial 3, 3) := by decide +kernel
theorem dX9_init_4 : decode cX9_init 4 = .ok (.aload_n 0, 1) := by decide +kernel
theorem dX9_init_5 : decode cX9_init 5 = .ok (.bipush 16, 2) := by decide +kernel
theorem dX9_init_7 : decode cX9_init 7 = .ok (.newarray .int, 2) := by decide +kernel
theorem dX9_init_9 : decode cX9_init 9 = .ok (.putfield 9, 3) := by decide +kernel
theorem dX9_init_12 : decode cX9_init 12 = .ok (.return_, 1) := by decide +kernel
theorem dX9_typeOfPart_0 : decode cX9_typeOfPart 0 = .ok (.aload_n 0, 1) := by decide +kernel
theorem dX9_typeOfPart_1 : decode cX9_typeOfPart 1 = .ok (.iconst 0, 1) := by decide +kernel
theorem dX9_typeOfPart_2 : decode cX9_typeOfPart 2 = .ok (.putfield 15, 3) := by decide +kernel
theorem dX9_typeOfPart_5 : decode cX9_typeOfPart 5 = .ok (.aload_n 0, 1) := by decide +kernel
theorem dX9_typeOfPart_6 : decode cX9_typeOfPart 6 = .ok (.iconst (-1), 1) := by decide +kernel
theorem dX9_typeOfPart_7 : decode cX9_typeOfPart 7 = .ok (.putfield 19, 3) := by decide +kernel
theorem dX9_typeOfPart_10 : decode cX9_typeOfPart 10 = .ok (.aload_n 1, 1) := by decide +kernel
theorem dX9_typeOfPart_11 : decode cX9_typeOfPart 11 = .ok (.iload_n 2, 1) := by decide +kernel
theorem dX9_typeOfPart_12 : decode cX9_typeOfPart 12 = .ok (.invokevirtual 22, 3) := by decide +kernel
theorem dX9_typeOfPart_15 : decode cX9_typeOfPart 15 = .ok (.istore 4, 2) := by decide +kernel
theorem dX9_typeOfPart_17 : decode cX9_typeOfPart 17 = .ok (.aload_n 1, 1) := by decide +kernel
theorem dX9_typeOfPart_18 : decode cX9_typeOfPart 18 = .ok (.iload_n 2, 1) := by decide +kernel
theorem dX9_typeOfPart_19 : decode cX9_typeOfPart 19 = .ok (.invokevirtual 28, 3) := by decide +kernel
theorem dX9_typeOfPart_22 : decode cX9_typeOfPart 22 = .ok (.istore 5, 2) := by decide +kernel
theorem dX9_typeOfPart_24 : decode cX9_typeOfPart 24 = .ok (.iload 5, 2) := by decide +kernel
theorem dX9_typeOfPart_26 : decode cX9_typeOfPart 26 = .ok (.iload 4, 2) := by decide +kernel
theorem dX9_typeOfPart_28 : decode cX9_typeOfPart 28 = .ok (.if_icmp .ge 70, 3) := by decide +kernel
theorem dX9_typeOfPart_31 : decode cX9_typeOfPart 31 = .ok (.aload_n 1, 1) := by decide +kernel
theorem dX9_typeOfPart_32 : decode cX9_typeOfPart 32 = .ok (.getfield 31, 3) := by decide +kernel
theorem dX9_typeOfPart_35 : decode cX9_typeOfPart 35 = .ok (.iload 5, 2) := by decide +kernel
theorem dX9_typeOfPart_37 : decode cX9_typeOfPart 37 = .ok (.invokevirtual 35, 3) := by decide +kernel
theorem dX9_typeOfPart_40 : decode cX9_typeOfPart 40 = .ok (.istore 6, 2) := by decide +kernel
theorem dX9_typeOfPart_42 : decode cX9_typeOfPart 42 = .ok (.iload 6, 2) := by decide +kernel
theorem dX9_typeOfPart_44 : decode cX9_typeOfPart 44 = .ok (.sipush 1000, 3) := by decide +kernel
theorem dX9_typeOfPart_47 : decode cX9_typeOfPart 47 = .ok (.isub, 1) := by decide +kernel
theorem dX9_typeOfPart_48 : decode cX9_typeOfPart 48 = .ok (.istore 7, 2) := by decide +kernel
theorem dX9_typeOfPart_50 : decode cX9_typeOfPart 50 = .ok (.iload 7, 2) := by decide +kernel
theorem dX9_typeOfPart_52 : decode cX9_typeOfPart 52 = .ok (.ifCond .lt 21, 3) := by decide +kernel
theorem dX9_typeOfPart_55 : decode cX9_typeOfPart 55 = .ok (.iload 7, 2) := by decide +kernel
theorem dX9_typeOfPart_57 : decode cX9_typeOfPart 57 = .ok (.aload_n 3, 1) := by decide +kernel
theorem dX9_typeOfPart_58 : decode cX9_typeOfPart 58 = .ok (.arraylength, 1) := by decide +kernel
theorem dX9_typeOfPart_59 : decode cX9_typeOfPart 59 = .ok (.if_icmp .ge 14, 3) := by decide +kernel
theorem dX9_typeOfPart_62 : decode cX9_typeOfPart 62 = .ok (.aload_n 0, 1) := by decide +kernel
theorem dX9_typeOfPart_63 : decode cX9_typeOfPart 63 = .ok (.aload_n 3, 1) := by decide +kernel
theorem dX9_typeOfPart_64 : decode cX9_typeOfPart 64 = .ok (.iload 7, 2) := by decide +kernel
theorem dX9_typeOfPart_66 : decode cX9_typeOfPart 66 = .ok (.iaload, 1) := by decide +kernel
theorem dX9_typeOfPart_67 : decode cX9_typeOfPart 67 = .ok (.invokevirtual 40, 3) := by decide +kernel
theorem dX9_typeOfPart_70 : decode cX9_typeOfPart 70 = .ok (.goto 22, 3) := by decide +kernel
theorem dX9_typeOfPart_73 : decode cX9_typeOfPart 73 = .ok (.aload_n 0, 1) := by decide +kernel
theorem dX9_typeOfPart_74 : decode cX9_typeOfPart 74 = .ok (.aload_n 0, 1) := by decide +kernel
theorem dX9_typeOfPart_75 : decode cX9_typeOfPart 75 = .ok (.iload 6, 2) := by decide +kernel
theorem dX9_typeOfPart_77 : decode cX9_typeOfPart 77 = .ok (.aload_n 1, 1) := by decide +kernel
theorem dX9_typeOfPart_78 : decode cX9_typeOfPart 78 = .ok (.getfield 44, 3) := by decide +kernel
theorem dX9_typeOfPart_81 : decode cX9_typeOfPart 81 = .ok (.iload 5, 2) := by decide +kernel
theorem dX9_typeOfPart_83 : decode cX9_typeOfPart 83 = .ok (.invokevirtual 35, 3) := by decide +kernel
theorem dX9_typeOfPart_86 : decode cX9_typeOfPart 86 = .ok (.invokevirtual 47, 3) := by decide +kernel
theorem dX9_typeOfPart_89 : decode cX9_typeOfPart 89 = .ok (.invokevirtual 40, 3) := by decide +kernel
theorem dX9_typeOfPart_92 : decode cX9_typeOfPart 92 = .ok (.iinc 5 1, 3) := by decide +kernel
theorem dX9_typeOfPart_95 : decode cX9_typeOfPart 95 = .ok (.goto (-71), 3) := by decide +kernel
theorem dX9_typeOfPart_98 : decode cX9_typeOfPart 98 = .ok (.aload_n 0, 1) := by decide +kernel
theorem dX9_typeOfPart_99 : decode cX9_typeOfPart 99 = .ok (.invokevirtual 51, 3) := by decide +kernel
theorem dX9_typeOfPart_102 : decode cX9_typeOfPart 102 = .ok (.ireturn, 1) := by decide +kernel
theorem dX9_resultOf_0 : decode cX9_resultOf 0 = .ok (.iload_n 1, 1) := by decide +kernel
theorem dX9_resultOf_1 : decode cX9_resultOf 1 = .ok (.lookupswitch 149 #[(38, 132), (43, 132), (45, 132), (60, 117), (61, 117), (257, 83), (258, 86), (266, 89), (267, 103)], 83) := by decide +kernel
theorem dX9_resultOf_84 : decode cX9_resultOf 84 = .ok (.bipush 110, 2) := by decide +kernel
theorem dX9_resultOf_86 : decode cX9_resultOf 86 = .ok (.ireturn, 1) := by decide +kernel
theorem dX9_resultOf_87 : decode cX9_resultOf 87 = .ok (.bipush 116, 2) := by decide +kernel
theorem dX9_resultOf_89 : decode cX9_resultOf 89 = .ok (.ireturn, 1) := by decide +kernel
theorem dX9_resultOf_90 : decode cX9_resultOf 90 = .ok (.aload_n 0, 1) := by decide +kernel
theorem dX9_resultOf_91 : decode cX9_resultOf 91 = .ok (.aload_n 0, 1) := by decide +kernel
theorem dX9_resultOf_92 : decode cX9_resultOf 92 = .ok (.invokevirtual 51, 3) := by decide +kernel
theorem dX9_resultOf_95 : decode cX9_resultOf 95 = .ok (.bipush 116, 2) := by decide +kernel
theorem dX9_resultOf_97 : decode cX9_resultOf 97 = .ok (.iload_n 2, 1) := by decide +kernel
theorem dX9_resultOf_98 : decode cX9_resultOf 98 = .ok (.invokevirtual 55, 3) := by decide +kernel
theorem dX9_resultOf_101 : decode cX9_resultOf 101 = .ok (.bipush 110, 2) := by decide +kernel
theorem dX9_resultOf_103 : decode cX9_resultOf 103 = .ok (.ireturn, 1) := by decide +kernel
theorem dX9_resultOf_104 : decode cX9_resultOf 104 = .ok (.aload_n 0, 1) := by decide +kernel
theorem dX9_resultOf_105 : decode cX9_resultOf 105 = .ok (.aload_n 0, 1) := by decide +kernel
theorem dX9_resultOf_106 : decode cX9_resultOf 106 = .ok (.invokevirtual 51, 3) := by decide +kernel
theorem dX9_resultOf_109 : decode cX9_resultOf 109 = .ok (.bipush 110, 2) := by decide +kernel
theorem dX9_resultOf_111 : decode cX9_resultOf 111 = .ok (.iload_n 2, 1) := by decide +kernel
theorem dX9_resultOf_112 : decode cX9_resultOf 112 = .ok (.invokevirtual 55, 3) := by decide +kernel
theorem dX9_resultOf_115 : decode cX9_resultOf 115 = .ok (.bipush 116, 2) := by decide +kernel
theorem dX9_resultOf_117 : decode cX9_resultOf 117 = .ok (.ireturn, 1) := by decide +kernel
theorem dX9_resultOf_118 : decode cX9_resultOf 118 = .ok (.aload_n 0, 1) := by decide +kernel
theorem dX9_resultOf_119 : decode cX9_resultOf 119 = .ok (.aload_n 0, 1) := by decide +kernel
theorem dX9_resultOf_120 : decode cX9_resultOf 120 = .ok (.invokevirtual 51, 3) := by decide +kernel
theorem dX9_resultOf_123 : decode cX9_resultOf 123 = .ok (.aload_n 0, 1) := by decide +kernel
theorem dX9_resultOf_124 : decode cX9_resultOf 124 = .ok (.invokevirtual 51, 3) := by decide +kernel
theorem dX9_resultOf_127 : decode cX9_resultOf 127 = .ok (.iload_n 2, 1) := by decide +kernel
theorem dX9_resultOf_128 : decode cX9_resultOf 128 = .ok (.invokevirtual 55, 3) := by decide +kernel
theorem dX9_resultOf_131 : decode cX9_resultOf 131 = .ok (.iconst 0, 1) := by decide +kernel
theorem dX9_resultOf_132 : decode cX9_resultOf 132 = .ok (.ireturn, 1) := by decide +kernel
theorem dX9_resultOf_133 : decode cX9_resultOf 133 = .ok (.aload_n 0, 1) := by decide +kernel
theorem dX9_resultOf_134 : decode cX9_resultOf 134 = .ok (.invokevirtual 51, 3) := by decide +kernel
theorem dX9_resultOf_137 : decode cX9_resultOf 137 = .ok (.istore_n 3, 1) := by decide +kernel
theorem dX9_resultOf_138 : decode cX9_resultOf 138 = .ok (.aload_n 0, 1) := by decide +kernel
theorem dX9_resultOf_139 : decode cX9_resultOf 139 = .ok (.iload_n 1, 1) := by decide +kernel
theorem dX9_resultOf_140 : decode cX9_resultOf 140 = .ok (.aload_n 0, 1) := by decide +kernel
theorem dX9_resultOf_141 : decode cX9_resultOf 141 = .ok (.invokevirtual 51, 3) := by decide +kernel
theorem dX9_resultOf_144 : decode cX9_resultOf 144 = .ok (.iload_n 3, 1) := by decide +kernel
theorem dX9_resultOf_145 : decode cX9_resultOf 145 = .ok (.iload_n 2, 1) := by decide +kernel
theorem dX9_resultOf_146 : decode cX9_resultOf 146 = .ok (.invokevirtual 59, 3) := by decide +kernel
theorem dX9_resultOf_149 : decode cX9_resultOf 149 = .ok (.ireturn, 1) := by decide +kernel
theorem dX9_resultOf_150 : decode cX9_resultOf 150 = .ok (.iconst 0, 1) := by decide +kernel
theorem dX9_resultOf_151 : decode cX9_resultOf 151 = .ok (.ireturn, 1) := by decide +kernel
theorem dX9_operated_0 : decode cX9_operated 0 = .ok (.iload_n 2, 1) := by decide +kernel
theorem dX9_operated_1 : decode cX9_operated 1 = .ok (.ifCond .eq 7, 3) := by decide +kernel
theorem dX9_operated_4 : decode cX9_operated 4 = .ok (.iload_n 3, 1) := by decide +kernel
theorem dX9_operated_5 : decode cX9_operated 5 = .ok (.ifCond .ne 5, 3) := by decide +kernel
theorem dX9_operated_8 : decode cX9_operated 8 = .ok (.iconst 0, 1) := by decide +kernel
theorem dX9_operated_9 : decode cX9_operated 9 = .ok (.ireturn, 1) := by decide +kernel
theorem dX9_operated_10 : decode cX9_operated 10 = .ok (.iload_n 1, 1) := by decide +kernel
theorem dX9_operated_11 : decode cX9_operated 11 = .ok (.bipush 38, 2) := by decide +kernel
theorem dX9_operated_13 : decode cX9_operated 13 = .ok (.if_icmp .ne 18, 3) := by decide +kernel
theorem dX9_operated_16 : decode cX9_operated 16 = .ok (.iload_n 2, 1) := by decide +kernel
theorem dX9_operated_17 : decode cX9_operated 17 = .ok (.bipush 116, 2) := by decide +kernel
theorem dX9_operated_19 : decode cX9_operated 19 = .ok (.if_icmp .ne 12, 3) := by decide +kernel
theorem dX9_operated_22 : decode cX9_operated 22 = .ok (.iload_n 3, 1) := by decide +kernel
theorem dX9_operated_23 : decode cX9_operated 23 = .ok (.bipush 116, 2) := by decide +kernel
theorem dX9_operated_25 : decode cX9_operated 25 = .ok (.if_icmp .ne 6, 3) := by decide +kernel
theorem dX9_operated_28 : decode cX9_operated 28 = .ok (.bipush 116, 2) := by decide +kernel
theorem dX9_operated_30 : decode cX9_operated 30 = .ok (.ireturn, 1) := by decide +kernel
theorem dX9_operated_31 : decode cX9_operated 31 = .ok (.iload_n 1, 1) := by decide +kernel
theorem dX9_operated_32 : decode cX9_operated 32 = .ok (.bipush 38, 2) := by decide +kernel
theorem dX9_operated_34 : decode cX9_operated 34 = .ok (.if_icmp .eq 17, 3) := by decide +kernel
theorem dX9_operated_37 : decode cX9_operated 37 = .ok (.iload_n 2, 1) := by decide +kernel
theorem dX9_operated_38 : decode cX9_operated 38 = .ok (.bipush 116, 2) := by decide +kernel
theorem dX9_operated_40 : decode cX9_operated 40 = .ok (.if_icmp .eq 11, 3) := by decide +kernel
theorem dX9_operated_43 : decode cX9_operated 43 = .ok (.iload_n 3, 1) := by decide +kernel
theorem dX9_operated_44 : decode cX9_operated 44 = .ok (.bipush 110, 2) := by decide +kernel
theorem dX9_operated_46 : decode cX9_operated 46 = .ok (.if_icmp .ne 5, 3) := by decide +kernel
theorem dX9_operated_49 : decode cX9_operated 49 = .ok (.iload_n 2, 1) := by decide +kernel
theorem dX9_operated_50 : decode cX9_operated 50 = .ok (.ireturn, 1) := by decide +kernel
theorem dX9_operated_51 : decode cX9_operated 51 = .ok (.iload_n 1, 1) := by decide +kernel
theorem dX9_operated_52 : decode cX9_operated 52 = .ok (.bipush 45, 2) := by decide +kernel
theorem dX9_operated_54 : decode cX9_operated 54 = .ok (.if_icmp .ne 18, 3) := by decide +kernel
theorem dX9_operated_57 : decode cX9_operated 57 = .ok (.iload_n 2, 1) := by decide +kernel
theorem dX9_operated_58 : decode cX9_operated 58 = .ok (.bipush 100, 2) := by decide +kernel
theorem dX9_operated_60 : decode cX9_operated 60 = .ok (.if_icmp .ne 12, 3) := by decide +kernel
theorem dX9_operated_63 : decode cX9_operated 63 = .ok (.iload_n 3, 1) := by decide +kernel
theorem dX9_operated_64 : decode cX9_operated 64 = .ok (.bipush 100, 2) := by decide +kernel
theorem dX9_operated_66 : decode cX9_operated 66 = .ok (.if_icmp .ne 6, 3) := by decide +kernel
theorem dX9_operated_69 : decode cX9_operated 69 = .ok (.bipush 110, 2) := by decide +kernel
theorem dX9_operated_71 : decode cX9_operated 71 = .ok (.ireturn, 1) := by decide +kernel
theorem dX9_operated_72 : decode cX9_operated 72 = .ok (.aload_n 0, 1) := by decide +kernel
theorem dX9_operated_73 : decode cX9_operated 73 = .ok (.iload 4, 2) := by decide +kernel
theorem dX9_operated_75 : decode cX9_operated 75 = .ok (.invokevirtual 63, 3) := by decide +kernel
theorem dX9_operated_78 : decode cX9_operated 78 = .ok (.iconst 0, 1) := by decide +kernel
theorem dX9_operated_79 : decode cX9_operated 79 = .ok (.ireturn, 1) := by decide +kernel
theorem dX9_noteUnlike_0 : decode cX9_noteUnlike 0 = .ok (.iload_n 1, 1) := by decide +kernel
theorem dX9_noteUnlike_1 : decode cX9_noteUnlike 1 = .ok (.ifCond .eq 17, 3) := by decide +kernel
theorem dX9_noteUnlike_4 : decode cX9_noteUnlike 4 = .ok (.iload_n 2, 1) := by decide +kernel
theorem dX9_noteUnlike_5 : decode cX9_noteUnlike 5 = .ok (.ifCond .eq 13, 3) := by decide +kernel
theorem dX9_noteUnlike_8 : decode cX9_noteUnlike 8 = .ok (.iload_n 1, 1) := by decide +kernel
theorem dX9_noteUnlike_9 : decode cX9_noteUnlike 9 = .ok (.iload_n 2, 1) := by decide +kernel
theorem dX9_noteUnlike_10 : decode cX9_noteUnlike 10 = .ok (.if_icmp .eq 8, 3) := by decide +kernel
theorem dX9_noteUnlike_13 : decode cX9_noteUnlike 13 = .ok (.aload_n 0, 1) := by decide +kernel
theorem dX9_noteUnlike_14 : decode cX9_noteUnlike 14 = .ok (.iload_n 3, 1) := by decide +kernel
theorem dX9_noteUnlike_15 : decode cX9_noteUnlike 15 = .ok (.invokevirtual 63, 3) := by decide +kernel
theorem dX9_noteUnlike_18 : decode cX9_noteUnlike 18 = .ok (.return_, 1) := by decide +kernel
theorem dX9_noteBad_0 : decode cX9_noteBad 0 = .ok (.aload_n 0, 1) := by decide +kernel
theorem dX9_noteBad_1 : decode cX9_noteBad 1 = .ok (.getfield 19, 3) := by decide +kernel
theorem dX9_noteBad_4 : decode cX9_noteBad 4 = .ok (.iconst (-1), 1) := by decide +kernel
theorem dX9_noteBad_5 : decode cX9_noteBad 5 = .ok (.if_icmp .eq 11, 3) := by decide +kernel
theorem dX9_noteBad_8 : decode cX9_noteBad 8 = .ok (.iload_n 1, 1) := by decide +kernel
theorem dX9_noteBad_9 : decode cX9_noteBad 9 = .ok (.aload_n 0, 1) := by decide +kernel
theorem dX9_noteBad_10 : decode cX9_noteBad 10 = .ok (.getfield 19, 3) := by decide +kernel
theorem dX9_noteBad_13 : decode cX9_noteBad 13 = .ok (.if_icmp .ge 8, 3) := by decide +kernel
theorem dX9_noteBad_16 : decode cX9_noteBad 16 = .ok (.aload_n 0, 1) := by decide +kernel
theorem dX9_noteBad_17 : decode cX9_noteBad 17 = .ok (.iload_n 1, 1) := by decide +kernel
theorem dX9_noteBad_18 : decode cX9_noteBad 18 = .ok (.putfield 19, 3) := by decide +kernel
theorem dX9_noteBad_21 : decode cX9_noteBad 21 = .ok (.return_, 1) := by decide +kernel
theorem dX9_push_0 : decode cX9_push 0 = .ok (.aload_n 0, 1) := by decide +kernel
theorem dX9_push_1 : decode cX9_push 1 = .ok (.getfield 15, 3) := by decide +kernel
theorem dX9_push_4 : decode cX9_push 4 = .ok (.ifCond .lt 35, 3) := by decide +kernel
theorem dX9_push_7 : decode cX9_push 7 = .ok (.aload_n 0, 1) := by decide +kernel
theorem dX9_push_8 : decode cX9_push 8 = .ok (.getfield 15, 3) := by decide +kernel
theorem dX9_push_11 : decode cX9_push 11 = .ok (.aload_n 0, 1) := by decide +kernel
theorem dX9_push_12 : decode cX9_push 12 = .ok (.getfield 9, 3) := by decide +kernel
theorem dX9_push_15 : decode cX9_push 15 = .ok (.arraylength, 1) := by decide +kernel
theorem dX9_push_16 : decode cX9_push 16 = .ok (.if_icmp .ge 23, 3) := by decide +kernel
theorem dX9_push_19 : decode cX9_push 19 = .ok (.aload_n 0, 1) := by decide +kernel
theorem dX9_push_20 : decode cX9_push 20 = .ok (.getfield 9, 3) := by decide +kernel
theorem dX9_push_23 : decode cX9_push 23 = .ok (.aload_n 0, 1) := by decide +kernel
theorem dX9_push_24 : decode cX9_push 24 = .ok (.getfield 15, 3) := by decide +kernel
theorem dX9_push_27 : decode cX9_push 27 = .ok (.iload_n 1, 1) := by decide +kernel
theorem dX9_push_28 : decode cX9_push 28 = .ok (.iastore, 1) := by decide +kernel
theorem dX9_push_29 : decode cX9_push 29 = .ok (.aload_n 0, 1) := by decide +kernel
theorem dX9_push_30 : decode cX9_push 30 = .ok (.dup, 1) := by decide +kernel
theorem dX9_push_31 : decode cX9_push 31 = .ok (.getfield 15, 3) := by decide +kernel
theorem dX9_push_34 : decode cX9_push 34 = .ok (.iconst 1, 1) := by decide +kernel
theorem dX9_push_35 : decode cX9_push 35 = .ok (.iadd, 1) := by decide +kernel
theorem dX9_push_36 : decode cX9_push 36 = .ok (.putfield 15, 3) := by decide +kernel
theorem dX9_push_39 : decode cX9_push 39 = .ok (.return_, 1) := by decide +kernel
theorem dX9_pop_0 : decode cX9_pop 0 = .ok (.aload_n 0, 1) := by decide +kernel
theorem dX9_pop_1 : decode cX9_pop 1 = .ok (.getfield 15, 3) := by decide +kernel
theorem dX9_pop_4 : decode cX9_pop 4 = .ok (.ifCond .le 15, 3) := by decide +kernel
theorem dX9_pop_7 : decode cX9_pop 7 = .ok (.aload_n 0, 1) := by decide +kernel
theorem dX9_pop_8 : decode cX9_pop 8 = .ok (.getfield 15, 3) := by decide +kernel
theorem dX9_pop_11 : decode cX9_pop 11 = .ok (.aload_n 0, 1) := by decide +kernel
theorem dX9_pop_12 : decode cX9_pop 12 = .ok (.getfield 9, 3) := by decide +kernel
theorem dX9_pop_15 : decode cX9_pop 15 = .ok (.arraylength, 1) := by decide +kernel
theorem dX9_pop_16 : decode cX9_pop 16 = .ok (.if_icmp .le 5, 3) := by decide +kernel
theorem dX9_pop_19 : decode cX9_pop 19 = .ok (.iconst 0, 1) := by decide +kernel
theorem dX9_pop_20 : decode cX9_pop 20 = .ok (.ireturn, 1) := by decide +kernel
theorem dX9_pop_21 : decode cX9_pop 21 = .ok (.aload_n 0, 1) := by decide +kernel
theorem dX9_pop_22 : decode cX9_pop 22 = .ok (.dup, 1) := by decide +kernel
theorem dX9_pop_23 : decode cX9_pop 23 = .ok (.getfield 15, 3) := by decide +kernel
theorem dX9_pop_26 : decode cX9_pop 26 = .ok (.iconst 1, 1) := by decide +kernel
theorem dX9_pop_27 : decode cX9_pop 27 = .ok (.isub, 1) := by decide +kernel
theorem dX9_pop_28 : decode cX9_pop 28 = .ok (.putfield 15, 3) := by decide +kernel
theorem dX9_pop_31 : decode cX9_pop 31 = .ok (.aload_n 0, 1) := by decide +kernel
theorem dX9_pop_32 : decode cX9_pop 32 = .ok (.getfield 9, 3) := by decide +kernel
theorem dX9_pop_35 : decode cX9_pop 35 = .ok (.aload_n 0, 1) := by decide +kernel
theorem dX9_pop_36 : decode cX9_pop 36 = .ok (.getfield 15, 3) := by decide +kernel
theorem dX9_pop_39 : decode cX9_pop 39 = .ok (.iaload, 1) := by decide +kernel
theorem dX9_pop_40 : decode cX9_pop 40 = .ok (.ireturn, 1) := by decide +kernel
theorem dX10_init_0 : decode cX10_init 0 = .ok (.aload_n 0, 1) := by decide +kernel
theorem dX10_init_1 : decode cX10_init 1 = .ok (.invokespecial 3, 3) := by decide +kernel
theorem dX10_init_4 : decode cX10_init 4 = .ok (.aload_n 0, 1) := by decide +kernel
theorem dX10_init_5 : decode cX10_init 5 = .ok (.new 9, 3) := by decide +kernel
theorem dX10_init_8 : decode cX10_init 8 = .ok (.dup, 1) := by decide +kernel
theorem dX10_init_9 : decode cX10_init 9 = .ok (.sipush 400, 3) := by decide +kernel
theorem dX10_init_12 : decode cX10_init 12 = .ok (.invokespecial 11, 3) := by decide +kernel
theorem dX10_init_15 : decode cX10_init 15 = .ok (.putfield 14, 3) := by decide +kernel
theorem dX10_init_18 : decode cX10_init 18 = .ok (.aload_n 0, 1) := by decide +kernel
theorem dX10_init_19 : decode cX10_init 19 = .ok (.new 18, 3) := by decide +kernel
theorem dX10_init_22 : decode cX10_init 22 = .ok (.dup, 1) := by decide +kernel
theorem dX10_init_23 : decode cX10_init 23 = .ok (.invokespecial 20, 3) := by decide +kernel
theorem dX10_init_26 : decode cX10_init 26 = .ok (.putfield 21, 3) := by decide +kernel
theorem dX10_init_29 : decode cX10_init 29 = .ok (.aload_n 0, 1) := by decide +kernel
theorem dX10_init_30 : decode cX10_init 30 = .ok (.new 25, 3) := by decide +kernel
theorem dX10_init_33 : decode cX10_init 33 = .ok (.dup, 1) := by decide +kernel
theorem dX10_init_34 : decode cX10_init 34 = .ok (.invokespecial 27, 3) := by decide +kernel
theorem dX10_init_37 : decode cX10_init 37 = .ok (.putfield 28, 3) := by decide +kernel
theorem dX10_init_40 : decode cX10_init 40 = .ok (.aload_n 0, 1) := by decide +kernel
theorem dX10_init_41 : decode cX10_init 41 = .ok (.new 32, 3) := by decide +kernel
theorem dX10_init_44 : decode cX10_init 44 = .ok (.dup, 1) := by decide +kernel
theorem dX10_init_45 : decode cX10_init 45 = .ok (.invokespecial 34, 3) := by decide +kernel
theorem dX10_init_48 : decode cX10_init 48 = .ok (.putfield 35, 3) := by decide +kernel
theorem dX10_init_51 : decode cX10_init 51 = .ok (.aload_n 0, 1) := by decide +kernel
theorem dX10_init_52 : decode cX10_init 52 = .ok (.bipush 16, 2) := by decide +kernel
theorem dX10_init_54 : decode cX10_init 54 = .ok (.anewarray 39, 3) := by decide +kernel
theorem dX10_init_57 : decode cX10_init 57 = .ok (.putfield 41, 3) := by decide +kernel
theorem dX10_init_60 : decode cX10_init 60 = .ok (.aload_n 0, 1) := by decide +kernel
theorem dX10_init_61 : decode cX10_init 61 = .ok (.sipush 128, 3) := by decide +kernel
theorem dX10_init_64 : decode cX10_init 64 = .ok (.newarray .int, 2) := by decide +kernel
theorem dX10_init_66 : decode cX10_init 66 = .ok (.putfield 45, 3) := by decide +kernel
theorem dX10_init_69 : decode cX10_init 69 = .ok (.aload_n 0, 1) := by decide +kernel
theorem dX10_init_70 : decode cX10_init 70 = .ok (.sipush 128, 3) := by decide +kernel
theorem dX10_init_73 : decode cX10_init 73 = .ok (.newarray .int, 2) := by decide +kernel
theorem dX10_init_75 : decode cX10_init 75 = .ok (.putfield 49, 3) := by decide +kernel
theorem dX10_init_78 : decode cX10_init 78 = .ok (.aload_n 0, 1) := by decide +kernel
theorem dX10_init_79 : decode cX10_init 79 = .ok (.bipush 40, 2) := by decide +kernel
theorem dX10_init_81 : decode cX10_init 81 = .ok (.anewarray 52, 3) := by decide +kernel
theorem dX10_init_84 : decode cX10_init 84 = .ok (.putfield 54, 3) := by decide +kernel
theorem dX10_init_87 : decode cX10_init 87 = .ok (.aload_n 0, 1) := by decide +kernel
theorem dX10_init_88 : decode cX10_init 88 = .ok (.new 58, 3) := by decide +kernel
theorem dX10_init_91 : decode cX10_init 91 = .ok (.dup, 1) := by decide +kernel
theorem dX10_init_92 : decode cX10_init 92 = .ok (.invokespecial 60, 3) := by decide +kernel
theorem dX10_init_95 : decode cX10_init 95 = .ok (.putfield 61, 3) := by decide +kernel
theorem dX10_init_98 : decode cX10_init 98 = .ok (.aload_n 0, 1) := by decide +kernel
theorem dX10_init_99 : decode cX10_init 99 = .ok (.new 9, 3) := by decide +kernel
theorem dX10_init_102 : decode cX10_init 102 = .ok (.dup, 1) := by decide +kernel
theorem dX10_init_103 : decode cX10_init 103 = .ok (.sipush 128, 3) := by decide +kernel
theorem dX10_init_106 : decode cX10_init 106 = .ok (.invokespecial 11, 3) := by decide +kernel
theorem dX10_init_109 : decode cX10_init 109 = .ok (.putfield 65, 3) := by decide +kernel
theorem dX10_init_112 : decode cX10_init 112 = .ok (.aload_n 0, 1) := by decide +kernel
theorem dX10_init_113 : decode cX10_init 113 = .ok (.new 9, 3) := by decide +kernel
theorem dX10_init_116 : decode cX10_init 116 = .ok (.dup, 1) := by decide +kernel
theorem dX10_init_117 : decode cX10_init 117 = .ok (.sipush 128, 3) := by decide +kernel
theorem dX10_init_120 : decode cX10_init 120 = .ok (.invokespecial 11, 3) := by decide +kernel
theorem dX10_init_123 : decode cX10_init 123 = .ok (.putfield 68, 3) := by decide +kernel
theorem dX10_init_126 : decode cX10_init 126 = .ok (.aload_n 0, 1) := by decide +kernel
theorem dX10_init_127 : decode cX10_init 127 = .ok (.iconst (-1), 1) := by decide +kernel
theorem dX10_init_128 : decode cX10_init 128 = .ok (.putfield 71, 3) := by decide +kernel
theorem dX10_init_131 : decode cX10_init 131 = .ok (.return_, 1) := by decide +kernel
theorem dX10_feed_0 : decode cX10_feed 0 = .ok (.aload_n 0, 1) := by decide +kernel
theorem dX10_feed_1 : decode cX10_feed 1 = .ok (.getfield 14, 3) := by decide +kernel
theorem dX10_feed_4 : decode cX10_feed 4 = .ok (.invokevirtual 75, 3) := by decide +kernel
theorem dX10_feed_7 : decode cX10_feed 7 = .ok (.bipush 20, 2) := by decide +kernel
theorem dX10_feed_9 : decode cX10_feed 9 = .ok (.iadd, 1) := by decide +kernel
theorem dX10_feed_10 : decode cX10_feed 10 = .ok (.sipush 400, 3) := by decide +kernel
theorem dX10_feed_13 : decode cX10_feed 13 = .ok (.if_icmp .le 5, 3) := by decide +kernel
theorem dX10_feed_16 : decode cX10_feed 16 = .ok (.iconst (-1), 1) := by decide +kernel
theorem dX10_feed_17 : decode cX10_feed 17 = .ok (.ireturn, 1) := by decide +kernel
theorem dX10_feed_18 : decode cX10_feed 18 = .ok (.aload_n 0, 1) := by decide +kernel
theorem dX10_feed_19 : decode cX10_feed 19 = .ok (.iload_n 1, 1) := by decide +kernel
theorem dX10_feed_20 : decode cX10_feed 20 = .ok (.invokevirtual 79, 3) := by decide +kernel
theorem dX10_feed_23 : decode cX10_feed 23 = .ok (.aload_n 0, 1) := by decide +kernel
theorem dX10_feed_24 : decode cX10_feed 24 = .ok (.iload_n 2, 1) := by decide +kernel
theorem dX10_feed_25 : decode cX10_feed 25 = .ok (.invokevirtual 79, 3) := by decide +kernel
theorem dX10_feed_28 : decode cX10_feed 28 = .ok (.aload_n 0, 1) := by decide +kernel
theorem dX10_feed_29 : decode cX10_feed 29 = .ok (.iload_n 3, 1) := by decide +kernel
theorem dX10_feed_30 : decode cX10_feed 30 = .ok (.invokevirtual 79, 3) := by decide +kernel
theorem dX10_feed_33 : decode cX10_feed 33 = .ok (.aload_n 0, 1) := by decide +kernel
theorem dX10_feed_34 : decode cX10_feed 34 = .ok (.iload 4, 2) := by decide +kernel
theorem dX10_feed_36 : decode cX10_feed 36 = .ok (.invokevirtual 79, 3) := by decide +kernel
theorem dX10_feed_39 : decode cX10_feed 39 = .ok (.aload_n 0, 1) := by decide +kernel
theorem dX10_feed_40 : decode cX10_feed 40 = .ok (.iload 5, 2) := by decide +kernel
theorem dX10_feed_42 : decode cX10_feed 42 = .ok (.invokevirtual 79, 3) := by decide +kernel
theorem dX10_feed_45 : decode cX10_feed 45 = .ok (.aload_n 0, 1) := by decide +kernel
theorem dX10_feed_46 : decode cX10_feed 46 = .ok (.getfield 14, 3) := by decide +kernel
theorem dX10_feed_49 : decode cX10_feed 49 = .ok (.invokevirtual 75, 3) := by decide +kernel
theorem dX10_feed_52 : decode cX10_feed 52 = .ok (.ireturn, 1) := by decide +kernel
theorem dX10_end_0 : decode cX10_end 0 = .ok (.iload_n 1, 1) := by decide +kernel
theorem dX10_end_1 : decode cX10_end 1 = .ok (.ifCond .lt 14, 3) := by decide +kernel
theorem dX10_end_4 : decode cX10_end 4 = .ok (.iload_n 1, 1) := by decide +kernel
theorem dX10_end_5 : decode cX10_end 5 = .ok (.aload_n 0, 1) := by decide +kernel
theorem dX10_end_6 : decode cX10_end 6 = .ok (.getfield 14, 3) := by decide +kernel
theorem dX10_end_9 : decode cX10_end 9 = .ok (.invokevirtual 75, 3) := by decide +kernel
theorem dX10_end_12 : decode cX10_end 12 = .ok (.if_icmp .le 5, 3) := by decide +kernel
theorem dX10_end_15 : decode cX10_end 15 = .ok (.iconst 0, 1) := by decide +kernel
theorem dX10_end_16 : decode cX10_end 16 = .ok (.ireturn, 1) := by decide +kernel
theorem dX10_end_17 : decode cX10_end 17 = .ok (.aload_n 0, 1) := by decide +kernel
theorem dX10_end_18 : decode cX10_end 18 = .ok (.getfield 14, 3) := by decide +kernel
theorem dX10_end_21 : decode cX10_end 21 = .ok (.iload_n 1, 1) := by decide +kernel
theorem dX10_end_22 : decode cX10_end 22 = .ok (.invokevirtual 82, 3) := by decide +kernel
theorem dX10_end_25 : decode cX10_end 25 = .ok (.iconst 1, 1) := by decide +kernel
theorem dX10_end_26 : decode cX10_end 26 = .ok (.ireturn, 1) := by decide +kernel
theorem dX10_act_0 : decode cX10_act 0 = .ok (.aload_n 0, 1) := by decide +kernel
theorem dX10_act_1 : decode cX10_act 1 = .ok (.getfield 21, 3) := by decide +kernel
theorem dX10_act_4 : decode cX10_act 4 = .ok (.getfield 85, 3) := by decide +kernel
theorem dX10_act_7 : decode cX10_act 7 = .ok (.astore_n 1, 1) := by decide +kernel
theorem dX10_act_8 : decode cX10_act 8 = .ok (.aload_n 1, 1) := by decide +kernel
theorem dX10_act_9 : decode cX10_act 9 = .ok (.getfield 89, 3) := by decide +kernel
theorem dX10_act_12 : decode cX10_act 12 = .ok (.aload_n 0, 1) := by decide +kernel
theorem dX10_act_13 : decode cX10_act 13 = .ok (.getfield 14, 3) := by decide +kernel
theorem dX10_act_16 : decode cX10_act 16 = .ok (.invokevirtual 95, 3) := by decide +kernel
theorem dX10_act_19 : decode cX10_act 19 = .ok (.aload_n 0, 1) := by decide +kernel
theorem dX10_act_20 : decode cX10_act 20 = .ok (.getfield 14, 3) := by decide +kernel
theorem dX10_act_23 : decode cX10_act 23 = .ok (.iconst 0, 1) := by decide +kernel
theorem dX10_act_24 : decode cX10_act 24 = .ok (.invokevirtual 82, 3) := by decide +kernel
theorem dX10_act_27 : decode cX10_act 27 = .ok (.aload_n 0, 1) := by decide +kernel
theorem dX10_act_28 : decode cX10_act 28 = .ok (.getfield 21, 3) := by decide +kernel
theorem dX10_act_31 : decode cX10_act 31 = .ok (.invokevirtual 101, 3) := by decide +kernel
theorem dX10_act_34 : decode cX10_act 34 = .ok (.ifCond .ne 16, 3) := by decide +kernel
theorem dX10_act_37 : decode cX10_act 37 = .ok (.aload_n 0, 1) := by decide +kernel
theorem dX10_act_38 : decode cX10_act 38 = .ok (.iconst 1, 1) := by decide +kernel
theorem dX10_act_39 : decode cX10_act 39 = .ok (.aload_n 0, 1) := by decide +kernel
theorem dX10_act_40 : decode cX10_act 40 = .ok (.getfield 21, 3) := by decide +kernel
theorem dX10_act_43 : decode cX10_act 43 = .ok (.invokevirtual 105, 3) := by decide +kernel
theorem dX10_act_46 : decode cX10_act 46 = .ok (.invokevirtual 108, 3) := by decide +kernel
theorem dX10_act_49 : decode cX10_act 49 = .ok (.ireturn, 1) := by decide +kernel
theorem dX10_act_50 : decode cX10_act 50 = .ok (.aload_n 0, 1) := by decide +kernel
theorem dX10_act_51 : decode cX10_act 51 = .ok (.getfield 28, 3) := by decide +kernel
theorem dX10_act_54 : decode cX10_act 54 = .ok (.aload_n 1, 1) := by decide +kernel
theorem dX10_act_55 : decode cX10_act 55 = .ok (.aload_n 0, 1) := by decide +kernel
theorem dX10_act_56 : decode cX10_act 56 = .ok (.getfield 41, 3) := by decide +kernel
theorem dX10_act_59 : decode cX10_act 59 = .ok (.aload_n 0, 1) := by decide +kernel
theorem dX10_act_60 : decode cX10_act 60 = .ok (.getfield 45, 3) := by decide +kernel
theorem dX10_act_63 : decode cX10_act 63 = .ok (.invokevirtual 112, 3) := by decide +kernel
theorem dX10_act_66 : decode cX10_act 66 = .ok (.aload_n 0, 1) := by decide +kernel
theorem dX10_act_67 : decode cX10_act 67 = .ok (.getfield 28, 3) := by decide +kernel
theorem dX10_act_70 : decode cX10_act 70 = .ok (.getfield 116, 3) := by decide +kernel
theorem dX10_act_73 : decode cX10_act 73 = .ok (.ifCond .eq 22, 3) := by decide +kernel
theorem dX10_act_76 : decode cX10_act 76 = .ok (.aload_n 0, 1) := by decide +kernel
theorem dX10_act_77 : decode cX10_act 77 = .ok (.aload_n 0, 1) := by decide +kernel
theorem dX10_act_78 : decode cX10_act 78 = .ok (.getfield 28, 3) := by decide +kernel
theorem dX10_act_81 : decode cX10_act 81 = .ok (.getfield 116, 3) := by decide +kernel
theorem dX10_act_84 : decode cX10_act 84 = .ok (.aload_n 0, 1) := by decide +kernel
theorem dX10_act_85 : decode cX10_act 85 = .ok (.getfield 28, 3) := by decide +kernel
theorem dX10_act_88 : decode cX10_act 88 = .ok (.getfield 119, 3) := by decide +kernel
theorem dX10_act_91 : decode cX10_act 91 = .ok (.invokevirtual 108, 3) := by decide +kernel
theorem dX10_act_94 : decode cX10_act 94 = .ok (.ireturn, 1) := by decide +kernel
theorem dX10_act_95 : decode cX10_act 95 = .ok (.aload_n 0, 1) := by decide +kernel
theorem dX10_act_96 : decode cX10_act 96 = .ok (.getfield 122, 3) := by decide +kernel
theorem dX10_act_99 : decode cX10_act 99 = .ok (.bipush 16, 2) := by decide +kernel
theorem dX10_act_101 : decode cX10_act 101 = .ok (.if_icmp .lt 10, 3) := by decide +kernel
theorem dX10_act_104 : decode cX10_act 104 = .ok (.aload_n 0, 1) := by decide +kernel
theorem dX10_act_105 : decode cX10_act 105 = .ok (.iconst 5, 1) := by decide +kernel
theorem dX10_act_106 : decode cX10_act 106 = .ok (.iconst 0, 1) := by decide +kernel
theorem dX10_act_107 : decode cX10_act 107 = .ok (.invokevirtual 108, 3) := by decide +kernel
theorem dX10_act_110 : decode cX10_act 110 = .ok (.ireturn, 1) := by decide +kernel
theorem dX10_act_111 : decode cX10_act 111 = .ok (.aload_n 0, 1) := by decide +kernel
theorem dX10_act_112 : decode cX10_act 112 = .ok (.iconst 0, 1) := by decide +kernel
theorem dX10_act_113 : decode cX10_act 113 = .ok (.putfield 125, 3) := by decide +kernel
theorem dX10_act_116 : decode cX10_act 116 = .ok (.aload_n 0, 1) := by decide +kernel
theorem dX10_act_117 : decode cX10_act 117 = .ok (.iconst (-1), 1) := by decide +kernel
theorem dX10_act_118 : decode cX10_act 118 = .ok (.putfield 71, 3) := by decide +kernel
theorem dX10_act_121 : decode cX10_act 121 = .ok (.aload_n 0, 1) := by decide +kernel
theorem dX10_act_122 : decode cX10_act 122 = .ok (.aload_n 1, 1) := by decide +kernel
theorem dX10_act_123 : decode cX10_act 123 = .ok (.invokevirtual 128, 3) := by decide +kernel
theorem dX10_act_126 : decode cX10_act 126 = .ok (.ireturn, 1) := by decide +kernel
theorem dX10_fault_0 : decode cX10_fault 0 = .ok (.iload_n 1, 1) := by decide +kernel
theorem dX10_fault_1 : decode cX10_fault 1 = .ok (.ifCond .ne 8, 3) := by decide +kernel
theorem dX10_fault_4 : decode cX10_fault 4 = .ok (.aload_n 0, 1) := by decide +kernel
theorem dX10_fault_5 : decode cX10_fault 5 = .ok (.getfield 125, 3) := by decide +kernel
theorem dX10_fault_8 : decode cX10_fault 8 = .ok (.ireturn, 1) := by decide +kernel
theorem dX10_fault_9 : decode cX10_fault 9 = .ok (.iload_n 1, 1) := by decide +kernel
theorem dX10_fault_10 : decode cX10_fault 10 = .ok (.iconst 1, 1) := by decide +kernel
theorem dX10_fault_11 : decode cX10_fault 11 = .ok (.if_icmp .ne 10, 3) := by decide +kernel
theorem dX10_fault_14 : decode cX10_fault 14 = .ok (.aload_n 0, 1) := by decide +kernel
theorem dX10_fault_15 : decode cX10_fault 15 = .ok (.getfield 71, 3) := by decide +kernel
theorem dX10_fault_18 : decode cX10_fault 18 = .ok (.goto 4, 3) := by decide +kernel
theorem dX10_fault_21 : decode cX10_fault 21 = .ok (.iconst (-1), 1) := by decide +kernel
theorem dX10_fault_22 : decode cX10_fault 22 = .ok (.ireturn, 1) := by decide +kernel
theorem dX10_named_0 : decode cX10_named 0 = .ok (.aload_n 0, 1) := by decide +kernel
theorem dX10_named_1 : decode cX10_named 1 = .ok (.getfield 21, 3) := by decide +kernel
theorem dX10_named_4 : decode cX10_named 4 = .ok (.getfield 85, 3) := by decide +kernel
theorem dX10_named_7 : decode cX10_named 7 = .ok (.getfield 89, 3) := by decide +kernel
theorem dX10_named_10 : decode cX10_named 10 = .ok (.astore_n 1, 1) := by decide +kernel
theorem dX10_named_11 : decode cX10_named 11 = .ok (.aload_n 1, 1) := by decide +kernel
theorem dX10_named_12 : decode cX10_named 12 = .ok (.aload_n 0, 1) := by decide +kernel
theorem dX10_named_13 : decode cX10_named 13 = .ok (.getfield 14, 3) := by decide +kernel
theorem dX10_named_16 : decode cX10_named 16 = .ok (.invokevirtual 95, 3) := by decide +kernel
theorem dX10_named_19 : decode cX10_named 19 = .ok (.aload_n 0, 1) := by decide +kernel
theorem dX10_named_20 : decode cX10_named 20 = .ok (.getfield 14, 3) := by decide +kernel
theorem dX10_named_23 : decode cX10_named 23 = .ok (.iconst 0, 1) := by decide +kernel
theorem dX10_named_24 : decode cX10_named 24 = .ok (.invokevirtual 82, 3) := by decide +kernel
theorem dX10_named_27 : decode cX10_named 27 = .ok (.aload_n 1, 1) := by decide +kernel
theorem dX10_named_28 : decode cX10_named 28 = .ok (.invokevirtual 132, 3) := by decide +kernel
theorem dX10_named_31 : decode cX10_named 31 = .ok (.ifCond .ne 5, 3) := by decide +kernel
theorem dX10_named_34 : decode cX10_named 34 = .ok (.iconst (-1), 1) := by decide +kernel
theorem dX10_named_35 : decode cX10_named 35 = .ok (.ireturn, 1) := by decide +kernel
theorem dX10_named_36 : decode cX10_named 36 = .ok (.aload_n 0, 1) := by decide +kernel
theorem dX10_named_37 : decode cX10_named 37 = .ok (.getfield 41, 3) := by decide +kernel
theorem dX10_named_40 : decode cX10_named 40 = .ok (.aload_n 1, 1) := by decide +kernel
theorem dX10_named_41 : decode cX10_named 41 = .ok (.iconst 0, 1) := by decide +kernel
theorem dX10_named_42 : decode cX10_named 42 = .ok (.invokevirtual 135, 3) := by decide +kernel
theorem dX10_named_45 : decode cX10_named 45 = .ok (.invokestatic 139, 3) := by decide +kernel
theorem dX10_named_48 : decode cX10_named 48 = .ok (.istore_n 2, 1) := by decide +kernel
theorem dX10_named_49 : decode cX10_named 49 = .ok (.iload_n 2, 1) := by decide +kernel
theorem dX10_named_50 : decode cX10_named 50 = .ok (.iconst (-1), 1) := by decide +kernel
theorem dX10_named_51 : decode cX10_named 51 = .ok (.if_icmp .ne 8, 3) := by decide +kernel
theorem dX10_named_54 : decode cX10_named 54 = .ok (.bipush (-2), 2) := by decide +kernel
theorem dX10_named_56 : decode cX10_named 56 = .ok (.goto 4, 3) := by decide +kernel
theorem dX10_named_59 : decode cX10_named 59 = .ok (.iload_n 2, 1) := by decide +kernel
theorem dX10_named_60 : decode cX10_named 60 = .ok (.ireturn, 1) := by decide +kernel
theorem dX10_table_0 : decode cX10_table 0 = .ok (.aload_n 0, 1) := by decide +kernel
theorem dX10_table_1 : decode cX10_table 1 = .ok (.iload_n 1, 1) := by decide +kernel
theorem dX10_table_2 : decode cX10_table 2 = .ok (.invokevirtual 143, 3) := by decide +kernel
theorem dX10_table_5 : decode cX10_table 5 = .ok (.astore_n 3, 1) := by decide +kernel
theorem dX10_table_6 : decode cX10_table 6 = .ok (.aload_n 3, 1) := by decide +kernel
theorem dX10_table_7 : decode cX10_table 7 = .ok (.ifnonnull 5, 3) := by decide +kernel
theorem dX10_table_10 : decode cX10_table 10 = .ok (.iconst (-1), 1) := by decide +kernel
theorem dX10_table_11 : decode cX10_table 11 = .ok (.ireturn, 1) := by decide +kernel
theorem dX10_table_12 : decode cX10_table 12 = .ok (.iload_n 2, 1) := by decide +kernel
theorem dX10_table_13 : decode cX10_table 13 = .ok (.tableswitch 105 0 9 #[55, 60, 65, 73, 73, 73, 84, 89, 94, 100], 55) := by decide +kernel
theorem dX10_table_68 : decode cX10_table 68 = .ok (.aload_n 3, 1) := by decide +kernel
theorem dX10_table_69 : decode cX10_table 69 = .ok (.getfield 147, 3) := by decide +kernel
theorem dX10_table_72 : decode cX10_table 72 = .ok (.ireturn, 1) := by decide +kernel
theorem dX10_table_73 : decode cX10_table 73 = .ok (.aload_n 3, 1) := by decide +kernel
theorem dX10_table_74 : decode cX10_table 74 = .ok (.invokevirtual 150, 3) := by decide +kernel
theorem dX10_table_77 : decode cX10_table 77 = .ok (.ireturn, 1) := by decide +kernel
theorem dX10_table_78 : decode cX10_table 78 = .ok (.aload_n 3, 1) := by decide +kernel
theorem dX10_table_79 : decode cX10_table 79 = .ok (.getfield 153, 3) := by decide +kernel
theorem dX10_table_82 : decode cX10_table 82 = .ok (.invokevirtual 75, 3) := by decide +kernel
theorem dX10_table_85 : decode cX10_table 85 = .ok (.ireturn, 1) := by decide +kernel
theorem dX10_table_86 : decode cX10_table 86 = .ok (.aload_n 3, 1) := by decide +kernel
theorem dX10_table_87 : decode cX10_table 87 = .ok (.getfield 153, 3) := by decide +kernel
theorem dX10_table_90 : decode cX10_table 90 = .ok (.iload_n 2, 1) := by decide +kernel
theorem dX10_table_91 : decode cX10_table 91 = .ok (.iconst 3, 1) := by decide +kernel
theorem dX10_table_92 : decode cX10_table 92 = .ok (.isub, 1) := by decide +kernel
theorem dX10_table_93 : decode cX10_table 93 = .ok (.invokevirtual 156, 3) := by decide +kernel
theorem dX10_table_96 : decode cX10_table 96 = .ok (.ireturn, 1) := by decide +kernel
theorem dX10_table_97 : decode cX10_table 97 = .ok (.aload_n 3, 1) := by decide +kernel
theorem dX10_table_98 : decode cX10_table 98 = .ok (.getfield 160, 3) := by decide +kernel
theorem dX10_table_101 : decode cX10_table 101 = .ok (.ireturn, 1) := by decide +kernel
theorem dX10_table_102 : decode cX10_table 102 = .ok (.aload_n 3, 1) := by decide +kernel
theorem dX10_table_103 : decode cX10_table 103 = .ok (.getfield 163, 3) := by decide +kernel
theorem dX10_table_106 : decode cX10_table 106 = .ok (.ireturn, 1) := by decide +kernel
theorem dX10_table_107 : decode cX10_table 107 = .ok (.aload_n 0, 1) := by decide +kernel
theorem dX10_table_108 : decode cX10_table 108 = .ok (.iload_n 1, 1) := by decide +kernel
theorem dX10_table_109 : decode cX10_table 109 = .ok (.invokevirtual 166, 3) := by decide +kernel
theorem dX10_table_112 : decode cX10_table 112 = .ok (.ireturn, 1) := by decide +kernel
theorem dX10_table_113 : decode cX10_table 113 = .ok (.aload_n 3, 1) := by decide +kernel
theorem dX10_table_114 : decode cX10_table 114 = .ok (.getfield 169, 3) := by decide +kernel
theorem dX10_table_117 : decode cX10_table 117 = .ok (.ireturn, 1) := by decide +kernel
theorem dX10_table_118 : decode cX10_table 118 = .ok (.iconst (-1), 1) := by decide +kernel
theorem dX10_table_119 : decode cX10_table 119 = .ok (.ireturn, 1) := by decide +kernel
theorem dX10_type_0 : decode cX10_type 0 = .ok (.aload_n 0, 1) := by decide +kernel
theorem dX10_type_1 : decode cX10_type 1 = .ok (.iload_n 1, 1) := by decide +kernel
theorem dX10_type_2 : decode cX10_type 2 = .ok (.iload_n 2, 1) := by decide +kernel
theorem dX10_type_3 : decode cX10_type 3 = .ok (.invokevirtual 172, 3) := by decide +kernel
theorem dX10_type_6 : decode cX10_type 6 = .ok (.ifCond .eq 17, 3) := by decide +kernel
theorem dX10_type_9 : decode cX10_type 9 = .ok (.aload_n 0, 1) := by decide +kernel
theorem dX10_type_10 : decode cX10_type 10 = .ok (.getfield 45, 3) := by decide +kernel
theorem dX10_type_13 : decode cX10_type 13 = .ok (.iload_n 1, 1) := by decide +kernel
theorem dX10_type_14 : decode cX10_type 14 = .ok (.bipush 8, 2) := by decide +kernel
theorem dX10_type_16 : decode cX10_type 16 = .ok (.imul, 1) := by decide +kernel
theorem dX10_type_17 : decode cX10_type 17 = .ok (.iload_n 2, 1) := by decide +kernel
theorem dX10_type_18 : decode cX10_type 18 = .ok (.iadd, 1) := by decide +kernel
theorem dX10_type_19 : decode cX10_type 19 = .ok (.iaload, 1) := by decide +kernel
theorem dX10_type_20 : decode cX10_type 20 = .ok (.goto 4, 3) := by decide +kernel
theorem dX10_type_23 : decode cX10_type 23 = .ok (.iconst (-1), 1) := by decide +kernel
theorem dX10_type_24 : decode cX10_type 24 = .ok (.ireturn, 1) := by decide +kernel
theorem dX10_from_0 : decode cX10_from 0 = .ok (.aload_n 0, 1) := by decide +kernel
theorem dX10_from_1 : decode cX10_from 1 = .ok (.iload_n 1, 1) := by decide +kernel
theorem dX10_from_2 : decode cX10_from 2 = .ok (.invokevirtual 143, 3) := by decide +kernel
theorem dX10_from_5 : decode cX10_from 5 = .ok (.astore 4, 2) := by decide +kernel
theorem dX10_from_7 : decode cX10_from 7 = .ok (.aload 4, 2) := by decide +kernel
theorem dX10_from_9 : decode cX10_from 9 = .ok (.ifnull 21, 3) := by decide +kernel
theorem dX10_from_12 : decode cX10_from 12 = .ok (.aload_n 0, 1) := by decide +kernel
theorem dX10_from_13 : decode cX10_from 13 = .ok (.iload_n 1, 1) := by decide +kernel
theorem dX10_from_14 : decode cX10_from 14 = .ok (.iload_n 2, 1) := by decide +kernel
theorem dX10_from_15 : decode cX10_from 15 = .ok (.invokevirtual 172, 3) := by decide +kernel
theorem dX10_from_18 : decode cX10_from 18 = .ok (.ifCond .eq 12, 3) := by decide +kernel
theorem dX10_from_21 : decode cX10_from 21 = .ok (.iload_n 3, 1) := by decide +kernel
theorem dX10_from_22 : decode cX10_from 22 = .ok (.ifCond .lt 8, 3) := by decide +kernel
theorem dX10_from_25 : decode cX10_from 25 = .ok (.iload_n 3, 1) := by decide +kernel
theorem dX10_from_26 : decode cX10_from 26 = .ok (.iconst 2, 1) := by decide +kernel
theorem dX10_from_27 : decode cX10_from 27 = .ok (.if_icmp .le 5, 3) := by decide +kernel
theorem dX10_from_30 : decode cX10_from 30 = .ok (.iconst (-1), 1) := by decide +kernel
theorem dX10_from_31 : decode cX10_from 31 = .ok (.ireturn, 1) := by decide +kernel
theorem dX10_from_32 : decode cX10_from 32 = .ok (.aload_n 0, 1) := by decide +kernel
theorem dX10_from_33 : decode cX10_from 33 = .ok (.getfield 61, 3) := by decide +kernel
theorem dX10_from_36 : decode cX10_from 36 = .ok (.invokevirtual 176, 3) := by decide +kernel
theorem dX10_from_39 : decode cX10_from 39 = .ok (.aload 4, 2) := by decide +kernel
theorem dX10_from_41 : decode cX10_from 41 = .ok (.getfield 179, 3) := by decide +kernel
theorem dX10_from_44 : decode cX10_from 44 = .ok (.iload_n 2, 1) := by decide +kernel
theorem dX10_from_45 : decode cX10_from 45 = .ok (.aload_n 0, 1) := by decide +kernel
theorem dX10_from_46 : decode cX10_from 46 = .ok (.getfield 61, 3) := by decide +kernel
theorem dX10_from_49 : decode cX10_from 49 = .ok (.invokevirtual 183, 3) := by decide +kernel
theorem dX10_from_52 : decode cX10_from 52 = .ok (.iload_n 3, 1) := by decide +kernel
theorem dX10_from_53 : decode cX10_from 53 = .ok (.ifCond .eq 8, 3) := by decide +kernel
theorem dX10_from_56 : decode cX10_from 56 = .ok (.aload_n 0, 1) := by decide +kernel
theorem dX10_from_57 : decode cX10_from 57 = .ok (.iload_n 1, 1) := by decide +kernel
theorem dX10_from_58 : decode cX10_from 58 = .ok (.invokevirtual 189, 3) := by decide +kernel
theorem dX10_from_61 : decode cX10_from 61 = .ok (.aload_n 0, 1) := by decide +kernel
theorem dX10_from_62 : decode cX10_from 62 = .ok (.iload_n 3, 1) := by decide +kernel
theorem dX10_from_63 : decode cX10_from 63 = .ok (.iconst 2, 1) := by decide +kernel
theorem dX10_from_64 : decode cX10_from 64 = .ok (.if_icmp .ne 7, 3) := by decide +kernel
theorem dX10_from_67 : decode cX10_from 67 = .ok (.iconst 1, 1) := by decide +kernel
theorem dX10_from_68 : decode cX10_from 68 = .ok (.goto 4, 3) := by decide +kernel
theorem dX10_from_71 : decode cX10_from 71 = .ok (.iconst 0, 1) := by decide +kernel
theorem dX10_from_72 : decode cX10_from 72 = .ok (.invokevirtual 192, 3) := by decide +kernel
theorem dX10_from_75 : decode cX10_from 75 = .ok (.ireturn, 1) := by decide +kernel
theorem dX10_touch_0 : decode cX10_touch 0 = .ok (.aload_n 0, 1) := by decide +kernel
theorem dX10_touch_1 : decode cX10_touch 1 = .ok (.iload_n 1, 1) := by decide +kernel
theorem dX10_touch_2 : decode cX10_touch 2 = .ok (.iload_n 2, 1) := by decide +kernel
theorem dX10_touch_3 : decode cX10_touch 3 = .ok (.invokevirtual 172, 3) := by decide +kernel
theorem dX10_touch_6 : decode cX10_touch 6 = .ok (.ifCond .ne 5, 3) := by decide +kernel
theorem dX10_touch_9 : decode cX10_touch 9 = .ok (.iconst (-1), 1) := by decide +kernel
theorem dX10_touch_10 : decode cX10_touch 10 = .ok (.ireturn, 1) := by decide +kernel
theorem dX10_touch_11 : decode cX10_touch 11 = .ok (.aload_n 0, 1) := by decide +kernel
theorem dX10_touch_12 : decode cX10_touch 12 = .ok (.iload_n 1, 1) := by decide +kernel
theorem dX10_touch_13 : decode cX10_touch 13 = .ok (.iload_n 2, 1) := by decide +kernel
theorem dX10_touch_14 : decode cX10_touch 14 = .ok (.invokevirtual 196, 3) := by decide +kernel
theorem dX10_touch_17 : decode cX10_touch 17 = .ok (.aload_n 0, 1) := by decide +kernel
theorem dX10_touch_18 : decode cX10_touch 18 = .ok (.getfield 61, 3) := by decide +kernel
theorem dX10_touch_21 : decode cX10_touch 21 = .ok (.iload_n 1, 1) := by decide +kernel
theorem dX10_touch_22 : decode cX10_touch 22 = .ok (.bipush 8, 2) := by decide +kernel
theorem dX10_touch_24 : decode cX10_touch 24 = .ok (.imul, 1) := by decide +kernel
theorem dX10_touch_25 : decode cX10_touch 25 = .ok (.iload_n 2, 1) := by decide +kernel
theorem dX10_touch_26 : decode cX10_touch 26 = .ok (.iadd, 1) := by decide +kernel
theorem dX10_touch_27 : decode cX10_touch 27 = .ok (.invokevirtual 200, 3) := by decide +kernel
theorem dX10_touch_30 : decode cX10_touch 30 = .ok (.aload_n 0, 1) := by decide +kernel
theorem dX10_touch_31 : decode cX10_touch 31 = .ok (.iconst 0, 1) := by decide +kernel
theorem dX10_touch_32 : decode cX10_touch 32 = .ok (.invokevirtual 192, 3) := by decide +kernel
theorem dX10_touch_35 : decode cX10_touch 35 = .ok (.ireturn, 1) := by decide +kernel
theorem dX10_asked_0 : decode cX10_asked 0 = .ok (.aload_n 0, 1) := by decide +kernel
theorem dX10_asked_1 : decode cX10_asked 1 = .ok (.iload_n 1, 1) := by decide +kernel
theorem dX10_asked_2 : decode cX10_asked 2 = .ok (.iload_n 2, 1) := by decide +kernel
theorem dX10_asked_3 : decode cX10_asked 3 = .ok (.invokevirtual 172, 3) := by decide +kernel
theorem dX10_asked_6 : decode cX10_asked 6 = .ok (.ifCond .ne 5, 3) := by decide +kernel
theorem dX10_asked_9 : decode cX10_asked 9 = .ok (.iconst (-1), 1) := by decide +kernel
theorem dX10_asked_10 : decode cX10_asked 10 = .ok (.ireturn, 1) := by decide +kernel
theorem dX10_asked_11 : decode cX10_asked 11 = .ok (.aload_n 0, 1) := by decide +kernel
theorem dX10_asked_12 : decode cX10_asked 12 = .ok (.iload_n 1, 1) := by decide +kernel
theorem dX10_asked_13 : decode cX10_asked 13 = .ok (.iload_n 2, 1) := by decide +kernel
theorem dX10_asked_14 : decode cX10_asked 14 = .ok (.invokevirtual 196, 3) := by decide +kernel
theorem dX10_asked_17 : decode cX10_asked 17 = .ok (.aload_n 0, 1) := by decide +kernel
theorem dX10_asked_18 : decode cX10_asked 18 = .ok (.getfield 65, 3) := by decide +kernel
theorem dX10_asked_21 : decode cX10_asked 21 = .ok (.iconst 0, 1) := by decide +kernel
theorem dX10_asked_22 : decode cX10_asked 22 = .ok (.invokevirtual 82, 3) := by decide +kernel
theorem dX10_asked_25 : decode cX10_asked 25 = .ok (.iconst 0, 1) := by decide +kernel
theorem dX10_asked_26 : decode cX10_asked 26 = .ok (.istore_n 3, 1) := by decide +kernel
theorem dX10_asked_27 : decode cX10_asked 27 = .ok (.iload_n 3, 1) := by decide +kernel
theorem dX10_asked_28 : decode cX10_asked 28 = .ok (.bipush 40, 2) := by decide +kernel
theorem dX10_asked_30 : decode cX10_asked 30 = .ok (.if_icmp .ge 51, 3) := by decide +kernel
theorem dX10_asked_33 : decode cX10_asked 33 = .ok (.aload_n 0, 1) := by decide +kernel
theorem dX10_asked_34 : decode cX10_asked 34 = .ok (.getfield 54, 3) := by decide +kernel
theorem dX10_asked_37 : decode cX10_asked 37 = .ok (.iload_n 3, 1) := by decide +kernel
theorem dX10_asked_38 : decode cX10_asked 38 = .ok (.aaload, 1) := by decide +kernel
theorem dX10_asked_39 : decode cX10_asked 39 = .ok (.astore 4, 2) := by decide +kernel
theorem dX10_asked_41 : decode cX10_asked 41 = .ok (.aload 4, 2) := by decide +kernel
theorem dX10_asked_43 : decode cX10_asked 43 = .ok (.ifnull 32, 3) := by decide +kernel
theorem dX10_asked_46 : decode cX10_asked 46 = .ok (.aload_n 0, 1) := by decide +kernel
theorem dX10_asked_47 : decode cX10_asked 47 = .ok (.getfield 61, 3) := by decide +kernel
theorem dX10_asked_50 : decode cX10_asked 50 = .ok (.aload 4, 2) := by decide +kernel
theorem dX10_asked_52 : decode cX10_asked 52 = .ok (.getfield 203, 3) := by decide +kernel
theorem dX10_asked_55 : decode cX10_asked 55 = .ok (.invokevirtual 206, 3) := by decide +kernel
theorem dX10_asked_58 : decode cX10_asked 58 = .ok (.aload 4, 2) := by decide +kernel
theorem dX10_asked_60 : decode cX10_asked 60 = .ok (.getfield 209, 3) := by decide +kernel
theorem dX10_asked_63 : decode cX10_asked 63 = .ok (.iand, 1) := by decide +kernel
theorem dX10_asked_64 : decode cX10_asked 64 = .ok (.ifCond .eq 11, 3) := by decide +kernel
theorem dX10_asked_67 : decode cX10_asked 67 = .ok (.aload_n 0, 1) := by decide +kernel
theorem dX10_asked_68 : decode cX10_asked 68 = .ok (.getfield 65, 3) := by decide +kernel
theorem dX10_asked_71 : decode cX10_asked 71 = .ok (.iload_n 3, 1) := by decide +kernel
theorem dX10_asked_72 : decode cX10_asked 72 = .ok (.invokevirtual 212, 3) := by decide +kernel
theorem dX10_asked_75 : decode cX10_asked 75 = .ok (.iinc 3 1, 3) := by decide +kernel
theorem dX10_asked_78 : decode cX10_asked 78 = .ok (.goto (-51), 3) := by decide +kernel
theorem dX10_asked_81 : decode cX10_asked 81 = .ok (.aload_n 0, 1) := by decide +kernel
theorem dX10_asked_82 : decode cX10_asked 82 = .ok (.getfield 65, 3) := by decide +kernel
theorem dX10_asked_85 : decode cX10_asked 85 = .ok (.invokevirtual 75, 3) := by decide +kernel
theorem dX10_asked_88 : decode cX10_asked 88 = .ok (.ireturn, 1) := by decide +kernel
theorem dX10_found_0 : decode cX10_found 0 = .ok (.aload_n 0, 1) := by decide +kernel
theorem dX10_found_1 : decode cX10_found 1 = .ok (.getfield 65, 3) := by decide +kernel
theorem dX10_found_4 : decode cX10_found 4 = .ok (.iload_n 1, 1) := by decide +kernel
theorem dX10_found_5 : decode cX10_found 5 = .ok (.invokevirtual 156, 3) := by decide +kernel
theorem dX10_found_8 : decode cX10_found 8 = .ok (.ireturn, 1) := by decide +kernel
theorem dX10_retype_0 : decode cX10_retype 0 = .ok (.aload_n 0, 1) := by decide +kernel
theorem dX10_retype_1 : decode cX10_retype 1 = .ok (.iload_n 1, 1) := by decide +kernel
theorem dX10_retype_2 : decode cX10_retype 2 = .ok (.invokevirtual 143, 3) := by decide +kernel
theorem dX10_retype_5 : decode cX10_retype 5 = .ok (.astore 4, 2) := by decide +kernel
theorem dX10_retype_7 : decode cX10_retype 7 = .ok (.aload 4, 2) := by decide +kernel
theorem dX10_retype_9 : decode cX10_retype 9 = .ok (.ifnull 27, 3) := by decide +kernel
theorem dX10_retype_12 : decode cX10_retype 12 = .ok (.aload 4, 2) := by decide +kernel
theorem dX10_retype_14 : decode cX10_retype 14 = .ok (.getfield 147, 3) := by decide +kernel
theorem dX10_retype_17 : decode cX10_retype 17 = .ok (.ifCond .ne 19, 3) := by decide +kernel
theorem dX10_retype_20 : decode cX10_retype 20 = .ok (.aload_n 0, 1) := by decide +kernel
theorem dX10_retype_21 : decode cX10_retype 21 = .ok (.iload_n 1, 1) := by decide +kernel
theorem dX10_retype_22 : decode cX10_retype 22 = .ok (.iload_n 2, 1) := by decide +kernel
theorem dX10_retype_23 : decode cX10_retype 23 = .ok (.invokevirtual 172, 3) := by decide +kernel
theorem dX10_retype_26 : decode cX10_retype 26 = .ok (.ifCond .eq 10, 3) := by decide +kernel
theorem dX10_retype_29 : decode cX10_retype 29 = .ok (.iload_n 3, 1) := by decide +kernel
theorem dX10_retype_30 : decode cX10_retype 30 = .ok (.invokestatic 215, 3) := by decide +kernel
theorem dX10_retype_33 : decode cX10_retype 33 = .ok (.ifCond .ne 5, 3) := by decide +kernel
theorem dX10_retype_36 : decode cX10_retype 36 = .ok (.iconst (-1), 1) := by decide +kernel
theorem dX10_retype_37 : decode cX10_retype 37 = .ok (.ireturn, 1) := by decide +kernel
theorem dX10_retype_38 : decode cX10_retype 38 = .ok (.iload_n 1, 1) := by decide +kernel
theorem dX10_retype_39 : decode cX10_retype 39 = .ok (.bipush 8, 2) := by decide +kernel
theorem dX10_retype_41 : decode cX10_retype 41 = .ok (.imul, 1) := by decide +kernel
theorem dX10_retype_42 : decode cX10_retype 42 = .ok (.iload_n 2, 1) := by decide +kernel
theorem dX10_retype_43 : decode cX10_retype 43 = .ok (.iadd, 1) := by decide +kernel
theorem dX10_retype_44 : decode cX10_retype 44 = .ok (.istore 5, 2) := by decide +kernel
theorem dX10_retype_46 : decode cX10_retype 46 = .ok (.aload_n 0, 1) := by decide +kernel
theorem dX10_retype_47 : decode cX10_retype 47 = .ok (.getfield 45, 3) := by decide +kernel
theorem dX10_retype_50 : decode cX10_retype 50 = .ok (.iconst 0, 1) := by decide +kernel
theorem dX10_retype_51 : decode cX10_retype 51 = .ok (.aload_n 0, 1) := by decide +kernel
theorem dX10_retype_52 : decode cX10_retype 52 = .ok (.getfield 49, 3) := by decide +kernel
theorem dX10_retype_55 : decode cX10_retype 55 = .ok (.iconst 0, 1) := by decide +kernel
theorem dX10_retype_56 : decode cX10_retype 56 = .ok (.sipush 128, 3) := by decide +kernel
theorem dX10_retype_59 : decode cX10_retype 59 = .ok (.invokestatic 219, 3) := by decide +kernel
theorem dX10_retype_62 : decode cX10_retype 62 = .ok (.aload_n 0, 1) := by decide +kernel
theorem dX10_retype_63 : decode cX10_retype 63 = .ok (.getfield 49, 3) := by decide +kernel
theorem dX10_retype_66 : decode cX10_retype 66 = .ok (.iload 5, 2) := by decide +kernel
theorem dX10_retype_68 : decode cX10_retype 68 = .ok (.iload_n 3, 1) := by decide +kernel
theorem dX10_retype_69 : decode cX10_retype 69 = .ok (.iastore, 1) := by decide +kernel
theorem dX10_retype_70 : decode cX10_retype 70 = .ok (.aload_n 0, 1) := by decide +kernel
theorem dX10_retype_71 : decode cX10_retype 71 = .ok (.getfield 68, 3) := by decide +kernel
theorem dX10_retype_74 : decode cX10_retype 74 = .ok (.iconst 0, 1) := by decide +kernel
theorem dX10_retype_75 : decode cX10_retype 75 = .ok (.invokevirtual 82, 3) := by decide +kernel
theorem dX10_retype_78 : decode cX10_retype 78 = .ok (.iload_n 1, 1) := by decide +kernel
theorem dX10_retype_79 : decode cX10_retype 79 = .ok (.iconst 1, 1) := by decide +kernel
theorem dX10_retype_80 : decode cX10_retype 80 = .ok (.iadd, 1) := by decide +kernel
theorem dX10_retype_81 : decode cX10_retype 81 = .ok (.istore 6, 2) := by decide +kernel
theorem dX10_retype_83 : decode cX10_retype 83 = .ok (.iload 6, 2) := by decide +kernel
theorem dX10_retype_85 : decode cX10_retype 85 = .ok (.bipush 16, 2) := by decide +kernel
theorem dX10_retype_87 : decode cX10_retype 87 = .ok (.if_icmp .ge 15, 3) := by decide +kernel
theorem dX10_retype_90 : decode cX10_retype 90 = .ok (.aload_n 0, 1) := by decide +kernel
theorem dX10_retype_91 : decode cX10_retype 91 = .ok (.iload 6, 2) := by decide +kernel
theorem dX10_retype_93 : decode cX10_retype 93 = .ok (.invokevirtual 225, 3) := by decide +kernel
theorem dX10_retype_96 : decode cX10_retype 96 = .ok (.iinc 6 1, 3) := by decide +kernel
theorem dX10_retype_99 : decode cX10_retype 99 = .ok (.goto (-16), 3) := by decide +kernel
theorem dX10_retype_102 : decode cX10_retype 102 = .ok (.aload_n 0, 1) := by decide +kernel
theorem dX10_retype_103 : decode cX10_retype 103 = .ok (.getfield 68, 3) := by decide +kernel
theorem dX10_retype_106 : decode cX10_retype 106 = .ok (.invokevirtual 75, 3) := by decide +kernel
theorem dX10_retype_109 : decode cX10_retype 109 = .ok (.ifCond .le 25, 3) := by decide +kernel
theorem dX10_retype_112 : decode cX10_retype 112 = .ok (.aload_n 0, 1) := by decide +kernel
theorem dX10_retype_113 : decode cX10_retype 113 = .ok (.getfield 65, 3) := by decide +kernel
theorem dX10_retype_116 : decode cX10_retype 116 = .ok (.iconst 0, 1) := by decide +kernel
theorem dX10_retype_117 : decode cX10_retype 117 = .ok (.invokevirtual 82, 3) := by decide +kernel
theorem dX10_retype_120 : decode cX10_retype 120 = .ok (.aload_n 0, 1) := by decide +kernel
theorem dX10_retype_121 : decode cX10_retype 121 = .ok (.getfield 65, 3) := by decide +kernel
theorem dX10_retype_124 : decode cX10_retype 124 = .ok (.aload_n 0, 1) := by decide +kernel
theorem dX10_retype_125 : decode cX10_retype 125 = .ok (.getfield 68, 3) := by decide +kernel
theorem dX10_retype_128 : decode cX10_retype 128 = .ok (.invokevirtual 228, 3) := by decide +kernel
theorem dX10_retype_131 : decode cX10_retype 131 = .ok (.bipush (-2), 2) := by decide +kernel
theorem dX10_retype_133 : decode cX10_retype 133 = .ok (.ireturn, 1) := by decide +kernel
theorem dX10_retype_134 : decode cX10_retype 134 = .ok (.aload_n 0, 1) := by decide +kernel
theorem dX10_retype_135 : decode cX10_retype 135 = .ok (.iload 5, 2) := by decide +kernel
theorem dX10_retype_137 : decode cX10_retype 137 = .ok (.invokevirtual 231, 3) := by decide +kernel
theorem dX10_retype_140 : decode cX10_retype 140 = .ok (.istore 6, 2) := by decide +kernel
theorem dX10_retype_142 : decode cX10_retype 142 = .ok (.aload_n 0, 1) := by decide +kernel
theorem dX10_retype_143 : decode cX10_retype 143 = .ok (.getfield 49, 3) := by decide +kernel
theorem dX10_retype_146 : decode cX10_retype 146 = .ok (.iconst 0, 1) := by decide +kernel
theorem dX10_retype_147 : decode cX10_retype 147 = .ok (.aload_n 0, 1) := by decide +kernel
theorem dX10_retype_148 : decode cX10_retype 148 = .ok (.getfield 45, 3) := by decide +kernel
theorem dX10_retype_151 : decode cX10_retype 151 = .ok (.iconst 0, 1) := by decide +kernel
theorem dX10_retype_152 : decode cX10_retype 152 = .ok (.sipush 128, 3) := by decide +kernel
theorem dX10_retype_155 : decode cX10_retype 155 = .ok (.invokestatic 219, 3) := by decide +kernel
theorem dX10_retype_158 : decode cX10_retype 158 = .ok (.iload 6, 2) := by decide +kernel
theorem dX10_retype_160 : decode cX10_retype 160 = .ok (.ireturn, 1) := by decide +kernel
theorem dX10_drop_0 : decode cX10_drop 0 = .ok (.aload_n 0, 1) := by decide +kernel
theorem dX10_drop_1 : decode cX10_drop 1 = .ok (.iload_n 1, 1) := by decide +kernel
theorem dX10_drop_2 : decode cX10_drop 2 = .ok (.invokevirtual 143, 3) := by decide +kernel
theorem dX10_drop_5 : decode cX10_drop 5 = .ok (.ifnonnull 5, 3) := by decide +kernel
theorem dX10_drop_8 : decode cX10_drop 8 = .ok (.iconst (-1), 1) := by decide +kernel
theorem dX10_drop_9 : decode cX10_drop 9 = .ok (.ireturn, 1) := by decide +kernel
theorem dX10_drop_10 : decode cX10_drop 10 = .ok (.iconst 0, 1) := by decide +kernel
theorem dX10_drop_11 : decode cX10_drop 11 = .ok (.istore_n 2, 1) := by decide +kernel
theorem dX10_drop_12 : decode cX10_drop 12 = .ok (.iload_n 2, 1) := by decide +kernel
theorem dX10_drop_13 : decode cX10_drop 13 = .ok (.bipush 16, 2) := by decide +kernel
theorem dX10_drop_15 : decode cX10_drop 15 = .ok (.if_icmp .ge 34, 3) := by decide +kernel
theorem dX10_drop_18 : decode cX10_drop 18 = .ok (.aload_n 0, 1) := by decide +kernel
theorem dX10_drop_19 : decode cX10_drop 19 = .ok (.getfield 41, 3) := by decide +kernel
theorem dX10_drop_22 : decode cX10_drop 22 = .ok (.iload_n 2, 1) := by decide +kernel
theorem dX10_drop_23 : decode cX10_drop 23 = .ok (.aaload, 1) := by decide +kernel
theorem dX10_drop_24 : decode cX10_drop 24 = .ok (.astore_n 3, 1) := by decide +kernel
theorem dX10_drop_25 : decode cX10_drop 25 = .ok (.aload_n 3, 1) := by decide +kernel
theorem dX10_drop_26 : decode cX10_drop 26 = .ok (.ifnull 17, 3) := by decide +kernel
theorem dX10_drop_29 : decode cX10_drop 29 = .ok (.aload_n 3, 1) := by decide +kernel
theorem dX10_drop_30 : decode cX10_drop 30 = .ok (.getfield 153, 3) := by decide +kernel
theorem dX10_drop_33 : decode cX10_drop 33 = .ok (.iload_n 1, 1) := by decide +kernel
theorem dX10_drop_34 : decode cX10_drop 34 = .ok (.invokevirtual 234, 3) := by decide +kernel
theorem dX10_drop_37 : decode cX10_drop 37 = .ok (.ifCond .eq 6, 3) := by decide +kernel
theorem dX10_drop_40 : decode cX10_drop 40 = .ok (.bipush (-2), 2) := by decide +kernel
theorem dX10_drop_42 : decode cX10_drop 42 = .ok (.ireturn, 1) := by decide +kernel
theorem dX10_drop_43 : decode cX10_drop 43 = .ok (.iinc 2 1, 3) := by decide +kernel
theorem dX10_drop_46 : decode cX10_drop 46 = .ok (.goto (-34), 3) := by decide +kernel
theorem dX10_drop_49 : decode cX10_drop 49 = .ok (.aload_n 0, 1) := by decide +kernel
theorem dX10_drop_50 : decode cX10_drop 50 = .ok (.getfield 41, 3) := by decide +kernel
theorem dX10_drop_53 : decode cX10_drop 53 = .ok (.iload_n 1, 1) := by decide +kernel
theorem dX10_drop_54 : decode cX10_drop 54 = .ok (.aconst_null, 1) := by decide +kernel
theorem dX10_drop_55 : decode cX10_drop 55 = .ok (.aastore, 1) := by decide +kernel
theorem dX10_drop_56 : decode cX10_drop 56 = .ok (.aload_n 0, 1) := by decide +kernel
theorem dX10_drop_57 : decode cX10_drop 57 = .ok (.iload_n 1, 1) := by decide +kernel
theorem dX10_drop_58 : decode cX10_drop 58 = .ok (.invokevirtual 237, 3) := by decide +kernel
theorem dX10_drop_61 : decode cX10_drop 61 = .ok (.ireturn, 1) := by decide +kernel
theorem dX10_freeze_0 : decode cX10_freeze 0 = .ok (.aload_n 0, 1) := by decide +kernel
theorem dX10_freeze_1 : decode cX10_freeze 1 = .ok (.iload_n 1, 1) := by decide +kernel
theorem dX10_freeze_2 : decode cX10_freeze 2 = .ok (.invokevirtual 143, 3) := by decide +kernel
theorem dX10_freeze_5 : decode cX10_freeze 5 = .ok (.astore_n 2, 1) := by decide +kernel
theorem dX10_freeze_6 : decode cX10_freeze 6 = .ok (.aload_n 2, 1) := by decide +kernel
theorem dX10_freeze_7 : decode cX10_freeze 7 = .ok (.ifnull 11, 3) := by decide +kernel
theorem dX10_freeze_10 : decode cX10_freeze 10 = .ok (.aload_n 2, 1) := by decide +kernel
theorem dX10_freeze_11 : decode cX10_freeze 11 = .ok (.getfield 147, 3) := by decide +kernel
theorem dX10_freeze_14 : decode cX10_freeze 14 = .ok (.iconst 2, 1) := by decide +kernel
theorem dX10_freeze_15 : decode cX10_freeze 15 = .ok (.if_icmp .eq 5, 3) := by decide +kernel
theorem dX10_freeze_18 : decode cX10_freeze 18 = .ok (.iconst 0, 1) := by decide +kernel
theorem dX10_freeze_19 : decode cX10_freeze 19 = .ok (.ireturn, 1) := by decide +kernel
theorem dX10_freeze_20 : decode cX10_freeze 20 = .ok (.aload_n 2, 1) := by decide +kernel
theorem dX10_freeze_21 : decode cX10_freeze 21 = .ok (.iconst 3, 1) := by decide +kernel
theorem dX10_freeze_22 : decode cX10_freeze 22 = .ok (.putfield 147, 3) := by decide +kernel
theorem dX10_freeze_25 : decode cX10_freeze 25 = .ok (.aload_n 2, 1) := by decide +kernel
theorem dX10_freeze_26 : decode cX10_freeze 26 = .ok (.getfield 153, 3) := by decide +kernel
theorem dX10_freeze_29 : decode cX10_freeze 29 = .ok (.iconst 0, 1) := by decide +kernel
theorem dX10_freeze_30 : decode cX10_freeze 30 = .ok (.invokevirtual 82, 3) := by decide +kernel
theorem dX10_freeze_33 : decode cX10_freeze 33 = .ok (.aload_n 2, 1) := by decide +kernel
theorem dX10_freeze_34 : decode cX10_freeze 34 = .ok (.getfield 179, 3) := by decide +kernel
theorem dX10_freeze_37 : decode cX10_freeze 37 = .ok (.invokevirtual 240, 3) := by decide +kernel
theorem dX10_freeze_40 : decode cX10_freeze 40 = .ok (.iconst 1, 1) := by decide +kernel
theorem dX10_freeze_41 : decode cX10_freeze 41 = .ok (.ireturn, 1) := by decide +kernel
theorem dX10_today_0 : decode cX10_today 0 = .ok (.iload_n 1, 1) := by decide +kernel
theorem dX10_today_1 : decode cX10_today 1 = .ok (.aload_n 0, 1) := by decide +kernel
theorem dX10_today_2 : decode cX10_today 2 = .ok (.getfield 241, 3) := by decide +kernel
theorem dX10_today_5 : decode cX10_today 5 = .ok (.if_icmp .lt 10, 3) := by decide +kernel
theorem dX10_today_8 : decode cX10_today 8 = .ok (.iload_n 1, 1) := by decide +kernel
theorem dX10_today_9 : decode cX10_today 9 = .ok (.sipush 30000, 3) := by decide +kernel
theorem dX10_today_12 : decode cX10_today 12 = .ok (.if_icmp .le 5, 3) := by decide +kernel
theorem dX10_today_15 : decode cX10_today 15 = .ok (.iconst 0, 1) := by decide +kernel
theorem dX10_today_16 : decode cX10_today 16 = .ok (.ireturn, 1) := by decide +kernel
theorem dX10_today_17 : decode cX10_today 17 = .ok (.aload_n 0, 1) := by decide +kernel
theorem dX10_today_18 : decode cX10_today 18 = .ok (.iload_n 1, 1) := by decide +kernel
theorem dX10_today_19 : decode cX10_today 19 = .ok (.putfield 241, 3) := by decide +kernel
theorem dX10_today_22 : decode cX10_today 22 = .ok (.iconst 1, 1) := by decide +kernel
theorem dX10_today_23 : decode cX10_today 23 = .ok (.ireturn, 1) := by decide +kernel
theorem dX10_fed_0 : decode cX10_fed 0 = .ok (.aload_n 0, 1) := by decide +kernel
theorem dX10_fed_1 : decode cX10_fed 1 = .ok (.iload_n 1, 1) := by decide +kernel
theorem dX10_fed_2 : decode cX10_fed 2 = .ok (.invokevirtual 143, 3) := by decide +kernel
theorem dX10_fed_5 : decode cX10_fed 5 = .ok (.astore 4, 2) := by decide +kernel
theorem dX10_fed_7 : decode cX10_fed 7 = .ok (.aload 4, 2) := by decide +kernel
theorem dX10_fed_9 : decode cX10_fed 9 = .ok (.ifnull 11, 3) := by decide +kernel
theorem dX10_fed_12 : decode cX10_fed 12 = .ok (.aload 4, 2) := by decide +kernel
theorem dX10_fed_14 : decode cX10_fed 14 = .ok (.getfield 147, 3) := by decide +kernel
theorem dX10_fed_17 : decode cX10_fed 17 = .ok (.ifCond .eq 5, 3) := by decide +kernel
theorem dX10_fed_20 : decode cX10_fed 20 = .ok (.iconst 0, 1) := by decide +kernel
theorem dX10_fed_21 : decode cX10_fed 21 = .ok (.ireturn, 1) := by decide +kernel
theorem dX10_fed_22 : decode cX10_fed 22 = .ok (.iload_n 2, 1) := by decide +kernel
theorem dX10_fed_23 : decode cX10_fed 23 = .ok (.ifCond .lt 16, 3) := by decide +kernel
theorem dX10_fed_26 : decode cX10_fed 26 = .ok (.iload_n 2, 1) := by decide +kernel
theorem dX10_fed_27 : decode cX10_fed 27 = .ok (.iload_n 3, 1) := by decide +kernel
theorem dX10_fed_28 : decode cX10_fed 28 = .ok (.if_icmp .gt 11, 3) := by decide +kernel
theorem dX10_fed_31 : decode cX10_fed 31 = .ok (.iload_n 3, 1) := by decide +kernel
theorem dX10_fed_32 : decode cX10_fed 32 = .ok (.aload_n 0, 1) := by decide +kernel
theorem dX10_fed_33 : decode cX10_fed 33 = .ok (.getfield 241, 3) := by decide +kernel
theorem dX10_fed_36 : decode cX10_fed 36 = .ok (.if_icmp .le 5, 3) := by decide +kernel
theorem dX10_fed_39 : decode cX10_fed 39 = .ok (.iconst 0, 1) := by decide +kernel
theorem dX10_fed_40 : decode cX10_fed 40 = .ok (.ireturn, 1) := by decide +kernel
theorem dX10_fed_41 : decode cX10_fed 41 = .ok (.aload 4, 2) := by decide +kernel
theorem dX10_fed_43 : decode cX10_fed 43 = .ok (.iload_n 2, 1) := by decide +kernel
theorem dX10_fed_44 : decode cX10_fed 44 = .ok (.putfield 160, 3) := by decide +kernel
theorem dX10_fed_47 : decode cX10_fed 47 = .ok (.aload 4, 2) := by decide +kernel
theorem dX10_fed_49 : decode cX10_fed 49 = .ok (.iload_n 3, 1) := by decide +kernel
theorem dX10_fed_50 : decode cX10_fed 50 = .ok (.putfield 163, 3) := by decide +kernel
theorem dX10_fed_53 : decode cX10_fed 53 = .ok (.aload_n 0, 1) := by decide +kernel
theorem dX10_fed_54 : decode cX10_fed 54 = .ok (.invokevirtual 244, 3) := by decide +kernel
theorem dX10_fed_57 : decode cX10_fed 57 = .ok (.iconst 1, 1) := by decide +kernel
theorem dX10_fed_58 : decode cX10_fed 58 = .ok (.ireturn, 1) := by decide +kernel
theorem dX10_run_0 : decode cX10_run 0 = .ok (.aload_n 0, 1) := by decide +kernel
theorem dX10_run_1 : decode cX10_run 1 = .ok (.iload_n 1, 1) := by decide +kernel
theorem dX10_run_2 : decode cX10_run 2 = .ok (.invokevirtual 143, 3) := by decide +kernel
theorem dX10_run_5 : decode cX10_run 5 = .ok (.astore_n 2, 1) := by decide +kernel
theorem dX10_run_6 : decode cX10_run 6 = .ok (.aload_n 2, 1) := by decide +kernel
theorem dX10_run_7 : decode cX10_run 7 = .ok (.ifnull 19, 3) := by decide +kernel
theorem dX10_run_10 : decode cX10_run 10 = .ok (.aload_n 2, 1) := by decide +kernel
theorem dX10_run_11 : decode cX10_run 11 = .ok (.getfield 147, 3) := by decide +kernel
theorem dX10_run_14 : decode cX10_run 14 = .ok (.iconst 2, 1) := by decide +kernel
theorem dX10_run_15 : decode cX10_run 15 = .ok (.if_icmp .ne 11, 3) := by decide +kernel
theorem dX10_run_18 : decode cX10_run 18 = .ok (.aload_n 0, 1) := by decide +kernel
theorem dX10_run_19 : decode cX10_run 19 = .ok (.aload_n 2, 1) := by decide +kernel
theorem dX10_run_20 : decode cX10_run 20 = .ok (.invokevirtual 247, 3) := by decide +kernel
theorem dX10_run_23 : decode cX10_run 23 = .ok (.ifCond .ne 5, 3) := by decide +kernel
theorem dX10_run_26 : decode cX10_run 26 = .ok (.iconst 0, 1) := by decide +kernel
theorem dX10_run_27 : decode cX10_run 27 = .ok (.ireturn, 1) := by decide +kernel
theorem dX10_run_28 : decode cX10_run 28 = .ok (.aload_n 0, 1) := by decide +kernel
theorem dX10_run_29 : decode cX10_run 29 = .ok (.invokevirtual 244, 3) := by decide +kernel
theorem dX10_run_32 : decode cX10_run 32 = .ok (.iconst 1, 1) := by decide +kernel
theorem dX10_run_33 : decode cX10_run 33 = .ok (.ireturn, 1) := by decide +kernel
theorem dX10_promise_0 : decode cX10_promise 0 = .ok (.aload_n 0, 1) := by decide +kernel
theorem dX10_promise_1 : decode cX10_promise 1 = .ok (.iload_n 1, 1) := by decide +kernel
theorem dX10_promise_2 : decode cX10_promise 2 = .ok (.invokevirtual 143, 3) := by decide +kernel
theorem dX10_promise_5 : decode cX10_promise 5 = .ok (.astore_n 3, 1) := by decide +kernel
theorem dX10_promise_6 : decode cX10_promise 6 = .ok (.aload_n 3, 1) := by decide +kernel
theorem dX10_promise_7 : decode cX10_promise 7 = .ok (.ifnull 15, 3) := by decide +kernel
theorem dX10_promise_10 : decode cX10_promise 10 = .ok (.iload_n 2, 1) := by decide +kernel
theorem dX10_promise_11 : decode cX10_promise 11 = .ok (.iconst (-1), 1) := by decide +kernel
theorem dX10_promise_12 : decode cX10_promise 12 = .ok (.if_icmp .lt 10, 3) := by decide +kernel
theorem dX10_promise_15 : decode cX10_promise 15 = .ok (.iload_n 2, 1) := by decide +kernel
theorem dX10_promise_16 : decode cX10_promise 16 = .ok (.sipush 1000, 3) := by decide +kernel
theorem dX10_promise_19 : decode cX10_promise 19 = .ok (.if_icmp .le 5, 3) := by decide +kernel
theorem dX10_promise_22 : decode cX10_promise 22 = .ok (.iconst 0, 1) := by decide +kernel
theorem dX10_promise_23 : decode cX10_promise 23 = .ok (.ireturn, 1) := by decide +kernel
theorem dX10_promise_24 : decode cX10_promise 24 = .ok (.aload_n 3, 1) := by decide +kernel
theorem dX10_promise_25 : decode cX10_promise 25 = .ok (.iload_n 2, 1) := by decide +kernel
theorem dX10_promise_26 : decode cX10_promise 26 = .ok (.putfield 169, 3) := by decide +kernel
theorem dX10_promise_29 : decode cX10_promise 29 = .ok (.iconst 1, 1) := by decide +kernel
theorem dX10_promise_30 : decode cX10_promise 30 = .ok (.ireturn, 1) := by decide +kernel
theorem dX10_broken_0 : decode cX10_broken 0 = .ok (.aload_n 0, 1) := by decide +kernel
theorem dX10_broken_1 : decode cX10_broken 1 = .ok (.getfield 65, 3) := by decide +kernel
theorem dX10_broken_4 : decode cX10_broken 4 = .ok (.iconst 0, 1) := by decide +kernel
theorem dX10_broken_5 : decode cX10_broken 5 = .ok (.invokevirtual 82, 3) := by decide +kernel
theorem dX10_broken_8 : decode cX10_broken 8 = .ok (.iconst 0, 1) := by decide +kernel
theorem dX10_broken_9 : decode cX10_broken 9 = .ok (.istore_n 1, 1) := by decide +kernel
theorem dX10_broken_10 : decode cX10_broken 10 = .ok (.iload_n 1, 1) := by decide +kernel
theorem dX10_broken_11 : decode cX10_broken 11 = .ok (.bipush 16, 2) := by decide +kernel
theorem dX10_broken_13 : decode cX10_broken 13 = .ok (.if_icmp .ge 30, 3) := by decide +kernel
theorem dX10_broken_16 : decode cX10_broken 16 = .ok (.aload_n 0, 1) := by decide +kernel
theorem dX10_broken_17 : decode cX10_broken 17 = .ok (.aload_n 0, 1) := by decide +kernel
theorem dX10_broken_18 : decode cX10_broken 18 = .ok (.getfield 41, 3) := by decide +kernel
theorem dX10_broken_21 : decode cX10_broken 21 = .ok (.iload_n 1, 1) := by decide +kernel
theorem dX10_broken_22 : decode cX10_broken 22 = .ok (.aaload, 1) := by decide +kernel
theorem dX10_broken_23 : decode cX10_broken 23 = .ok (.invokevirtual 251, 3) := by decide +kernel
theorem dX10_broken_26 : decode cX10_broken 26 = .ok (.ifCond .eq 11, 3) := by decide +kernel
theorem dX10_broken_29 : decode cX10_broken 29 = .ok (.aload_n 0, 1) := by decide +kernel
theorem dX10_broken_30 : decode cX10_broken 30 = .ok (.getfield 65, 3) := by decide +kernel
theorem dX10_broken_33 : decode cX10_broken 33 = .ok (.iload_n 1, 1) := by decide +kernel
theorem dX10_broken_34 : decode cX10_broken 34 = .ok (.invokevirtual 212, 3) := by decide +kernel
theorem dX10_broken_37 : decode cX10_broken 37 = .ok (.iinc 1 1, 3) := by decide +kernel
theorem dX10_broken_40 : decode cX10_broken 40 = .ok (.goto (-30), 3) := by decide +kernel
theorem dX10_broken_43 : decode cX10_broken 43 = .ok (.aload_n 0, 1) := by decide +kernel
theorem dX10_broken_44 : decode cX10_broken 44 = .ok (.getfield 65, 3) := by decide +kernel
theorem dX10_broken_47 : decode cX10_broken 47 = .ok (.invokevirtual 75, 3) := by decide +kernel
theorem dX10_broken_50 : decode cX10_broken 50 = .ok (.ireturn, 1) := by decide +kernel
theorem dX10_late_0 : decode cX10_late 0 = .ok (.aload_n 0, 1) := by decide +kernel
theorem dX10_late_1 : decode cX10_late 1 = .ok (.iload_n 1, 1) := by decide +kernel
theorem dX10_late_2 : decode cX10_late 2 = .ok (.invokevirtual 143, 3) := by decide +kernel
theorem dX10_late_5 : decode cX10_late 5 = .ok (.astore_n 2, 1) := by decide +kernel
theorem dX10_late_6 : decode cX10_late 6 = .ok (.aload_n 2, 1) := by decide +kernel
theorem dX10_late_7 : decode cX10_late 7 = .ok (.ifnull 11, 3) := by decide +kernel
theorem dX10_late_10 : decode cX10_late 10 = .ok (.aload_n 0, 1) := by decide +kernel
theorem dX10_late_11 : decode cX10_late 11 = .ok (.aload_n 2, 1) := by decide +kernel
theorem dX10_late_12 : decode cX10_late 12 = .ok (.invokevirtual 251, 3) := by decide +kernel
theorem dX10_late_15 : decode cX10_late 15 = .ok (.ifCond .ne 5, 3) := by decide +kernel
theorem dX10_late_18 : decode cX10_late 18 = .ok (.iconst (-1), 1) := by decide +kernel
theorem dX10_late_19 : decode cX10_late 19 = .ok (.ireturn, 1) := by decide +kernel
theorem dX10_late_20 : decode cX10_late 20 = .ok (.aload_n 0, 1) := by decide +kernel
theorem dX10_late_21 : decode cX10_late 21 = .ok (.getfield 241, 3) := by decide +kernel
theorem dX10_late_24 : decode cX10_late 24 = .ok (.aload_n 2, 1) := by decide +kernel
theorem dX10_late_25 : decode cX10_late 25 = .ok (.getfield 169, 3) := by decide +kernel
theorem dX10_late_28 : decode cX10_late 28 = .ok (.isub, 1) := by decide +kernel
theorem dX10_late_29 : decode cX10_late 29 = .ok (.istore_n 3, 1) := by decide +kernel
theorem dX10_late_30 : decode cX10_late 30 = .ok (.iload_n 1, 1) := by decide +kernel
theorem dX10_late_31 : decode cX10_late 31 = .ok (.istore 4, 2) := by decide +kernel
theorem dX10_late_33 : decode cX10_late 33 = .ok (.iload_n 1, 1) := by decide +kernel
theorem dX10_late_34 : decode cX10_late 34 = .ok (.istore 5, 2) := by decide +kernel
theorem dX10_late_36 : decode cX10_late 36 = .ok (.iconst 0, 1) := by decide +kernel
theorem dX10_late_37 : decode cX10_late 37 = .ok (.istore 6, 2) := by decide +kernel
theorem dX10_late_39 : decode cX10_late 39 = .ok (.iload 6, 2) := by decide +kernel
theorem dX10_late_41 : decode cX10_late 41 = .ok (.bipush 16, 2) := by decide +kernel
theorem dX10_late_43 : decode cX10_late 43 = .ok (.if_icmp .ge 28, 3) := by decide +kernel
theorem dX10_late_46 : decode cX10_late 46 = .ok (.iload 5, 2) := by decide +kernel
theorem dX10_late_48 : decode cX10_late 48 = .ok (.iconst (-1), 1) := by decide +kernel
theorem dX10_late_49 : decode cX10_late 49 = .ok (.if_icmp .eq 22, 3) := by decide +kernel
theorem dX10_late_52 : decode cX10_late 52 = .ok (.iload 5, 2) := by decide +kernel
theorem dX10_late_54 : decode cX10_late 54 = .ok (.istore 4, 2) := by decide +kernel
theorem dX10_late_56 : decode cX10_late 56 = .ok (.aload_n 0, 1) := by decide +kernel
theorem dX10_late_57 : decode cX10_late 57 = .ok (.iload 4, 2) := by decide +kernel
theorem dX10_late_59 : decode cX10_late 59 = .ok (.iload_n 3, 1) := by decide +kernel
theorem dX10_late_60 : decode cX10_late 60 = .ok (.invokevirtual 254, 3) := by decide +kernel
theorem dX10_late_63 : decode cX10_late 63 = .ok (.istore 5, 2) := by decide +kernel
theorem dX10_late_65 : decode cX10_late 65 = .ok (.iinc 6 1, 3) := by decide +kernel
theorem dX10_late_68 : decode cX10_late 68 = .ok (.goto (-29), 3) := by decide +kernel
theorem dX10_late_71 : decode cX10_late 71 = .ok (.iload 4, 2) := by decide +kernel
theorem dX10_late_73 : decode cX10_late 73 = .ok (.ireturn, 1) := by decide +kernel
theorem dX10_own_0 : decode cX10_own 0 = .ok (.aload_n 0, 1) := by decide +kernel
theorem dX10_own_1 : decode cX10_own 1 = .ok (.iload_n 1, 1) := by decide +kernel
theorem dX10_own_2 : decode cX10_own 2 = .ok (.invokevirtual 143, 3) := by decide +kernel
theorem dX10_own_5 : decode cX10_own 5 = .ok (.astore_n 3, 1) := by decide +kernel
theorem dX10_own_6 : decode cX10_own 6 = .ok (.aload_n 3, 1) := by decide +kernel
theorem dX10_own_7 : decode cX10_own 7 = .ok (.ifnull 14, 3) := by decide +kernel
theorem dX10_own_10 : decode cX10_own 10 = .ok (.iload_n 2, 1) := by decide +kernel
theorem dX10_own_11 : decode cX10_own 11 = .ok (.iconst (-1), 1) := by decide +kernel
theorem dX10_own_12 : decode cX10_own 12 = .ok (.if_icmp .lt 9, 3) := by decide +kernel
theorem dX10_own_15 : decode cX10_own 15 = .ok (.iload_n 2, 1) := by decide +kernel
theorem dX10_own_16 : decode cX10_own 16 = .ok (.bipush 9, 2) := by decide +kernel
theorem dX10_own_18 : decode cX10_own 18 = .ok (.if_icmp .le 5, 3) := by decide +kernel
theorem dX10_own_21 : decode cX10_own 21 = .ok (.iconst 0, 1) := by decide +kernel
theorem dX10_own_22 : decode cX10_own 22 = .ok (.ireturn, 1) := by decide +kernel
theorem dX10_own_23 : decode cX10_own 23 = .ok (.aload_n 3, 1) := by decide +kernel
theorem dX10_own_24 : decode cX10_own 24 = .ok (.iload_n 2, 1) := by decide +kernel
theorem dX10_own_25 : decode cX10_own 25 = .ok (.putfield 257, 3) := by decide +kernel
theorem dX10_own_28 : decode cX10_own 28 = .ok (.iconst 1, 1) := by decide +kernel
theorem dX10_own_29 : decode cX10_own 29 = .ok (.ireturn, 1) := by decide +kernel
theorem dX10_ask_0 : decode cX10_ask 0 = .ok (.aload_n 0, 1) := by decide +kernel
theorem dX10_ask_1 : decode cX10_ask 1 = .ok (.iload_n 2, 1) := by decide +kernel
theorem dX10_ask_2 : decode cX10_ask 2 = .ok (.invokevirtual 143, 3) := by decide +kernel
theorem dX10_ask_5 : decode cX10_ask 5 = .ok (.astore 4, 2) := by decide +kernel
theorem dX10_ask_7 : decode cX10_ask 7 = .ok (.aload 4, 2) := by decide +kernel
theorem dX10_ask_9 : decode cX10_ask 9 = .ok (.ifnull 22, 3) := by decide +kernel
theorem dX10_ask_12 : decode cX10_ask 12 = .ok (.iload_n 1, 1) := by decide +kernel
theorem dX10_ask_13 : decode cX10_ask 13 = .ok (.ifCond .lt 18, 3) := by decide +kernel
theorem dX10_ask_16 : decode cX10_ask 16 = .ok (.iload_n 1, 1) := by decide +kernel
theorem dX10_ask_17 : decode cX10_ask 17 = .ok (.bipush 9, 2) := by decide +kernel
theorem dX10_ask_19 : decode cX10_ask 19 = .ok (.if_icmp .gt 12, 3) := by decide +kernel
theorem dX10_ask_22 : decode cX10_ask 22 = .ok (.aload_n 0, 1) := by decide +kernel
theorem dX10_ask_23 : decode cX10_ask 23 = .ok (.getfield 260, 3) := by decide +kernel
theorem dX10_ask_26 : decode cX10_ask 26 = .ok (.bipush 40, 2) := by decide +kernel
theorem dX10_ask_28 : decode cX10_ask 28 = .ok (.if_icmp .lt 5, 3) := by decide +kernel
theorem dX10_ask_31 : decode cX10_ask 31 = .ok (.iconst (-1), 1) := by decide +kernel
theorem dX10_ask_32 : decode cX10_ask 32 = .ok (.ireturn, 1) := by decide +kernel
theorem dX10_ask_33 : decode cX10_ask 33 = .ok (.iload_n 3, 1) := by decide +kernel
theorem dX10_ask_34 : decode cX10_ask 34 = .ok (.ifCond .le 14, 3) := by decide +kernel
theorem dX10_ask_37 : decode cX10_ask 37 = .ok (.iload_n 3, 1) := by decide +kernel
theorem dX10_ask_38 : decode cX10_ask 38 = .ok (.iconst 1, 1) := by decide +kernel
theorem dX10_ask_39 : decode cX10_ask 39 = .ok (.aload 4, 2) := by decide +kernel
theorem dX10_ask_41 : decode cX10_ask 41 = .ok (.invokevirtual 150, 3) := by decide +kernel
theorem dX10_ask_44 : decode cX10_ask 44 = .ok (.ishl, 1) := by decide +kernel
theorem dX10_ask_45 : decode cX10_ask 45 = .ok (.if_icmp .lt 5, 3) := by decide +kernel
theorem dX10_ask_48 : decode cX10_ask 48 = .ok (.iconst (-1), 1) := by decide +kernel
theorem dX10_ask_49 : decode cX10_ask 49 = .ok (.ireturn, 1) := by decide +kernel
theorem dX10_ask_50 : decode cX10_ask 50 = .ok (.aload_n 0, 1) := by decide +kernel
theorem dX10_ask_51 : decode cX10_ask 51 = .ok (.getfield 54, 3) := by decide +kernel
theorem dX10_ask_54 : decode cX10_ask 54 = .ok (.aload_n 0, 1) := by decide +kernel
theorem dX10_ask_55 : decode cX10_ask 55 = .ok (.getfield 260, 3) := by decide +kernel
theorem dX10_ask_58 : decode cX10_ask 58 = .ok (.new 52, 3) := by decide +kernel
theorem dX10_ask_61 : decode cX10_ask 61 = .ok (.dup, 1) := by decide +kernel
theorem dX10_ask_62 : decode cX10_ask 62 = .ok (.iload_n 2, 1) := by decide +kernel
theorem dX10_ask_63 : decode cX10_ask 63 = .ok (.iload_n 3, 1) := by decide +kernel
theorem dX10_ask_64 : decode cX10_ask 64 = .ok (.aload_n 0, 1) := by decide +kernel
theorem dX10_ask_65 : decode cX10_ask 65 = .ok (.getfield 241, 3) := by decide +kernel
theorem dX10_ask_68 : decode cX10_ask 68 = .ok (.invokespecial 263, 3) := by decide +kernel
theorem dX10_ask_71 : decode cX10_ask 71 = .ok (.aastore, 1) := by decide +kernel
theorem dX10_ask_72 : decode cX10_ask 72 = .ok (.aload_n 0, 1) := by decide +kernel
theorem dX10_ask_73 : decode cX10_ask 73 = .ok (.dup, 1) := by decide +kernel
theorem dX10_ask_74 : decode cX10_ask 74 = .ok (.getfield 260, 3) := by decide +kernel
theorem dX10_ask_77 : decode cX10_ask 77 = .ok (.iconst 1, 1) := by decide +kernel
theorem dX10_ask_78 : decode cX10_ask 78 = .ok (.iadd, 1) := by decide +kernel
theorem dX10_ask_79 : decode cX10_ask 79 = .ok (.putfield 260, 3) := by decide +kernel
theorem dX10_ask_82 : decode cX10_ask 82 = .ok (.aload_n 0, 1) := by decide +kernel
theorem dX10_ask_83 : decode cX10_ask 83 = .ok (.getfield 260, 3) := by decide +kernel
theorem dX10_ask_86 : decode cX10_ask 86 = .ok (.iconst 1, 1) := by decide +kernel
theorem dX10_ask_87 : decode cX10_ask 87 = .ok (.isub, 1) := by decide +kernel
theorem dX10_ask_88 : decode cX10_ask 88 = .ok (.ireturn, 1) := by decide +kernel
theorem dX10_unused_0 : decode cX10_unused 0 = .ok (.aload_n 0, 1) := by decide +kernel
theorem dX10_unused_1 : decode cX10_unused 1 = .ok (.iload_n 1, 1) := by decide +kernel
theorem dX10_unused_2 : decode cX10_unused 2 = .ok (.invokevirtual 266, 3) := by decide +kernel
theorem dX10_unused_5 : decode cX10_unused 5 = .ok (.istore_n 2, 1) := by decide +kernel
theorem dX10_unused_6 : decode cX10_unused 6 = .ok (.aload_n 0, 1) := by decide +kernel
theorem dX10_unused_7 : decode cX10_unused 7 = .ok (.getfield 65, 3) := by decide +kernel
theorem dX10_unused_10 : decode cX10_unused 10 = .ok (.iconst 0, 1) := by decide +kernel
theorem dX10_unused_11 : decode cX10_unused 11 = .ok (.invokevirtual 82, 3) := by decide +kernel
theorem dX10_unused_14 : decode cX10_unused 14 = .ok (.iconst 0, 1) := by decide +kernel
theorem dX10_unused_15 : decode cX10_unused 15 = .ok (.istore_n 3, 1) := by decide +kernel
theorem dX10_unused_16 : decode cX10_unused 16 = .ok (.iload_n 3, 1) := by decide +kernel
theorem dX10_unused_17 : decode cX10_unused 17 = .ok (.bipush 16, 2) := by decide +kernel
theorem dX10_unused_19 : decode cX10_unused 19 = .ok (.if_icmp .ge 34, 3) := by decide +kernel
theorem dX10_unused_22 : decode cX10_unused 22 = .ok (.aload_n 0, 1) := by decide +kernel
theorem dX10_unused_23 : decode cX10_unused 23 = .ok (.getfield 41, 3) := by decide +kernel
theorem dX10_unused_26 : decode cX10_unused 26 = .ok (.iload_n 3, 1) := by decide +kernel
theorem dX10_unused_27 : decode cX10_unused 27 = .ok (.aaload, 1) := by decide +kernel
theorem dX10_unused_28 : decode cX10_unused 28 = .ok (.ifnull 19, 3) := by decide +kernel
theorem dX10_unused_31 : decode cX10_unused 31 = .ok (.iload_n 2, 1) := by decide +kernel
theorem dX10_unused_32 : decode cX10_unused 32 = .ok (.iload_n 3, 1) := by decide +kernel
theorem dX10_unused_33 : decode cX10_unused 33 = .ok (.ishr, 1) := by decide +kernel
theorem dX10_unused_34 : decode cX10_unused 34 = .ok (.iconst 1, 1) := by decide +kernel
theorem dX10_unused_35 : decode cX10_unused 35 = .ok (.iand, 1) := by decide +kernel
theorem dX10_unused_36 : decode cX10_unused 36 = .ok (.ifCond .ne 11, 3) := by decide +kernel
theorem dX10_unused_39 : decode cX10_unused 39 = .ok (.aload_n 0, 1) := by decide +kernel
theorem dX10_unused_40 : decode cX10_unused 40 = .ok (.getfield 65, 3) := by decide +kernel
theorem dX10_unused_43 : decode cX10_unused 43 = .ok (.iload_n 3, 1) := by decide +kernel
theorem dX10_unused_44 : decode cX10_unused 44 = .ok (.invokevirtual 212, 3) := by decide +kernel
theorem dX10_unused_47 : decode cX10_unused 47 = .ok (.iinc 3 1, 3) := by decide +kernel
theorem dX10_unused_50 : decode cX10_unused 50 = .ok (.goto (-34), 3) := by decide +kernel
theorem dX10_unused_53 : decode cX10_unused 53 = .ok (.aload_n 0, 1) := by decide +kernel
theorem dX10_unused_54 : decode cX10_unused 54 = .ok (.getfield 65, 3) := by decide +kernel
theorem dX10_unused_57 : decode cX10_unused 57 = .ok (.invokevirtual 75, 3) := by decide +kernel
theorem dX10_unused_60 : decode cX10_unused 60 = .ok (.ireturn, 1) := by decide +kernel
theorem dX10_alike_0 : decode cX10_alike 0 = .ok (.aload_n 0, 1) := by decide +kernel
theorem dX10_alike_1 : decode cX10_alike 1 = .ok (.iload_n 1, 1) := by decide +kernel
theorem dX10_alike_2 : decode cX10_alike 2 = .ok (.invokevirtual 143, 3) := by decide +kernel
theorem dX10_alike_5 : decode cX10_alike 5 = .ok (.astore_n 3, 1) := by decide +kernel
theorem dX10_alike_6 : decode cX10_alike 6 = .ok (.aload_n 0, 1) := by decide +kernel
theorem dX10_alike_7 : decode cX10_alike 7 = .ok (.iload_n 2, 1) := by decide +kernel
theorem dX10_alike_8 : decode cX10_alike 8 = .ok (.invokevirtual 143, 3) := by decide +kernel
theorem dX10_alike_11 : decode cX10_alike 11 = .ok (.astore 4, 2) := by decide +kernel
theorem dX10_alike_13 : decode cX10_alike 13 = .ok (.iload_n 1, 1) := by decide +kernel
theorem dX10_alike_14 : decode cX10_alike 14 = .ok (.iload_n 2, 1) := by decide +kernel
theorem dX10_alike_15 : decode cX10_alike 15 = .ok (.if_icmp .eq 27, 3) := by decide +kernel
theorem dX10_alike_18 : decode cX10_alike 18 = .ok (.aload_n 3, 1) := by decide +kernel
theorem dX10_alike_19 : decode cX10_alike 19 = .ok (.ifnull 23, 3) := by decide +kernel
theorem dX10_alike_22 : decode cX10_alike 22 = .ok (.aload 4, 2) := by decide +kernel
theorem dX10_alike_24 : decode cX10_alike 24 = .ok (.ifnull 18, 3) := by decide +kernel
theorem dX10_alike_27 : decode cX10_alike 27 = .ok (.aload_n 3, 1) := by decide +kernel
theorem dX10_alike_28 : decode cX10_alike 28 = .ok (.invokevirtual 269, 3) := by decide +kernel
theorem dX10_alike_31 : decode cX10_alike 31 = .ok (.ifCond .eq 11, 3) := by decide +kernel
theorem dX10_alike_34 : decode cX10_alike 34 = .ok (.aload 4, 2) := by decide +kernel
theorem dX10_alike_36 : decode cX10_alike 36 = .ok (.invokevirtual 269, 3) := by decide +kernel
theorem dX10_alike_39 : decode cX10_alike 39 = .ok (.ifCond .ne 5, 3) := by decide +kernel
theorem dX10_alike_42 : decode cX10_alike 42 = .ok (.iconst (-1), 1) := by decide +kernel
theorem dX10_alike_43 : decode cX10_alike 43 = .ok (.ireturn, 1) := by decide +kernel
theorem dX10_alike_44 : decode cX10_alike 44 = .ok (.aload_n 3, 1) := by decide +kernel
theorem dX10_alike_45 : decode cX10_alike 45 = .ok (.getfield 272, 3) := by decide +kernel
theorem dX10_alike_48 : decode cX10_alike 48 = .ok (.aload 4, 2) := by decide +kernel
theorem dX10_alike_50 : decode cX10_alike 50 = .ok (.getfield 272, 3) := by decide +kernel
theorem dX10_alike_53 : decode cX10_alike 53 = .ok (.invokevirtual 275, 3) := by decide +kernel
theorem dX10_alike_56 : decode cX10_alike 56 = .ok (.ifCond .eq 7, 3) := by decide +kernel
theorem dX10_alike_59 : decode cX10_alike 59 = .ok (.iconst 1, 1) := by decide +kernel
theorem dX10_alike_60 : decode cX10_alike 60 = .ok (.goto 4, 3) := by decide +kernel
theorem dX10_alike_63 : decode cX10_alike 63 = .ok (.iconst 0, 1) := by decide +kernel
theorem dX10_alike_64 : decode cX10_alike 64 = .ok (.ireturn, 1) := by decide +kernel
theorem dX10_putBytes_0 : decode cX10_putBytes 0 = .ok (.bipush 24, 2) := by decide +kernel
theorem dX10_putBytes_2 : decode cX10_putBytes 2 = .ok (.istore_n 2, 1) := by decide +kernel
theorem dX10_putBytes_3 : decode cX10_putBytes 3 = .ok (.iload_n 2, 1) := by decide +kernel
theorem dX10_putBytes_4 : decode cX10_putBytes 4 = .ok (.ifCond .lt 23, 3) := by decide +kernel
theorem dX10_putBytes_7 : decode cX10_putBytes 7 = .ok (.aload_n 0, 1) := by decide +kernel
theorem dX10_putBytes_8 : decode cX10_putBytes 8 = .ok (.getfield 14, 3) := by decide +kernel
theorem dX10_putBytes_11 : decode cX10_putBytes 11 = .ok (.iload_n 1, 1) := by decide +kernel
theorem dX10_putBytes_12 : decode cX10_putBytes 12 = .ok (.iload_n 2, 1) := by decide +kernel
theorem dX10_putBytes_13 : decode cX10_putBytes 13 = .ok (.iushr, 1) := by decide +kernel
theorem dX10_putBytes_14 : decode cX10_putBytes 14 = .ok (.sipush 255, 3) := by decide +kernel
theorem dX10_putBytes_17 : decode cX10_putBytes 17 = .ok (.iand, 1) := by decide +kernel
theorem dX10_putBytes_18 : decode cX10_putBytes 18 = .ok (.invokevirtual 212, 3) := by decide +kernel
theorem dX10_putBytes_21 : decode cX10_putBytes 21 = .ok (.iinc 2 (-8), 3) := by decide +kernel
theorem dX10_putBytes_24 : decode cX10_putBytes 24 = .ok (.goto (-21), 3) := by decide +kernel
theorem dX10_putBytes_27 : decode cX10_putBytes 27 = .ok (.return_, 1) := by decide +kernel
theorem dX10_refuse_0 : decode cX10_refuse 0 = .ok (.aload_n 0, 1) := by decide +kernel
theorem dX10_refuse_1 : decode cX10_refuse 1 = .ok (.iload_n 1, 1) := by decide +kernel
theorem dX10_refuse_2 : decode cX10_refuse 2 = .ok (.putfield 125, 3) := by decide +kernel
theorem dX10_refuse_5 : decode cX10_refuse 5 = .ok (.aload_n 0, 1) := by decide +kernel
theorem dX10_refuse_6 : decode cX10_refuse 6 = .ok (.iload_n 2, 1) := by decide +kernel
theorem dX10_refuse_7 : decode cX10_refuse 7 = .ok (.putfield 71, 3) := by decide +kernel
theorem dX10_refuse_10 : decode cX10_refuse 10 = .ok (.iconst (-1), 1) := by decide +kernel
theorem dX10_refuse_11 : decode cX10_refuse 11 = .ok (.ireturn, 1) := by decide +kernel
theorem dX10_addTable_0 : decode cX10_addTable 0 = .ok (.aload_n 0, 1) := by decide +kernel
theorem dX10_addTable_1 : decode cX10_addTable 1 = .ok (.getfield 122, 3) := by decide +kernel
theorem dX10_addTable_4 : decode cX10_addTable 4 = .ok (.istore_n 2, 1) := by decide +kernel
theorem dX10_addTable_5 : decode cX10_addTable 5 = .ok (.iload_n 2, 1) := by decide +kernel
theorem dX10_addTable_6 : decode cX10_addTable 6 = .ok (.bipush 16, 2) := by decide +kernel
theorem dX10_addTable_8 : decode cX10_addTable 8 = .ok (.if_icmp .lt 5, 3) := by decide +kernel
theorem dX10_addTable_11 : decode cX10_addTable 11 = .ok (.iconst (-1), 1) := by decide +kernel
theorem dX10_addTable_12 : decode cX10_addTable 12 = .ok (.ireturn, 1) := by decide +kernel
theorem dX10_addTable_13 : decode cX10_addTable 13 = .ok (.new 39, 3) := by decide +kernel
theorem dX10_addTable_16 : decode cX10_addTable 16 = .ok (.dup, 1) := by decide +kernel
theorem dX10_addTable_17 : decode cX10_addTable 17 = .ok (.aload_n 1, 1) := by decide +kernel
theorem dX10_addTable_18 : decode cX10_addTable 18 = .ok (.invokespecial 279, 3) := by decide +kernel
theorem dX10_addTable_21 : decode cX10_addTable 21 = .ok (.astore_n 3, 1) := by decide +kernel
theorem dX10_addTable_22 : decode cX10_addTable 22 = .ok (.iconst 0, 1) := by decide +kernel
theorem dX10_addTable_23 : decode cX10_addTable 23 = .ok (.istore 4, 2) := by decide +kernel
theorem dX10_addTable_25 : decode cX10_addTable 25 = .ok (.iload 4, 2) := by decide +kernel
theorem dX10_addTable_27 : decode cX10_addTable 27 = .ok (.aload_n 3, 1) := by decide +kernel
theorem dX10_addTable_28 : decode cX10_addTable 28 = .ok (.invokevirtual 150, 3) := by decide +kernel
theorem dX10_addTable_31 : decode cX10_addTable 31 = .ok (.if_icmp .ge 30, 3) := by decide +kernel
theorem dX10_addTable_34 : decode cX10_addTable 34 = .ok (.aload_n 0, 1) := by decide +kernel
theorem dX10_addTable_35 : decode cX10_addTable 35 = .ok (.getfield 45, 3) := by decide +kernel
theorem dX10_addTable_38 : decode cX10_addTable 38 = .ok (.iload_n 2, 1) := by decide +kernel
theorem dX10_addTable_39 : decode cX10_addTable 39 = .ok (.bipush 8, 2) := by decide +kernel
theorem dX10_addTable_41 : decode cX10_addTable 41 = .ok (.imul, 1) := by decide +kernel
theorem dX10_addTable_42 : decode cX10_addTable 42 = .ok (.iload 4, 2) := by decide +kernel
theorem dX10_addTable_44 : decode cX10_addTable 44 = .ok (.iadd, 1) := by decide +kernel
theorem dX10_addTable_45 : decode cX10_addTable 45 = .ok (.aload_n 1, 1) := by decide +kernel
theorem dX10_addTable_46 : decode cX10_addTable 46 = .ok (.getfield 282, 3) := by decide +kernel
theorem dX10_addTable_49 : decode cX10_addTable 49 = .ok (.iload 4, 2) := by decide +kernel
theorem dX10_addTable_51 : decode cX10_addTable 51 = .ok (.invokevirtual 156, 3) := by decide +kernel
theorem dX10_addTable_54 : decode cX10_addTable 54 = .ok (.iastore, 1) := by decide +kernel
theorem dX10_addTable_55 : decode cX10_addTable 55 = .ok (.iinc 4 1, 3) := by decide +kernel
theorem dX10_addTable_58 : decode cX10_addTable 58 = .ok (.goto (-33), 3) := by decide +kernel
theorem dX10_addTable_61 : decode cX10_addTable 61 = .ok (.aload_n 0, 1) := by decide +kernel
theorem dX10_addTable_62 : decode cX10_addTable 62 = .ok (.getfield 41, 3) := by decide +kernel
theorem dX10_addTable_65 : decode cX10_addTable 65 = .ok (.iload_n 2, 1) := by decide +kernel
theorem dX10_addTable_66 : decode cX10_addTable 66 = .ok (.aload_n 3, 1) := by decide +kernel
theorem dX10_addTable_67 : decode cX10_addTable 67 = .ok (.aastore, 1) := by decide +kernel
theorem dX10_addTable_68 : decode cX10_addTable 68 = .ok (.aload_n 0, 1) := by decide +kernel
theorem dX10_addTable_69 : decode cX10_addTable 69 = .ok (.dup, 1) := by decide +kernel
theorem dX10_addTable_70 : decode cX10_addTable 70 = .ok (.getfield 122, 3) := by decide +kernel
theorem dX10_addTable_73 : decode cX10_addTable 73 = .ok (.iconst 1, 1) := by decide +kernel
theorem dX10_addTable_74 : decode cX10_addTable 74 = .ok (.iadd, 1) := by decide +kernel
theorem dX10_addTable_75 : decode cX10_addTable 75 = .ok (.putfield 122, 3) := by decide +kernel
theorem dX10_addTable_78 : decode cX10_addTable 78 = .ok (.aload_n 0, 1) := by decide +kernel
theorem dX10_addTable_79 : decode cX10_addTable 79 = .ok (.invokevirtual 244, 3) := by decide +kernel
theorem dX10_addTable_82 : decode cX10_addTable 82 = .ok (.iload_n 2, 1) := by decide +kernel
theorem dX10_addTable_83 : decode cX10_addTable 83 = .ok (.ireturn, 1) := by decide +kernel
theorem dX10_tableAt_0 : decode cX10_tableAt 0 = .ok (.iload_n 1, 1) := by decide +kernel
theorem dX10_tableAt_1 : decode cX10_tableAt 1 = .ok (.ifCond .lt 18, 3) := by decide +kernel
theorem dX10_tableAt_4 : decode cX10_tableAt 4 = .ok (.iload_n 1, 1) := by decide +kernel
theorem dX10_tableAt_5 : decode cX10_tableAt 5 = .ok (.bipush 16, 2) := by decide +kernel
theorem dX10_tableAt_7 : decode cX10_tableAt 7 = .ok (.if_icmp .ge 12, 3) := by decide +kernel
theorem dX10_tableAt_10 : decode cX10_tableAt 10 = .ok (.aload_n 0, 1) := by decide +kernel
theorem dX10_tableAt_11 : decode cX10_tableAt 11 = .ok (.getfield 41, 3) := by decide +kernel
theorem dX10_tableAt_14 : decode cX10_tableAt 14 = .ok (.iload_n 1, 1) := by decide +kernel
theorem dX10_tableAt_15 : decode cX10_tableAt 15 = .ok (.aaload, 1) := by decide +kernel
theorem dX10_tableAt_16 : decode cX10_tableAt 16 = .ok (.goto 4, 3) := by decide +kernel
theorem dX10_tableAt_19 : decode cX10_tableAt 19 = .ok (.aconst_null, 1) := by decide +kernel
theorem dX10_tableAt_20 : decode cX10_tableAt 20 = .ok (.areturn, 1) := by decide +kernel
theorem dX10_hasColumn_0 : decode cX10_hasColumn 0 = .ok (.aload_n 0, 1) := by decide +kernel
theorem dX10_hasColumn_1 : decode cX10_hasColumn 1 = .ok (.iload_n 1, 1) := by decide +kernel
theorem dX10_hasColumn_2 : decode cX10_hasColumn 2 = .ok (.invokevirtual 143, 3) := by decide +kernel
theorem dX10_hasColumn_5 : decode cX10_hasColumn 5 = .ok (.astore_n 3, 1) := by decide +kernel
theorem dX10_hasColumn_6 : decode cX10_hasColumn 6 = .ok (.aload_n 3, 1) := by decide +kernel
theorem dX10_hasColumn_7 : decode cX10_hasColumn 7 = .ok (.ifnull 19, 3) := by decide +kernel
theorem dX10_hasColumn_10 : decode cX10_hasColumn 10 = .ok (.iload_n 2, 1) := by decide +kernel
theorem dX10_hasColumn_11 : decode cX10_hasColumn 11 = .ok (.ifCond .lt 15, 3) := by decide +kernel
theorem dX10_hasColumn_14 : decode cX10_hasColumn 14 = .ok (.iload_n 2, 1) := by decide +kernel
theorem dX10_hasColumn_15 : decode cX10_hasColumn 15 = .ok (.aload_n 3, 1) := by decide +kernel
theorem dX10_hasColumn_16 : decode cX10_hasColumn 16 = .ok (.invokevirtual 150, 3) := by decide +kernel
theorem dX10_hasColumn_19 : decode cX10_hasColumn 19 = .ok (.if_icmp .ge 7, 3) := by decide +kernel
theorem dX10_hasColumn_22 : decode cX10_hasColumn 22 = .ok (.iconst 1, 1) := by decide +kernel
theorem dX10_hasColumn_23 : decode cX10_hasColumn 23 = .ok (.goto 4, 3) := by decide +kernel
theorem dX10_hasColumn_26 : decode cX10_hasColumn 26 = .ok (.iconst 0, 1) := by decide +kernel
theorem dX10_hasColumn_27 : decode cX10_hasColumn 27 = .ok (.ireturn, 1) := by decide +kernel
theorem dX10_indexOfName_0 : decode cX10_indexOfName 0 = .ok (.iconst 0, 1) := by decide +kernel
theorem dX10_indexOfName_1 : decode cX10_indexOfName 1 = .ok (.istore_n 3, 1) := by decide +kernel
theorem dX10_indexOfName_2 : decode cX10_indexOfName 2 = .ok (.iload_n 3, 1) := by decide +kernel
theorem dX10_indexOfName_3 : decode cX10_indexOfName 3 = .ok (.aload_n 0, 1) := by decide +kernel
theorem dX10_indexOfName_4 : decode cX10_indexOfName 4 = .ok (.arraylength, 1) := by decide +kernel
theorem dX10_indexOfName_5 : decode cX10_indexOfName 5 = .ok (.if_icmp .ge 31, 3) := by decide +kernel
theorem dX10_indexOfName_8 : decode cX10_indexOfName 8 = .ok (.aload_n 0, 1) := by decide +kernel
theorem dX10_indexOfName_9 : decode cX10_indexOfName 9 = .ok (.iload_n 3, 1) := by decide +kernel
theorem dX10_indexOfName_10 : decode cX10_indexOfName 10 = .ok (.aaload, 1) := by decide +kernel
theorem dX10_indexOfName_11 : decode cX10_indexOfName 11 = .ok (.astore 4, 2) := by decide +kernel
theorem dX10_indexOfName_13 : decode cX10_indexOfName 13 = .ok (.aload 4, 2) := by decide +kernel
theorem dX10_indexOfName_15 : decode cX10_indexOfName 15 = .ok (.ifnull 15, 3) := by decide +kernel
theorem dX10_indexOfName_18 : decode cX10_indexOfName 18 = .ok (.aload 4, 2) := by decide +kernel
theorem dX10_indexOfName_20 : decode cX10_indexOfName 20 = .ok (.getfield 285, 3) := by decide +kernel
theorem dX10_indexOfName_23 : decode cX10_indexOfName 23 = .ok (.lload_n 1, 1) := by decide +kernel
theorem dX10_indexOfName_24 : decode cX10_indexOfName 24 = .ok (.lcmp, 1) := by decide +kernel
theorem dX10_indexOfName_25 : decode cX10_indexOfName 25 = .ok (.ifCond .ne 5, 3) := by decide +kernel
theorem dX10_indexOfName_28 : decode cX10_indexOfName 28 = .ok (.iload_n 3, 1) := by decide +kernel
theorem dX10_indexOfName_29 : decode cX10_indexOfName 29 = .ok (.ireturn, 1) := by decide +kernel
theorem dX10_indexOfName_30 : decode cX10_indexOfName 30 = .ok (.iinc 3 1, 3) := by decide +kernel
theorem dX10_indexOfName_33 : decode cX10_indexOfName 33 = .ok (.goto (-31), 3) := by decide +kernel
theorem dX10_indexOfName_36 : decode cX10_indexOfName 36 = .ok (.iconst (-1), 1) := by decide +kernel
theorem dX10_indexOfName_37 : decode cX10_indexOfName 37 = .ok (.ireturn, 1) := by decide +kernel
theorem dX10_isType_0 : decode cX10_isType 0 = .ok (.iload_n 0, 1) := by decide +kernel
theorem dX10_isType_1 : decode cX10_isType 1 = .ok (.bipush 110, 2) := by decide +kernel
theorem dX10_isType_3 : decode cX10_isType 3 = .ok (.if_icmp .eq 15, 3) := by decide +kernel
theorem dX10_isType_6 : decode cX10_isType 6 = .ok (.iload_n 0, 1) := by decide +kernel
theorem dX10_isType_7 : decode cX10_isType 7 = .ok (.bipush 116, 2) := by decide +kernel
theorem dX10_isType_9 : decode cX10_isType 9 = .ok (.if_icmp .eq 9, 3) := by decide +kernel
theorem dX10_isType_12 : decode cX10_isType 12 = .ok (.iload_n 0, 1) := by decide +kernel
theorem dX10_isType_13 : decode cX10_isType 13 = .ok (.bipush 100, 2) := by decide +kernel
theorem dX10_isType_15 : decode cX10_isType 15 = .ok (.if_icmp .ne 7, 3) := by decide +kernel
theorem dX10_isType_18 : decode cX10_isType 18 = .ok (.iconst 1, 1) := by decide +kernel
theorem dX10_isType_19 : decode cX10_isType 19 = .ok (.goto 4, 3) := by decide +kernel
theorem dX10_isType_22 : decode cX10_isType 22 = .ok (.iconst 0, 1) := by decide +kernel
theorem dX10_isType_23 : decode cX10_isType 23 = .ok (.ireturn, 1) := by decide +kernel
theorem dX10_markEarlierSteps_0 : decode cX10_markEarlierSteps 0 = .ok (.iload_n 1, 1) := by decide +kernel
theorem dX10_markEarlierSteps_1 : decode cX10_markEarlierSteps 1 = .ok (.iconst 1, 1) := by decide +kernel
theorem dX10_markEarlierSteps_2 : decode cX10_markEarlierSteps 2 = .ok (.isub, 1) := by decide +kernel
theorem dX10_markEarlierSteps_3 : decode cX10_markEarlierSteps 3 = .ok (.istore_n 2, 1) := by decide +kernel
theorem dX10_markEarlierSteps_4 : decode cX10_markEarlierSteps 4 = .ok (.iload_n 2, 1) := by decide +kernel
theorem dX10_markEarlierSteps_5 : decode cX10_markEarlierSteps 5 = .ok (.ifCond .lt 70, 3) := by decide +kernel
theorem dX10_markEarlierSteps_8 : decode cX10_markEarlierSteps 8 = .ok (.aload_n 0, 1) := by decide +kernel
theorem dX10_markEarlierSteps_9 : decode cX10_markEarlierSteps 9 = .ok (.iload_n 2, 1) := by decide +kernel
theorem dX10_markEarlierSteps_10 : decode cX10_markEarlierSteps 10 = .ok (.invokevirtual 143, 3) := by decide +kernel
theorem dX10_markEarlierSteps_13 : decode cX10_markEarlierSteps 13 = .ok (.astore_n 3, 1) := by decide +kernel
theorem dX10_markEarlierSteps_14 : decode cX10_markEarlierSteps 14 = .ok (.aload_n 3, 1) := by decide +kernel
theorem dX10_markEarlierSteps_15 : decode cX10_markEarlierSteps 15 = .ok (.ifnonnull 6, 3) := by decide +kernel
theorem dX10_markEarlierSteps_18 : decode cX10_markEarlierSteps 18 = .ok (.goto 51, 3) := by decide +kernel
theorem dX10_markEarlierSteps_21 : decode cX10_markEarlierSteps 21 = .ok (.iconst 0, 1) := by decide +kernel
theorem dX10_markEarlierSteps_22 : decode cX10_markEarlierSteps 22 = .ok (.istore 4, 2) := by decide +kernel
theorem dX10_markEarlierSteps_24 : decode cX10_markEarlierSteps 24 = .ok (.iload 4, 2) := by decide +kernel
theorem dX10_markEarlierSteps_26 : decode cX10_markEarlierSteps 26 = .ok (.aload_n 3, 1) := by decide +kernel
theorem dX10_markEarlierSteps_27 : decode cX10_markEarlierSteps 27 = .ok (.invokevirtual 150, 3) := by decide +kernel
theorem dX10_markEarlierSteps_30 : decode cX10_markEarlierSteps 30 = .ok (.if_icmp .ge 39, 3) := by decide +kernel
theorem dX10_markEarlierSteps_33 : decode cX10_markEarlierSteps 33 = .ok (.aload_n 0, 1) := by decide +kernel
theorem dX10_markEarlierSteps_34 : decode cX10_markEarlierSteps 34 = .ok (.getfield 61, 3) := by decide +kernel
theorem dX10_markEarlierSteps_37 : decode cX10_markEarlierSteps 37 = .ok (.iload_n 2, 1) := by decide +kernel
theorem dX10_markEarlierSteps_38 : decode cX10_markEarlierSteps 38 = .ok (.bipush 8, 2) := by decide +kernel
theorem dX10_markEarlierSteps_40 : decode cX10_markEarlierSteps 40 = .ok (.imul, 1) := by decide +kernel
theorem dX10_markEarlierSteps_41 : decode cX10_markEarlierSteps 41 = .ok (.iload 4, 2) := by decide +kernel
theorem dX10_markEarlierSteps_43 : decode cX10_markEarlierSteps 43 = .ok (.iadd, 1) := by decide +kernel
theorem dX10_markEarlierSteps_44 : decode cX10_markEarlierSteps 44 = .ok (.invokevirtual 289, 3) := by decide +kernel
theorem dX10_markEarlierSteps_47 : decode cX10_markEarlierSteps 47 = .ok (.ifCond .eq 16, 3) := by decide +kernel
theorem dX10_markEarlierSteps_50 : decode cX10_markEarlierSteps 50 = .ok (.aload_n 3, 1) := by decide +kernel
theorem dX10_markEarlierSteps_51 : decode cX10_markEarlierSteps 51 = .ok (.getfield 179, 3) := by decide +kernel
theorem dX10_markEarlierSteps_54 : decode cX10_markEarlierSteps 54 = .ok (.iload 4, 2) := by decide +kernel
theorem dX10_markEarlierSteps_56 : decode cX10_markEarlierSteps 56 = .ok (.aload_n 0, 1) := by decide +kernel
theorem dX10_markEarlierSteps_57 : decode cX10_markEarlierSteps 57 = .ok (.getfield 61, 3) := by decide +kernel
theorem dX10_markEarlierSteps_60 : decode cX10_markEarlierSteps 60 = .ok (.invokevirtual 183, 3) := by decide +kernel
theorem dX10_markEarlierSteps_63 : decode cX10_markEarlierSteps 63 = .ok (.iinc 4 1, 3) := by decide +kernel
theorem dX10_markEarlierSteps_66 : decode cX10_markEarlierSteps 66 = .ok (.goto (-42), 3) := by decide +kernel
theorem dX10_markEarlierSteps_69 : decode cX10_markEarlierSteps 69 = .ok (.iinc 2 (-1), 3) := by decide +kernel
theorem dX10_markEarlierSteps_72 : decode cX10_markEarlierSteps 72 = .ok (.goto (-68), 3) := by decide +kernel
theorem dX10_markEarlierSteps_75 : decode cX10_markEarlierSteps 75 = .ok (.return_, 1) := by decide +kernel
theorem dX10_markTouched_0 : decode cX10_markTouched 0 = .ok (.aload_n 0, 1) := by decide +kernel
theorem dX10_markTouched_1 : decode cX10_markTouched 1 = .ok (.getfield 61, 3) := by decide +kernel
theorem dX10_markTouched_4 : decode cX10_markTouched 4 = .ok (.invokevirtual 176, 3) := by decide +kernel
theorem dX10_markTouched_7 : decode cX10_markTouched 7 = .ok (.aload_n 0, 1) := by decide +kernel
theorem dX10_markTouched_8 : decode cX10_markTouched 8 = .ok (.getfield 61, 3) := by decide +kernel
theorem dX10_markTouched_11 : decode cX10_markTouched 11 = .ok (.iload_n 1, 1) := by decide +kernel
theorem dX10_markTouched_12 : decode cX10_markTouched 12 = .ok (.bipush 8, 2) := by decide +kernel
theorem dX10_markTouched_14 : decode cX10_markTouched 14 = .ok (.imul, 1) := by decide +kernel
theorem dX10_markTouched_15 : decode cX10_markTouched 15 = .ok (.iload_n 2, 1) := by decide +kernel
theorem dX10_markTouched_16 : decode cX10_markTouched 16 = .ok (.iadd, 1) := by decide +kernel
theorem dX10_markTouched_17 : decode cX10_markTouched 17 = .ok (.invokevirtual 290, 3) := by decide +kernel
theorem dX10_markTouched_20 : decode cX10_markTouched 20 = .ok (.iload_n 1, 1) := by decide +kernel
theorem dX10_markTouched_21 : decode cX10_markTouched 21 = .ok (.iconst 1, 1) := by decide +kernel
theorem dX10_markTouched_22 : decode cX10_markTouched 22 = .ok (.iadd, 1) := by decide +kernel
theorem dX10_markTouched_23 : decode cX10_markTouched 23 = .ok (.istore_n 3, 1) := by decide +kernel
theorem dX10_markTouched_24 : decode cX10_markTouched 24 = .ok (.iload_n 3, 1) := by decide +kernel
theorem dX10_markTouched_25 : decode cX10_markTouched 25 = .ok (.bipush 16, 2) := by decide +kernel
theorem dX10_markTouched_27 : decode cX10_markTouched 27 = .ok (.if_icmp .ge 95, 3) := by decide +kernel
theorem dX10_markTouched_30 : decode cX10_markTouched 30 = .ok (.aload_n 0, 1) := by decide +kernel
theorem dX10_markTouched_31 : decode cX10_markTouched 31 = .ok (.iload_n 3, 1) := by decide +kernel
theorem dX10_markTouched_32 : decode cX10_markTouched 32 = .ok (.invokevirtual 143, 3) := by decide +kernel
theorem dX10_markTouched_35 : decode cX10_markTouched 35 = .ok (.astore 4, 2) := by decide +kernel
theorem dX10_markTouched_37 : decode cX10_markTouched 37 = .ok (.aload 4, 2) := by decide +kernel
theorem dX10_markTouched_39 : decode cX10_markTouched 39 = .ok (.ifnonnull 6, 3) := by decide +kernel
theorem dX10_markTouched_42 : decode cX10_markTouched 42 = .ok (.goto 74, 3) := by decide +kernel
theorem dX10_markTouched_45 : decode cX10_markTouched 45 = .ok (.aload 4, 2) := by decide +kernel
theorem dX10_markTouched_47 : decode cX10_markTouched 47 = .ok (.getfield 179, 3) := by decide +kernel
theorem dX10_markTouched_50 : decode cX10_markTouched 50 = .ok (.bipush 6, 2) := by decide +kernel
theorem dX10_markTouched_52 : decode cX10_markTouched 52 = .ok (.aload_n 0, 1) := by decide +kernel
theorem dX10_markTouched_53 : decode cX10_markTouched 53 = .ok (.getfield 61, 3) := by decide +kernel
theorem dX10_markTouched_56 : decode cX10_markTouched 56 = .ok (.invokevirtual 291, 3) := by decide +kernel
theorem dX10_markTouched_59 : decode cX10_markTouched 59 = .ok (.istore 5, 2) := by decide +kernel
theorem dX10_markTouched_61 : decode cX10_markTouched 61 = .ok (.iconst 0, 1) := by decide +kernel
theorem dX10_markTouched_62 : decode cX10_markTouched 62 = .ok (.istore 6, 2) := by decide +kernel
theorem dX10_markTouched_64 : decode cX10_markTouched 64 = .ok (.iload 6, 2) := by decide +kernel
theorem dX10_markTouched_66 : decode cX10_markTouched 66 = .ok (.aload 4, 2) := by decide +kernel
theorem dX10_markTouched_68 : decode cX10_markTouched 68 = .ok (.invokevirtual 150, 3) := by decide +kernel
theorem dX10_markTouched_71 : decode cX10_markTouched 71 = .ok (.if_icmp .ge 45, 3) := by decide +kernel
theorem dX10_markTouched_74 : decode cX10_markTouched 74 = .ok (.iload 5, 2) := by decide +kernel
theorem dX10_markTouched_76 : decode cX10_markTouched 76 = .ok (.ifCond .ne 20, 3) := by decide +kernel
theorem dX10_markTouched_79 : decode cX10_markTouched 79 = .ok (.aload 4, 2) := by decide +kernel
theorem dX10_markTouched_81 : decode cX10_markTouched 81 = .ok (.getfield 179, 3) := by decide +kernel
theorem dX10_markTouched_84 : decode cX10_markTouched 84 = .ok (.iload 6, 2) := by decide +kernel
theorem dX10_markTouched_86 : decode cX10_markTouched 86 = .ok (.aload_n 0, 1) := by decide +kernel
theorem dX10_markTouched_87 : decode cX10_markTouched 87 = .ok (.getfield 61, 3) := by decide +kernel
theorem dX10_markTouched_90 : decode cX10_markTouched 90 = .ok (.invokevirtual 291, 3) := by decide +kernel
theorem dX10_markTouched_93 : decode cX10_markTouched 93 = .ok (.ifCond .eq 17, 3) := by decide +kernel
theorem dX10_markTouched_96 : decode cX10_markTouched 96 = .ok (.aload_n 0, 1) := by decide +kernel
theorem dX10_markTouched_97 : decode cX10_markTouched 97 = .ok (.getfield 61, 3) := by decide +kernel
theorem dX10_markTouched_100 : decode cX10_markTouched 100 = .ok (.iload_n 3, 1) := by decide +kernel
theorem dX10_markTouched_101 : decode cX10_markTouched 101 = .ok (.bipush 8, 2) := by decide +kernel
theorem dX10_markTouched_103 : decode cX10_markTouched 103 = .ok (.imul, 1) := by decide +kernel
theorem dX10_markTouched_104 : decode cX10_markTouched 104 = .ok (.iload 6, 2) := by decide +kernel
theorem dX10_markTouched_106 : decode cX10_markTouched 106 = .ok (.iadd, 1) := by decide +kernel
theorem dX10_markTouched_107 : decode cX10_markTouched 107 = .ok (.invokevirtual 290, 3) := by decide +kernel
theorem dX10_markTouched_110 : decode cX10_markTouched 110 = .ok (.iinc 6 1, 3) := by decide +kernel
theorem dX10_markTouched_113 : decode cX10_markTouched 113 = .ok (.goto (-49), 3) := by decide +kernel
theorem dX10_markTouched_116 : decode cX10_markTouched 116 = .ok (.iinc 3 1, 3) := by decide +kernel
theorem dX10_markTouched_119 : decode cX10_markTouched 119 = .ok (.goto (-95), 3) := by decide +kernel
theorem dX10_markTouched_122 : decode cX10_markTouched 122 = .ok (.return_, 1) := by decide +kernel
theorem dX10_findMarked_0 : decode cX10_findMarked 0 = .ok (.aload_n 0, 1) := by decide +kernel
theorem dX10_findMarked_1 : decode cX10_findMarked 1 = .ok (.getfield 65, 3) := by decide +kernel
theorem dX10_findMarked_4 : decode cX10_findMarked 4 = .ok (.iconst 0, 1) := by decide +kernel
theorem dX10_findMarked_5 : decode cX10_findMarked 5 = .ok (.invokevirtual 82, 3) := by decide +kernel
theorem dX10_findMarked_8 : decode cX10_findMarked 8 = .ok (.iconst 0, 1) := by decide +kernel
theorem dX10_findMarked_9 : decode cX10_findMarked 9 = .ok (.istore_n 2, 1) := by decide +kernel
theorem dX10_findMarked_10 : decode cX10_findMarked 10 = .ok (.iload_n 2, 1) := by decide +kernel
theorem dX10_findMarked_11 : decode cX10_findMarked 11 = .ok (.sipush 128, 3) := by decide +kernel
theorem dX10_findMarked_14 : decode cX10_findMarked 14 = .ok (.if_icmp .ge 55, 3) := by decide +kernel
theorem dX10_findMarked_17 : decode cX10_findMarked 17 = .ok (.aload_n 0, 1) := by decide +kernel
theorem dX10_findMarked_18 : decode cX10_findMarked 18 = .ok (.iload_n 2, 1) := by decide +kernel
theorem dX10_findMarked_19 : decode cX10_findMarked 19 = .ok (.bipush 8, 2) := by decide +kernel
theorem dX10_findMarked_21 : decode cX10_findMarked 21 = .ok (.idiv, 1) := by decide +kernel
theorem dX10_findMarked_22 : decode cX10_findMarked 22 = .ok (.invokevirtual 143, 3) := by decide +kernel
theorem dX10_findMarked_25 : decode cX10_findMarked 25 = .ok (.astore_n 3, 1) := by decide +kernel
theorem dX10_findMarked_26 : decode cX10_findMarked 26 = .ok (.aload_n 3, 1) := by decide +kernel
theorem dX10_findMarked_27 : decode cX10_findMarked 27 = .ok (.ifnull 36, 3) := by decide +kernel
theorem dX10_findMarked_30 : decode cX10_findMarked 30 = .ok (.iload_n 1, 1) := by decide +kernel
theorem dX10_findMarked_31 : decode cX10_findMarked 31 = .ok (.ifCond .eq 13, 3) := by decide +kernel
theorem dX10_findMarked_34 : decode cX10_findMarked 34 = .ok (.aload_n 3, 1) := by decide +kernel
theorem dX10_findMarked_35 : decode cX10_findMarked 35 = .ok (.getfield 147, 3) := by decide +kernel
theorem dX10_findMarked_38 : decode cX10_findMarked 38 = .ok (.ifCond .eq 6, 3) := by decide +kernel
theorem dX10_findMarked_41 : decode cX10_findMarked 41 = .ok (.goto 22, 3) := by decide +kernel
theorem dX10_findMarked_44 : decode cX10_findMarked 44 = .ok (.aload_n 0, 1) := by decide +kernel
theorem dX10_findMarked_45 : decode cX10_findMarked 45 = .ok (.getfield 61, 3) := by decide +kernel
theorem dX10_findMarked_48 : decode cX10_findMarked 48 = .ok (.iload_n 2, 1) := by decide +kernel
theorem dX10_findMarked_49 : decode cX10_findMarked 49 = .ok (.invokevirtual 289, 3) := by decide +kernel
theorem dX10_findMarked_52 : decode cX10_findMarked 52 = .ok (.ifCond .eq 11, 3) := by decide +kernel
theorem dX10_findMarked_55 : decode cX10_findMarked 55 = .ok (.aload_n 0, 1) := by decide +kernel
theorem dX10_findMarked_56 : decode cX10_findMarked 56 = .ok (.getfield 65, 3) := by decide +kernel
theorem dX10_findMarked_59 : decode cX10_findMarked 59 = .ok (.iload_n 2, 1) := by decide +kernel
theorem dX10_findMarked_60 : decode cX10_findMarked 60 = .ok (.invokevirtual 212, 3) := by decide +kernel
theorem dX10_findMarked_63 : decode cX10_findMarked 63 = .ok (.iinc 2 1, 3) := by decide +kernel
theorem dX10_findMarked_66 : decode cX10_findMarked 66 = .ok (.goto (-56), 3) := by decide +kernel
theorem dX10_findMarked_69 : decode cX10_findMarked 69 = .ok (.aload_n 0, 1) := by decide +kernel
theorem dX10_findMarked_70 : decode cX10_findMarked 70 = .ok (.getfield 65, 3) := by decide +kernel
theorem dX10_findMarked_73 : decode cX10_findMarked 73 = .ok (.invokevirtual 75, 3) := by decide +kernel
theorem dX10_findMarked_76 : decode cX10_findMarked 76 = .ok (.ireturn, 1) := by decide +kernel
theorem dX10_tryTypes_0 : decode cX10_tryTypes 0 = .ok (.aload_n 0, 1) := by decide +kernel
theorem dX10_tryTypes_1 : decode cX10_tryTypes 1 = .ok (.iload_n 1, 1) := by decide +kernel
theorem dX10_tryTypes_2 : decode cX10_tryTypes 2 = .ok (.invokevirtual 143, 3) := by decide +kernel
theorem dX10_tryTypes_5 : decode cX10_tryTypes 5 = .ok (.astore_n 2, 1) := by decide +kernel
theorem dX10_tryTypes_6 : decode cX10_tryTypes 6 = .ok (.aload_n 2, 1) := by decide +kernel
theorem dX10_tryTypes_7 : decode cX10_tryTypes 7 = .ok (.ifnull 10, 3) := by decide +kernel
theorem dX10_tryTypes_10 : decode cX10_tryTypes 10 = .ok (.aload_n 2, 1) := by decide +kernel
theorem dX10_tryTypes_11 : decode cX10_tryTypes 11 = .ok (.invokevirtual 269, 3) := by decide +kernel
theorem dX10_tryTypes_14 : decode cX10_tryTypes 14 = .ok (.ifCond .ne 4, 3) := by decide +kernel
theorem dX10_tryTypes_17 : decode cX10_tryTypes 17 = .ok (.return_, 1) := by decide +kernel
theorem dX10_tryTypes_18 : decode cX10_tryTypes 18 = .ok (.iconst 0, 1) := by decide +kernel
theorem dX10_tryTypes_19 : decode cX10_tryTypes 19 = .ok (.istore_n 3, 1) := by decide +kernel
theorem dX10_tryTypes_20 : decode cX10_tryTypes 20 = .ok (.iload_n 3, 1) := by decide +kernel
theorem dX10_tryTypes_21 : decode cX10_tryTypes 21 = .ok (.aload_n 2, 1) := by decide +kernel
theorem dX10_tryTypes_22 : decode cX10_tryTypes 22 = .ok (.invokevirtual 150, 3) := by decide +kernel
theorem dX10_tryTypes_25 : decode cX10_tryTypes 25 = .ok (.if_icmp .ge 67, 3) := by decide +kernel
theorem dX10_tryTypes_28 : decode cX10_tryTypes 28 = .ok (.aload_n 0, 1) := by decide +kernel
theorem dX10_tryTypes_29 : decode cX10_tryTypes 29 = .ok (.getfield 35, 3) := by decide +kernel
theorem dX10_tryTypes_32 : decode cX10_tryTypes 32 = .ok (.aload_n 2, 1) := by decide +kernel
theorem dX10_tryTypes_33 : decode cX10_tryTypes 33 = .ok (.getfield 179, 3) := by decide +kernel
theorem dX10_tryTypes_36 : decode cX10_tryTypes 36 = .ok (.iload_n 3, 1) := by decide +kernel
theorem dX10_tryTypes_37 : decode cX10_tryTypes 37 = .ok (.aload_n 0, 1) := by decide +kernel
theorem dX10_tryTypes_38 : decode cX10_tryTypes 38 = .ok (.getfield 49, 3) := by decide +kernel
theorem dX10_tryTypes_41 : decode cX10_tryTypes 41 = .ok (.invokevirtual 295, 3) := by decide +kernel
theorem dX10_tryTypes_44 : decode cX10_tryTypes 44 = .ok (.istore 4, 2) := by decide +kernel
theorem dX10_tryTypes_46 : decode cX10_tryTypes 46 = .ok (.aload_n 0, 1) := by decide +kernel
theorem dX10_tryTypes_47 : decode cX10_tryTypes 47 = .ok (.getfield 35, 3) := by decide +kernel
theorem dX10_tryTypes_50 : decode cX10_tryTypes 50 = .ok (.getfield 299, 3) := by decide +kernel
theorem dX10_tryTypes_53 : decode cX10_tryTypes 53 = .ok (.iconst (-1), 1) := by decide +kernel
theorem dX10_tryTypes_54 : decode cX10_tryTypes 54 = .ok (.if_icmp .ne 19, 3) := by decide +kernel
theorem dX10_tryTypes_57 : decode cX10_tryTypes 57 = .ok (.aload_n 0, 1) := by decide +kernel
theorem dX10_tryTypes_58 : decode cX10_tryTypes 58 = .ok (.getfield 49, 3) := by decide +kernel
theorem dX10_tryTypes_61 : decode cX10_tryTypes 61 = .ok (.iload_n 1, 1) := by decide +kernel
theorem dX10_tryTypes_62 : decode cX10_tryTypes 62 = .ok (.bipush 8, 2) := by decide +kernel
theorem dX10_tryTypes_64 : decode cX10_tryTypes 64 = .ok (.imul, 1) := by decide +kernel
theorem dX10_tryTypes_65 : decode cX10_tryTypes 65 = .ok (.iload_n 3, 1) := by decide +kernel
theorem dX10_tryTypes_66 : decode cX10_tryTypes 66 = .ok (.iadd, 1) := by decide +kernel
theorem dX10_tryTypes_67 : decode cX10_tryTypes 67 = .ok (.iload 4, 2) := by decide +kernel
theorem dX10_tryTypes_69 : decode cX10_tryTypes 69 = .ok (.iastore, 1) := by decide +kernel
theorem dX10_tryTypes_70 : decode cX10_tryTypes 70 = .ok (.goto 16, 3) := by decide +kernel
theorem dX10_tryTypes_73 : decode cX10_tryTypes 73 = .ok (.aload_n 0, 1) := by decide +kernel
theorem dX10_tryTypes_74 : decode cX10_tryTypes 74 = .ok (.getfield 68, 3) := by decide +kernel
theorem dX10_tryTypes_77 : decode cX10_tryTypes 77 = .ok (.iload_n 1, 1) := by decide +kernel
theorem dX10_tryTypes_78 : decode cX10_tryTypes 78 = .ok (.bipush 8, 2) := by decide +kernel
theorem dX10_tryTypes_80 : decode cX10_tryTypes 80 = .ok (.imul, 1) := by decide +kernel
theorem dX10_tryTypes_81 : decode cX10_tryTypes 81 = .ok (.iload_n 3, 1) := by decide +kernel
theorem dX10_tryTypes_82 : decode cX10_tryTypes 82 = .ok (.iadd, 1) := by decide +kernel
theorem dX10_tryTypes_83 : decode cX10_tryTypes 83 = .ok (.invokevirtual 212, 3) := by decide +kernel
theorem dX10_tryTypes_86 : decode cX10_tryTypes 86 = .ok (.iinc 3 1, 3) := by decide +kernel
theorem dX10_tryTypes_89 : decode cX10_tryTypes 89 = .ok (.goto (-69), 3) := by decide +kernel
theorem dX10_tryTypes_92 : decode cX10_tryTypes 92 = .ok (.aload_n 0, 1) := by decide +kernel
theorem dX10_tryTypes_93 : decode cX10_tryTypes 93 = .ok (.getfield 35, 3) := by decide +kernel
theorem dX10_tryTypes_96 : decode cX10_tryTypes 96 = .ok (.aload_n 2, 1) := by decide +kernel
theorem dX10_tryTypes_97 : decode cX10_tryTypes 97 = .ok (.getfield 179, 3) := by decide +kernel
theorem dX10_tryTypes_100 : decode cX10_tryTypes 100 = .ok (.bipush 6, 2) := by decide +kernel
theorem dX10_tryTypes_102 : decode cX10_tryTypes 102 = .ok (.aload_n 0, 1) := by decide +kernel
theorem dX10_tryTypes_103 : decode cX10_tryTypes 103 = .ok (.getfield 49, 3) := by decide +kernel
theorem dX10_tryTypes_106 : decode cX10_tryTypes 106 = .ok (.invokevirtual 295, 3) := by decide +kernel
theorem dX10_tryTypes_109 : decode cX10_tryTypes 109 = .ok (.pop, 1) := by decide +kernel
theorem dX10_tryTypes_110 : decode cX10_tryTypes 110 = .ok (.aload_n 0, 1) := by decide +kernel
theorem dX10_tryTypes_111 : decode cX10_tryTypes 111 = .ok (.getfield 35, 3) := by decide +kernel
theorem dX10_tryTypes_114 : decode cX10_tryTypes 114 = .ok (.getfield 299, 3) := by decide +kernel
theorem dX10_tryTypes_117 : decode cX10_tryTypes 117 = .ok (.iconst (-1), 1) := by decide +kernel
theorem dX10_tryTypes_118 : decode cX10_tryTypes 118 = .ok (.if_icmp .eq 17, 3) := by decide +kernel
theorem dX10_tryTypes_121 : decode cX10_tryTypes 121 = .ok (.aload_n 0, 1) := by decide +kernel
theorem dX10_tryTypes_122 : decode cX10_tryTypes 122 = .ok (.getfield 68, 3) := by decide +kernel
theorem dX10_tryTypes_125 : decode cX10_tryTypes 125 = .ok (.iload_n 1, 1) := by decide +kernel
theorem dX10_tryTypes_126 : decode cX10_tryTypes 126 = .ok (.bipush 8, 2) := by decide +kernel
theorem dX10_tryTypes_128 : decode cX10_tryTypes 128 = .ok (.imul, 1) := by decide +kernel
theorem dX10_tryTypes_129 : decode cX10_tryTypes 129 = .ok (.bipush 6, 2) := by decide +kernel
theorem dX10_tryTypes_131 : decode cX10_tryTypes 131 = .ok (.iadd, 1) := by decide +kernel
theorem dX10_tryTypes_132 : decode cX10_tryTypes 132 = .ok (.invokevirtual 212, 3) := by decide +kernel
theorem dX10_tryTypes_135 : decode cX10_tryTypes 135 = .ok (.return_, 1) := by decide +kernel
theorem dX10_countRetypedBeside_0 : decode cX10_countRetypedBeside 0 = .ok (.iconst 0, 1) := by decide +kernel
theorem dX10_countRetypedBeside_1 : decode cX10_countRetypedBeside 1 = .ok (.istore_n 2, 1) := by decide +kernel
theorem dX10_countRetypedBeside_2 : decode cX10_countRetypedBeside 2 = .ok (.iconst 0, 1) := by decide +kernel
theorem dX10_countRetypedBeside_3 : decode cX10_countRetypedBeside 3 = .ok (.istore_n 3, 1) := by decide +kernel
theorem dX10_countRetypedBeside_4 : decode cX10_countRetypedBeside 4 = .ok (.iload_n 3, 1) := by decide +kernel
theorem dX10_countRetypedBeside_5 : decode cX10_countRetypedBeside 5 = .ok (.sipush 128, 3) := by decide +kernel
theorem dX10_countRetypedBeside_8 : decode cX10_countRetypedBeside 8 = .ok (.if_icmp .ge 32, 3) := by decide +kernel
theorem dX10_countRetypedBeside_11 : decode cX10_countRetypedBeside 11 = .ok (.iload_n 3, 1) := by decide +kernel
theorem dX10_countRetypedBeside_12 : decode cX10_countRetypedBeside 12 = .ok (.iload_n 1, 1) := by decide +kernel
theorem dX10_countRetypedBeside_13 : decode cX10_countRetypedBeside 13 = .ok (.if_icmp .eq 21, 3) := by decide +kernel
theorem dX10_countRetypedBeside_16 : decode cX10_countRetypedBeside 16 = .ok (.aload_n 0, 1) := by decide +kernel
theorem dX10_countRetypedBeside_17 : decode cX10_countRetypedBeside 17 = .ok (.getfield 49, 3) := by decide +kernel
theorem dX10_countRetypedBeside_20 : decode cX10_countRetypedBeside 20 = .ok (.iload_n 3, 1) := by decide +kernel
theorem dX10_countRetypedBeside_21 : decode cX10_countRetypedBeside 21 = .ok (.iaload, 1) := by decide +kernel
theorem dX10_countRetypedBeside_22 : decode cX10_countRetypedBeside 22 = .ok (.aload_n 0, 1) := by decide +kernel
theorem dX10_countRetypedBeside_23 : decode cX10_countRetypedBeside 23 = .ok (.getfield 45, 3) := by decide +kernel
theorem dX10_countRetypedBeside_26 : decode cX10_countRetypedBeside 26 = .ok (.iload_n 3, 1) := by decide +kernel
theorem dX10_countRetypedBeside_27 : decode cX10_countRetypedBeside 27 = .ok (.iaload, 1) := by decide +kernel
theorem dX10_countRetypedBeside_28 : decode cX10_countRetypedBeside 28 = .ok (.if_icmp .eq 6, 3) := by decide +kernel
theorem dX10_countRetypedBeside_31 : decode cX10_countRetypedBeside 31 = .ok (.iinc 2 1, 3) := by decide +kernel
theorem dX10_countRetypedBeside_34 : decode cX10_countRetypedBeside 34 = .ok (.iinc 3 1, 3) := by decide +kernel
theorem dX10_countRetypedBeside_37 : decode cX10_countRetypedBeside 37 = .ok (.goto (-33), 3) := by decide +kernel
theorem dX10_countRetypedBeside_40 : decode cX10_countRetypedBeside 40 = .ok (.iload_n 2, 1) := by decide +kernel
theorem dX10_countRetypedBeside_41 : decode cX10_countRetypedBeside 41 = .ok (.ireturn, 1) := by decide +kernel
theorem dX10_dropAsksOf_0 : decode cX10_dropAsksOf 0 = .ok (.iconst 0, 1) := by decide +kernel
theorem dX10_dropAsksOf_1 : decode cX10_dropAsksOf 1 = .ok (.istore_n 2, 1) := by decide +kernel
theorem dX10_dropAsksOf_2 : decode cX10_dropAsksOf 2 = .ok (.iconst 0, 1) := by decide +kernel
theorem dX10_dropAsksOf_3 : decode cX10_dropAsksOf 3 = .ok (.istore_n 3, 1) := by decide +kernel
theorem dX10_dropAsksOf_4 : decode cX10_dropAsksOf 4 = .ok (.iload_n 3, 1) := by decide +kernel
theorem dX10_dropAsksOf_5 : decode cX10_dropAsksOf 5 = .ok (.bipush 40, 2) := by decide +kernel
theorem dX10_dropAsksOf_7 : decode cX10_dropAsksOf 7 = .ok (.if_icmp .ge 41, 3) := by decide +kernel
theorem dX10_dropAsksOf_10 : decode cX10_dropAsksOf 10 = .ok (.aload_n 0, 1) := by decide +kernel
theorem dX10_dropAsksOf_11 : decode cX10_dropAsksOf 11 = .ok (.getfield 54, 3) := by decide +kernel
theorem dX10_dropAsksOf_14 : decode cX10_dropAsksOf 14 = .ok (.iload_n 3, 1) := by decide +kernel
theorem dX10_dropAsksOf_15 : decode cX10_dropAsksOf 15 = .ok (.aaload, 1) := by decide +kernel
theorem dX10_dropAsksOf_16 : decode cX10_dropAsksOf 16 = .ok (.astore 4, 2) := by decide +kernel
theorem dX10_dropAsksOf_18 : decode cX10_dropAsksOf 18 = .ok (.aload 4, 2) := by decide +kernel
theorem dX10_dropAsksOf_20 : decode cX10_dropAsksOf 20 = .ok (.ifnull 22, 3) := by decide +kernel
theorem dX10_dropAsksOf_23 : decode cX10_dropAsksOf 23 = .ok (.aload 4, 2) := by decide +kernel
theorem dX10_dropAsksOf_25 : decode cX10_dropAsksOf 25 = .ok (.getfield 203, 3) := by decide +kernel
theorem dX10_dropAsksOf_28 : decode cX10_dropAsksOf 28 = .ok (.iload_n 1, 1) := by decide +kernel
theorem dX10_dropAsksOf_29 : decode cX10_dropAsksOf 29 = .ok (.if_icmp .ne 13, 3) := by decide +kernel
theorem dX10_dropAsksOf_32 : decode cX10_dropAsksOf 32 = .ok (.aload_n 0, 1) := by decide +kernel
theorem dX10_dropAsksOf_33 : decode cX10_dropAsksOf 33 = .ok (.getfield 54, 3) := by decide +kernel
theorem dX10_dropAsksOf_36 : decode cX10_dropAsksOf 36 = .ok (.iload_n 3, 1) := by decide +kernel
theorem dX10_dropAsksOf_37 : decode cX10_dropAsksOf 37 = .ok (.aconst_null, 1) := by decide +kernel
theorem dX10_dropAsksOf_38 : decode cX10_dropAsksOf 38 = .ok (.aastore, 1) := by decide +kernel
theorem dX10_dropAsksOf_39 : decode cX10_dropAsksOf 39 = .ok (.iinc 2 1, 3) := by decide +kernel
theorem dX10_dropAsksOf_42 : decode cX10_dropAsksOf 42 = .ok (.iinc 3 1, 3) := by decide +kernel
theorem dX10_dropAsksOf_45 : decode cX10_dropAsksOf 45 = .ok (.goto (-41), 3) := by decide +kernel
theorem dX10_dropAsksOf_48 : decode cX10_dropAsksOf 48 = .ok (.iload_n 2, 1) := by decide +kernel
theorem dX10_dropAsksOf_49 : decode cX10_dropAsksOf 49 = .ok (.ireturn, 1) := by decide +kernel
theorem dX10_takeAgeFromBehind_0 : decode cX10_takeAgeFromBehind 0 = .ok (.sipush 30000, 3) := by decide +kernel
theorem dX10_takeAgeFromBehind_3 : decode cX10_takeAgeFromBehind 3 = .ok (.istore_n 2, 1) := by decide +kernel
theorem dX10_takeAgeFromBehind_4 : decode cX10_takeAgeFromBehind 4 = .ok (.iconst (-1), 1) := by decide +kernel
theorem dX10_takeAgeFromBehind_5 : decode cX10_takeAgeFromBehind 5 = .ok (.istore_n 3, 1) := by decide +kernel
theorem dX10_takeAgeFromBehind_6 : decode cX10_takeAgeFromBehind 6 = .ok (.iconst 0, 1) := by decide +kernel
theorem dX10_takeAgeFromBehind_7 : decode cX10_takeAgeFromBehind 7 = .ok (.istore 4, 2) := by decide +kernel
theorem dX10_takeAgeFromBehind_9 : decode cX10_takeAgeFromBehind 9 = .ok (.iload 4, 2) := by decide +kernel
theorem dX10_takeAgeFromBehind_11 : decode cX10_takeAgeFromBehind 11 = .ok (.aload_n 1, 1) := by decide +kernel
theorem dX10_takeAgeFromBehind_12 : decode cX10_takeAgeFromBehind 12 = .ok (.getfield 153, 3) := by decide +kernel
theorem dX10_takeAgeFromBehind_15 : decode cX10_takeAgeFromBehind 15 = .ok (.invokevirtual 75, 3) := by decide +kernel
theorem dX10_takeAgeFromBehind_18 : decode cX10_takeAgeFromBehind 18 = .ok (.if_icmp .ge 60, 3) := by decide +kernel
theorem dX10_takeAgeFromBehind_21 : decode cX10_takeAgeFromBehind 21 = .ok (.aload_n 0, 1) := by decide +kernel
theorem dX10_takeAgeFromBehind_22 : decode cX10_takeAgeFromBehind 22 = .ok (.aload_n 1, 1) := by decide +kernel
theorem dX10_takeAgeFromBehind_23 : decode cX10_takeAgeFromBehind 23 = .ok (.getfield 153, 3) := by decide +kernel
theorem dX10_takeAgeFromBehind_26 : decode cX10_takeAgeFromBehind 26 = .ok (.iload 4, 2) := by decide +kernel
theorem dX10_takeAgeFromBehind_28 : decode cX10_takeAgeFromBehind 28 = .ok (.invokevirtual 156, 3) := by decide +kernel
theorem dX10_takeAgeFromBehind_31 : decode cX10_takeAgeFromBehind 31 = .ok (.invokevirtual 143, 3) := by decide +kernel
theorem dX10_takeAgeFromBehind_34 : decode cX10_takeAgeFromBehind 34 = .ok (.astore 5, 2) := by decide +kernel
theorem dX10_takeAgeFromBehind_36 : decode cX10_takeAgeFromBehind 36 = .ok (.aload 5, 2) := by decide +kernel
theorem dX10_takeAgeFromBehind_38 : decode cX10_takeAgeFromBehind 38 = .ok (.ifnull 12, 3) := by decide +kernel
theorem dX10_takeAgeFromBehind_41 : decode cX10_takeAgeFromBehind 41 = .ok (.aload 5, 2) := by decide +kernel
theorem dX10_takeAgeFromBehind_43 : decode cX10_takeAgeFromBehind 43 = .ok (.getfield 163, 3) := by decide +kernel
theorem dX10_takeAgeFromBehind_46 : decode cX10_takeAgeFromBehind 46 = .ok (.iconst (-1), 1) := by decide +kernel
theorem dX10_takeAgeFromBehind_47 : decode cX10_takeAgeFromBehind 47 = .ok (.if_icmp .ne 5, 3) := by decide +kernel
theorem dX10_takeAgeFromBehind_50 : decode cX10_takeAgeFromBehind 50 = .ok (.iconst 0, 1) := by decide +kernel
theorem dX10_takeAgeFromBehind_51 : decode cX10_takeAgeFromBehind 51 = .ok (.ireturn, 1) := by decide +kernel
theorem dX10_takeAgeFromBehind_52 : decode cX10_takeAgeFromBehind 52 = .ok (.iload_n 2, 1) := by decide +kernel
theorem dX10_takeAgeFromBehind_53 : decode cX10_takeAgeFromBehind 53 = .ok (.aload 5, 2) := by decide +kernel
theorem dX10_takeAgeFromBehind_55 : decode cX10_takeAgeFromBehind 55 = .ok (.getfield 160, 3) := by decide +kernel
theorem dX10_takeAgeFromBehind_58 : decode cX10_takeAgeFromBehind 58 = .ok (.invokestatic 302, 3) := by decide +kernel
theorem dX10_takeAgeFromBehind_61 : decode cX10_takeAgeFromBehind 61 = .ok (.istore_n 2, 1) := by decide +kernel
theorem dX10_takeAgeFromBehind_62 : decode cX10_takeAgeFromBehind 62 = .ok (.iload_n 3, 1) := by decide +kernel
theorem dX10_takeAgeFromBehind_63 : decode cX10_takeAgeFromBehind 63 = .ok (.aload 5, 2) := by decide +kernel
theorem dX10_takeAgeFromBehind_65 : decode cX10_takeAgeFromBehind 65 = .ok (.getfield 163, 3) := by decide +kernel
theorem dX10_takeAgeFromBehind_68 : decode cX10_takeAgeFromBehind 68 = .ok (.invokestatic 307, 3) := by decide +kernel
theorem dX10_takeAgeFromBehind_71 : decode cX10_takeAgeFromBehind 71 = .ok (.istore_n 3, 1) := by decide +kernel
theorem dX10_takeAgeFromBehind_72 : decode cX10_takeAgeFromBehind 72 = .ok (.iinc 4 1, 3) := by decide +kernel
theorem dX10_takeAgeFromBehind_75 : decode cX10_takeAgeFromBehind 75 = .ok (.goto (-66), 3) := by decide +kernel
theorem dX10_takeAgeFromBehind_78 : decode cX10_takeAgeFromBehind 78 = .ok (.iload_n 3, 1) := by decide +kernel
theorem dX10_takeAgeFromBehind_79 : decode cX10_takeAgeFromBehind 79 = .ok (.iconst (-1), 1) := by decide +kernel
theorem dX10_takeAgeFromBehind_80 : decode cX10_takeAgeFromBehind 80 = .ok (.if_icmp .ne 5, 3) := by decide +kernel
theorem dX10_takeAgeFromBehind_83 : decode cX10_takeAgeFromBehind 83 = .ok (.iconst 0, 1) := by decide +kernel
theorem dX10_takeAgeFromBehind_84 : decode cX10_takeAgeFromBehind 84 = .ok (.ireturn, 1) := by decide +kernel
theorem dX10_takeAgeFromBehind_85 : decode cX10_takeAgeFromBehind 85 = .ok (.aload_n 1, 1) := by decide +kernel
theorem dX10_takeAgeFromBehind_86 : decode cX10_takeAgeFromBehind 86 = .ok (.iload_n 2, 1) := by decide +kernel
theorem dX10_takeAgeFromBehind_87 : decode cX10_takeAgeFromBehind 87 = .ok (.putfield 160, 3) := by decide +kernel
theorem dX10_takeAgeFromBehind_90 : decode cX10_takeAgeFromBehind 90 = .ok (.aload_n 1, 1) := by decide +kernel
theorem dX10_takeAgeFromBehind_91 : decode cX10_takeAgeFromBehind 91 = .ok (.iload_n 3, 1) := by decide +kernel
theorem dX10_takeAgeFromBehind_92 : decode cX10_takeAgeFromBehind 92 = .ok (.putfield 163, 3) := by decide +kernel
theorem dX10_takeAgeFromBehind_95 : decode cX10_takeAgeFromBehind 95 = .ok (.iconst 1, 1) := by decide +kernel
theorem dX10_takeAgeFromBehind_96 : decode cX10_takeAgeFromBehind 96 = .ok (.ireturn, 1) := by decide +kernel
theorem dX10_settleViews_0 : decode cX10_settleViews 0 = .ok (.iconst 0, 1) := by decide +kernel
theorem dX10_settleViews_1 : decode cX10_settleViews 1 = .ok (.istore_n 1, 1) := by decide +kernel
theorem dX10_settleViews_2 : decode cX10_settleViews 2 = .ok (.iload_n 1, 1) := by decide +kernel
theorem dX10_settleViews_3 : decode cX10_settleViews 3 = .ok (.bipush 16, 2) := by decide +kernel
theorem dX10_settleViews_5 : decode cX10_settleViews 5 = .ok (.if_icmp .ge 34, 3) := by decide +kernel
theorem dX10_settleViews_8 : decode cX10_settleViews 8 = .ok (.aload_n 0, 1) := by decide +kernel
theorem dX10_settleViews_9 : decode cX10_settleViews 9 = .ok (.getfield 41, 3) := by decide +kernel
theorem dX10_settleViews_12 : decode cX10_settleViews 12 = .ok (.iload_n 1, 1) := by decide +kernel
theorem dX10_settleViews_13 : decode cX10_settleViews 13 = .ok (.aaload, 1) := by decide +kernel
theorem dX10_settleViews_14 : decode cX10_settleViews 14 = .ok (.astore_n 2, 1) := by decide +kernel
theorem dX10_settleViews_15 : decode cX10_settleViews 15 = .ok (.aload_n 2, 1) := by decide +kernel
theorem dX10_settleViews_16 : decode cX10_settleViews 16 = .ok (.ifnull 17, 3) := by decide +kernel
theorem dX10_settleViews_19 : decode cX10_settleViews 19 = .ok (.aload_n 2, 1) := by decide +kernel
theorem dX10_settleViews_20 : decode cX10_settleViews 20 = .ok (.getfield 147, 3) := by decide +kernel
theorem dX10_settleViews_23 : decode cX10_settleViews 23 = .ok (.iconst 1, 1) := by decide +kernel
theorem dX10_settleViews_24 : decode cX10_settleViews 24 = .ok (.if_icmp .ne 9, 3) := by decide +kernel
theorem dX10_settleViews_27 : decode cX10_settleViews 27 = .ok (.aload_n 0, 1) := by decide +kernel
theorem dX10_settleViews_28 : decode cX10_settleViews 28 = .ok (.aload_n 2, 1) := by decide +kernel
theorem dX10_settleViews_29 : decode cX10_settleViews 29 = .ok (.invokevirtual 247, 3) := by decide +kernel
theorem dX10_settleViews_32 : decode cX10_settleViews 32 = .ok (.pop, 1) := by decide +kernel
theorem dX10_settleViews_33 : decode cX10_settleViews 33 = .ok (.iinc 1 1, 3) := by decide +kernel
theorem dX10_settleViews_36 : decode cX10_settleViews 36 = .ok (.goto (-34), 3) := by decide +kernel
theorem dX10_settleViews_39 : decode cX10_settleViews 39 = .ok (.return_, 1) := by decide +kernel
theorem dX10_isBroken_0 : decode cX10_isBroken 0 = .ok (.aload_n 1, 1) := by decide +kernel
theorem dX10_isBroken_1 : decode cX10_isBroken 1 = .ok (.ifnull 31, 3) := by decide +kernel
theorem dX10_isBroken_4 : decode cX10_isBroken 4 = .ok (.aload_n 1, 1) := by decide +kernel
theorem dX10_isBroken_5 : decode cX10_isBroken 5 = .ok (.getfield 169, 3) := by decide +kernel
theorem dX10_isBroken_8 : decode cX10_isBroken 8 = .ok (.iconst (-1), 1) := by decide +kernel
theorem dX10_isBroken_9 : decode cX10_isBroken 9 = .ok (.if_icmp .eq 23, 3) := by decide +kernel
theorem dX10_isBroken_12 : decode cX10_isBroken 12 = .ok (.aload_n 1, 1) := by decide +kernel
theorem dX10_isBroken_13 : decode cX10_isBroken 13 = .ok (.aload_n 0, 1) := by decide +kernel
theorem dX10_isBroken_14 : decode cX10_isBroken 14 = .ok (.getfield 241, 3) := by decide +kernel
theorem dX10_isBroken_17 : decode cX10_isBroken 17 = .ok (.aload_n 1, 1) := by decide +kernel
theorem dX10_isBroken_18 : decode cX10_isBroken 18 = .ok (.getfield 169, 3) := by decide +kernel
theorem dX10_isBroken_21 : decode cX10_isBroken 21 = .ok (.isub, 1) := by decide +kernel
theorem dX10_isBroken_22 : decode cX10_isBroken 22 = .ok (.invokestatic 310, 3) := by decide +kernel
theorem dX10_isBroken_25 : decode cX10_isBroken 25 = .ok (.ifCond .eq 7, 3) := by decide +kernel
theorem dX10_isBroken_28 : decode cX10_isBroken 28 = .ok (.iconst 1, 1) := by decide +kernel
theorem dX10_isBroken_29 : decode cX10_isBroken 29 = .ok (.goto 4, 3) := by decide +kernel
theorem dX10_isBroken_32 : decode cX10_isBroken 32 = .ok (.iconst 0, 1) := by decide +kernel
theorem dX10_isBroken_33 : decode cX10_isBroken 33 = .ok (.ireturn, 1) := by decide +kernel
theorem dX10_isBelow_0 : decode cX10_isBelow 0 = .ok (.aload_n 0, 1) := by decide +kernel
theorem dX10_isBelow_1 : decode cX10_isBelow 1 = .ok (.getfield 163, 3) := by decide +kernel
theorem dX10_isBelow_4 : decode cX10_isBelow 4 = .ok (.iconst (-1), 1) := by decide +kernel
theorem dX10_isBelow_5 : decode cX10_isBelow 5 = .ok (.if_icmp .eq 11, 3) := by decide +kernel
theorem dX10_isBelow_8 : decode cX10_isBelow 8 = .ok (.aload_n 0, 1) := by decide +kernel
theorem dX10_isBelow_9 : decode cX10_isBelow 9 = .ok (.getfield 163, 3) := by decide +kernel
theorem dX10_isBelow_12 : decode cX10_isBelow 12 = .ok (.iload_n 1, 1) := by decide +kernel
theorem dX10_isBelow_13 : decode cX10_isBelow 13 = .ok (.if_icmp .ge 7, 3) := by decide +kernel
theorem dX10_isBelow_16 : decode cX10_isBelow 16 = .ok (.iconst 1, 1) := by decide +kernel
theorem dX10_isBelow_17 : decode cX10_isBelow 17 = .ok (.goto 4, 3) := by decide +kernel
theorem dX10_isBelow_20 : decode cX10_isBelow 20 = .ok (.iconst 0, 1) := by decide +kernel
theorem dX10_isBelow_21 : decode cX10_isBelow 21 = .ok (.ireturn, 1) := by decide +kernel
theorem dX10_firstLateBehind_0 : decode cX10_firstLateBehind 0 = .ok (.aload_n 0, 1) := by decide +kernel
theorem dX10_firstLateBehind_1 : decode cX10_firstLateBehind 1 = .ok (.iload_n 1, 1) := by decide +kernel
theorem dX10_firstLateBehind_2 : decode cX10_firstLateBehind 2 = .ok (.invokevirtual 143, 3) := by decide +kernel
theorem dX10_firstLateBehind_5 : decode cX10_firstLateBehind 5 = .ok (.astore_n 3, 1) := by decide +kernel
theorem dX10_firstLateBehind_6 : decode cX10_firstLateBehind 6 = .ok (.aload_n 3, 1) := by decide +kernel
theorem dX10_firstLateBehind_7 : decode cX10_firstLateBehind 7 = .ok (.ifnonnull 5, 3) := by decide +kernel
theorem dX10_firstLateBehind_10 : decode cX10_firstLateBehind 10 = .ok (.iconst (-1), 1) := by decide +kernel
theorem dX10_firstLateBehind_11 : decode cX10_firstLateBehind 11 = .ok (.ireturn, 1) := by decide +kernel
theorem dX10_firstLateBehind_12 : decode cX10_firstLateBehind 12 = .ok (.iconst 0, 1) := by decide +kernel
theorem dX10_firstLateBehind_13 : decode cX10_firstLateBehind 13 = .ok (.istore 4, 2) := by decide +kernel
theorem dX10_firstLateBehind_15 : decode cX10_firstLateBehind 15 = .ok (.iload 4, 2) := by decide +kernel
theorem dX10_firstLateBehind_17 : decode cX10_firstLateBehind 17 = .ok (.aload_n 3, 1) := by decide +kernel
theorem dX10_firstLateBehind_18 : decode cX10_firstLateBehind 18 = .ok (.getfield 153, 3) := by decide +kernel
theorem dX10_firstLateBehind_21 : decode cX10_firstLateBehind 21 = .ok (.invokevirtual 75, 3) := by decide +kernel
theorem dX10_firstLateBehind_24 : decode cX10_firstLateBehind 24 = .ok (.if_icmp .ge 48, 3) := by decide +kernel
theorem dX10_firstLateBehind_27 : decode cX10_firstLateBehind 27 = .ok (.aload_n 0, 1) := by decide +kernel
theorem dX10_firstLateBehind_28 : decode cX10_firstLateBehind 28 = .ok (.aload_n 3, 1) := by decide +kernel
theorem dX10_firstLateBehind_29 : decode cX10_firstLateBehind 29 = .ok (.getfield 153, 3) := by decide +kernel
theorem dX10_firstLateBehind_32 : decode cX10_firstLateBehind 32 = .ok (.iload 4, 2) := by decide +kernel
theorem dX10_firstLateBehind_34 : decode cX10_firstLateBehind 34 = .ok (.invokevirtual 156, 3) := by decide +kernel
theorem dX10_firstLateBehind_37 : decode cX10_firstLateBehind 37 = .ok (.invokevirtual 143, 3) := by decide +kernel
theorem dX10_firstLateBehind_40 : decode cX10_firstLateBehind 40 = .ok (.astore 5, 2) := by decide +kernel
theorem dX10_firstLateBehind_42 : decode cX10_firstLateBehind 42 = .ok (.aload 5, 2) := by decide +kernel
theorem dX10_firstLateBehind_44 : decode cX10_firstLateBehind 44 = .ok (.ifnull 22, 3) := by decide +kernel
theorem dX10_firstLateBehind_47 : decode cX10_firstLateBehind 47 = .ok (.aload 5, 2) := by decide +kernel
theorem dX10_firstLateBehind_49 : decode cX10_firstLateBehind 49 = .ok (.iload_n 2, 1) := by decide +kernel
theorem dX10_firstLateBehind_50 : decode cX10_firstLateBehind 50 = .ok (.invokestatic 310, 3) := by decide +kernel
theorem dX10_firstLateBehind_53 : decode cX10_firstLateBehind 53 = .ok (.ifCond .eq 13, 3) := by decide +kernel
theorem dX10_firstLateBehind_56 : decode cX10_firstLateBehind 56 = .ok (.aload_n 3, 1) := by decide +kernel
theorem dX10_firstLateBehind_57 : decode cX10_firstLateBehind 57 = .ok (.getfield 153, 3) := by decide +kernel
theorem dX10_firstLateBehind_60 : decode cX10_firstLateBehind 60 = .ok (.iload 4, 2) := by decide +kernel
theorem dX10_firstLateBehind_62 : decode cX10_firstLateBehind 62 = .ok (.invokevirtual 156, 3) := by decide +kernel
theorem dX10_firstLateBehind_65 : decode cX10_firstLateBehind 65 = .ok (.ireturn, 1) := by decide +kernel
theorem dX10_firstLateBehind_66 : decode cX10_firstLateBehind 66 = .ok (.iinc 4 1, 3) := by decide +kernel
theorem dX10_firstLateBehind_69 : decode cX10_firstLateBehind 69 = .ok (.goto (-54), 3) := by decide +kernel
theorem dX10_firstLateBehind_72 : decode cX10_firstLateBehind 72 = .ok (.iconst (-1), 1) := by decide +kernel
theorem dX10_firstLateBehind_73 : decode cX10_firstLateBehind 73 = .ok (.ireturn, 1) := by decide +kernel
theorem dX10_ownerOf_0 : decode cX10_ownerOf 0 = .ok (.aload_n 0, 1) := by decide +kernel
theorem dX10_ownerOf_1 : decode cX10_ownerOf 1 = .ok (.iload_n 1, 1) := by decide +kernel
theorem dX10_ownerOf_2 : decode cX10_ownerOf 2 = .ok (.invokevirtual 143, 3) := by decide +kernel
theorem dX10_ownerOf_5 : decode cX10_ownerOf 5 = .ok (.astore_n 2, 1) := by decide +kernel
theorem dX10_ownerOf_6 : decode cX10_ownerOf 6 = .ok (.iconst 0, 1) := by decide +kernel
theorem dX10_ownerOf_7 : decode cX10_ownerOf 7 = .ok (.istore_n 3, 1) := by decide +kernel
theorem dX10_ownerOf_8 : decode cX10_ownerOf 8 = .ok (.iload_n 3, 1) := by decide +kernel
theorem dX10_ownerOf_9 : decode cX10_ownerOf 9 = .ok (.bipush 16, 2) := by decide +kernel
theorem dX10_ownerOf_11 : decode cX10_ownerOf 11 = .ok (.if_icmp .ge 39, 3) := by decide +kernel
theorem dX10_ownerOf_14 : decode cX10_ownerOf 14 = .ok (.aload_n 2, 1) := by decide +kernel
theorem dX10_ownerOf_15 : decode cX10_ownerOf 15 = .ok (.ifnull 35, 3) := by decide +kernel
theorem dX10_ownerOf_18 : decode cX10_ownerOf 18 = .ok (.aload_n 2, 1) := by decide +kernel
theorem dX10_ownerOf_19 : decode cX10_ownerOf 19 = .ok (.getfield 257, 3) := by decide +kernel
theorem dX10_ownerOf_22 : decode cX10_ownerOf 22 = .ok (.iconst (-1), 1) := by decide +kernel
theorem dX10_ownerOf_23 : decode cX10_ownerOf 23 = .ok (.if_icmp .eq 8, 3) := by decide +kernel
theorem dX10_ownerOf_26 : decode cX10_ownerOf 26 = .ok (.aload_n 2, 1) := by decide +kernel
theorem dX10_ownerOf_27 : decode cX10_ownerOf 27 = .ok (.getfield 257, 3) := by decide +kernel
theorem dX10_ownerOf_30 : decode cX10_ownerOf 30 = .ok (.ireturn, 1) := by decide +kernel
theorem dX10_ownerOf_31 : decode cX10_ownerOf 31 = .ok (.aload_n 0, 1) := by decide +kernel
theorem dX10_ownerOf_32 : decode cX10_ownerOf 32 = .ok (.aload_n 2, 1) := by decide +kernel
theorem dX10_ownerOf_33 : decode cX10_ownerOf 33 = .ok (.getfield 153, 3) := by decide +kernel
theorem dX10_ownerOf_36 : decode cX10_ownerOf 36 = .ok (.iconst 0, 1) := by decide +kernel
theorem dX10_ownerOf_37 : decode cX10_ownerOf 37 = .ok (.invokevirtual 156, 3) := by decide +kernel
theorem dX10_ownerOf_40 : decode cX10_ownerOf 40 = .ok (.invokevirtual 143, 3) := by decide +kernel
theorem dX10_ownerOf_43 : decode cX10_ownerOf 43 = .ok (.astore_n 2, 1) := by decide +kernel
theorem dX10_ownerOf_44 : decode cX10_ownerOf 44 = .ok (.iinc 3 1, 3) := by decide +kernel
theorem dX10_ownerOf_47 : decode cX10_ownerOf 47 = .ok (.goto (-39), 3) := by decide +kernel
theorem dX10_ownerOf_50 : decode cX10_ownerOf 50 = .ok (.iconst (-1), 1) := by decide +kernel
theorem dX10_ownerOf_51 : decode cX10_ownerOf 51 = .ok (.ireturn, 1) := by decide +kernel
theorem dX10_usedTables_0 : decode cX10_usedTables 0 = .ok (.iconst 0, 1) := by decide +kernel
theorem dX10_usedTables_1 : decode cX10_usedTables 1 = .ok (.istore_n 2, 1) := by decide +kernel
theorem dX10_usedTables_2 : decode cX10_usedTables 2 = .ok (.iconst 0, 1) := by decide +kernel
theorem dX10_usedTables_3 : decode cX10_usedTables 3 = .ok (.istore_n 3, 1) := by decide +kernel
theorem dX10_usedTables_4 : decode cX10_usedTables 4 = .ok (.iload_n 3, 1) := by decide +kernel
theorem dX10_usedTables_5 : decode cX10_usedTables 5 = .ok (.bipush 40, 2) := by decide +kernel
theorem dX10_usedTables_7 : decode cX10_usedTables 7 = .ok (.if_icmp .ge 41, 3) := by decide +kernel
theorem dX10_usedTables_10 : decode cX10_usedTables 10 = .ok (.aload_n 0, 1) := by decide +kernel
theorem dX10_usedTables_11 : decode cX10_usedTables 11 = .ok (.getfield 54, 3) := by decide +kernel
theorem dX10_usedTables_14 : decode cX10_usedTables 14 = .ok (.iload_n 3, 1) := by decide +kernel
theorem dX10_usedTables_15 : decode cX10_usedTables 15 = .ok (.aaload, 1) := by decide +kernel
theorem dX10_usedTables_16 : decode cX10_usedTables 16 = .ok (.astore 4, 2) := by decide +kernel
theorem dX10_usedTables_18 : decode cX10_usedTables 18 = .ok (.aload 4, 2) := by decide +kernel
theorem dX10_usedTables_20 : decode cX10_usedTables 20 = .ok (.ifnull 22, 3) := by decide +kernel
theorem dX10_usedTables_23 : decode cX10_usedTables 23 = .ok (.aload 4, 2) := by decide +kernel
theorem dX10_usedTables_25 : decode cX10_usedTables 25 = .ok (.getfield 314, 3) := by decide +kernel
theorem dX10_usedTables_28 : decode cX10_usedTables 28 = .ok (.iload_n 1, 1) := by decide +kernel
theorem dX10_usedTables_29 : decode cX10_usedTables 29 = .ok (.if_icmp .lt 13, 3) := by decide +kernel
theorem dX10_usedTables_32 : decode cX10_usedTables 32 = .ok (.iload_n 2, 1) := by decide +kernel
theorem dX10_usedTables_33 : decode cX10_usedTables 33 = .ok (.iconst 1, 1) := by decide +kernel
theorem dX10_usedTables_34 : decode cX10_usedTables 34 = .ok (.aload 4, 2) := by decide +kernel
theorem dX10_usedTables_36 : decode cX10_usedTables 36 = .ok (.getfield 203, 3) := by decide +kernel
theorem dX10_usedTables_39 : decode cX10_usedTables 39 = .ok (.ishl, 1) := by decide +kernel
theorem dX10_usedTables_40 : decode cX10_usedTables 40 = .ok (.ior, 1) := by decide +kernel
theorem dX10_usedTables_41 : decode cX10_usedTables 41 = .ok (.istore_n 2, 1) := by decide +kernel
theorem dX10_usedTables_42 : decode cX10_usedTables 42 = .ok (.iinc 3 1, 3) := by decide +kernel
theorem dX10_usedTables_45 : decode cX10_usedTables 45 = .ok (.goto (-41), 3) := by decide +kernel
theorem dX10_usedTables_48 : decode cX10_usedTables 48 = .ok (.bipush 15, 2) := by decide +kernel
theorem dX10_usedTables_50 : decode cX10_usedTables 50 = .ok (.istore_n 3, 1) := by decide +kernel
theorem dX10_usedTables_51 : decode cX10_usedTables 51 = .ok (.iload_n 3, 1) := by decide +kernel
theorem dX10_usedTables_52 : decode cX10_usedTables 52 = .ok (.ifCond .lt 70, 3) := by decide +kernel
theorem dX10_usedTables_55 : decode cX10_usedTables 55 = .ok (.aload_n 0, 1) := by decide +kernel
theorem dX10_usedTables_56 : decode cX10_usedTables 56 = .ok (.getfield 41, 3) := by decide +kernel
theorem dX10_usedTables_59 : decode cX10_usedTables 59 = .ok (.iload_n 3, 1) := by decide +kernel
theorem dX10_usedTables_60 : decode cX10_usedTables 60 = .ok (.aaload, 1) := by decide +kernel
theorem dX10_usedTables_61 : decode cX10_usedTables 61 = .ok (.astore 4, 2) := by decide +kernel
theorem dX10_usedTables_63 : decode cX10_usedTables 63 = .ok (.aload 4, 2) := by decide +kernel
theorem dX10_usedTables_65 : decode cX10_usedTables 65 = .ok (.ifnull 51, 3) := by decide +kernel
theorem dX10_usedTables_68 : decode cX10_usedTables 68 = .ok (.iload_n 2, 1) := by decide +kernel
theorem dX10_usedTables_69 : decode cX10_usedTables 69 = .ok (.iload_n 3, 1) := by decide +kernel
theorem dX10_usedTables_70 : decode cX10_usedTables 70 = .ok (.ishr, 1) := by decide +kernel
theorem dX10_usedTables_71 : decode cX10_usedTables 71 = .ok (.iconst 1, 1) := by decide +kernel
theorem dX10_usedTables_72 : decode cX10_usedTables 72 = .ok (.iand, 1) := by decide +kernel
theorem dX10_usedTables_73 : decode cX10_usedTables 73 = .ok (.ifCond .ne 6, 3) := by decide +kernel
theorem dX10_usedTables_76 : decode cX10_usedTables 76 = .ok (.goto 40, 3) := by decide +kernel
theorem dX10_usedTables_79 : decode cX10_usedTables 79 = .ok (.iconst 0, 1) := by decide +kernel
theorem dX10_usedTables_80 : decode cX10_usedTables 80 = .ok (.istore 5, 2) := by decide +kernel
theorem dX10_usedTables_82 : decode cX10_usedTables 82 = .ok (.iload 5, 2) := by decide +kernel
theorem dX10_usedTables_84 : decode cX10_usedTables 84 = .ok (.aload 4, 2) := by decide +kernel
theorem dX10_usedTables_86 : decode cX10_usedTables 86 = .ok (.getfield 153, 3) := by decide +kernel
theorem dX10_usedTables_89 : decode cX10_usedTables 89 = .ok (.invokevirtual 75, 3) := by decide +kernel
theorem dX10_usedTables_92 : decode cX10_usedTables 92 = .ok (.if_icmp .ge 24, 3) := by decide +kernel
theorem dX10_usedTables_95 : decode cX10_usedTables 95 = .ok (.iload_n 2, 1) := by decide +kernel
theorem dX10_usedTables_96 : decode cX10_usedTables 96 = .ok (.iconst 1, 1) := by decide +kernel
theorem dX10_usedTables_97 : decode cX10_usedTables 97 = .ok (.aload 4, 2) := by decide +kernel
theorem dX10_usedTables_99 : decode cX10_usedTables 99 = .ok (.getfield 153, 3) := by decide +kernel
theorem dX10_usedTables_102 : decode cX10_usedTables 102 = .ok (.iload 5, 2) := by decide +kernel
theorem dX10_usedTables_104 : decode cX10_usedTables 104 = .ok (.invokevirtual 156, 3) := by decide +kernel
theorem dX10_usedTables_107 : decode cX10_usedTables 107 = .ok (.ishl, 1) := by decide +kernel
theorem dX10_usedTables_108 : decode cX10_usedTables 108 = .ok (.ior, 1) := by decide +kernel
theorem dX10_usedTables_109 : decode cX10_usedTables 109 = .ok (.istore_n 2, 1) := by decide +kernel
theorem dX10_usedTables_110 : decode cX10_usedTables 110 = .ok (.iinc 5 1, 3) := by decide +kernel
theorem dX10_usedTables_113 : decode cX10_usedTables 113 = .ok (.goto (-31), 3) := by decide +kernel
theorem dX10_usedTables_116 : decode cX10_usedTables 116 = .ok (.iinc 3 (-1), 3) := by decide +kernel
theorem dX10_usedTables_119 : decode cX10_usedTables 119 = .ok (.goto (-68), 3) := by decide +kernel
theorem dX10_usedTables_122 : decode cX10_usedTables 122 = .ok (.iload_n 2, 1) := by decide +kernel
theorem dX10_usedTables_123 : decode cX10_usedTables 123 = .ok (.ireturn, 1) := by decide +kernel
