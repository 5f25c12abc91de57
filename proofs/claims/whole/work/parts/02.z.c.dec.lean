/-! decode rows -/
theorem dX10_init_0 : decode cX10_init 0 = .ok (.aload_n 0, 1) := by decide +kernel
theorem dX10_init_1 : decode cX10_init 1 = .ok (.invokespecial 3, 3) := by decide +kernel
theorem dX10_init_4 : decode cX10_init 4 = .ok (.aload_n 0, 1) := by decide +kernel
theorem dX10_init_5 : decode cX10_init 5 = .ok (.new 9, 3) := by decide +kernel
theorem dX10_init_8 : decode cX10_init 8 = .ok (.dup, 1) := by decide +kernel
theorem dX10_init_9 : decode cX10_init 9 = .ok (.invokespecial 11, 3) := by decide +kernel
theorem dX10_init_12 : decode cX10_init 12 = .ok (.putfield 12, 3) := by decide +kernel
theorem dX10_init_15 : decode cX10_init 15 = .ok (.aload_n 0, 1) := by decide +kernel
theorem dX10_init_16 : decode cX10_init 16 = .ok (.iconst (-1), 1) := by decide +kernel
theorem dX10_init_17 : decode cX10_init 17 = .ok (.putfield 16, 3) := by decide +kernel
theorem dX10_init_20 : decode cX10_init 20 = .ok (.aload_n 0, 1) := by decide +kernel
theorem dX10_init_21 : decode cX10_init 21 = .ok (.new 20, 3) := by decide +kernel
theorem dX10_init_24 : decode cX10_init 24 = .ok (.dup, 1) := by decide +kernel
theorem dX10_init_25 : decode cX10_init 25 = .ok (.invokespecial 22, 3) := by decide +kernel
theorem dX10_init_28 : decode cX10_init 28 = .ok (.putfield 23, 3) := by decide +kernel
theorem dX10_init_31 : decode cX10_init 31 = .ok (.aload_n 0, 1) := by decide +kernel
theorem dX10_init_32 : decode cX10_init 32 = .ok (.new 27, 3) := by decide +kernel
theorem dX10_init_35 : decode cX10_init 35 = .ok (.dup, 1) := by decide +kernel
theorem dX10_init_36 : decode cX10_init 36 = .ok (.invokespecial 29, 3) := by decide +kernel
theorem dX10_init_39 : decode cX10_init 39 = .ok (.putfield 30, 3) := by decide +kernel
theorem dX10_init_42 : decode cX10_init 42 = .ok (.aload_n 0, 1) := by decide +kernel
theorem dX10_init_43 : decode cX10_init 43 = .ok (.new 34, 3) := by decide +kernel
theorem dX10_init_46 : decode cX10_init 46 = .ok (.dup, 1) := by decide +kernel
theorem dX10_init_47 : decode cX10_init 47 = .ok (.invokespecial 36, 3) := by decide +kernel
theorem dX10_init_50 : decode cX10_init 50 = .ok (.putfield 37, 3) := by decide +kernel
theorem dX10_init_53 : decode cX10_init 53 = .ok (.aload_n 0, 1) := by decide +kernel
theorem dX10_init_54 : decode cX10_init 54 = .ok (.new 41, 3) := by decide +kernel
theorem dX10_init_57 : decode cX10_init 57 = .ok (.dup, 1) := by decide +kernel
theorem dX10_init_58 : decode cX10_init 58 = .ok (.invokespecial 43, 3) := by decide +kernel
theorem dX10_init_61 : decode cX10_init 61 = .ok (.putfield 44, 3) := by decide +kernel
theorem dX10_init_64 : decode cX10_init 64 = .ok (.aload_n 0, 1) := by decide +kernel
theorem dX10_init_65 : decode cX10_init 65 = .ok (.iconst 3, 1) := by decide +kernel
theorem dX10_init_66 : decode cX10_init 66 = .ok (.anewarray 27, 3) := by decide +kernel
theorem dX10_init_69 : decode cX10_init 69 = .ok (.putfield 48, 3) := by decide +kernel
theorem dX10_init_72 : decode cX10_init 72 = .ok (.iconst 0, 1) := by decide +kernel
theorem dX10_init_73 : decode cX10_init 73 = .ok (.istore_n 1, 1) := by decide +kernel
theorem dX10_init_74 : decode cX10_init 74 = .ok (.iload_n 1, 1) := by decide +kernel
theorem dX10_init_75 : decode cX10_init 75 = .ok (.iconst 3, 1) := by decide +kernel
theorem dX10_init_76 : decode cX10_init 76 = .ok (.if_icmp .ge 22, 3) := by decide +kernel
theorem dX10_init_79 : decode cX10_init 79 = .ok (.aload_n 0, 1) := by decide +kernel
theorem dX10_init_80 : decode cX10_init 80 = .ok (.getfield 48, 3) := by decide +kernel
theorem dX10_init_83 : decode cX10_init 83 = .ok (.iload_n 1, 1) := by decide +kernel
theorem dX10_init_84 : decode cX10_init 84 = .ok (.new 27, 3) := by decide +kernel
theorem dX10_init_87 : decode cX10_init 87 = .ok (.dup, 1) := by decide +kernel
theorem dX10_init_88 : decode cX10_init 88 = .ok (.invokespecial 29, 3) := by decide +kernel
theorem dX10_init_91 : decode cX10_init 91 = .ok (.aastore, 1) := by decide +kernel
theorem dX10_init_92 : decode cX10_init 92 = .ok (.iinc 1 1, 3) := by decide +kernel
theorem dX10_init_95 : decode cX10_init 95 = .ok (.goto (-21), 3) := by decide +kernel
theorem dX10_init_98 : decode cX10_init 98 = .ok (.aload_n 0, 1) := by decide +kernel
theorem dX10_init_99 : decode cX10_init 99 = .ok (.iconst 0, 1) := by decide +kernel
theorem dX10_init_100 : decode cX10_init 100 = .ok (.putfield 52, 3) := by decide +kernel
theorem dX10_init_103 : decode cX10_init 103 = .ok (.aload_n 0, 1) := by decide +kernel
theorem dX10_init_104 : decode cX10_init 104 = .ok (.new 55, 3) := by decide +kernel
theorem dX10_init_107 : decode cX10_init 107 = .ok (.dup, 1) := by decide +kernel
theorem dX10_init_108 : decode cX10_init 108 = .ok (.invokespecial 57, 3) := by decide +kernel
theorem dX10_init_111 : decode cX10_init 111 = .ok (.putfield 58, 3) := by decide +kernel
theorem dX10_init_114 : decode cX10_init 114 = .ok (.aload_n 0, 1) := by decide +kernel
theorem dX10_init_115 : decode cX10_init 115 = .ok (.new 62, 3) := by decide +kernel
theorem dX10_init_118 : decode cX10_init 118 = .ok (.dup, 1) := by decide +kernel
theorem dX10_init_119 : decode cX10_init 119 = .ok (.invokespecial 64, 3) := by decide +kernel
theorem dX10_init_122 : decode cX10_init 122 = .ok (.putfield 65, 3) := by decide +kernel
theorem dX10_init_125 : decode cX10_init 125 = .ok (.aload_n 0, 1) := by decide +kernel
theorem dX10_init_126 : decode cX10_init 126 = .ok (.new 69, 3) := by decide +kernel
theorem dX10_init_129 : decode cX10_init 129 = .ok (.dup, 1) := by decide +kernel
theorem dX10_init_130 : decode cX10_init 130 = .ok (.invokespecial 71, 3) := by decide +kernel
theorem dX10_init_133 : decode cX10_init 133 = .ok (.putfield 72, 3) := by decide +kernel
theorem dX10_init_136 : decode cX10_init 136 = .ok (.return_, 1) := by decide +kernel
theorem dX10_feed_0 : decode cX10_feed 0 = .ok (.aload_n 0, 1) := by decide +kernel
theorem dX10_feed_1 : decode cX10_feed 1 = .ok (.getfield 12, 3) := by decide +kernel
theorem dX10_feed_4 : decode cX10_feed 4 = .ok (.getfield 76, 3) := by decide +kernel
theorem dX10_feed_7 : decode cX10_feed 7 = .ok (.astore 6, 2) := by decide +kernel
theorem dX10_feed_9 : decode cX10_feed 9 = .ok (.aload 6, 2) := by decide +kernel
theorem dX10_feed_11 : decode cX10_feed 11 = .ok (.getfield 80, 3) := by decide +kernel
theorem dX10_feed_14 : decode cX10_feed 14 = .ok (.sipush 1980, 3) := by decide +kernel
theorem dX10_feed_17 : decode cX10_feed 17 = .ok (.if_icmp .le 5, 3) := by decide +kernel
theorem dX10_feed_20 : decode cX10_feed 20 = .ok (.iconst (-1), 1) := by decide +kernel
theorem dX10_feed_21 : decode cX10_feed 21 = .ok (.ireturn, 1) := by decide +kernel
theorem dX10_feed_22 : decode cX10_feed 22 = .ok (.aload 6, 2) := by decide +kernel
theorem dX10_feed_24 : decode cX10_feed 24 = .ok (.iload_n 1, 1) := by decide +kernel
theorem dX10_feed_25 : decode cX10_feed 25 = .ok (.invokevirtual 85, 3) := by decide +kernel
theorem dX10_feed_28 : decode cX10_feed 28 = .ok (.aload 6, 2) := by decide +kernel
theorem dX10_feed_30 : decode cX10_feed 30 = .ok (.iload_n 2, 1) := by decide +kernel
theorem dX10_feed_31 : decode cX10_feed 31 = .ok (.invokevirtual 85, 3) := by decide +kernel
theorem dX10_feed_34 : decode cX10_feed 34 = .ok (.aload 6, 2) := by decide +kernel
theorem dX10_feed_36 : decode cX10_feed 36 = .ok (.iload_n 3, 1) := by decide +kernel
theorem dX10_feed_37 : decode cX10_feed 37 = .ok (.invokevirtual 85, 3) := by decide +kernel
theorem dX10_feed_40 : decode cX10_feed 40 = .ok (.aload 6, 2) := by decide +kernel
theorem dX10_feed_42 : decode cX10_feed 42 = .ok (.iload 4, 2) := by decide +kernel
theorem dX10_feed_44 : decode cX10_feed 44 = .ok (.invokevirtual 85, 3) := by decide +kernel
theorem dX10_feed_47 : decode cX10_feed 47 = .ok (.aload 6, 2) := by decide +kernel
theorem dX10_feed_49 : decode cX10_feed 49 = .ok (.iload 5, 2) := by decide +kernel
theorem dX10_feed_51 : decode cX10_feed 51 = .ok (.invokevirtual 85, 3) := by decide +kernel
theorem dX10_feed_54 : decode cX10_feed 54 = .ok (.aload 6, 2) := by decide +kernel
theorem dX10_feed_56 : decode cX10_feed 56 = .ok (.getfield 80, 3) := by decide +kernel
theorem dX10_feed_59 : decode cX10_feed 59 = .ok (.ireturn, 1) := by decide +kernel
theorem dX10_back_0 : decode cX10_back 0 = .ok (.iload_n 1, 1) := by decide +kernel
theorem dX10_back_1 : decode cX10_back 1 = .ok (.ifCond .lt 17, 3) := by decide +kernel
theorem dX10_back_4 : decode cX10_back 4 = .ok (.iload_n 1, 1) := by decide +kernel
theorem dX10_back_5 : decode cX10_back 5 = .ok (.aload_n 0, 1) := by decide +kernel
theorem dX10_back_6 : decode cX10_back 6 = .ok (.getfield 12, 3) := by decide +kernel
theorem dX10_back_9 : decode cX10_back 9 = .ok (.getfield 76, 3) := by decide +kernel
theorem dX10_back_12 : decode cX10_back 12 = .ok (.getfield 80, 3) := by decide +kernel
theorem dX10_back_15 : decode cX10_back 15 = .ok (.if_icmp .le 5, 3) := by decide +kernel
theorem dX10_back_18 : decode cX10_back 18 = .ok (.iconst (-1), 1) := by decide +kernel
theorem dX10_back_19 : decode cX10_back 19 = .ok (.ireturn, 1) := by decide +kernel
theorem dX10_back_20 : decode cX10_back 20 = .ok (.aload_n 0, 1) := by decide +kernel
theorem dX10_back_21 : decode cX10_back 21 = .ok (.getfield 12, 3) := by decide +kernel
theorem dX10_back_24 : decode cX10_back 24 = .ok (.getfield 76, 3) := by decide +kernel
theorem dX10_back_27 : decode cX10_back 27 = .ok (.dup, 1) := by decide +kernel
theorem dX10_back_28 : decode cX10_back 28 = .ok (.getfield 80, 3) := by decide +kernel
theorem dX10_back_31 : decode cX10_back 31 = .ok (.iload_n 1, 1) := by decide +kernel
theorem dX10_back_32 : decode cX10_back 32 = .ok (.isub, 1) := by decide +kernel
theorem dX10_back_33 : decode cX10_back 33 = .ok (.putfield 80, 3) := by decide +kernel
theorem dX10_back_36 : decode cX10_back 36 = .ok (.aload_n 0, 1) := by decide +kernel
theorem dX10_back_37 : decode cX10_back 37 = .ok (.getfield 12, 3) := by decide +kernel
theorem dX10_back_40 : decode cX10_back 40 = .ok (.getfield 76, 3) := by decide +kernel
theorem dX10_back_43 : decode cX10_back 43 = .ok (.getfield 80, 3) := by decide +kernel
theorem dX10_back_46 : decode cX10_back 46 = .ok (.ireturn, 1) := by decide +kernel
theorem dX10_read_0 : decode cX10_read 0 = .ok (.aload_n 0, 1) := by decide +kernel
theorem dX10_read_1 : decode cX10_read 1 = .ok (.getfield 12, 3) := by decide +kernel
theorem dX10_read_4 : decode cX10_read 4 = .ok (.invokevirtual 89, 3) := by decide +kernel
theorem dX10_read_7 : decode cX10_read 7 = .ok (.aload_n 0, 1) := by decide +kernel
theorem dX10_read_8 : decode cX10_read 8 = .ok (.getfield 12, 3) := by decide +kernel
theorem dX10_read_11 : decode cX10_read 11 = .ok (.invokevirtual 92, 3) := by decide +kernel
theorem dX10_read_14 : decode cX10_read 14 = .ok (.istore_n 1, 1) := by decide +kernel
theorem dX10_read_15 : decode cX10_read 15 = .ok (.aload_n 0, 1) := by decide +kernel
theorem dX10_read_16 : decode cX10_read 16 = .ok (.getfield 12, 3) := by decide +kernel
theorem dX10_read_19 : decode cX10_read 19 = .ok (.getfield 76, 3) := by decide +kernel
theorem dX10_read_22 : decode cX10_read 22 = .ok (.iconst 0, 1) := by decide +kernel
theorem dX10_read_23 : decode cX10_read 23 = .ok (.putfield 80, 3) := by decide +kernel
theorem dX10_read_26 : decode cX10_read 26 = .ok (.aload_n 0, 1) := by decide +kernel
theorem dX10_read_27 : decode cX10_read 27 = .ok (.iload_n 1, 1) := by decide +kernel
theorem dX10_read_28 : decode cX10_read 28 = .ok (.ifCond .ne 7, 3) := by decide +kernel
theorem dX10_read_31 : decode cX10_read 31 = .ok (.iconst (-1), 1) := by decide +kernel
theorem dX10_read_32 : decode cX10_read 32 = .ok (.goto 10, 3) := by decide +kernel
theorem dX10_read_35 : decode cX10_read 35 = .ok (.aload_n 0, 1) := by decide +kernel
theorem dX10_read_36 : decode cX10_read 36 = .ok (.getfield 12, 3) := by decide +kernel
theorem dX10_read_39 : decode cX10_read 39 = .ok (.getfield 96, 3) := by decide +kernel
theorem dX10_read_42 : decode cX10_read 42 = .ok (.putfield 16, 3) := by decide +kernel
theorem dX10_read_45 : decode cX10_read 45 = .ok (.iload_n 1, 1) := by decide +kernel
theorem dX10_read_46 : decode cX10_read 46 = .ok (.ifCond .ne 50, 3) := by decide +kernel
theorem dX10_read_49 : decode cX10_read 49 = .ok (.aload_n 0, 1) := by decide +kernel
theorem dX10_read_50 : decode cX10_read 50 = .ok (.aload_n 0, 1) := by decide +kernel
theorem dX10_read_51 : decode cX10_read 51 = .ok (.getfield 12, 3) := by decide +kernel
theorem dX10_read_54 : decode cX10_read 54 = .ok (.aload_n 0, 1) := by decide +kernel
theorem dX10_read_55 : decode cX10_read 55 = .ok (.getfield 23, 3) := by decide +kernel
theorem dX10_read_58 : decode cX10_read 58 = .ok (.invokevirtual 99, 3) := by decide +kernel
theorem dX10_read_61 : decode cX10_read 61 = .ok (.putfield 23, 3) := by decide +kernel
theorem dX10_read_64 : decode cX10_read 64 = .ok (.aload_n 0, 1) := by decide +kernel
theorem dX10_read_65 : decode cX10_read 65 = .ok (.getfield 30, 3) := by decide +kernel
theorem dX10_read_68 : decode cX10_read 68 = .ok (.aload_n 0, 1) := by decide +kernel
theorem dX10_read_69 : decode cX10_read 69 = .ok (.getfield 23, 3) := by decide +kernel
theorem dX10_read_72 : decode cX10_read 72 = .ok (.invokevirtual 103, 3) := by decide +kernel
theorem dX10_read_75 : decode cX10_read 75 = .ok (.aload_n 0, 1) := by decide +kernel
theorem dX10_read_76 : decode cX10_read 76 = .ok (.getfield 44, 3) := by decide +kernel
theorem dX10_read_79 : decode cX10_read 79 = .ok (.iconst 0, 1) := by decide +kernel
theorem dX10_read_80 : decode cX10_read 80 = .ok (.putfield 107, 3) := by decide +kernel
theorem dX10_read_83 : decode cX10_read 83 = .ok (.aload_n 0, 1) := by decide +kernel
theorem dX10_read_84 : decode cX10_read 84 = .ok (.getfield 58, 3) := by decide +kernel
theorem dX10_read_87 : decode cX10_read 87 = .ok (.iconst 0, 1) := by decide +kernel
theorem dX10_read_88 : decode cX10_read 88 = .ok (.putfield 110, 3) := by decide +kernel
theorem dX10_read_91 : decode cX10_read 91 = .ok (.aload_n 0, 1) := by decide +kernel
theorem dX10_read_92 : decode cX10_read 92 = .ok (.iconst 0, 1) := by decide +kernel
theorem dX10_read_93 : decode cX10_read 93 = .ok (.putfield 52, 3) := by decide +kernel
theorem dX10_read_96 : decode cX10_read 96 = .ok (.iload_n 1, 1) := by decide +kernel
theorem dX10_read_97 : decode cX10_read 97 = .ok (.ireturn, 1) := by decide +kernel
theorem dX10_place_0 : decode cX10_place 0 = .ok (.aload_n 0, 1) := by decide +kernel
theorem dX10_place_1 : decode cX10_place 1 = .ok (.getfield 16, 3) := by decide +kernel
theorem dX10_place_4 : decode cX10_place 4 = .ok (.ireturn, 1) := by decide +kernel
theorem dX10_being_0 : decode cX10_being 0 = .ok (.aload_n 0, 1) := by decide +kernel
theorem dX10_being_1 : decode cX10_being 1 = .ok (.getfield 23, 3) := by decide +kernel
theorem dX10_being_4 : decode cX10_being 4 = .ok (.iload_n 1, 1) := by decide +kernel
theorem dX10_being_5 : decode cX10_being 5 = .ok (.invokevirtual 113, 3) := by decide +kernel
theorem dX10_being_8 : decode cX10_being 8 = .ok (.ifCond .ne 5, 3) := by decide +kernel
theorem dX10_being_11 : decode cX10_being 11 = .ok (.iconst (-1), 1) := by decide +kernel
theorem dX10_being_12 : decode cX10_being 12 = .ok (.ireturn, 1) := by decide +kernel
theorem dX10_being_13 : decode cX10_being 13 = .ok (.iload_n 2, 1) := by decide +kernel
theorem dX10_being_14 : decode cX10_being 14 = .ok (.tableswitch 58 0 2 #[26, 36, 46], 26) := by decide +kernel
theorem dX10_being_40 : decode cX10_being 40 = .ok (.aload_n 0, 1) := by decide +kernel
theorem dX10_being_41 : decode cX10_being 41 = .ok (.getfield 23, 3) := by decide +kernel
theorem dX10_being_44 : decode cX10_being 44 = .ok (.getfield 117, 3) := by decide +kernel
theorem dX10_being_47 : decode cX10_being 47 = .ok (.iload_n 1, 1) := by decide +kernel
theorem dX10_being_48 : decode cX10_being 48 = .ok (.iaload, 1) := by decide +kernel
theorem dX10_being_49 : decode cX10_being 49 = .ok (.ireturn, 1) := by decide +kernel
theorem dX10_being_50 : decode cX10_being 50 = .ok (.aload_n 0, 1) := by decide +kernel
theorem dX10_being_51 : decode cX10_being 51 = .ok (.getfield 23, 3) := by decide +kernel
theorem dX10_being_54 : decode cX10_being 54 = .ok (.getfield 121, 3) := by decide +kernel
theorem dX10_being_57 : decode cX10_being 57 = .ok (.iload_n 1, 1) := by decide +kernel
theorem dX10_being_58 : decode cX10_being 58 = .ok (.iaload, 1) := by decide +kernel
theorem dX10_being_59 : decode cX10_being 59 = .ok (.ireturn, 1) := by decide +kernel
theorem dX10_being_60 : decode cX10_being 60 = .ok (.aload_n 0, 1) := by decide +kernel
theorem dX10_being_61 : decode cX10_being 61 = .ok (.getfield 30, 3) := by decide +kernel
theorem dX10_being_64 : decode cX10_being 64 = .ok (.getfield 124, 3) := by decide +kernel
theorem dX10_being_67 : decode cX10_being 67 = .ok (.iload_n 1, 1) := by decide +kernel
theorem dX10_being_68 : decode cX10_being 68 = .ok (.iushr, 1) := by decide +kernel
theorem dX10_being_69 : decode cX10_being 69 = .ok (.iconst 1, 1) := by decide +kernel
theorem dX10_being_70 : decode cX10_being 70 = .ok (.iand, 1) := by decide +kernel
theorem dX10_being_71 : decode cX10_being 71 = .ok (.ireturn, 1) := by decide +kernel
theorem dX10_being_72 : decode cX10_being 72 = .ok (.iconst (-1), 1) := by decide +kernel
theorem dX10_being_73 : decode cX10_being 73 = .ok (.ireturn, 1) := by decide +kernel
theorem dX10_set_0 : decode cX10_set 0 = .ok (.aload_n 0, 1) := by decide +kernel
theorem dX10_set_1 : decode cX10_set 1 = .ok (.getfield 23, 3) := by decide +kernel
theorem dX10_set_4 : decode cX10_set 4 = .ok (.iload_n 1, 1) := by decide +kernel
theorem dX10_set_5 : decode cX10_set 5 = .ok (.invokevirtual 113, 3) := by decide +kernel
theorem dX10_set_8 : decode cX10_set 8 = .ok (.ifCond .eq 26, 3) := by decide +kernel
theorem dX10_set_11 : decode cX10_set 11 = .ok (.aload_n 0, 1) := by decide +kernel
theorem dX10_set_12 : decode cX10_set 12 = .ok (.getfield 23, 3) := by decide +kernel
theorem dX10_set_15 : decode cX10_set 15 = .ok (.iload_n 2, 1) := by decide +kernel
theorem dX10_set_16 : decode cX10_set 16 = .ok (.invokevirtual 127, 3) := by decide +kernel
theorem dX10_set_19 : decode cX10_set 19 = .ok (.ifCond .eq 15, 3) := by decide +kernel
theorem dX10_set_22 : decode cX10_set 22 = .ok (.aload_n 0, 1) := by decide +kernel
theorem dX10_set_23 : decode cX10_set 23 = .ok (.getfield 23, 3) := by decide +kernel
theorem dX10_set_26 : decode cX10_set 26 = .ok (.iload_n 1, 1) := by decide +kernel
theorem dX10_set_27 : decode cX10_set 27 = .ok (.iload_n 2, 1) := by decide +kernel
theorem dX10_set_28 : decode cX10_set 28 = .ok (.invokevirtual 130, 3) := by decide +kernel
theorem dX10_set_31 : decode cX10_set 31 = .ok (.goto 4, 3) := by decide +kernel
theorem dX10_set_34 : decode cX10_set 34 = .ok (.iconst (-1), 1) := by decide +kernel
theorem dX10_set_35 : decode cX10_set 35 = .ok (.ireturn, 1) := by decide +kernel
theorem dX10_way_0 : decode cX10_way 0 = .ok (.iload_n 1, 1) := by decide +kernel
theorem dX10_way_1 : decode cX10_way 1 = .ok (.ifCond .lt 14, 3) := by decide +kernel
theorem dX10_way_4 : decode cX10_way 4 = .ok (.aload_n 0, 1) := by decide +kernel
theorem dX10_way_5 : decode cX10_way 5 = .ok (.getfield 23, 3) := by decide +kernel
theorem dX10_way_8 : decode cX10_way 8 = .ok (.iload_n 1, 1) := by decide +kernel
theorem dX10_way_9 : decode cX10_way 9 = .ok (.invokevirtual 127, 3) := by decide +kernel
theorem dX10_way_12 : decode cX10_way 12 = .ok (.ifCond .ne 5, 3) := by decide +kernel
theorem dX10_way_15 : decode cX10_way 15 = .ok (.iconst (-1), 1) := by decide +kernel
theorem dX10_way_16 : decode cX10_way 16 = .ok (.ireturn, 1) := by decide +kernel
theorem dX10_way_17 : decode cX10_way 17 = .ok (.iload_n 2, 1) := by decide +kernel
theorem dX10_way_18 : decode cX10_way 18 = .ok (.tableswitch 56 0 2 #[26, 36, 46], 26) := by decide +kernel
theorem dX10_way_44 : decode cX10_way 44 = .ok (.aload_n 0, 1) := by decide +kernel
theorem dX10_way_45 : decode cX10_way 45 = .ok (.getfield 23, 3) := by decide +kernel
theorem dX10_way_48 : decode cX10_way 48 = .ok (.getfield 134, 3) := by decide +kernel
theorem dX10_way_51 : decode cX10_way 51 = .ok (.iload_n 1, 1) := by decide +kernel
theorem dX10_way_52 : decode cX10_way 52 = .ok (.iaload, 1) := by decide +kernel
theorem dX10_way_53 : decode cX10_way 53 = .ok (.ireturn, 1) := by decide +kernel
theorem dX10_way_54 : decode cX10_way 54 = .ok (.aload_n 0, 1) := by decide +kernel
theorem dX10_way_55 : decode cX10_way 55 = .ok (.getfield 23, 3) := by decide +kernel
theorem dX10_way_58 : decode cX10_way 58 = .ok (.getfield 137, 3) := by decide +kernel
theorem dX10_way_61 : decode cX10_way 61 = .ok (.iload_n 1, 1) := by decide +kernel
theorem dX10_way_62 : decode cX10_way 62 = .ok (.iaload, 1) := by decide +kernel
theorem dX10_way_63 : decode cX10_way 63 = .ok (.ireturn, 1) := by decide +kernel
theorem dX10_way_64 : decode cX10_way 64 = .ok (.aload_n 0, 1) := by decide +kernel
theorem dX10_way_65 : decode cX10_way 65 = .ok (.getfield 23, 3) := by decide +kernel
theorem dX10_way_68 : decode cX10_way 68 = .ok (.getfield 140, 3) := by decide +kernel
theorem dX10_way_71 : decode cX10_way 71 = .ok (.iload_n 1, 1) := by decide +kernel
theorem dX10_way_72 : decode cX10_way 72 = .ok (.iaload, 1) := by decide +kernel
theorem dX10_way_73 : decode cX10_way 73 = .ok (.ireturn, 1) := by decide +kernel
theorem dX10_way_74 : decode cX10_way 74 = .ok (.iconst (-1), 1) := by decide +kernel
theorem dX10_way_75 : decode cX10_way 75 = .ok (.ireturn, 1) := by decide +kernel
theorem dX10_bridge_0 : decode cX10_bridge 0 = .ok (.aload_n 0, 1) := by decide +kernel
theorem dX10_bridge_1 : decode cX10_bridge 1 = .ok (.getfield 23, 3) := by decide +kernel
theorem dX10_bridge_4 : decode cX10_bridge 4 = .ok (.iload_n 1, 1) := by decide +kernel
theorem dX10_bridge_5 : decode cX10_bridge 5 = .ok (.invokevirtual 143, 3) := by decide +kernel
theorem dX10_bridge_8 : decode cX10_bridge 8 = .ok (.ifCond .ne 5, 3) := by decide +kernel
theorem dX10_bridge_11 : decode cX10_bridge 11 = .ok (.iconst (-1), 1) := by decide +kernel
theorem dX10_bridge_12 : decode cX10_bridge 12 = .ok (.ireturn, 1) := by decide +kernel
theorem dX10_bridge_13 : decode cX10_bridge 13 = .ok (.iload_n 2, 1) := by decide +kernel
theorem dX10_bridge_14 : decode cX10_bridge 14 = .ok (.tableswitch 126 0 6 #[42, 52, 62, 72, 82, 99, 116], 42) := by decide +kernel
theorem dX10_bridge_56 : decode cX10_bridge 56 = .ok (.aload_n 0, 1) := by decide +kernel
theorem dX10_bridge_57 : decode cX10_bridge 57 = .ok (.getfield 30, 3) := by decide +kernel
theorem dX10_bridge_60 : decode cX10_bridge 60 = .ok (.getfield 146, 3) := by decide +kernel
theorem dX10_bridge_63 : decode cX10_bridge 63 = .ok (.iload_n 1, 1) := by decide +kernel
theorem dX10_bridge_64 : decode cX10_bridge 64 = .ok (.iaload, 1) := by decide +kernel
theorem dX10_bridge_65 : decode cX10_bridge 65 = .ok (.ireturn, 1) := by decide +kernel
theorem dX10_bridge_66 : decode cX10_bridge 66 = .ok (.aload_n 0, 1) := by decide +kernel
theorem dX10_bridge_67 : decode cX10_bridge 67 = .ok (.getfield 23, 3) := by decide +kernel
theorem dX10_bridge_70 : decode cX10_bridge 70 = .ok (.getfield 149, 3) := by decide +kernel
theorem dX10_bridge_73 : decode cX10_bridge 73 = .ok (.iload_n 1, 1) := by decide +kernel
theorem dX10_bridge_74 : decode cX10_bridge 74 = .ok (.iaload, 1) := by decide +kernel
theorem dX10_bridge_75 : decode cX10_bridge 75 = .ok (.ireturn, 1) := by decide +kernel
theorem dX10_bridge_76 : decode cX10_bridge 76 = .ok (.aload_n 0, 1) := by decide +kernel
theorem dX10_bridge_77 : decode cX10_bridge 77 = .ok (.getfield 30, 3) := by decide +kernel
theorem dX10_bridge_80 : decode cX10_bridge 80 = .ok (.getfield 152, 3) := by decide +kernel
theorem dX10_bridge_83 : decode cX10_bridge 83 = .ok (.iload_n 1, 1) := by decide +kernel
theorem dX10_bridge_84 : decode cX10_bridge 84 = .ok (.iaload, 1) := by decide +kernel
theorem dX10_bridge_85 : decode cX10_bridge 85 = .ok (.ireturn, 1) := by decide +kernel
theorem dX10_bridge_86 : decode cX10_bridge 86 = .ok (.aload_n 0, 1) := by decide +kernel
theorem dX10_bridge_87 : decode cX10_bridge 87 = .ok (.getfield 30, 3) := by decide +kernel
theorem dX10_bridge_90 : decode cX10_bridge 90 = .ok (.getfield 155, 3) := by decide +kernel
theorem dX10_bridge_93 : decode cX10_bridge 93 = .ok (.iload_n 1, 1) := by decide +kernel
theorem dX10_bridge_94 : decode cX10_bridge 94 = .ok (.iaload, 1) := by decide +kernel
theorem dX10_bridge_95 : decode cX10_bridge 95 = .ok (.ireturn, 1) := by decide +kernel
theorem dX10_bridge_96 : decode cX10_bridge 96 = .ok (.aload_n 0, 1) := by decide +kernel
theorem dX10_bridge_97 : decode cX10_bridge 97 = .ok (.getfield 37, 3) := by decide +kernel
theorem dX10_bridge_100 : decode cX10_bridge 100 = .ok (.aload_n 0, 1) := by decide +kernel
theorem dX10_bridge_101 : decode cX10_bridge 101 = .ok (.getfield 23, 3) := by decide +kernel
theorem dX10_bridge_104 : decode cX10_bridge 104 = .ok (.aload_n 0, 1) := by decide +kernel
theorem dX10_bridge_105 : decode cX10_bridge 105 = .ok (.getfield 30, 3) := by decide +kernel
theorem dX10_bridge_108 : decode cX10_bridge 108 = .ok (.iload_n 1, 1) := by decide +kernel
theorem dX10_bridge_109 : decode cX10_bridge 109 = .ok (.invokevirtual 158, 3) := by decide +kernel
theorem dX10_bridge_112 : decode cX10_bridge 112 = .ok (.ireturn, 1) := by decide +kernel
theorem dX10_bridge_113 : decode cX10_bridge 113 = .ok (.aload_n 0, 1) := by decide +kernel
theorem dX10_bridge_114 : decode cX10_bridge 114 = .ok (.getfield 37, 3) := by decide +kernel
theorem dX10_bridge_117 : decode cX10_bridge 117 = .ok (.aload_n 0, 1) := by decide +kernel
theorem dX10_bridge_118 : decode cX10_bridge 118 = .ok (.getfield 23, 3) := by decide +kernel
theorem dX10_bridge_121 : decode cX10_bridge 121 = .ok (.aload_n 0, 1) := by decide +kernel
theorem dX10_bridge_122 : decode cX10_bridge 122 = .ok (.getfield 30, 3) := by decide +kernel
theorem dX10_bridge_125 : decode cX10_bridge 125 = .ok (.iload_n 1, 1) := by decide +kernel
theorem dX10_bridge_126 : decode cX10_bridge 126 = .ok (.invokevirtual 162, 3) := by decide +kernel
theorem dX10_bridge_129 : decode cX10_bridge 129 = .ok (.ireturn, 1) := by decide +kernel
theorem dX10_bridge_130 : decode cX10_bridge 130 = .ok (.aload_n 0, 1) := by decide +kernel
theorem dX10_bridge_131 : decode cX10_bridge 131 = .ok (.getfield 23, 3) := by decide +kernel
theorem dX10_bridge_134 : decode cX10_bridge 134 = .ok (.iload_n 1, 1) := by decide +kernel
theorem dX10_bridge_135 : decode cX10_bridge 135 = .ok (.iload_n 1, 1) := by decide +kernel
theorem dX10_bridge_136 : decode cX10_bridge 136 = .ok (.invokevirtual 165, 3) := by decide +kernel
theorem dX10_bridge_139 : decode cX10_bridge 139 = .ok (.ireturn, 1) := by decide +kernel
theorem dX10_bridge_140 : decode cX10_bridge 140 = .ok (.iconst (-1), 1) := by decide +kernel
theorem dX10_bridge_141 : decode cX10_bridge 141 = .ok (.ireturn, 1) := by decide +kernel
theorem dX10_asks_0 : decode cX10_asks 0 = .ok (.aload_n 0, 1) := by decide +kernel
theorem dX10_asks_1 : decode cX10_asks 1 = .ok (.getfield 23, 3) := by decide +kernel
theorem dX10_asks_4 : decode cX10_asks 4 = .ok (.iload_n 1, 1) := by decide +kernel
theorem dX10_asks_5 : decode cX10_asks 5 = .ok (.invokevirtual 143, 3) := by decide +kernel
theorem dX10_asks_8 : decode cX10_asks 8 = .ok (.ifCond .eq 34, 3) := by decide +kernel
theorem dX10_asks_11 : decode cX10_asks 11 = .ok (.aload_n 0, 1) := by decide +kernel
theorem dX10_asks_12 : decode cX10_asks 12 = .ok (.getfield 23, 3) := by decide +kernel
theorem dX10_asks_15 : decode cX10_asks 15 = .ok (.iload_n 2, 1) := by decide +kernel
theorem dX10_asks_16 : decode cX10_asks 16 = .ok (.invokevirtual 113, 3) := by decide +kernel
theorem dX10_asks_19 : decode cX10_asks 19 = .ok (.ifCond .eq 23, 3) := by decide +kernel
theorem dX10_asks_22 : decode cX10_asks 22 = .ok (.aload_n 0, 1) := by decide +kernel
theorem dX10_asks_23 : decode cX10_asks 23 = .ok (.getfield 37, 3) := by decide +kernel
theorem dX10_asks_26 : decode cX10_asks 26 = .ok (.aload_n 0, 1) := by decide +kernel
theorem dX10_asks_27 : decode cX10_asks 27 = .ok (.getfield 23, 3) := by decide +kernel
theorem dX10_asks_30 : decode cX10_asks 30 = .ok (.aload_n 0, 1) := by decide +kernel
theorem dX10_asks_31 : decode cX10_asks 31 = .ok (.getfield 30, 3) := by decide +kernel
theorem dX10_asks_34 : decode cX10_asks 34 = .ok (.iload_n 1, 1) := by decide +kernel
theorem dX10_asks_35 : decode cX10_asks 35 = .ok (.iload_n 2, 1) := by decide +kernel
theorem dX10_asks_36 : decode cX10_asks 36 = .ok (.invokevirtual 168, 3) := by decide +kernel
theorem dX10_asks_39 : decode cX10_asks 39 = .ok (.goto 4, 3) := by decide +kernel
theorem dX10_asks_42 : decode cX10_asks 42 = .ok (.iconst (-1), 1) := by decide +kernel
theorem dX10_asks_43 : decode cX10_asks 43 = .ok (.ireturn, 1) := by decide +kernel
theorem dX10_holds_0 : decode cX10_holds 0 = .ok (.aload_n 0, 1) := by decide +kernel
theorem dX10_holds_1 : decode cX10_holds 1 = .ok (.getfield 23, 3) := by decide +kernel
theorem dX10_holds_4 : decode cX10_holds 4 = .ok (.iload_n 1, 1) := by decide +kernel
theorem dX10_holds_5 : decode cX10_holds 5 = .ok (.invokevirtual 143, 3) := by decide +kernel
theorem dX10_holds_8 : decode cX10_holds 8 = .ok (.ifCond .eq 18, 3) := by decide +kernel
theorem dX10_holds_11 : decode cX10_holds 11 = .ok (.iload_n 2, 1) := by decide +kernel
theorem dX10_holds_12 : decode cX10_holds 12 = .ok (.ifCond .lt 14, 3) := by decide +kernel
theorem dX10_holds_15 : decode cX10_holds 15 = .ok (.iload_n 2, 1) := by decide +kernel
theorem dX10_holds_16 : decode cX10_holds 16 = .ok (.aload_n 0, 1) := by decide +kernel
theorem dX10_holds_17 : decode cX10_holds 17 = .ok (.getfield 23, 3) := by decide +kernel
theorem dX10_holds_20 : decode cX10_holds 20 = .ok (.invokevirtual 172, 3) := by decide +kernel
theorem dX10_holds_23 : decode cX10_holds 23 = .ok (.if_icmp .lt 5, 3) := by decide +kernel
theorem dX10_holds_26 : decode cX10_holds 26 = .ok (.iconst (-1), 1) := by decide +kernel
theorem dX10_holds_27 : decode cX10_holds 27 = .ok (.ireturn, 1) := by decide +kernel
theorem dX10_holds_28 : decode cX10_holds 28 = .ok (.aload_n 0, 1) := by decide +kernel
theorem dX10_holds_29 : decode cX10_holds 29 = .ok (.getfield 23, 3) := by decide +kernel
theorem dX10_holds_32 : decode cX10_holds 32 = .ok (.iload_n 1, 1) := by decide +kernel
theorem dX10_holds_33 : decode cX10_holds 33 = .ok (.iload_n 2, 1) := by decide +kernel
theorem dX10_holds_34 : decode cX10_holds 34 = .ok (.invokevirtual 175, 3) := by decide +kernel
theorem dX10_holds_37 : decode cX10_holds 37 = .ok (.ifCond .eq 7, 3) := by decide +kernel
theorem dX10_holds_40 : decode cX10_holds 40 = .ok (.iconst 1, 1) := by decide +kernel
theorem dX10_holds_41 : decode cX10_holds 41 = .ok (.goto 4, 3) := by decide +kernel
theorem dX10_holds_44 : decode cX10_holds 44 = .ok (.iconst 0, 1) := by decide +kernel
theorem dX10_holds_45 : decode cX10_holds 45 = .ok (.ireturn, 1) := by decide +kernel
theorem dX10_taken_0 : decode cX10_taken 0 = .ok (.aload_n 0, 1) := by decide +kernel
theorem dX10_taken_1 : decode cX10_taken 1 = .ok (.iload_n 1, 1) := by decide +kernel
theorem dX10_taken_2 : decode cX10_taken 2 = .ok (.iload_n 2, 1) := by decide +kernel
theorem dX10_taken_3 : decode cX10_taken 3 = .ok (.iload_n 3, 1) := by decide +kernel
theorem dX10_taken_4 : decode cX10_taken 4 = .ok (.invokevirtual 179, 3) := by decide +kernel
theorem dX10_taken_7 : decode cX10_taken 7 = .ok (.ifCond .ne 5, 3) := by decide +kernel
theorem dX10_taken_10 : decode cX10_taken 10 = .ok (.iconst (-1), 1) := by decide +kernel
theorem dX10_taken_11 : decode cX10_taken 11 = .ok (.ireturn, 1) := by decide +kernel
theorem dX10_taken_12 : decode cX10_taken 12 = .ok (.aload_n 0, 1) := by decide +kernel
theorem dX10_taken_13 : decode cX10_taken 13 = .ok (.getfield 23, 3) := by decide +kernel
theorem dX10_taken_16 : decode cX10_taken 16 = .ok (.iload_n 2, 1) := by decide +kernel
theorem dX10_taken_17 : decode cX10_taken 17 = .ok (.iload_n 3, 1) := by decide +kernel
theorem dX10_taken_18 : decode cX10_taken 18 = .ok (.invokevirtual 130, 3) := by decide +kernel
theorem dX10_taken_21 : decode cX10_taken 21 = .ok (.istore 4, 2) := by decide +kernel
theorem dX10_taken_23 : decode cX10_taken 23 = .ok (.aload_n 0, 1) := by decide +kernel
theorem dX10_taken_24 : decode cX10_taken 24 = .ok (.getfield 23, 3) := by decide +kernel
theorem dX10_taken_27 : decode cX10_taken 27 = .ok (.iload_n 1, 1) := by decide +kernel
theorem dX10_taken_28 : decode cX10_taken 28 = .ok (.iload 4, 2) := by decide +kernel
theorem dX10_taken_30 : decode cX10_taken 30 = .ok (.invokevirtual 175, 3) := by decide +kernel
theorem dX10_taken_33 : decode cX10_taken 33 = .ok (.ifCond .ne 5, 3) := by decide +kernel
theorem dX10_taken_36 : decode cX10_taken 36 = .ok (.iconst 1, 1) := by decide +kernel
theorem dX10_taken_37 : decode cX10_taken 37 = .ok (.ireturn, 1) := by decide +kernel
theorem dX10_taken_38 : decode cX10_taken 38 = .ok (.aload_n 0, 1) := by decide +kernel
theorem dX10_taken_39 : decode cX10_taken 39 = .ok (.getfield 30, 3) := by decide +kernel
theorem dX10_taken_42 : decode cX10_taken 42 = .ok (.iload 4, 2) := by decide +kernel
theorem dX10_taken_44 : decode cX10_taken 44 = .ok (.invokevirtual 183, 3) := by decide +kernel
theorem dX10_taken_47 : decode cX10_taken 47 = .ok (.ifCond .eq 7, 3) := by decide +kernel
theorem dX10_taken_50 : decode cX10_taken 50 = .ok (.iconst 2, 1) := by decide +kernel
theorem dX10_taken_51 : decode cX10_taken 51 = .ok (.goto 4, 3) := by decide +kernel
theorem dX10_taken_54 : decode cX10_taken 54 = .ok (.iconst 0, 1) := by decide +kernel
theorem dX10_taken_55 : decode cX10_taken 55 = .ok (.ireturn, 1) := by decide +kernel
theorem dX10_hasAll_0 : decode cX10_hasAll 0 = .ok (.aload_n 0, 1) := by decide +kernel
theorem dX10_hasAll_1 : decode cX10_hasAll 1 = .ok (.getfield 23, 3) := by decide +kernel
theorem dX10_hasAll_4 : decode cX10_hasAll 4 = .ok (.iload_n 1, 1) := by decide +kernel
theorem dX10_hasAll_5 : decode cX10_hasAll 5 = .ok (.invokevirtual 143, 3) := by decide +kernel
theorem dX10_hasAll_8 : decode cX10_hasAll 8 = .ok (.ifCond .eq 29, 3) := by decide +kernel
theorem dX10_hasAll_11 : decode cX10_hasAll 11 = .ok (.aload_n 0, 1) := by decide +kernel
theorem dX10_hasAll_12 : decode cX10_hasAll 12 = .ok (.getfield 23, 3) := by decide +kernel
theorem dX10_hasAll_15 : decode cX10_hasAll 15 = .ok (.iload_n 2, 1) := by decide +kernel
theorem dX10_hasAll_16 : decode cX10_hasAll 16 = .ok (.invokevirtual 113, 3) := by decide +kernel
theorem dX10_hasAll_19 : decode cX10_hasAll 19 = .ok (.ifCond .eq 18, 3) := by decide +kernel
theorem dX10_hasAll_22 : decode cX10_hasAll 22 = .ok (.aload_n 0, 1) := by decide +kernel
theorem dX10_hasAll_23 : decode cX10_hasAll 23 = .ok (.getfield 23, 3) := by decide +kernel
theorem dX10_hasAll_26 : decode cX10_hasAll 26 = .ok (.iload_n 3, 1) := by decide +kernel
theorem dX10_hasAll_27 : decode cX10_hasAll 27 = .ok (.invokevirtual 127, 3) := by decide +kernel
theorem dX10_hasAll_30 : decode cX10_hasAll 30 = .ok (.ifCond .eq 7, 3) := by decide +kernel
theorem dX10_hasAll_33 : decode cX10_hasAll 33 = .ok (.iconst 1, 1) := by decide +kernel
theorem dX10_hasAll_34 : decode cX10_hasAll 34 = .ok (.goto 4, 3) := by decide +kernel
theorem dX10_hasAll_37 : decode cX10_hasAll 37 = .ok (.iconst 0, 1) := by decide +kernel
theorem dX10_hasAll_38 : decode cX10_hasAll 38 = .ok (.ireturn, 1) := by decide +kernel
theorem dX10_send_0 : decode cX10_send 0 = .ok (.aload_n 0, 1) := by decide +kernel
theorem dX10_send_1 : decode cX10_send 1 = .ok (.iload_n 1, 1) := by decide +kernel
theorem dX10_send_2 : decode cX10_send 2 = .ok (.iload_n 2, 1) := by decide +kernel
theorem dX10_send_3 : decode cX10_send 3 = .ok (.iload_n 3, 1) := by decide +kernel
theorem dX10_send_4 : decode cX10_send 4 = .ok (.invokevirtual 179, 3) := by decide +kernel
theorem dX10_send_7 : decode cX10_send 7 = .ok (.ifCond .ne 5, 3) := by decide +kernel
theorem dX10_send_10 : decode cX10_send 10 = .ok (.iconst (-1), 1) := by decide +kernel
theorem dX10_send_11 : decode cX10_send 11 = .ok (.ireturn, 1) := by decide +kernel
theorem dX10_send_12 : decode cX10_send 12 = .ok (.aload_n 0, 1) := by decide +kernel
theorem dX10_send_13 : decode cX10_send 13 = .ok (.getfield 30, 3) := by decide +kernel
theorem dX10_send_16 : decode cX10_send 16 = .ok (.iload_n 2, 1) := by decide +kernel
theorem dX10_send_17 : decode cX10_send 17 = .ok (.invokevirtual 186, 3) := by decide +kernel
theorem dX10_send_20 : decode cX10_send 20 = .ok (.ifCond .eq 15, 3) := by decide +kernel
theorem dX10_send_23 : decode cX10_send 23 = .ok (.aload_n 0, 1) := by decide +kernel
theorem dX10_send_24 : decode cX10_send 24 = .ok (.getfield 30, 3) := by decide +kernel
theorem dX10_send_27 : decode cX10_send 27 = .ok (.getfield 152, 3) := by decide +kernel
theorem dX10_send_30 : decode cX10_send 30 = .ok (.iload_n 1, 1) := by decide +kernel
theorem dX10_send_31 : decode cX10_send 31 = .ok (.iaload, 1) := by decide +kernel
theorem dX10_send_32 : decode cX10_send 32 = .ok (.ifCond .eq 6, 3) := by decide +kernel
theorem dX10_send_35 : decode cX10_send 35 = .ok (.bipush (-2), 2) := by decide +kernel
theorem dX10_send_37 : decode cX10_send 37 = .ok (.ireturn, 1) := by decide +kernel
theorem dX10_send_38 : decode cX10_send 38 = .ok (.aload_n 0, 1) := by decide +kernel
theorem dX10_send_39 : decode cX10_send 39 = .ok (.getfield 44, 3) := by decide +kernel
theorem dX10_send_42 : decode cX10_send 42 = .ok (.aload_n 0, 1) := by decide +kernel
theorem dX10_send_43 : decode cX10_send 43 = .ok (.getfield 30, 3) := by decide +kernel
theorem dX10_send_46 : decode cX10_send 46 = .ok (.invokevirtual 189, 3) := by decide +kernel
theorem dX10_send_49 : decode cX10_send 49 = .ok (.aload_n 0, 1) := by decide +kernel
theorem dX10_send_50 : decode cX10_send 50 = .ok (.getfield 23, 3) := by decide +kernel
theorem dX10_send_53 : decode cX10_send 53 = .ok (.iload_n 2, 1) := by decide +kernel
theorem dX10_send_54 : decode cX10_send 54 = .ok (.iload_n 3, 1) := by decide +kernel
theorem dX10_send_55 : decode cX10_send 55 = .ok (.invokevirtual 130, 3) := by decide +kernel
theorem dX10_send_58 : decode cX10_send 58 = .ok (.istore 4, 2) := by decide +kernel
theorem dX10_send_60 : decode cX10_send 60 = .ok (.aload_n 0, 1) := by decide +kernel
theorem dX10_send_61 : decode cX10_send 61 = .ok (.getfield 30, 3) := by decide +kernel
theorem dX10_send_64 : decode cX10_send 64 = .ok (.dup, 1) := by decide +kernel
theorem dX10_send_65 : decode cX10_send 65 = .ok (.getfield 193, 3) := by decide +kernel
theorem dX10_send_68 : decode cX10_send 68 = .ok (.aload_n 0, 1) := by decide +kernel
theorem dX10_send_69 : decode cX10_send 69 = .ok (.getfield 23, 3) := by decide +kernel
theorem dX10_send_72 : decode cX10_send 72 = .ok (.iload_n 3, 1) := by decide +kernel
theorem dX10_send_73 : decode cX10_send 73 = .ok (.invokevirtual 196, 3) := by decide +kernel
theorem dX10_send_76 : decode cX10_send 76 = .ok (.iadd, 1) := by decide +kernel
theorem dX10_send_77 : decode cX10_send 77 = .ok (.putfield 193, 3) := by decide +kernel
theorem dX10_send_80 : decode cX10_send 80 = .ok (.aload_n 0, 1) := by decide +kernel
theorem dX10_send_81 : decode cX10_send 81 = .ok (.getfield 30, 3) := by decide +kernel
theorem dX10_send_84 : decode cX10_send 84 = .ok (.aload_n 0, 1) := by decide +kernel
theorem dX10_send_85 : decode cX10_send 85 = .ok (.getfield 23, 3) := by decide +kernel
theorem dX10_send_88 : decode cX10_send 88 = .ok (.iload_n 1, 1) := by decide +kernel
theorem dX10_send_89 : decode cX10_send 89 = .ok (.iload 4, 2) := by decide +kernel
theorem dX10_send_91 : decode cX10_send 91 = .ok (.invokevirtual 200, 3) := by decide +kernel
theorem dX10_send_94 : decode cX10_send 94 = .ok (.ifCond .ne 5, 3) := by decide +kernel
theorem dX10_send_97 : decode cX10_send 97 = .ok (.iconst 0, 1) := by decide +kernel
theorem dX10_send_98 : decode cX10_send 98 = .ok (.ireturn, 1) := by decide +kernel
theorem dX10_send_99 : decode cX10_send 99 = .ok (.aload_n 0, 1) := by decide +kernel
theorem dX10_send_100 : decode cX10_send 100 = .ok (.getfield 30, 3) := by decide +kernel
theorem dX10_send_103 : decode cX10_send 103 = .ok (.dup, 1) := by decide +kernel
theorem dX10_send_104 : decode cX10_send 104 = .ok (.getfield 193, 3) := by decide +kernel
theorem dX10_send_107 : decode cX10_send 107 = .ok (.aload_n 0, 1) := by decide +kernel
theorem dX10_send_108 : decode cX10_send 108 = .ok (.getfield 23, 3) := by decide +kernel
theorem dX10_send_111 : decode cX10_send 111 = .ok (.getfield 117, 3) := by decide +kernel
theorem dX10_send_114 : decode cX10_send 114 = .ok (.iload_n 2, 1) := by decide +kernel
theorem dX10_send_115 : decode cX10_send 115 = .ok (.iaload, 1) := by decide +kernel
theorem dX10_send_116 : decode cX10_send 116 = .ok (.iadd, 1) := by decide +kernel
theorem dX10_send_117 : decode cX10_send 117 = .ok (.putfield 193, 3) := by decide +kernel
theorem dX10_send_120 : decode cX10_send 120 = .ok (.aload_n 0, 1) := by decide +kernel
theorem dX10_send_121 : decode cX10_send 121 = .ok (.getfield 30, 3) := by decide +kernel
theorem dX10_send_124 : decode cX10_send 124 = .ok (.iload_n 1, 1) := by decide +kernel
theorem dX10_send_125 : decode cX10_send 125 = .ok (.iload_n 2, 1) := by decide +kernel
theorem dX10_send_126 : decode cX10_send 126 = .ok (.invokevirtual 204, 3) := by decide +kernel
theorem dX10_send_129 : decode cX10_send 129 = .ok (.iload 4, 2) := by decide +kernel
theorem dX10_send_131 : decode cX10_send 131 = .ok (.iconst 1, 1) := by decide +kernel
theorem dX10_send_132 : decode cX10_send 132 = .ok (.iand, 1) := by decide +kernel
theorem dX10_send_133 : decode cX10_send 133 = .ok (.ifCond .eq 5, 3) := by decide +kernel
theorem dX10_send_136 : decode cX10_send 136 = .ok (.iconst 1, 1) := by decide +kernel
theorem dX10_send_137 : decode cX10_send 137 = .ok (.ireturn, 1) := by decide +kernel
theorem dX10_send_138 : decode cX10_send 138 = .ok (.aload_n 0, 1) := by decide +kernel
theorem dX10_send_139 : decode cX10_send 139 = .ok (.getfield 30, 3) := by decide +kernel
theorem dX10_send_142 : decode cX10_send 142 = .ok (.iload_n 1, 1) := by decide +kernel
theorem dX10_send_143 : decode cX10_send 143 = .ok (.iload 4, 2) := by decide +kernel
theorem dX10_send_145 : decode cX10_send 145 = .ok (.invokevirtual 208, 3) := by decide +kernel
theorem dX10_send_148 : decode cX10_send 148 = .ok (.iconst 2, 1) := by decide +kernel
theorem dX10_send_149 : decode cX10_send 149 = .ok (.ireturn, 1) := by decide +kernel
theorem dX10_mend_0 : decode cX10_mend 0 = .ok (.aload_n 0, 1) := by decide +kernel
theorem dX10_mend_1 : decode cX10_mend 1 = .ok (.getfield 23, 3) := by decide +kernel
theorem dX10_mend_4 : decode cX10_mend 4 = .ok (.iload_n 1, 1) := by decide +kernel
theorem dX10_mend_5 : decode cX10_mend 5 = .ok (.invokevirtual 143, 3) := by decide +kernel
theorem dX10_mend_8 : decode cX10_mend 8 = .ok (.ifCond .ne 5, 3) := by decide +kernel
theorem dX10_mend_11 : decode cX10_mend 11 = .ok (.iconst (-1), 1) := by decide +kernel
theorem dX10_mend_12 : decode cX10_mend 12 = .ok (.ireturn, 1) := by decide +kernel
theorem dX10_mend_13 : decode cX10_mend 13 = .ok (.aload_n 0, 1) := by decide +kernel
theorem dX10_mend_14 : decode cX10_mend 14 = .ok (.getfield 30, 3) := by decide +kernel
theorem dX10_mend_17 : decode cX10_mend 17 = .ok (.iload_n 1, 1) := by decide +kernel
theorem dX10_mend_18 : decode cX10_mend 18 = .ok (.invokevirtual 211, 3) := by decide +kernel
theorem dX10_mend_21 : decode cX10_mend 21 = .ok (.ifCond .ne 6, 3) := by decide +kernel
theorem dX10_mend_24 : decode cX10_mend 24 = .ok (.bipush (-2), 2) := by decide +kernel
theorem dX10_mend_26 : decode cX10_mend 26 = .ok (.ireturn, 1) := by decide +kernel
theorem dX10_mend_27 : decode cX10_mend 27 = .ok (.aload_n 0, 1) := by decide +kernel
theorem dX10_mend_28 : decode cX10_mend 28 = .ok (.getfield 44, 3) := by decide +kernel
theorem dX10_mend_31 : decode cX10_mend 31 = .ok (.aload_n 0, 1) := by decide +kernel
theorem dX10_mend_32 : decode cX10_mend 32 = .ok (.getfield 30, 3) := by decide +kernel
theorem dX10_mend_35 : decode cX10_mend 35 = .ok (.invokevirtual 189, 3) := by decide +kernel
theorem dX10_mend_38 : decode cX10_mend 38 = .ok (.aload_n 0, 1) := by decide +kernel
theorem dX10_mend_39 : decode cX10_mend 39 = .ok (.getfield 30, 3) := by decide +kernel
theorem dX10_mend_42 : decode cX10_mend 42 = .ok (.dup, 1) := by decide +kernel
theorem dX10_mend_43 : decode cX10_mend 43 = .ok (.getfield 193, 3) := by decide +kernel
theorem dX10_mend_46 : decode cX10_mend 46 = .ok (.aload_n 0, 1) := by decide +kernel
theorem dX10_mend_47 : decode cX10_mend 47 = .ok (.getfield 37, 3) := by decide +kernel
theorem dX10_mend_50 : decode cX10_mend 50 = .ok (.aload_n 0, 1) := by decide +kernel
theorem dX10_mend_51 : decode cX10_mend 51 = .ok (.getfield 23, 3) := by decide +kernel
theorem dX10_mend_54 : decode cX10_mend 54 = .ok (.aload_n 0, 1) := by decide +kernel
theorem dX10_mend_55 : decode cX10_mend 55 = .ok (.getfield 30, 3) := by decide +kernel
theorem dX10_mend_58 : decode cX10_mend 58 = .ok (.iload_n 1, 1) := by decide +kernel
theorem dX10_mend_59 : decode cX10_mend 59 = .ok (.invokevirtual 162, 3) := by decide +kernel
theorem dX10_mend_62 : decode cX10_mend 62 = .ok (.iadd, 1) := by decide +kernel
theorem dX10_mend_63 : decode cX10_mend 63 = .ok (.putfield 193, 3) := by decide +kernel
theorem dX10_mend_66 : decode cX10_mend 66 = .ok (.aload_n 0, 1) := by decide +kernel
theorem dX10_mend_67 : decode cX10_mend 67 = .ok (.getfield 30, 3) := by decide +kernel
theorem dX10_mend_70 : decode cX10_mend 70 = .ok (.getfield 146, 3) := by decide +kernel
theorem dX10_mend_73 : decode cX10_mend 73 = .ok (.iload_n 1, 1) := by decide +kernel
theorem dX10_mend_74 : decode cX10_mend 74 = .ok (.dup2, 1) := by decide +kernel
theorem dX10_mend_75 : decode cX10_mend 75 = .ok (.iaload, 1) := by decide +kernel
theorem dX10_mend_76 : decode cX10_mend 76 = .ok (.iconst 1, 1) := by decide +kernel
theorem dX10_mend_77 : decode cX10_mend 77 = .ok (.iadd, 1) := by decide +kernel
theorem dX10_mend_78 : decode cX10_mend 78 = .ok (.iastore, 1) := by decide +kernel
theorem dX10_mend_79 : decode cX10_mend 79 = .ok (.aload_n 0, 1) := by decide +kernel
theorem dX10_mend_80 : decode cX10_mend 80 = .ok (.getfield 30, 3) := by decide +kernel
theorem dX10_mend_83 : decode cX10_mend 83 = .ok (.getfield 146, 3) := by decide +kernel
theorem dX10_mend_86 : decode cX10_mend 86 = .ok (.iload_n 1, 1) := by decide +kernel
theorem dX10_mend_87 : decode cX10_mend 87 = .ok (.iaload, 1) := by decide +kernel
theorem dX10_mend_88 : decode cX10_mend 88 = .ok (.ireturn, 1) := by decide +kernel
theorem dX10_years_0 : decode cX10_years 0 = .ok (.iload_n 1, 1) := by decide +kernel
theorem dX10_years_1 : decode cX10_years 1 = .ok (.ifCond .lt 9, 3) := by decide +kernel
theorem dX10_years_4 : decode cX10_years 4 = .ok (.iload_n 1, 1) := by decide +kernel
theorem dX10_years_5 : decode cX10_years 5 = .ok (.bipush 60, 2) := by decide +kernel
theorem dX10_years_7 : decode cX10_years 7 = .ok (.if_icmp .le 5, 3) := by decide +kernel
theorem dX10_years_10 : decode cX10_years 10 = .ok (.iconst (-1), 1) := by decide +kernel
theorem dX10_years_11 : decode cX10_years 11 = .ok (.ireturn, 1) := by decide +kernel
theorem dX10_years_12 : decode cX10_years 12 = .ok (.iload_n 1, 1) := by decide +kernel
theorem dX10_years_13 : decode cX10_years 13 = .ok (.ifCond .le 37, 3) := by decide +kernel
theorem dX10_years_16 : decode cX10_years 16 = .ok (.aload_n 0, 1) := by decide +kernel
theorem dX10_years_17 : decode cX10_years 17 = .ok (.getfield 44, 3) := by decide +kernel
theorem dX10_years_20 : decode cX10_years 20 = .ok (.aload_n 0, 1) := by decide +kernel
theorem dX10_years_21 : decode cX10_years 21 = .ok (.getfield 30, 3) := by decide +kernel
theorem dX10_years_24 : decode cX10_years 24 = .ok (.invokevirtual 189, 3) := by decide +kernel
theorem dX10_years_27 : decode cX10_years 27 = .ok (.aload_n 0, 1) := by decide +kernel
theorem dX10_years_28 : decode cX10_years 28 = .ok (.getfield 37, 3) := by decide +kernel
theorem dX10_years_31 : decode cX10_years 31 = .ok (.aload_n 0, 1) := by decide +kernel
theorem dX10_years_32 : decode cX10_years 32 = .ok (.getfield 23, 3) := by decide +kernel
theorem dX10_years_35 : decode cX10_years 35 = .ok (.aload_n 0, 1) := by decide +kernel
theorem dX10_years_36 : decode cX10_years 36 = .ok (.getfield 30, 3) := by decide +kernel
theorem dX10_years_39 : decode cX10_years 39 = .ok (.iload_n 1, 1) := by decide +kernel
theorem dX10_years_40 : decode cX10_years 40 = .ok (.aload_n 0, 1) := by decide +kernel
theorem dX10_years_41 : decode cX10_years 41 = .ok (.getfield 23, 3) := by decide +kernel
theorem dX10_years_44 : decode cX10_years 44 = .ok (.getfield 214, 3) := by decide +kernel
theorem dX10_years_47 : decode cX10_years 47 = .ok (.invokevirtual 217, 3) := by decide +kernel
theorem dX10_years_50 : decode cX10_years 50 = .ok (.aload_n 0, 1) := by decide +kernel
theorem dX10_years_51 : decode cX10_years 51 = .ok (.getfield 30, 3) := by decide +kernel
theorem dX10_years_54 : decode cX10_years 54 = .ok (.getfield 221, 3) := by decide +kernel
theorem dX10_years_57 : decode cX10_years 57 = .ok (.ireturn, 1) := by decide +kernel
theorem dX10_undo_0 : decode cX10_undo 0 = .ok (.aload_n 0, 1) := by decide +kernel
theorem dX10_undo_1 : decode cX10_undo 1 = .ok (.getfield 44, 3) := by decide +kernel
theorem dX10_undo_4 : decode cX10_undo 4 = .ok (.aload_n 0, 1) := by decide +kernel
theorem dX10_undo_5 : decode cX10_undo 5 = .ok (.getfield 30, 3) := by decide +kernel
theorem dX10_undo_8 : decode cX10_undo 8 = .ok (.invokevirtual 224, 3) := by decide +kernel
theorem dX10_undo_11 : decode cX10_undo 11 = .ok (.ireturn, 1) := by decide +kernel
theorem dX10_cheap_0 : decode cX10_cheap 0 = .ok (.aload_n 0, 1) := by decide +kernel
theorem dX10_cheap_1 : decode cX10_cheap 1 = .ok (.getfield 23, 3) := by decide +kernel
theorem dX10_cheap_4 : decode cX10_cheap 4 = .ok (.iload_n 1, 1) := by decide +kernel
theorem dX10_cheap_5 : decode cX10_cheap 5 = .ok (.invokevirtual 143, 3) := by decide +kernel
theorem dX10_cheap_8 : decode cX10_cheap 8 = .ok (.ifCond .eq 12, 3) := by decide +kernel
theorem dX10_cheap_11 : decode cX10_cheap 11 = .ok (.iload_n 2, 1) := by decide +kernel
theorem dX10_cheap_12 : decode cX10_cheap 12 = .ok (.ifCond .lt 8, 3) := by decide +kernel
theorem dX10_cheap_15 : decode cX10_cheap 15 = .ok (.iload_n 2, 1) := by decide +kernel
theorem dX10_cheap_16 : decode cX10_cheap 16 = .ok (.iconst 2, 1) := by decide +kernel
theorem dX10_cheap_17 : decode cX10_cheap 17 = .ok (.if_icmp .le 5, 3) := by decide +kernel
theorem dX10_cheap_20 : decode cX10_cheap 20 = .ok (.iconst (-1), 1) := by decide +kernel
theorem dX10_cheap_21 : decode cX10_cheap 21 = .ok (.ireturn, 1) := by decide +kernel
theorem dX10_cheap_22 : decode cX10_cheap 22 = .ok (.aload_n 0, 1) := by decide +kernel
theorem dX10_cheap_23 : decode cX10_cheap 23 = .ok (.getfield 65, 3) := by decide +kernel
theorem dX10_cheap_26 : decode cX10_cheap 26 = .ok (.aload_n 0, 1) := by decide +kernel
theorem dX10_cheap_27 : decode cX10_cheap 27 = .ok (.getfield 23, 3) := by decide +kernel
theorem dX10_cheap_30 : decode cX10_cheap 30 = .ok (.aload_n 0, 1) := by decide +kernel
theorem dX10_cheap_31 : decode cX10_cheap 31 = .ok (.getfield 30, 3) := by decide +kernel
theorem dX10_cheap_34 : decode cX10_cheap 34 = .ok (.iload_n 1, 1) := by decide +kernel
theorem dX10_cheap_35 : decode cX10_cheap 35 = .ok (.invokevirtual 228, 3) := by decide +kernel
theorem dX10_cheap_38 : decode cX10_cheap 38 = .ok (.ifCond .ne 6, 3) := by decide +kernel
theorem dX10_cheap_41 : decode cX10_cheap 41 = .ok (.bipush (-2), 2) := by decide +kernel
theorem dX10_cheap_43 : decode cX10_cheap 43 = .ok (.ireturn, 1) := by decide +kernel
theorem dX10_cheap_44 : decode cX10_cheap 44 = .ok (.iload_n 2, 1) := by decide +kernel
theorem dX10_cheap_45 : decode cX10_cheap 45 = .ok (.lookupswitch 43 #[(0, 27), (1, 35)], 27) := by decide +kernel
theorem dX10_cheap_72 : decode cX10_cheap 72 = .ok (.aload_n 0, 1) := by decide +kernel
theorem dX10_cheap_73 : decode cX10_cheap 73 = .ok (.getfield 65, 3) := by decide +kernel
theorem dX10_cheap_76 : decode cX10_cheap 76 = .ok (.getfield 232, 3) := by decide +kernel
theorem dX10_cheap_79 : decode cX10_cheap 79 = .ok (.ireturn, 1) := by decide +kernel
theorem dX10_cheap_80 : decode cX10_cheap 80 = .ok (.aload_n 0, 1) := by decide +kernel
theorem dX10_cheap_81 : decode cX10_cheap 81 = .ok (.getfield 65, 3) := by decide +kernel
theorem dX10_cheap_84 : decode cX10_cheap 84 = .ok (.getfield 235, 3) := by decide +kernel
theorem dX10_cheap_87 : decode cX10_cheap 87 = .ok (.ireturn, 1) := by decide +kernel
theorem dX10_cheap_88 : decode cX10_cheap 88 = .ok (.aload_n 0, 1) := by decide +kernel
theorem dX10_cheap_89 : decode cX10_cheap 89 = .ok (.getfield 65, 3) := by decide +kernel
theorem dX10_cheap_92 : decode cX10_cheap 92 = .ok (.getfield 238, 3) := by decide +kernel
theorem dX10_cheap_95 : decode cX10_cheap 95 = .ok (.invokestatic 241, 3) := by decide +kernel
theorem dX10_cheap_98 : decode cX10_cheap 98 = .ok (.ireturn, 1) := by decide +kernel
theorem dX10_wayTold_0 : decode cX10_wayTold 0 = .ok (.iload_n 0, 1) := by decide +kernel
theorem dX10_wayTold_1 : decode cX10_wayTold 1 = .ok (.iconst (-1), 1) := by decide +kernel
theorem dX10_wayTold_2 : decode cX10_wayTold 2 = .ok (.if_icmp .ne 8, 3) := by decide +kernel
theorem dX10_wayTold_5 : decode cX10_wayTold 5 = .ok (.bipush 9, 2) := by decide +kernel
theorem dX10_wayTold_7 : decode cX10_wayTold 7 = .ok (.goto 4, 3) := by decide +kernel
theorem dX10_wayTold_10 : decode cX10_wayTold 10 = .ok (.iload_n 0, 1) := by decide +kernel
theorem dX10_wayTold_11 : decode cX10_wayTold 11 = .ok (.ireturn, 1) := by decide +kernel
theorem dX10_cheats_0 : decode cX10_cheats 0 = .ok (.aload_n 0, 1) := by decide +kernel
theorem dX10_cheats_1 : decode cX10_cheats 1 = .ok (.getfield 23, 3) := by decide +kernel
theorem dX10_cheats_4 : decode cX10_cheats 4 = .ok (.iload_n 1, 1) := by decide +kernel
theorem dX10_cheats_5 : decode cX10_cheats 5 = .ok (.invokevirtual 143, 3) := by decide +kernel
theorem dX10_cheats_8 : decode cX10_cheats 8 = .ok (.ifCond .ne 5, 3) := by decide +kernel
theorem dX10_cheats_11 : decode cX10_cheats 11 = .ok (.iconst (-1), 1) := by decide +kernel
theorem dX10_cheats_12 : decode cX10_cheats 12 = .ok (.ireturn, 1) := by decide +kernel
theorem dX10_cheats_13 : decode cX10_cheats 13 = .ok (.aload_n 0, 1) := by decide +kernel
theorem dX10_cheats_14 : decode cX10_cheats 14 = .ok (.getfield 72, 3) := by decide +kernel
theorem dX10_cheats_17 : decode cX10_cheats 17 = .ok (.aload_n 0, 1) := by decide +kernel
theorem dX10_cheats_18 : decode cX10_cheats 18 = .ok (.getfield 23, 3) := by decide +kernel
theorem dX10_cheats_21 : decode cX10_cheats 21 = .ok (.aload_n 0, 1) := by decide +kernel
theorem dX10_cheats_22 : decode cX10_cheats 22 = .ok (.getfield 30, 3) := by decide +kernel
theorem dX10_cheats_25 : decode cX10_cheats 25 = .ok (.iload_n 1, 1) := by decide +kernel
theorem dX10_cheats_26 : decode cX10_cheats 26 = .ok (.invokevirtual 244, 3) := by decide +kernel
theorem dX10_cheats_29 : decode cX10_cheats 29 = .ok (.aload_n 0, 1) := by decide +kernel
theorem dX10_cheats_30 : decode cX10_cheats 30 = .ok (.getfield 72, 3) := by decide +kernel
theorem dX10_cheats_33 : decode cX10_cheats 33 = .ok (.getfield 248, 3) := by decide +kernel
theorem dX10_cheats_36 : decode cX10_cheats 36 = .ok (.ireturn, 1) := by decide +kernel
theorem dX10_all_0 : decode cX10_all 0 = .ok (.iload_n 1, 1) := by decide +kernel
theorem dX10_all_1 : decode cX10_all 1 = .ok (.iconst (-1), 1) := by decide +kernel
theorem dX10_all_2 : decode cX10_all 2 = .ok (.if_icmp .ne 34, 3) := by decide +kernel
theorem dX10_all_5 : decode cX10_all 5 = .ok (.aload_n 0, 1) := by decide +kernel
theorem dX10_all_6 : decode cX10_all 6 = .ok (.getfield 65, 3) := by decide +kernel
theorem dX10_all_9 : decode cX10_all 9 = .ok (.aload_n 0, 1) := by decide +kernel
theorem dX10_all_10 : decode cX10_all 10 = .ok (.getfield 23, 3) := by decide +kernel
theorem dX10_all_13 : decode cX10_all 13 = .ok (.aload_n 0, 1) := by decide +kernel
theorem dX10_all_14 : decode cX10_all 14 = .ok (.getfield 30, 3) := by decide +kernel
theorem dX10_all_17 : decode cX10_all 17 = .ok (.invokevirtual 249, 3) := by decide +kernel
theorem dX10_all_20 : decode cX10_all 20 = .ok (.ifCond .eq 13, 3) := by decide +kernel
theorem dX10_all_23 : decode cX10_all 23 = .ok (.aload_n 0, 1) := by decide +kernel
theorem dX10_all_24 : decode cX10_all 24 = .ok (.getfield 65, 3) := by decide +kernel
theorem dX10_all_27 : decode cX10_all 27 = .ok (.getfield 253, 3) := by decide +kernel
theorem dX10_all_30 : decode cX10_all 30 = .ok (.goto 5, 3) := by decide +kernel
theorem dX10_all_33 : decode cX10_all 33 = .ok (.bipush (-2), 2) := by decide +kernel
theorem dX10_all_35 : decode cX10_all 35 = .ok (.ireturn, 1) := by decide +kernel
theorem dX10_all_36 : decode cX10_all 36 = .ok (.aload_n 0, 1) := by decide +kernel
theorem dX10_all_37 : decode cX10_all 37 = .ok (.getfield 23, 3) := by decide +kernel
theorem dX10_all_40 : decode cX10_all 40 = .ok (.iload_n 1, 1) := by decide +kernel
theorem dX10_all_41 : decode cX10_all 41 = .ok (.invokevirtual 143, 3) := by decide +kernel
theorem dX10_all_44 : decode cX10_all 44 = .ok (.ifCond .eq 12, 3) := by decide +kernel
theorem dX10_all_47 : decode cX10_all 47 = .ok (.iload_n 2, 1) := by decide +kernel
theorem dX10_all_48 : decode cX10_all 48 = .ok (.ifCond .lt 8, 3) := by decide +kernel
theorem dX10_all_51 : decode cX10_all 51 = .ok (.iload_n 2, 1) := by decide +kernel
theorem dX10_all_52 : decode cX10_all 52 = .ok (.iconst 1, 1) := by decide +kernel
theorem dX10_all_53 : decode cX10_all 53 = .ok (.if_icmp .le 5, 3) := by decide +kernel
theorem dX10_all_56 : decode cX10_all 56 = .ok (.iconst (-1), 1) := by decide +kernel
theorem dX10_all_57 : decode cX10_all 57 = .ok (.ireturn, 1) := by decide +kernel
theorem dX10_all_58 : decode cX10_all 58 = .ok (.aload_n 0, 1) := by decide +kernel
theorem dX10_all_59 : decode cX10_all 59 = .ok (.getfield 30, 3) := by decide +kernel
theorem dX10_all_62 : decode cX10_all 62 = .ok (.getfield 152, 3) := by decide +kernel
theorem dX10_all_65 : decode cX10_all 65 = .ok (.iload_n 1, 1) := by decide +kernel
theorem dX10_all_66 : decode cX10_all 66 = .ok (.iaload, 1) := by decide +kernel
theorem dX10_all_67 : decode cX10_all 67 = .ok (.ifCond .eq 6, 3) := by decide +kernel
theorem dX10_all_70 : decode cX10_all 70 = .ok (.bipush (-3), 2) := by decide +kernel
theorem dX10_all_72 : decode cX10_all 72 = .ok (.ireturn, 1) := by decide +kernel
theorem dX10_all_73 : decode cX10_all 73 = .ok (.aload_n 0, 1) := by decide +kernel
theorem dX10_all_74 : decode cX10_all 74 = .ok (.getfield 65, 3) := by decide +kernel
theorem dX10_all_77 : decode cX10_all 77 = .ok (.aload_n 0, 1) := by decide +kernel
theorem dX10_all_78 : decode cX10_all 78 = .ok (.getfield 23, 3) := by decide +kernel
theorem dX10_all_81 : decode cX10_all 81 = .ok (.aload_n 0, 1) := by decide +kernel
theorem dX10_all_82 : decode cX10_all 82 = .ok (.getfield 30, 3) := by decide +kernel
theorem dX10_all_85 : decode cX10_all 85 = .ok (.invokevirtual 249, 3) := by decide +kernel
theorem dX10_all_88 : decode cX10_all 88 = .ok (.ifCond .ne 6, 3) := by decide +kernel
theorem dX10_all_91 : decode cX10_all 91 = .ok (.bipush (-2), 2) := by decide +kernel
theorem dX10_all_93 : decode cX10_all 93 = .ok (.ireturn, 1) := by decide +kernel
theorem dX10_all_94 : decode cX10_all 94 = .ok (.iload_n 2, 1) := by decide +kernel
theorem dX10_all_95 : decode cX10_all 95 = .ok (.ifCond .ne 15, 3) := by decide +kernel
theorem dX10_all_98 : decode cX10_all 98 = .ok (.aload_n 0, 1) := by decide +kernel
theorem dX10_all_99 : decode cX10_all 99 = .ok (.getfield 65, 3) := by decide +kernel
theorem dX10_all_102 : decode cX10_all 102 = .ok (.getfield 256, 3) := by decide +kernel
theorem dX10_all_105 : decode cX10_all 105 = .ok (.iload_n 1, 1) := by decide +kernel
theorem dX10_all_106 : decode cX10_all 106 = .ok (.iaload, 1) := by decide +kernel
theorem dX10_all_107 : decode cX10_all 107 = .ok (.goto 15, 3) := by decide +kernel
theorem dX10_all_110 : decode cX10_all 110 = .ok (.aload_n 0, 1) := by decide +kernel
theorem dX10_all_111 : decode cX10_all 111 = .ok (.getfield 65, 3) := by decide +kernel
theorem dX10_all_114 : decode cX10_all 114 = .ok (.getfield 259, 3) := by decide +kernel
theorem dX10_all_117 : decode cX10_all 117 = .ok (.iload_n 1, 1) := by decide +kernel
theorem dX10_all_118 : decode cX10_all 118 = .ok (.iaload, 1) := by decide +kernel
theorem dX10_all_119 : decode cX10_all 119 = .ok (.invokestatic 241, 3) := by decide +kernel
theorem dX10_all_122 : decode cX10_all 122 = .ok (.ireturn, 1) := by decide +kernel
theorem dX10_bar_0 : decode cX10_bar 0 = .ok (.aload_n 0, 1) := by decide +kernel
theorem dX10_bar_1 : decode cX10_bar 1 = .ok (.getfield 23, 3) := by decide +kernel
theorem dX10_bar_4 : decode cX10_bar 4 = .ok (.iload_n 1, 1) := by decide +kernel
theorem dX10_bar_5 : decode cX10_bar 5 = .ok (.invokevirtual 143, 3) := by decide +kernel
theorem dX10_bar_8 : decode cX10_bar 8 = .ok (.ifCond .eq 12, 3) := by decide +kernel
theorem dX10_bar_11 : decode cX10_bar 11 = .ok (.iload_n 2, 1) := by decide +kernel
theorem dX10_bar_12 : decode cX10_bar 12 = .ok (.ifCond .lt 8, 3) := by decide +kernel
theorem dX10_bar_15 : decode cX10_bar 15 = .ok (.iload_n 2, 1) := by decide +kernel
theorem dX10_bar_16 : decode cX10_bar 16 = .ok (.iconst 1, 1) := by decide +kernel
theorem dX10_bar_17 : decode cX10_bar 17 = .ok (.if_icmp .le 5, 3) := by decide +kernel
theorem dX10_bar_20 : decode cX10_bar 20 = .ok (.iconst (-1), 1) := by decide +kernel
theorem dX10_bar_21 : decode cX10_bar 21 = .ok (.ireturn, 1) := by decide +kernel
theorem dX10_bar_22 : decode cX10_bar 22 = .ok (.aload_n 0, 1) := by decide +kernel
theorem dX10_bar_23 : decode cX10_bar 23 = .ok (.getfield 23, 3) := by decide +kernel
theorem dX10_bar_26 : decode cX10_bar 26 = .ok (.getfield 262, 3) := by decide +kernel
theorem dX10_bar_29 : decode cX10_bar 29 = .ok (.ifCond .ne 6, 3) := by decide +kernel
theorem dX10_bar_32 : decode cX10_bar 32 = .ok (.bipush (-2), 2) := by decide +kernel
theorem dX10_bar_34 : decode cX10_bar 34 = .ok (.ireturn, 1) := by decide +kernel
theorem dX10_bar_35 : decode cX10_bar 35 = .ok (.aload_n 0, 1) := by decide +kernel
theorem dX10_bar_36 : decode cX10_bar 36 = .ok (.getfield 72, 3) := by decide +kernel
theorem dX10_bar_39 : decode cX10_bar 39 = .ok (.aload_n 0, 1) := by decide +kernel
theorem dX10_bar_40 : decode cX10_bar 40 = .ok (.getfield 23, 3) := by decide +kernel
theorem dX10_bar_43 : decode cX10_bar 43 = .ok (.aload_n 0, 1) := by decide +kernel
theorem dX10_bar_44 : decode cX10_bar 44 = .ok (.getfield 30, 3) := by decide +kernel
theorem dX10_bar_47 : decode cX10_bar 47 = .ok (.iload_n 1, 1) := by decide +kernel
theorem dX10_bar_48 : decode cX10_bar 48 = .ok (.invokevirtual 244, 3) := by decide +kernel
theorem dX10_bar_51 : decode cX10_bar 51 = .ok (.aload_n 0, 1) := by decide +kernel
theorem dX10_bar_52 : decode cX10_bar 52 = .ok (.getfield 72, 3) := by decide +kernel
theorem dX10_bar_55 : decode cX10_bar 55 = .ok (.aload_n 0, 1) := by decide +kernel
theorem dX10_bar_56 : decode cX10_bar 56 = .ok (.getfield 23, 3) := by decide +kernel
theorem dX10_bar_59 : decode cX10_bar 59 = .ok (.getfield 262, 3) := by decide +kernel
theorem dX10_bar_62 : decode cX10_bar 62 = .ok (.invokevirtual 265, 3) := by decide +kernel
theorem dX10_bar_65 : decode cX10_bar 65 = .ok (.istore_n 3, 1) := by decide +kernel
theorem dX10_bar_66 : decode cX10_bar 66 = .ok (.iload_n 2, 1) := by decide +kernel
theorem dX10_bar_67 : decode cX10_bar 67 = .ok (.ifCond .ne 7, 3) := by decide +kernel
theorem dX10_bar_70 : decode cX10_bar 70 = .ok (.iload_n 3, 1) := by decide +kernel
theorem dX10_bar_71 : decode cX10_bar 71 = .ok (.goto 13, 3) := by decide +kernel
theorem dX10_bar_74 : decode cX10_bar 74 = .ok (.aload_n 0, 1) := by decide +kernel
theorem dX10_bar_75 : decode cX10_bar 75 = .ok (.getfield 72, 3) := by decide +kernel
theorem dX10_bar_78 : decode cX10_bar 78 = .ok (.iconst 1, 1) := by decide +kernel
theorem dX10_bar_79 : decode cX10_bar 79 = .ok (.iload_n 3, 1) := by decide +kernel
theorem dX10_bar_80 : decode cX10_bar 80 = .ok (.ishl, 1) := by decide +kernel
theorem dX10_bar_81 : decode cX10_bar 81 = .ok (.invokevirtual 268, 3) := by decide +kernel
theorem dX10_bar_84 : decode cX10_bar 84 = .ok (.ireturn, 1) := by decide +kernel
theorem dX10_shuts_0 : decode cX10_shuts 0 = .ok (.aload_n 0, 1) := by decide +kernel
theorem dX10_shuts_1 : decode cX10_shuts 1 = .ok (.getfield 23, 3) := by decide +kernel
theorem dX10_shuts_4 : decode cX10_shuts 4 = .ok (.iload_n 1, 1) := by decide +kernel
theorem dX10_shuts_5 : decode cX10_shuts 5 = .ok (.invokevirtual 143, 3) := by decide +kernel
theorem dX10_shuts_8 : decode cX10_shuts 8 = .ok (.ifCond .eq 13, 3) := by decide +kernel
theorem dX10_shuts_11 : decode cX10_shuts 11 = .ok (.iload_n 2, 1) := by decide +kernel
theorem dX10_shuts_12 : decode cX10_shuts 12 = .ok (.iconst (-1), 1) := by decide +kernel
theorem dX10_shuts_13 : decode cX10_shuts 13 = .ok (.if_icmp .lt 8, 3) := by decide +kernel
theorem dX10_shuts_16 : decode cX10_shuts 16 = .ok (.iload_n 2, 1) := by decide +kernel
theorem dX10_shuts_17 : decode cX10_shuts 17 = .ok (.iconst 3, 1) := by decide +kernel
theorem dX10_shuts_18 : decode cX10_shuts 18 = .ok (.if_icmp .lt 5, 3) := by decide +kernel
theorem dX10_shuts_21 : decode cX10_shuts 21 = .ok (.iconst (-1), 1) := by decide +kernel
theorem dX10_shuts_22 : decode cX10_shuts 22 = .ok (.ireturn, 1) := by decide +kernel
theorem dX10_shuts_23 : decode cX10_shuts 23 = .ok (.aload_n 0, 1) := by decide +kernel
theorem dX10_shuts_24 : decode cX10_shuts 24 = .ok (.getfield 72, 3) := by decide +kernel
theorem dX10_shuts_27 : decode cX10_shuts 27 = .ok (.aload_n 0, 1) := by decide +kernel
theorem dX10_shuts_28 : decode cX10_shuts 28 = .ok (.getfield 23, 3) := by decide +kernel
theorem dX10_shuts_31 : decode cX10_shuts 31 = .ok (.aload_n 0, 1) := by decide +kernel
theorem dX10_shuts_32 : decode cX10_shuts 32 = .ok (.getfield 30, 3) := by decide +kernel
theorem dX10_shuts_35 : decode cX10_shuts 35 = .ok (.iload_n 1, 1) := by decide +kernel
theorem dX10_shuts_36 : decode cX10_shuts 36 = .ok (.invokevirtual 244, 3) := by decide +kernel
theorem dX10_shuts_39 : decode cX10_shuts 39 = .ok (.aload_n 0, 1) := by decide +kernel
theorem dX10_shuts_40 : decode cX10_shuts 40 = .ok (.getfield 72, 3) := by decide +kernel
theorem dX10_shuts_43 : decode cX10_shuts 43 = .ok (.aload_n 0, 1) := by decide +kernel
theorem dX10_shuts_44 : decode cX10_shuts 44 = .ok (.getfield 23, 3) := by decide +kernel
theorem dX10_shuts_47 : decode cX10_shuts 47 = .ok (.getfield 262, 3) := by decide +kernel
theorem dX10_shuts_50 : decode cX10_shuts 50 = .ok (.invokevirtual 271, 3) := by decide +kernel
theorem dX10_shuts_53 : decode cX10_shuts 53 = .ok (.istore_n 3, 1) := by decide +kernel
theorem dX10_shuts_54 : decode cX10_shuts 54 = .ok (.iload_n 3, 1) := by decide +kernel
theorem dX10_shuts_55 : decode cX10_shuts 55 = .ok (.iconst (-1), 1) := by decide +kernel
theorem dX10_shuts_56 : decode cX10_shuts 56 = .ok (.if_icmp .ne 6, 3) := by decide +kernel
theorem dX10_shuts_59 : decode cX10_shuts 59 = .ok (.bipush (-2), 2) := by decide +kernel
theorem dX10_shuts_61 : decode cX10_shuts 61 = .ok (.ireturn, 1) := by decide +kernel
theorem dX10_shuts_62 : decode cX10_shuts 62 = .ok (.iload_n 2, 1) := by decide +kernel
theorem dX10_shuts_63 : decode cX10_shuts 63 = .ok (.iconst (-1), 1) := by decide +kernel
theorem dX10_shuts_64 : decode cX10_shuts 64 = .ok (.if_icmp .ne 10, 3) := by decide +kernel
theorem dX10_shuts_67 : decode cX10_shuts 67 = .ok (.iload_n 3, 1) := by decide +kernel
theorem dX10_shuts_68 : decode cX10_shuts 68 = .ok (.invokestatic 274, 3) := by decide +kernel
theorem dX10_shuts_71 : decode cX10_shuts 71 = .ok (.goto 8, 3) := by decide +kernel
theorem dX10_shuts_74 : decode cX10_shuts 74 = .ok (.iload_n 3, 1) := by decide +kernel
theorem dX10_shuts_75 : decode cX10_shuts 75 = .ok (.iload_n 2, 1) := by decide +kernel
theorem dX10_shuts_76 : decode cX10_shuts 76 = .ok (.invokestatic 279, 3) := by decide +kernel
theorem dX10_shuts_79 : decode cX10_shuts 79 = .ok (.ireturn, 1) := by decide +kernel
theorem dX10_bitAt_0 : decode cX10_bitAt 0 = .ok (.iconst 0, 1) := by decide +kernel
theorem dX10_bitAt_1 : decode cX10_bitAt 1 = .ok (.istore_n 2, 1) := by decide +kernel
theorem dX10_bitAt_2 : decode cX10_bitAt 2 = .ok (.iconst 0, 1) := by decide +kernel
theorem dX10_bitAt_3 : decode cX10_bitAt 3 = .ok (.istore_n 3, 1) := by decide +kernel
theorem dX10_bitAt_4 : decode cX10_bitAt 4 = .ok (.iload_n 3, 1) := by decide +kernel
theorem dX10_bitAt_5 : decode cX10_bitAt 5 = .ok (.bipush 8, 2) := by decide +kernel
theorem dX10_bitAt_7 : decode cX10_bitAt 7 = .ok (.if_icmp .ge 27, 3) := by decide +kernel
theorem dX10_bitAt_10 : decode cX10_bitAt 10 = .ok (.iload_n 0, 1) := by decide +kernel
theorem dX10_bitAt_11 : decode cX10_bitAt 11 = .ok (.iload_n 3, 1) := by decide +kernel
theorem dX10_bitAt_12 : decode cX10_bitAt 12 = .ok (.iushr, 1) := by decide +kernel
theorem dX10_bitAt_13 : decode cX10_bitAt 13 = .ok (.iconst 1, 1) := by decide +kernel
theorem dX10_bitAt_14 : decode cX10_bitAt 14 = .ok (.iand, 1) := by decide +kernel
theorem dX10_bitAt_15 : decode cX10_bitAt 15 = .ok (.ifCond .eq 13, 3) := by decide +kernel
theorem dX10_bitAt_18 : decode cX10_bitAt 18 = .ok (.iload_n 2, 1) := by decide +kernel
theorem dX10_bitAt_19 : decode cX10_bitAt 19 = .ok (.iload_n 1, 1) := by decide +kernel
theorem dX10_bitAt_20 : decode cX10_bitAt 20 = .ok (.if_icmp .ne 5, 3) := by decide +kernel
theorem dX10_bitAt_23 : decode cX10_bitAt 23 = .ok (.iload_n 3, 1) := by decide +kernel
theorem dX10_bitAt_24 : decode cX10_bitAt 24 = .ok (.ireturn, 1) := by decide +kernel
theorem dX10_bitAt_25 : decode cX10_bitAt 25 = .ok (.iinc 2 1, 3) := by decide +kernel
theorem dX10_bitAt_28 : decode cX10_bitAt 28 = .ok (.iinc 3 1, 3) := by decide +kernel
theorem dX10_bitAt_31 : decode cX10_bitAt 31 = .ok (.goto (-27), 3) := by decide +kernel
theorem dX10_bitAt_34 : decode cX10_bitAt 34 = .ok (.iconst (-1), 1) := by decide +kernel
theorem dX10_bitAt_35 : decode cX10_bitAt 35 = .ok (.ireturn, 1) := by decide +kernel
theorem dX10_stands_0 : decode cX10_stands 0 = .ok (.aload_n 0, 1) := by decide +kernel
theorem dX10_stands_1 : decode cX10_stands 1 = .ok (.getfield 23, 3) := by decide +kernel
theorem dX10_stands_4 : decode cX10_stands 4 = .ok (.iload_n 1, 1) := by decide +kernel
theorem dX10_stands_5 : decode cX10_stands 5 = .ok (.invokevirtual 143, 3) := by decide +kernel
theorem dX10_stands_8 : decode cX10_stands 8 = .ok (.ifCond .ne 5, 3) := by decide +kernel
theorem dX10_stands_11 : decode cX10_stands 11 = .ok (.iconst (-1), 1) := by decide +kernel
theorem dX10_stands_12 : decode cX10_stands 12 = .ok (.ireturn, 1) := by decide +kernel
theorem dX10_stands_13 : decode cX10_stands 13 = .ok (.aload_n 0, 1) := by decide +kernel
theorem dX10_stands_14 : decode cX10_stands 14 = .ok (.getfield 30, 3) := by decide +kernel
theorem dX10_stands_17 : decode cX10_stands 17 = .ok (.getfield 152, 3) := by decide +kernel
theorem dX10_stands_20 : decode cX10_stands 20 = .ok (.iload_n 1, 1) := by decide +kernel
theorem dX10_stands_21 : decode cX10_stands 21 = .ok (.iaload, 1) := by decide +kernel
theorem dX10_stands_22 : decode cX10_stands 22 = .ok (.iconst 1, 1) := by decide +kernel
theorem dX10_stands_23 : decode cX10_stands 23 = .ok (.if_icmp .eq 6, 3) := by decide +kernel
theorem dX10_stands_26 : decode cX10_stands 26 = .ok (.bipush (-2), 2) := by decide +kernel
theorem dX10_stands_28 : decode cX10_stands 28 = .ok (.ireturn, 1) := by decide +kernel
theorem dX10_stands_29 : decode cX10_stands 29 = .ok (.aload_n 0, 1) := by decide +kernel
theorem dX10_stands_30 : decode cX10_stands 30 = .ok (.getfield 37, 3) := by decide +kernel
theorem dX10_stands_33 : decode cX10_stands 33 = .ok (.aload_n 0, 1) := by decide +kernel
theorem dX10_stands_34 : decode cX10_stands 34 = .ok (.getfield 23, 3) := by decide +kernel
theorem dX10_stands_37 : decode cX10_stands 37 = .ok (.aload_n 0, 1) := by decide +kernel
theorem dX10_stands_38 : decode cX10_stands 38 = .ok (.getfield 30, 3) := by decide +kernel
theorem dX10_stands_41 : decode cX10_stands 41 = .ok (.iload_n 1, 1) := by decide +kernel
theorem dX10_stands_42 : decode cX10_stands 42 = .ok (.iconst 0, 1) := by decide +kernel
theorem dX10_stands_43 : decode cX10_stands 43 = .ok (.invokevirtual 282, 3) := by decide +kernel
theorem dX10_stands_46 : decode cX10_stands 46 = .ok (.istore_n 2, 1) := by decide +kernel
theorem dX10_stands_47 : decode cX10_stands 47 = .ok (.iload_n 2, 1) := by decide +kernel
theorem dX10_stands_48 : decode cX10_stands 48 = .ok (.sipush 200, 3) := by decide +kernel
theorem dX10_stands_51 : decode cX10_stands 51 = .ok (.if_icmp .le 8, 3) := by decide +kernel
theorem dX10_stands_54 : decode cX10_stands 54 = .ok (.bipush (-2), 2) := by decide +kernel
theorem dX10_stands_56 : decode cX10_stands 56 = .ok (.goto 4, 3) := by decide +kernel
theorem dX10_stands_59 : decode cX10_stands 59 = .ok (.iload_n 2, 1) := by decide +kernel
theorem dX10_stands_60 : decode cX10_stands 60 = .ok (.ireturn, 1) := by decide +kernel
theorem dX10_mendFirst_0 : decode cX10_mendFirst 0 = .ok (.iload_n 1, 1) := by decide +kernel
theorem dX10_mendFirst_1 : decode cX10_mendFirst 1 = .ok (.ifCond .lt 8, 3) := by decide +kernel
theorem dX10_mendFirst_4 : decode cX10_mendFirst 4 = .ok (.iload_n 1, 1) := by decide +kernel
theorem dX10_mendFirst_5 : decode cX10_mendFirst 5 = .ok (.iconst 1, 1) := by decide +kernel
theorem dX10_mendFirst_6 : decode cX10_mendFirst 6 = .ok (.if_icmp .le 5, 3) := by decide +kernel
theorem dX10_mendFirst_9 : decode cX10_mendFirst 9 = .ok (.iconst (-1), 1) := by decide +kernel
theorem dX10_mendFirst_10 : decode cX10_mendFirst 10 = .ok (.ireturn, 1) := by decide +kernel
theorem dX10_mendFirst_11 : decode cX10_mendFirst 11 = .ok (.bipush (-2), 2) := by decide +kernel
theorem dX10_mendFirst_13 : decode cX10_mendFirst 13 = .ok (.istore_n 2, 1) := by decide +kernel
theorem dX10_mendFirst_14 : decode cX10_mendFirst 14 = .ok (.iconst 0, 1) := by decide +kernel
theorem dX10_mendFirst_15 : decode cX10_mendFirst 15 = .ok (.istore_n 3, 1) := by decide +kernel
theorem dX10_mendFirst_16 : decode cX10_mendFirst 16 = .ok (.iconst 0, 1) := by decide +kernel
theorem dX10_mendFirst_17 : decode cX10_mendFirst 17 = .ok (.istore 4, 2) := by decide +kernel
theorem dX10_mendFirst_19 : decode cX10_mendFirst 19 = .ok (.iload 4, 2) := by decide +kernel
theorem dX10_mendFirst_21 : decode cX10_mendFirst 21 = .ok (.aload_n 0, 1) := by decide +kernel
theorem dX10_mendFirst_22 : decode cX10_mendFirst 22 = .ok (.getfield 23, 3) := by decide +kernel
theorem dX10_mendFirst_25 : decode cX10_mendFirst 25 = .ok (.getfield 285, 3) := by decide +kernel
theorem dX10_mendFirst_28 : decode cX10_mendFirst 28 = .ok (.if_icmp .ge 45, 3) := by decide +kernel
theorem dX10_mendFirst_31 : decode cX10_mendFirst 31 = .ok (.aload_n 0, 1) := by decide +kernel
theorem dX10_mendFirst_32 : decode cX10_mendFirst 32 = .ok (.getfield 30, 3) := by decide +kernel
theorem dX10_mendFirst_35 : decode cX10_mendFirst 35 = .ok (.iload 4, 2) := by decide +kernel
theorem dX10_mendFirst_37 : decode cX10_mendFirst 37 = .ok (.invokevirtual 211, 3) := by decide +kernel
theorem dX10_mendFirst_40 : decode cX10_mendFirst 40 = .ok (.ifCond .eq 12, 3) := by decide +kernel
theorem dX10_mendFirst_43 : decode cX10_mendFirst 43 = .ok (.aload_n 0, 1) := by decide +kernel
theorem dX10_mendFirst_44 : decode cX10_mendFirst 44 = .ok (.iload 4, 2) := by decide +kernel
theorem dX10_mendFirst_46 : decode cX10_mendFirst 46 = .ok (.invokevirtual 288, 3) := by decide +kernel
theorem dX10_mendFirst_49 : decode cX10_mendFirst 49 = .ok (.goto 4, 3) := by decide +kernel
theorem dX10_mendFirst_52 : decode cX10_mendFirst 52 = .ok (.iconst 0, 1) := by decide +kernel
theorem dX10_mendFirst_53 : decode cX10_mendFirst 53 = .ok (.istore 5, 2) := by decide +kernel
theorem dX10_mendFirst_55 : decode cX10_mendFirst 55 = .ok (.iload 5, 2) := by decide +kernel
theorem dX10_mendFirst_57 : decode cX10_mendFirst 57 = .ok (.iload_n 3, 1) := by decide +kernel
theorem dX10_mendFirst_58 : decode cX10_mendFirst 58 = .ok (.if_icmp .le 9, 3) := by decide +kernel
theorem dX10_mendFirst_61 : decode cX10_mendFirst 61 = .ok (.iload 5, 2) := by decide +kernel
theorem dX10_mendFirst_63 : decode cX10_mendFirst 63 = .ok (.istore_n 3, 1) := by decide +kernel
theorem dX10_mendFirst_64 : decode cX10_mendFirst 64 = .ok (.iload 4, 2) := by decide +kernel
theorem dX10_mendFirst_66 : decode cX10_mendFirst 66 = .ok (.istore_n 2, 1) := by decide +kernel
theorem dX10_mendFirst_67 : decode cX10_mendFirst 67 = .ok (.iinc 4 1, 3) := by decide +kernel
theorem dX10_mendFirst_70 : decode cX10_mendFirst 70 = .ok (.goto (-51), 3) := by decide +kernel
theorem dX10_mendFirst_73 : decode cX10_mendFirst 73 = .ok (.iload_n 2, 1) := by decide +kernel
theorem dX10_mendFirst_74 : decode cX10_mendFirst 74 = .ok (.bipush (-2), 2) := by decide +kernel
theorem dX10_mendFirst_76 : decode cX10_mendFirst 76 = .ok (.if_icmp .eq 7, 3) := by decide +kernel
theorem dX10_mendFirst_79 : decode cX10_mendFirst 79 = .ok (.iload_n 1, 1) := by decide +kernel
theorem dX10_mendFirst_80 : decode cX10_mendFirst 80 = .ok (.ifCond .ne 5, 3) := by decide +kernel
theorem dX10_mendFirst_83 : decode cX10_mendFirst 83 = .ok (.iload_n 2, 1) := by decide +kernel
theorem dX10_mendFirst_84 : decode cX10_mendFirst 84 = .ok (.ireturn, 1) := by decide +kernel
theorem dX10_mendFirst_85 : decode cX10_mendFirst 85 = .ok (.iload_n 3, 1) := by decide +kernel
theorem dX10_mendFirst_86 : decode cX10_mendFirst 86 = .ok (.sipush 200, 3) := by decide +kernel
theorem dX10_mendFirst_89 : decode cX10_mendFirst 89 = .ok (.if_icmp .le 8, 3) := by decide +kernel
theorem dX10_mendFirst_92 : decode cX10_mendFirst 92 = .ok (.bipush (-3), 2) := by decide +kernel
theorem dX10_mendFirst_94 : decode cX10_mendFirst 94 = .ok (.goto 4, 3) := by decide +kernel
theorem dX10_mendFirst_97 : decode cX10_mendFirst 97 = .ok (.iload_n 3, 1) := by decide +kernel
theorem dX10_mendFirst_98 : decode cX10_mendFirst 98 = .ok (.ireturn, 1) := by decide +kernel
theorem dX10_yearsGained_0 : decode cX10_yearsGained 0 = .ok (.aload_n 0, 1) := by decide +kernel
theorem dX10_yearsGained_1 : decode cX10_yearsGained 1 = .ok (.getfield 37, 3) := by decide +kernel
theorem dX10_yearsGained_4 : decode cX10_yearsGained 4 = .ok (.aload_n 0, 1) := by decide +kernel
theorem dX10_yearsGained_5 : decode cX10_yearsGained 5 = .ok (.getfield 23, 3) := by decide +kernel
theorem dX10_yearsGained_8 : decode cX10_yearsGained 8 = .ok (.aload_n 0, 1) := by decide +kernel
theorem dX10_yearsGained_9 : decode cX10_yearsGained 9 = .ok (.getfield 30, 3) := by decide +kernel
theorem dX10_yearsGained_12 : decode cX10_yearsGained 12 = .ok (.iload_n 1, 1) := by decide +kernel
theorem dX10_yearsGained_13 : decode cX10_yearsGained 13 = .ok (.iconst 0, 1) := by decide +kernel
theorem dX10_yearsGained_14 : decode cX10_yearsGained 14 = .ok (.invokevirtual 282, 3) := by decide +kernel
theorem dX10_yearsGained_17 : decode cX10_yearsGained 17 = .ok (.istore_n 2, 1) := by decide +kernel
theorem dX10_yearsGained_18 : decode cX10_yearsGained 18 = .ok (.iload_n 2, 1) := by decide +kernel
theorem dX10_yearsGained_19 : decode cX10_yearsGained 19 = .ok (.sipush 200, 3) := by decide +kernel
theorem dX10_yearsGained_22 : decode cX10_yearsGained 22 = .ok (.if_icmp .le 5, 3) := by decide +kernel
theorem dX10_yearsGained_25 : decode cX10_yearsGained 25 = .ok (.iconst 0, 1) := by decide +kernel
theorem dX10_yearsGained_26 : decode cX10_yearsGained 26 = .ok (.ireturn, 1) := by decide +kernel
theorem dX10_yearsGained_27 : decode cX10_yearsGained 27 = .ok (.aload_n 0, 1) := by decide +kernel
theorem dX10_yearsGained_28 : decode cX10_yearsGained 28 = .ok (.getfield 37, 3) := by decide +kernel
theorem dX10_yearsGained_31 : decode cX10_yearsGained 31 = .ok (.aload_n 0, 1) := by decide +kernel
theorem dX10_yearsGained_32 : decode cX10_yearsGained 32 = .ok (.getfield 23, 3) := by decide +kernel
theorem dX10_yearsGained_35 : decode cX10_yearsGained 35 = .ok (.aload_n 0, 1) := by decide +kernel
theorem dX10_yearsGained_36 : decode cX10_yearsGained 36 = .ok (.getfield 30, 3) := by decide +kernel
theorem dX10_yearsGained_39 : decode cX10_yearsGained 39 = .ok (.iload_n 1, 1) := by decide +kernel
theorem dX10_yearsGained_40 : decode cX10_yearsGained 40 = .ok (.iconst 1, 1) := by decide +kernel
theorem dX10_yearsGained_41 : decode cX10_yearsGained 41 = .ok (.invokevirtual 282, 3) := by decide +kernel
theorem dX10_yearsGained_44 : decode cX10_yearsGained 44 = .ok (.istore_n 3, 1) := by decide +kernel
theorem dX10_yearsGained_45 : decode cX10_yearsGained 45 = .ok (.iload_n 3, 1) := by decide +kernel
theorem dX10_yearsGained_46 : decode cX10_yearsGained 46 = .ok (.sipush 200, 3) := by decide +kernel
theorem dX10_yearsGained_49 : decode cX10_yearsGained 49 = .ok (.if_icmp .le 7, 3) := by decide +kernel
theorem dX10_yearsGained_52 : decode cX10_yearsGained 52 = .ok (.iload_n 3, 1) := by decide +kernel
theorem dX10_yearsGained_53 : decode cX10_yearsGained 53 = .ok (.goto 6, 3) := by decide +kernel
theorem dX10_yearsGained_56 : decode cX10_yearsGained 56 = .ok (.iload_n 3, 1) := by decide +kernel
theorem dX10_yearsGained_57 : decode cX10_yearsGained 57 = .ok (.iload_n 2, 1) := by decide +kernel
theorem dX10_yearsGained_58 : decode cX10_yearsGained 58 = .ok (.isub, 1) := by decide +kernel
theorem dX10_yearsGained_59 : decode cX10_yearsGained 59 = .ok (.ireturn, 1) := by decide +kernel
theorem dX10_alike_0 : decode cX10_alike 0 = .ok (.aload_n 0, 1) := by decide +kernel
theorem dX10_alike_1 : decode cX10_alike 1 = .ok (.getfield 23, 3) := by decide +kernel
theorem dX10_alike_4 : decode cX10_alike 4 = .ok (.iload_n 1, 1) := by decide +kernel
theorem dX10_alike_5 : decode cX10_alike 5 = .ok (.invokevirtual 143, 3) := by decide +kernel
theorem dX10_alike_8 : decode cX10_alike 8 = .ok (.ifCond .eq 23, 3) := by decide +kernel
theorem dX10_alike_11 : decode cX10_alike 11 = .ok (.aload_n 0, 1) := by decide +kernel
theorem dX10_alike_12 : decode cX10_alike 12 = .ok (.getfield 23, 3) := by decide +kernel
theorem dX10_alike_15 : decode cX10_alike 15 = .ok (.iload_n 2, 1) := by decide +kernel
theorem dX10_alike_16 : decode cX10_alike 16 = .ok (.invokevirtual 143, 3) := by decide +kernel
theorem dX10_alike_19 : decode cX10_alike 19 = .ok (.ifCond .eq 12, 3) := by decide +kernel
theorem dX10_alike_22 : decode cX10_alike 22 = .ok (.iload_n 3, 1) := by decide +kernel
theorem dX10_alike_23 : decode cX10_alike 23 = .ok (.ifCond .lt 8, 3) := by decide +kernel
theorem dX10_alike_26 : decode cX10_alike 26 = .ok (.iload_n 3, 1) := by decide +kernel
theorem dX10_alike_27 : decode cX10_alike 27 = .ok (.iconst 1, 1) := by decide +kernel
theorem dX10_alike_28 : decode cX10_alike 28 = .ok (.if_icmp .le 5, 3) := by decide +kernel
theorem dX10_alike_31 : decode cX10_alike 31 = .ok (.iconst (-1), 1) := by decide +kernel
theorem dX10_alike_32 : decode cX10_alike 32 = .ok (.ireturn, 1) := by decide +kernel
theorem dX10_alike_33 : decode cX10_alike 33 = .ok (.aload_n 0, 1) := by decide +kernel
theorem dX10_alike_34 : decode cX10_alike 34 = .ok (.getfield 23, 3) := by decide +kernel
theorem dX10_alike_37 : decode cX10_alike 37 = .ok (.iload_n 1, 1) := by decide +kernel
theorem dX10_alike_38 : decode cX10_alike 38 = .ok (.iload_n 2, 1) := by decide +kernel
theorem dX10_alike_39 : decode cX10_alike 39 = .ok (.invokevirtual 165, 3) := by decide +kernel
theorem dX10_alike_42 : decode cX10_alike 42 = .ok (.istore 4, 2) := by decide +kernel
theorem dX10_alike_44 : decode cX10_alike 44 = .ok (.iload_n 3, 1) := by decide +kernel
theorem dX10_alike_45 : decode cX10_alike 45 = .ok (.iconst 1, 1) := by decide +kernel
theorem dX10_alike_46 : decode cX10_alike 46 = .ok (.if_icmp .ne 6, 3) := by decide +kernel
theorem dX10_alike_49 : decode cX10_alike 49 = .ok (.iload 4, 2) := by decide +kernel
theorem dX10_alike_51 : decode cX10_alike 51 = .ok (.ireturn, 1) := by decide +kernel
theorem dX10_alike_52 : decode cX10_alike 52 = .ok (.iload 4, 2) := by decide +kernel
theorem dX10_alike_54 : decode cX10_alike 54 = .ok (.aload_n 0, 1) := by decide +kernel
theorem dX10_alike_55 : decode cX10_alike 55 = .ok (.getfield 23, 3) := by decide +kernel
theorem dX10_alike_58 : decode cX10_alike 58 = .ok (.iload_n 1, 1) := by decide +kernel
theorem dX10_alike_59 : decode cX10_alike 59 = .ok (.iload_n 1, 1) := by decide +kernel
theorem dX10_alike_60 : decode cX10_alike 60 = .ok (.invokevirtual 165, 3) := by decide +kernel
theorem dX10_alike_63 : decode cX10_alike 63 = .ok (.if_icmp .ne 21, 3) := by decide +kernel
theorem dX10_alike_66 : decode cX10_alike 66 = .ok (.iload 4, 2) := by decide +kernel
theorem dX10_alike_68 : decode cX10_alike 68 = .ok (.aload_n 0, 1) := by decide +kernel
theorem dX10_alike_69 : decode cX10_alike 69 = .ok (.getfield 23, 3) := by decide +kernel
theorem dX10_alike_72 : decode cX10_alike 72 = .ok (.iload_n 2, 1) := by decide +kernel
theorem dX10_alike_73 : decode cX10_alike 73 = .ok (.iload_n 2, 1) := by decide +kernel
theorem dX10_alike_74 : decode cX10_alike 74 = .ok (.invokevirtual 165, 3) := by decide +kernel
theorem dX10_alike_77 : decode cX10_alike 77 = .ok (.if_icmp .ne 7, 3) := by decide +kernel
theorem dX10_alike_80 : decode cX10_alike 80 = .ok (.iconst 1, 1) := by decide +kernel
theorem dX10_alike_81 : decode cX10_alike 81 = .ok (.goto 4, 3) := by decide +kernel
theorem dX10_alike_84 : decode cX10_alike 84 = .ok (.iconst 0, 1) := by decide +kernel
theorem dX10_alike_85 : decode cX10_alike 85 = .ok (.istore 5, 2) := by decide +kernel
theorem dX10_alike_87 : decode cX10_alike 87 = .ok (.iload 5, 2) := by decide +kernel
theorem dX10_alike_89 : decode cX10_alike 89 = .ok (.ifCond .eq 7, 3) := by decide +kernel
theorem dX10_alike_92 : decode cX10_alike 92 = .ok (.iconst 1, 1) := by decide +kernel
theorem dX10_alike_93 : decode cX10_alike 93 = .ok (.goto 4, 3) := by decide +kernel
theorem dX10_alike_96 : decode cX10_alike 96 = .ok (.iconst 0, 1) := by decide +kernel
theorem dX10_alike_97 : decode cX10_alike 97 = .ok (.ireturn, 1) := by decide +kernel
theorem dX10_stonesIn_0 : decode cX10_stonesIn 0 = .ok (.aload_n 0, 1) := by decide +kernel
theorem dX10_stonesIn_1 : decode cX10_stonesIn 1 = .ok (.getfield 23, 3) := by decide +kernel
theorem dX10_stonesIn_4 : decode cX10_stonesIn 4 = .ok (.iload_n 1, 1) := by decide +kernel
theorem dX10_stonesIn_5 : decode cX10_stonesIn 5 = .ok (.invokevirtual 143, 3) := by decide +kernel
theorem dX10_stonesIn_8 : decode cX10_stonesIn 8 = .ok (.ifCond .eq 13, 3) := by decide +kernel
theorem dX10_stonesIn_11 : decode cX10_stonesIn 11 = .ok (.iload_n 2, 1) := by decide +kernel
theorem dX10_stonesIn_12 : decode cX10_stonesIn 12 = .ok (.ifCond .lt 9, 3) := by decide +kernel
theorem dX10_stonesIn_15 : decode cX10_stonesIn 15 = .ok (.iload_n 2, 1) := by decide +kernel
theorem dX10_stonesIn_16 : decode cX10_stonesIn 16 = .ok (.bipush 60, 2) := by decide +kernel
theorem dX10_stonesIn_18 : decode cX10_stonesIn 18 = .ok (.if_icmp .le 5, 3) := by decide +kernel
theorem dX10_stonesIn_21 : decode cX10_stonesIn 21 = .ok (.iconst (-1), 1) := by decide +kernel
theorem dX10_stonesIn_22 : decode cX10_stonesIn 22 = .ok (.ireturn, 1) := by decide +kernel
theorem dX10_stonesIn_23 : decode cX10_stonesIn 23 = .ok (.aload_n 0, 1) := by decide +kernel
theorem dX10_stonesIn_24 : decode cX10_stonesIn 24 = .ok (.getfield 37, 3) := by decide +kernel
theorem dX10_stonesIn_27 : decode cX10_stonesIn 27 = .ok (.aload_n 0, 1) := by decide +kernel
theorem dX10_stonesIn_28 : decode cX10_stonesIn 28 = .ok (.getfield 23, 3) := by decide +kernel
theorem dX10_stonesIn_31 : decode cX10_stonesIn 31 = .ok (.aload_n 0, 1) := by decide +kernel
theorem dX10_stonesIn_32 : decode cX10_stonesIn 32 = .ok (.getfield 30, 3) := by decide +kernel
theorem dX10_stonesIn_35 : decode cX10_stonesIn 35 = .ok (.iload_n 2, 1) := by decide +kernel
theorem dX10_stonesIn_36 : decode cX10_stonesIn 36 = .ok (.aload_n 0, 1) := by decide +kernel
theorem dX10_stonesIn_37 : decode cX10_stonesIn 37 = .ok (.getfield 23, 3) := by decide +kernel
theorem dX10_stonesIn_40 : decode cX10_stonesIn 40 = .ok (.getfield 214, 3) := by decide +kernel
theorem dX10_stonesIn_43 : decode cX10_stonesIn 43 = .ok (.invokevirtual 291, 3) := by decide +kernel
theorem dX10_stonesIn_46 : decode cX10_stonesIn 46 = .ok (.getfield 146, 3) := by decide +kernel
theorem dX10_stonesIn_49 : decode cX10_stonesIn 49 = .ok (.iload_n 1, 1) := by decide +kernel
theorem dX10_stonesIn_50 : decode cX10_stonesIn 50 = .ok (.iaload, 1) := by decide +kernel
theorem dX10_stonesIn_51 : decode cX10_stonesIn 51 = .ok (.ireturn, 1) := by decide +kernel
theorem dX10_openIn_0 : decode cX10_openIn 0 = .ok (.iload_n 1, 1) := by decide +kernel
theorem dX10_openIn_1 : decode cX10_openIn 1 = .ok (.ifCond .lt 9, 3) := by decide +kernel
theorem dX10_openIn_4 : decode cX10_openIn 4 = .ok (.iload_n 1, 1) := by decide +kernel
theorem dX10_openIn_5 : decode cX10_openIn 5 = .ok (.bipush 60, 2) := by decide +kernel
theorem dX10_openIn_7 : decode cX10_openIn 7 = .ok (.if_icmp .le 5, 3) := by decide +kernel
theorem dX10_openIn_10 : decode cX10_openIn 10 = .ok (.iconst (-1), 1) := by decide +kernel
theorem dX10_openIn_11 : decode cX10_openIn 11 = .ok (.ireturn, 1) := by decide +kernel
theorem dX10_openIn_12 : decode cX10_openIn 12 = .ok (.aload_n 0, 1) := by decide +kernel
theorem dX10_openIn_13 : decode cX10_openIn 13 = .ok (.getfield 37, 3) := by decide +kernel
theorem dX10_openIn_16 : decode cX10_openIn 16 = .ok (.aload_n 0, 1) := by decide +kernel
theorem dX10_openIn_17 : decode cX10_openIn 17 = .ok (.getfield 23, 3) := by decide +kernel
theorem dX10_openIn_20 : decode cX10_openIn 20 = .ok (.aload_n 0, 1) := by decide +kernel
theorem dX10_openIn_21 : decode cX10_openIn 21 = .ok (.getfield 30, 3) := by decide +kernel
theorem dX10_openIn_24 : decode cX10_openIn 24 = .ok (.iload_n 1, 1) := by decide +kernel
theorem dX10_openIn_25 : decode cX10_openIn 25 = .ok (.aload_n 0, 1) := by decide +kernel
theorem dX10_openIn_26 : decode cX10_openIn 26 = .ok (.getfield 23, 3) := by decide +kernel
theorem dX10_openIn_29 : decode cX10_openIn 29 = .ok (.getfield 214, 3) := by decide +kernel
theorem dX10_openIn_32 : decode cX10_openIn 32 = .ok (.invokevirtual 291, 3) := by decide +kernel
theorem dX10_openIn_35 : decode cX10_openIn 35 = .ok (.invokevirtual 295, 3) := by decide +kernel
theorem dX10_openIn_38 : decode cX10_openIn 38 = .ok (.ireturn, 1) := by decide +kernel
theorem dX10_year_0 : decode cX10_year 0 = .ok (.aload_n 0, 1) := by decide +kernel
theorem dX10_year_1 : decode cX10_year 1 = .ok (.getfield 23, 3) := by decide +kernel
theorem dX10_year_4 : decode cX10_year 4 = .ok (.iload_n 1, 1) := by decide +kernel
theorem dX10_year_5 : decode cX10_year 5 = .ok (.invokevirtual 143, 3) := by decide +kernel
theorem dX10_year_8 : decode cX10_year 8 = .ok (.ifCond .eq 24, 3) := by decide +kernel
theorem dX10_year_11 : decode cX10_year 11 = .ok (.iload_n 2, 1) := by decide +kernel
theorem dX10_year_12 : decode cX10_year 12 = .ok (.ifCond .lt 20, 3) := by decide +kernel
theorem dX10_year_15 : decode cX10_year 15 = .ok (.iload_n 2, 1) := by decide +kernel
theorem dX10_year_16 : decode cX10_year 16 = .ok (.bipush 60, 2) := by decide +kernel
theorem dX10_year_18 : decode cX10_year 18 = .ok (.if_icmp .gt 14, 3) := by decide +kernel
theorem dX10_year_21 : decode cX10_year 21 = .ok (.iload_n 3, 1) := by decide +kernel
theorem dX10_year_22 : decode cX10_year 22 = .ok (.iconst 1, 1) := by decide +kernel
theorem dX10_year_23 : decode cX10_year 23 = .ok (.if_icmp .lt 9, 3) := by decide +kernel
theorem dX10_year_26 : decode cX10_year 26 = .ok (.iload_n 3, 1) := by decide +kernel
theorem dX10_year_27 : decode cX10_year 27 = .ok (.bipush 20, 2) := by decide +kernel
theorem dX10_year_29 : decode cX10_year 29 = .ok (.if_icmp .le 5, 3) := by decide +kernel
theorem dX10_year_32 : decode cX10_year 32 = .ok (.iconst (-1), 1) := by decide +kernel
theorem dX10_year_33 : decode cX10_year 33 = .ok (.ireturn, 1) := by decide +kernel
theorem dX10_year_34 : decode cX10_year 34 = .ok (.iconst 0, 1) := by decide +kernel
theorem dX10_year_35 : decode cX10_year 35 = .ok (.istore 4, 2) := by decide +kernel
theorem dX10_year_37 : decode cX10_year 37 = .ok (.iconst 0, 1) := by decide +kernel
theorem dX10_year_38 : decode cX10_year 38 = .ok (.istore 5, 2) := by decide +kernel
theorem dX10_year_40 : decode cX10_year 40 = .ok (.iload 5, 2) := by decide +kernel
theorem dX10_year_42 : decode cX10_year 42 = .ok (.iload_n 3, 1) := by decide +kernel
theorem dX10_year_43 : decode cX10_year 43 = .ok (.if_icmp .ge 71, 3) := by decide +kernel
theorem dX10_year_46 : decode cX10_year 46 = .ok (.aload_n 0, 1) := by decide +kernel
theorem dX10_year_47 : decode cX10_year 47 = .ok (.getfield 30, 3) := by decide +kernel
theorem dX10_year_50 : decode cX10_year 50 = .ok (.getfield 152, 3) := by decide +kernel
theorem dX10_year_53 : decode cX10_year 53 = .ok (.iload_n 1, 1) := by decide +kernel
theorem dX10_year_54 : decode cX10_year 54 = .ok (.iaload, 1) := by decide +kernel
theorem dX10_year_55 : decode cX10_year 55 = .ok (.iconst 1, 1) := by decide +kernel
theorem dX10_year_56 : decode cX10_year 56 = .ok (.if_icmp .ne 58, 3) := by decide +kernel
theorem dX10_year_59 : decode cX10_year 59 = .ok (.aload_n 0, 1) := by decide +kernel
theorem dX10_year_60 : decode cX10_year 60 = .ok (.getfield 37, 3) := by decide +kernel
theorem dX10_year_63 : decode cX10_year 63 = .ok (.aload_n 0, 1) := by decide +kernel
theorem dX10_year_64 : decode cX10_year 64 = .ok (.getfield 23, 3) := by decide +kernel
theorem dX10_year_67 : decode cX10_year 67 = .ok (.aload_n 0, 1) := by decide +kernel
theorem dX10_year_68 : decode cX10_year 68 = .ok (.getfield 30, 3) := by decide +kernel
theorem dX10_year_71 : decode cX10_year 71 = .ok (.iload_n 2, 1) := by decide +kernel
theorem dX10_year_72 : decode cX10_year 72 = .ok (.aload_n 0, 1) := by decide +kernel
theorem dX10_year_73 : decode cX10_year 73 = .ok (.getfield 23, 3) := by decide +kernel
theorem dX10_year_76 : decode cX10_year 76 = .ok (.getfield 214, 3) := by decide +kernel
theorem dX10_year_79 : decode cX10_year 79 = .ok (.iload 5, 2) := by decide +kernel
theorem dX10_year_81 : decode cX10_year 81 = .ok (.iadd, 1) := by decide +kernel
theorem dX10_year_82 : decode cX10_year 82 = .ok (.invokevirtual 291, 3) := by decide +kernel
theorem dX10_year_85 : decode cX10_year 85 = .ok (.astore 6, 2) := by decide +kernel
theorem dX10_year_87 : decode cX10_year 87 = .ok (.iload 4, 2) := by decide +kernel
theorem dX10_year_89 : decode cX10_year 89 = .ok (.aload 6, 2) := by decide +kernel
theorem dX10_year_91 : decode cX10_year 91 = .ok (.getfield 152, 3) := by decide +kernel
theorem dX10_year_94 : decode cX10_year 94 = .ok (.iload_n 1, 1) := by decide +kernel
theorem dX10_year_95 : decode cX10_year 95 = .ok (.iaload, 1) := by decide +kernel
theorem dX10_year_96 : decode cX10_year 96 = .ok (.iconst 1, 1) := by decide +kernel
theorem dX10_year_97 : decode cX10_year 97 = .ok (.if_icmp .ne 7, 3) := by decide +kernel
theorem dX10_year_100 : decode cX10_year 100 = .ok (.iconst 1, 1) := by decide +kernel
theorem dX10_year_101 : decode cX10_year 101 = .ok (.goto 4, 3) := by decide +kernel
theorem dX10_year_104 : decode cX10_year 104 = .ok (.iconst 0, 1) := by decide +kernel
theorem dX10_year_105 : decode cX10_year 105 = .ok (.iadd, 1) := by decide +kernel
theorem dX10_year_106 : decode cX10_year 106 = .ok (.istore 4, 2) := by decide +kernel
theorem dX10_year_108 : decode cX10_year 108 = .ok (.iinc 5 1, 3) := by decide +kernel
theorem dX10_year_111 : decode cX10_year 111 = .ok (.goto (-71), 3) := by decide +kernel
theorem dX10_year_114 : decode cX10_year 114 = .ok (.iload 4, 2) := by decide +kernel
theorem dX10_year_116 : decode cX10_year 116 = .ok (.ireturn, 1) := by decide +kernel
theorem dX10_tell_0 : decode cX10_tell 0 = .ok (.iload_n 1, 1) := by decide +kernel
theorem dX10_tell_1 : decode cX10_tell 1 = .ok (.ifCond .lt 14, 3) := by decide +kernel
theorem dX10_tell_4 : decode cX10_tell 4 = .ok (.iload_n 1, 1) := by decide +kernel
theorem dX10_tell_5 : decode cX10_tell 5 = .ok (.aload_n 0, 1) := by decide +kernel
theorem dX10_tell_6 : decode cX10_tell 6 = .ok (.getfield 23, 3) := by decide +kernel
theorem dX10_tell_9 : decode cX10_tell 9 = .ok (.getfield 262, 3) := by decide +kernel
theorem dX10_tell_12 : decode cX10_tell 12 = .ok (.if_icmp .lt 7, 3) := by decide +kernel
theorem dX10_tell_15 : decode cX10_tell 15 = .ok (.iconst (-1), 1) := by decide +kernel
theorem dX10_tell_16 : decode cX10_tell 16 = .ok (.goto 12, 3) := by decide +kernel
theorem dX10_tell_19 : decode cX10_tell 19 = .ok (.aload_n 0, 1) := by decide +kernel
theorem dX10_tell_20 : decode cX10_tell 20 = .ok (.getfield 58, 3) := by decide +kernel
theorem dX10_tell_23 : decode cX10_tell 23 = .ok (.iload_n 1, 1) := by decide +kernel
theorem dX10_tell_24 : decode cX10_tell 24 = .ok (.iload_n 2, 1) := by decide +kernel
theorem dX10_tell_25 : decode cX10_tell 25 = .ok (.invokevirtual 298, 3) := by decide +kernel
theorem dX10_tell_28 : decode cX10_tell 28 = .ok (.ireturn, 1) := by decide +kernel
theorem dX10_forget_0 : decode cX10_forget 0 = .ok (.aload_n 0, 1) := by decide +kernel
theorem dX10_forget_1 : decode cX10_forget 1 = .ok (.getfield 58, 3) := by decide +kernel
theorem dX10_forget_4 : decode cX10_forget 4 = .ok (.getfield 110, 3) := by decide +kernel
theorem dX10_forget_7 : decode cX10_forget 7 = .ok (.istore_n 1, 1) := by decide +kernel
theorem dX10_forget_8 : decode cX10_forget 8 = .ok (.aload_n 0, 1) := by decide +kernel
theorem dX10_forget_9 : decode cX10_forget 9 = .ok (.getfield 58, 3) := by decide +kernel
theorem dX10_forget_12 : decode cX10_forget 12 = .ok (.iconst 0, 1) := by decide +kernel
theorem dX10_forget_13 : decode cX10_forget 13 = .ok (.putfield 110, 3) := by decide +kernel
theorem dX10_forget_16 : decode cX10_forget 16 = .ok (.iload_n 1, 1) := by decide +kernel
theorem dX10_forget_17 : decode cX10_forget 17 = .ok (.ireturn, 1) := by decide +kernel
theorem dX10_went_0 : decode cX10_went 0 = .ok (.aload_n 0, 1) := by decide +kernel
theorem dX10_went_1 : decode cX10_went 1 = .ok (.iload_n 1, 1) := by decide +kernel
theorem dX10_went_2 : decode cX10_went 2 = .ok (.iload_n 2, 1) := by decide +kernel
theorem dX10_went_3 : decode cX10_went 3 = .ok (.invokevirtual 302, 3) := by decide +kernel
theorem dX10_went_6 : decode cX10_went 6 = .ok (.ifCond .eq 19, 3) := by decide +kernel
theorem dX10_went_9 : decode cX10_went 9 = .ok (.aload_n 0, 1) := by decide +kernel
theorem dX10_went_10 : decode cX10_went 10 = .ok (.getfield 58, 3) := by decide +kernel
theorem dX10_went_13 : decode cX10_went 13 = .ok (.aload_n 0, 1) := by decide +kernel
theorem dX10_went_14 : decode cX10_went 14 = .ok (.getfield 23, 3) := by decide +kernel
theorem dX10_went_17 : decode cX10_went 17 = .ok (.iload_n 1, 1) := by decide +kernel
theorem dX10_went_18 : decode cX10_went 18 = .ok (.iload_n 2, 1) := by decide +kernel
theorem dX10_went_19 : decode cX10_went 19 = .ok (.invokevirtual 305, 3) := by decide +kernel
theorem dX10_went_22 : decode cX10_went 22 = .ok (.goto 4, 3) := by decide +kernel
theorem dX10_went_25 : decode cX10_went 25 = .ok (.iconst (-1), 1) := by decide +kernel
theorem dX10_went_26 : decode cX10_went 26 = .ok (.ireturn, 1) := by decide +kernel
theorem dX10_isKnown_0 : decode cX10_isKnown 0 = .ok (.aload_n 0, 1) := by decide +kernel
theorem dX10_isKnown_1 : decode cX10_isKnown 1 = .ok (.getfield 23, 3) := by decide +kernel
theorem dX10_isKnown_4 : decode cX10_isKnown 4 = .ok (.iload_n 1, 1) := by decide +kernel
theorem dX10_isKnown_5 : decode cX10_isKnown 5 = .ok (.invokevirtual 143, 3) := by decide +kernel
theorem dX10_isKnown_8 : decode cX10_isKnown 8 = .ok (.ifCond .eq 22, 3) := by decide +kernel
theorem dX10_isKnown_11 : decode cX10_isKnown 11 = .ok (.iload_n 2, 1) := by decide +kernel
theorem dX10_isKnown_12 : decode cX10_isKnown 12 = .ok (.ifCond .lt 18, 3) := by decide +kernel
theorem dX10_isKnown_15 : decode cX10_isKnown 15 = .ok (.iload_n 2, 1) := by decide +kernel
theorem dX10_isKnown_16 : decode cX10_isKnown 16 = .ok (.aload_n 0, 1) := by decide +kernel
theorem dX10_isKnown_17 : decode cX10_isKnown 17 = .ok (.getfield 58, 3) := by decide +kernel
theorem dX10_isKnown_20 : decode cX10_isKnown 20 = .ok (.getfield 110, 3) := by decide +kernel
theorem dX10_isKnown_23 : decode cX10_isKnown 23 = .ok (.if_icmp .gt 7, 3) := by decide +kernel
theorem dX10_isKnown_26 : decode cX10_isKnown 26 = .ok (.iconst 1, 1) := by decide +kernel
theorem dX10_isKnown_27 : decode cX10_isKnown 27 = .ok (.goto 4, 3) := by decide +kernel
theorem dX10_isKnown_30 : decode cX10_isKnown 30 = .ok (.iconst 0, 1) := by decide +kernel
theorem dX10_isKnown_31 : decode cX10_isKnown 31 = .ok (.ireturn, 1) := by decide +kernel
theorem dX10_sure_0 : decode cX10_sure 0 = .ok (.aload_n 0, 1) := by decide +kernel
theorem dX10_sure_1 : decode cX10_sure 1 = .ok (.iload_n 1, 1) := by decide +kernel
theorem dX10_sure_2 : decode cX10_sure 2 = .ok (.iload_n 2, 1) := by decide +kernel
theorem dX10_sure_3 : decode cX10_sure 3 = .ok (.invokevirtual 302, 3) := by decide +kernel
theorem dX10_sure_6 : decode cX10_sure 6 = .ok (.ifCond .eq 19, 3) := by decide +kernel
theorem dX10_sure_9 : decode cX10_sure 9 = .ok (.aload_n 0, 1) := by decide +kernel
theorem dX10_sure_10 : decode cX10_sure 10 = .ok (.getfield 58, 3) := by decide +kernel
theorem dX10_sure_13 : decode cX10_sure 13 = .ok (.aload_n 0, 1) := by decide +kernel
theorem dX10_sure_14 : decode cX10_sure 14 = .ok (.getfield 23, 3) := by decide +kernel
theorem dX10_sure_17 : decode cX10_sure 17 = .ok (.iload_n 1, 1) := by decide +kernel
theorem dX10_sure_18 : decode cX10_sure 18 = .ok (.iload_n 2, 1) := by decide +kernel
theorem dX10_sure_19 : decode cX10_sure 19 = .ok (.invokevirtual 309, 3) := by decide +kernel
theorem dX10_sure_22 : decode cX10_sure 22 = .ok (.goto 4, 3) := by decide +kernel
theorem dX10_sure_25 : decode cX10_sure 25 = .ok (.iconst (-1), 1) := by decide +kernel
theorem dX10_sure_26 : decode cX10_sure 26 = .ok (.ireturn, 1) := by decide +kernel
theorem dX10_ask_0 : decode cX10_ask 0 = .ok (.aload_n 0, 1) := by decide +kernel
theorem dX10_ask_1 : decode cX10_ask 1 = .ok (.iload_n 1, 1) := by decide +kernel
theorem dX10_ask_2 : decode cX10_ask 2 = .ok (.iload_n 2, 1) := by decide +kernel
theorem dX10_ask_3 : decode cX10_ask 3 = .ok (.invokevirtual 302, 3) := by decide +kernel
theorem dX10_ask_6 : decode cX10_ask 6 = .ok (.ifCond .eq 19, 3) := by decide +kernel
theorem dX10_ask_9 : decode cX10_ask 9 = .ok (.aload_n 0, 1) := by decide +kernel
theorem dX10_ask_10 : decode cX10_ask 10 = .ok (.getfield 58, 3) := by decide +kernel
theorem dX10_ask_13 : decode cX10_ask 13 = .ok (.aload_n 0, 1) := by decide +kernel
theorem dX10_ask_14 : decode cX10_ask 14 = .ok (.getfield 23, 3) := by decide +kernel
theorem dX10_ask_17 : decode cX10_ask 17 = .ok (.iload_n 1, 1) := by decide +kernel
theorem dX10_ask_18 : decode cX10_ask 18 = .ok (.iload_n 2, 1) := by decide +kernel
theorem dX10_ask_19 : decode cX10_ask 19 = .ok (.invokevirtual 312, 3) := by decide +kernel
theorem dX10_ask_22 : decode cX10_ask 22 = .ok (.goto 4, 3) := by decide +kernel
theorem dX10_ask_25 : decode cX10_ask 25 = .ok (.iconst (-1), 1) := by decide +kernel
theorem dX10_ask_26 : decode cX10_ask 26 = .ok (.ireturn, 1) := by decide +kernel
theorem dX10_hold_0 : decode cX10_hold 0 = .ok (.iload_n 1, 1) := by decide +kernel
theorem dX10_hold_1 : decode cX10_hold 1 = .ok (.ifCond .lt 8, 3) := by decide +kernel
theorem dX10_hold_4 : decode cX10_hold 4 = .ok (.iload_n 1, 1) := by decide +kernel
theorem dX10_hold_5 : decode cX10_hold 5 = .ok (.iconst 3, 1) := by decide +kernel
theorem dX10_hold_6 : decode cX10_hold 6 = .ok (.if_icmp .lt 5, 3) := by decide +kernel
theorem dX10_hold_9 : decode cX10_hold 9 = .ok (.iconst 0, 1) := by decide +kernel
theorem dX10_hold_10 : decode cX10_hold 10 = .ok (.ireturn, 1) := by decide +kernel
theorem dX10_hold_11 : decode cX10_hold 11 = .ok (.aload_n 0, 1) := by decide +kernel
theorem dX10_hold_12 : decode cX10_hold 12 = .ok (.getfield 48, 3) := by decide +kernel
theorem dX10_hold_15 : decode cX10_hold 15 = .ok (.iload_n 1, 1) := by decide +kernel
theorem dX10_hold_16 : decode cX10_hold 16 = .ok (.aaload, 1) := by decide +kernel
theorem dX10_hold_17 : decode cX10_hold 17 = .ok (.aload_n 0, 1) := by decide +kernel
theorem dX10_hold_18 : decode cX10_hold 18 = .ok (.getfield 30, 3) := by decide +kernel
theorem dX10_hold_21 : decode cX10_hold 21 = .ok (.invokevirtual 315, 3) := by decide +kernel
theorem dX10_hold_24 : decode cX10_hold 24 = .ok (.aload_n 0, 1) := by decide +kernel
theorem dX10_hold_25 : decode cX10_hold 25 = .ok (.dup, 1) := by decide +kernel
theorem dX10_hold_26 : decode cX10_hold 26 = .ok (.getfield 52, 3) := by decide +kernel
theorem dX10_hold_29 : decode cX10_hold 29 = .ok (.iconst 1, 1) := by decide +kernel
theorem dX10_hold_30 : decode cX10_hold 30 = .ok (.iload_n 1, 1) := by decide +kernel
theorem dX10_hold_31 : decode cX10_hold 31 = .ok (.ishl, 1) := by decide +kernel
theorem dX10_hold_32 : decode cX10_hold 32 = .ok (.ior, 1) := by decide +kernel
theorem dX10_hold_33 : decode cX10_hold 33 = .ok (.putfield 52, 3) := by decide +kernel
theorem dX10_hold_36 : decode cX10_hold 36 = .ok (.iconst 1, 1) := by decide +kernel
theorem dX10_hold_37 : decode cX10_hold 37 = .ok (.ireturn, 1) := by decide +kernel
theorem dX10_restore_0 : decode cX10_restore 0 = .ok (.iload_n 1, 1) := by decide +kernel
theorem dX10_restore_1 : decode cX10_restore 1 = .ok (.ifCond .lt 19, 3) := by decide +kernel
theorem dX10_restore_4 : decode cX10_restore 4 = .ok (.iload_n 1, 1) := by decide +kernel
theorem dX10_restore_5 : decode cX10_restore 5 = .ok (.iconst 3, 1) := by decide +kernel
theorem dX10_restore_6 : decode cX10_restore 6 = .ok (.if_icmp .ge 14, 3) := by decide +kernel
theorem dX10_restore_9 : decode cX10_restore 9 = .ok (.aload_n 0, 1) := by decide +kernel
theorem dX10_restore_10 : decode cX10_restore 10 = .ok (.getfield 52, 3) := by decide +kernel
theorem dX10_restore_13 : decode cX10_restore 13 = .ok (.iload_n 1, 1) := by decide +kernel
theorem dX10_restore_14 : decode cX10_restore 14 = .ok (.iushr, 1) := by decide +kernel
theorem dX10_restore_15 : decode cX10_restore 15 = .ok (.iconst 1, 1) := by decide +kernel
theorem dX10_restore_16 : decode cX10_restore 16 = .ok (.iand, 1) := by decide +kernel
theorem dX10_restore_17 : decode cX10_restore 17 = .ok (.ifCond .ne 5, 3) := by decide +kernel
theorem dX10_restore_20 : decode cX10_restore 20 = .ok (.iconst 0, 1) := by decide +kernel
theorem dX10_restore_21 : decode cX10_restore 21 = .ok (.ireturn, 1) := by decide +kernel
theorem dX10_restore_22 : decode cX10_restore 22 = .ok (.aload_n 0, 1) := by decide +kernel
theorem dX10_restore_23 : decode cX10_restore 23 = .ok (.getfield 30, 3) := by decide +kernel
theorem dX10_restore_26 : decode cX10_restore 26 = .ok (.aload_n 0, 1) := by decide +kernel
theorem dX10_restore_27 : decode cX10_restore 27 = .ok (.getfield 48, 3) := by decide +kernel
theorem dX10_restore_30 : decode cX10_restore 30 = .ok (.iload_n 1, 1) := by decide +kernel
theorem dX10_restore_31 : decode cX10_restore 31 = .ok (.aaload, 1) := by decide +kernel
theorem dX10_restore_32 : decode cX10_restore 32 = .ok (.invokevirtual 315, 3) := by decide +kernel
theorem dX10_restore_35 : decode cX10_restore 35 = .ok (.aload_n 0, 1) := by decide +kernel
theorem dX10_restore_36 : decode cX10_restore 36 = .ok (.getfield 44, 3) := by decide +kernel
theorem dX10_restore_39 : decode cX10_restore 39 = .ok (.iconst 0, 1) := by decide +kernel
theorem dX10_restore_40 : decode cX10_restore 40 = .ok (.putfield 107, 3) := by decide +kernel
theorem dX10_restore_43 : decode cX10_restore 43 = .ok (.iconst 1, 1) := by decide +kernel
theorem dX10_restore_44 : decode cX10_restore 44 = .ok (.ireturn, 1) := by decide +kernel
theorem dX10_count_0 : decode cX10_count 0 = .ok (.iload_n 1, 1) := by decide +kernel
theorem dX10_count_1 : decode cX10_count 1 = .ok (.tableswitch 237 0 15 #[79, 87, 95, 103, 111, 119, 127, 136, 145, 153, 161, 169, 180, 188, 196, 204], 79) := by decide +kernel
theorem dX10_count_80 : decode cX10_count 80 = .ok (.aload_n 0, 1) := by decide +kernel
theorem dX10_count_81 : decode cX10_count 81 = .ok (.getfield 23, 3) := by decide +kernel
theorem dX10_count_84 : decode cX10_count 84 = .ok (.getfield 262, 3) := by decide +kernel
theorem dX10_count_87 : decode cX10_count 87 = .ok (.ireturn, 1) := by decide +kernel
theorem dX10_count_88 : decode cX10_count 88 = .ok (.aload_n 0, 1) := by decide +kernel
theorem dX10_count_89 : decode cX10_count 89 = .ok (.getfield 23, 3) := by decide +kernel
theorem dX10_count_92 : decode cX10_count 92 = .ok (.getfield 318, 3) := by decide +kernel
theorem dX10_count_95 : decode cX10_count 95 = .ok (.ireturn, 1) := by decide +kernel
theorem dX10_count_96 : decode cX10_count 96 = .ok (.aload_n 0, 1) := by decide +kernel
theorem dX10_count_97 : decode cX10_count 97 = .ok (.getfield 23, 3) := by decide +kernel
theorem dX10_count_100 : decode cX10_count 100 = .ok (.getfield 321, 3) := by decide +kernel
theorem dX10_count_103 : decode cX10_count 103 = .ok (.ireturn, 1) := by decide +kernel
theorem dX10_count_104 : decode cX10_count 104 = .ok (.aload_n 0, 1) := by decide +kernel
theorem dX10_count_105 : decode cX10_count 105 = .ok (.getfield 23, 3) := by decide +kernel
theorem dX10_count_108 : decode cX10_count 108 = .ok (.getfield 285, 3) := by decide +kernel
theorem dX10_count_111 : decode cX10_count 111 = .ok (.ireturn, 1) := by decide +kernel
theorem dX10_count_112 : decode cX10_count 112 = .ok (.aload_n 0, 1) := by decide +kernel
theorem dX10_count_113 : decode cX10_count 113 = .ok (.getfield 30, 3) := by decide +kernel
theorem dX10_count_116 : decode cX10_count 116 = .ok (.getfield 221, 3) := by decide +kernel
theorem dX10_count_119 : decode cX10_count 119 = .ok (.ireturn, 1) := by decide +kernel
theorem dX10_count_120 : decode cX10_count 120 = .ok (.aload_n 0, 1) := by decide +kernel
theorem dX10_count_121 : decode cX10_count 121 = .ok (.getfield 30, 3) := by decide +kernel
theorem dX10_count_124 : decode cX10_count 124 = .ok (.getfield 193, 3) := by decide +kernel
theorem dX10_count_127 : decode cX10_count 127 = .ok (.ireturn, 1) := by decide +kernel
theorem dX10_count_128 : decode cX10_count 128 = .ok (.aload_n 0, 1) := by decide +kernel
theorem dX10_count_129 : decode cX10_count 129 = .ok (.getfield 30, 3) := by decide +kernel
theorem dX10_count_132 : decode cX10_count 132 = .ok (.iconst 1, 1) := by decide +kernel
theorem dX10_count_133 : decode cX10_count 133 = .ok (.invokevirtual 324, 3) := by decide +kernel
theorem dX10_count_136 : decode cX10_count 136 = .ok (.ireturn, 1) := by decide +kernel
theorem dX10_count_137 : decode cX10_count 137 = .ok (.aload_n 0, 1) := by decide +kernel
theorem dX10_count_138 : decode cX10_count 138 = .ok (.getfield 30, 3) := by decide +kernel
theorem dX10_count_141 : decode cX10_count 141 = .ok (.iconst 2, 1) := by decide +kernel
theorem dX10_count_142 : decode cX10_count 142 = .ok (.invokevirtual 324, 3) := by decide +kernel
theorem dX10_count_145 : decode cX10_count 145 = .ok (.ireturn, 1) := by decide +kernel
theorem dX10_count_146 : decode cX10_count 146 = .ok (.aload_n 0, 1) := by decide +kernel
theorem dX10_count_147 : decode cX10_count 147 = .ok (.getfield 30, 3) := by decide +kernel
theorem dX10_count_150 : decode cX10_count 150 = .ok (.getfield 124, 3) := by decide +kernel
theorem dX10_count_153 : decode cX10_count 153 = .ok (.ireturn, 1) := by decide +kernel
theorem dX10_count_154 : decode cX10_count 154 = .ok (.aload_n 0, 1) := by decide +kernel
theorem dX10_count_155 : decode cX10_count 155 = .ok (.getfield 30, 3) := by decide +kernel
theorem dX10_count_158 : decode cX10_count 158 = .ok (.getfield 327, 3) := by decide +kernel
theorem dX10_count_161 : decode cX10_count 161 = .ok (.ireturn, 1) := by decide +kernel
theorem dX10_count_162 : decode cX10_count 162 = .ok (.aload_n 0, 1) := by decide +kernel
theorem dX10_count_163 : decode cX10_count 163 = .ok (.getfield 30, 3) := by decide +kernel
theorem dX10_count_166 : decode cX10_count 166 = .ok (.getfield 330, 3) := by decide +kernel
theorem dX10_count_169 : decode cX10_count 169 = .ok (.ireturn, 1) := by decide +kernel
theorem dX10_count_170 : decode cX10_count 170 = .ok (.aload_n 0, 1) := by decide +kernel
theorem dX10_count_171 : decode cX10_count 171 = .ok (.getfield 12, 3) := by decide +kernel
theorem dX10_count_174 : decode cX10_count 174 = .ok (.getfield 76, 3) := by decide +kernel
theorem dX10_count_177 : decode cX10_count 177 = .ok (.getfield 80, 3) := by decide +kernel
theorem dX10_count_180 : decode cX10_count 180 = .ok (.ireturn, 1) := by decide +kernel
theorem dX10_count_181 : decode cX10_count 181 = .ok (.aload_n 0, 1) := by decide +kernel
theorem dX10_count_182 : decode cX10_count 182 = .ok (.getfield 44, 3) := by decide +kernel
theorem dX10_count_185 : decode cX10_count 185 = .ok (.getfield 107, 3) := by decide +kernel
theorem dX10_count_188 : decode cX10_count 188 = .ok (.ireturn, 1) := by decide +kernel
theorem dX10_count_189 : decode cX10_count 189 = .ok (.aload_n 0, 1) := by decide +kernel
theorem dX10_count_190 : decode cX10_count 190 = .ok (.getfield 58, 3) := by decide +kernel
theorem dX10_count_193 : decode cX10_count 193 = .ok (.getfield 110, 3) := by decide +kernel
theorem dX10_count_196 : decode cX10_count 196 = .ok (.ireturn, 1) := by decide +kernel
theorem dX10_count_197 : decode cX10_count 197 = .ok (.aload_n 0, 1) := by decide +kernel
theorem dX10_count_198 : decode cX10_count 198 = .ok (.getfield 52, 3) := by decide +kernel
theorem dX10_count_201 : decode cX10_count 201 = .ok (.invokestatic 274, 3) := by decide +kernel
theorem dX10_count_204 : decode cX10_count 204 = .ok (.ireturn, 1) := by decide +kernel
theorem dX10_count_205 : decode cX10_count 205 = .ok (.aload_n 0, 1) := by decide +kernel
theorem dX10_count_206 : decode cX10_count 206 = .ok (.getfield 23, 3) := by decide +kernel
theorem dX10_count_209 : decode cX10_count 209 = .ok (.getfield 333, 3) := by decide +kernel
theorem dX10_count_212 : decode cX10_count 212 = .ok (.aload_n 0, 1) := by decide +kernel
theorem dX10_count_213 : decode cX10_count 213 = .ok (.getfield 23, 3) := by decide +kernel
theorem dX10_count_216 : decode cX10_count 216 = .ok (.getfield 214, 3) := by decide +kernel
theorem dX10_count_219 : decode cX10_count 219 = .ok (.aload_n 0, 1) := by decide +kernel
theorem dX10_count_220 : decode cX10_count 220 = .ok (.getfield 30, 3) := by decide +kernel
theorem dX10_count_223 : decode cX10_count 223 = .ok (.getfield 221, 3) := by decide +kernel
theorem dX10_count_226 : decode cX10_count 226 = .ok (.invokestatic 336, 3) := by decide +kernel
theorem dX10_count_229 : decode cX10_count 229 = .ok (.ifCond .eq 7, 3) := by decide +kernel
theorem dX10_count_232 : decode cX10_count 232 = .ok (.iconst 1, 1) := by decide +kernel
theorem dX10_count_233 : decode cX10_count 233 = .ok (.goto 4, 3) := by decide +kernel
theorem dX10_count_236 : decode cX10_count 236 = .ok (.iconst 0, 1) := by decide +kernel
theorem dX10_count_237 : decode cX10_count 237 = .ok (.ireturn, 1) := by decide +kernel
theorem dX10_count_238 : decode cX10_count 238 = .ok (.iconst (-1), 1) := by decide +kernel
theorem dX10_count_239 : decode cX10_count 239 = .ok (.ireturn, 1) := by decide +kernel
theorem dJ6_bitCount_0f7a4_0 : decode cJ6_bitCount_0f7a4 0 = .ok (.iload_n 0, 1) := by decide +kernel
theorem dJ6_bitCount_0f7a4_1 : decode cJ6_bitCount_0f7a4 1 = .ok (.iload_n 0, 1) := by decide +kernel
theorem dJ6_bitCount_0f7a4_2 : decode cJ6_bitCount_0f7a4 2 = .ok (.iconst 1, 1) := by decide +kernel
theorem dJ6_bitCount_0f7a4_3 : decode cJ6_bitCount_0f7a4 3 = .ok (.iushr, 1) := by decide +kernel
theorem dJ6_bitCount_0f7a4_4 : decode cJ6_bitCount_0f7a4 4 = .ok (.ldc_w 265, 3) := by decide +kernel
theorem dJ6_bitCount_0f7a4_7 : decode cJ6_bitCount_0f7a4 7 = .ok (.iand, 1) := by decide +kernel
theorem dJ6_bitCount_0f7a4_8 : decode cJ6_bitCount_0f7a4 8 = .ok (.isub, 1) := by decide +kernel
theorem dJ6_bitCount_0f7a4_9 : decode cJ6_bitCount_0f7a4 9 = .ok (.istore_n 0, 1) := by decide +kernel
theorem dJ6_bitCount_0f7a4_10 : decode cJ6_bitCount_0f7a4 10 = .ok (.iload_n 0, 1) := by decide +kernel
theorem dJ6_bitCount_0f7a4_11 : decode cJ6_bitCount_0f7a4 11 = .ok (.ldc_w 266, 3) := by decide +kernel
theorem dJ6_bitCount_0f7a4_14 : decode cJ6_bitCount_0f7a4 14 = .ok (.iand, 1) := by decide +kernel
theorem dJ6_bitCount_0f7a4_15 : decode cJ6_bitCount_0f7a4 15 = .ok (.iload_n 0, 1) := by decide +kernel
theorem dJ6_bitCount_0f7a4_16 : decode cJ6_bitCount_0f7a4 16 = .ok (.iconst 2, 1) := by decide +kernel
theorem dJ6_bitCount_0f7a4_17 : decode cJ6_bitCount_0f7a4 17 = .ok (.iushr, 1) := by decide +kernel
theorem dJ6_bitCount_0f7a4_18 : decode cJ6_bitCount_0f7a4 18 = .ok (.ldc_w 266, 3) := by decide +kernel
theorem dJ6_bitCount_0f7a4_21 : decode cJ6_bitCount_0f7a4 21 = .ok (.iand, 1) := by decide +kernel
theorem dJ6_bitCount_0f7a4_22 : decode cJ6_bitCount_0f7a4 22 = .ok (.iadd, 1) := by decide +kernel
theorem dJ6_bitCount_0f7a4_23 : decode cJ6_bitCount_0f7a4 23 = .ok (.istore_n 0, 1) := by decide +kernel
theorem dJ6_bitCount_0f7a4_24 : decode cJ6_bitCount_0f7a4 24 = .ok (.iload_n 0, 1) := by decide +kernel
theorem dJ6_bitCount_0f7a4_25 : decode cJ6_bitCount_0f7a4 25 = .ok (.iload_n 0, 1) := by decide +kernel
theorem dJ6_bitCount_0f7a4_26 : decode cJ6_bitCount_0f7a4 26 = .ok (.iconst 4, 1) := by decide +kernel
theorem dJ6_bitCount_0f7a4_27 : decode cJ6_bitCount_0f7a4 27 = .ok (.iushr, 1) := by decide +kernel
theorem dJ6_bitCount_0f7a4_28 : decode cJ6_bitCount_0f7a4 28 = .ok (.iadd, 1) := by decide +kernel
theorem dJ6_bitCount_0f7a4_29 : decode cJ6_bitCount_0f7a4 29 = .ok (.ldc_w 267, 3) := by decide +kernel
theorem dJ6_bitCount_0f7a4_32 : decode cJ6_bitCount_0f7a4 32 = .ok (.iand, 1) := by decide +kernel
theorem dJ6_bitCount_0f7a4_33 : decode cJ6_bitCount_0f7a4 33 = .ok (.istore_n 0, 1) := by decide +kernel
theorem dJ6_bitCount_0f7a4_34 : decode cJ6_bitCount_0f7a4 34 = .ok (.iload_n 0, 1) := by decide +kernel
theorem dJ6_bitCount_0f7a4_35 : decode cJ6_bitCount_0f7a4 35 = .ok (.iload_n 0, 1) := by decide +kernel
theorem dJ6_bitCount_0f7a4_36 : decode cJ6_bitCount_0f7a4 36 = .ok (.bipush 8, 2) := by decide +kernel
theorem dJ6_bitCount_0f7a4_38 : decode cJ6_bitCount_0f7a4 38 = .ok (.iushr, 1) := by decide +kernel
theorem dJ6_bitCount_0f7a4_39 : decode cJ6_bitCount_0f7a4 39 = .ok (.iadd, 1) := by decide +kernel
theorem dJ6_bitCount_0f7a4_40 : decode cJ6_bitCount_0f7a4 40 = .ok (.istore_n 0, 1) := by decide +kernel
theorem dJ6_bitCount_0f7a4_41 : decode cJ6_bitCount_0f7a4 41 = .ok (.iload_n 0, 1) := by decide +kernel
theorem dJ6_bitCount_0f7a4_42 : decode cJ6_bitCount_0f7a4 42 = .ok (.iload_n 0, 1) := by decide +kernel
theorem dJ6_bitCount_0f7a4_43 : decode cJ6_bitCount_0f7a4 43 = .ok (.bipush 16, 2) := by decide +kernel
theorem dJ6_bitCount_0f7a4_45 : decode cJ6_bitCount_0f7a4 45 = .ok (.iushr, 1) := by decide +kernel
theorem dJ6_bitCount_0f7a4_46 : decode cJ6_bitCount_0f7a4 46 = .ok (.iadd, 1) := by decide +kernel
theorem dJ6_bitCount_0f7a4_47 : decode cJ6_bitCount_0f7a4 47 = .ok (.istore_n 0, 1) := by decide +kernel
theorem dJ6_bitCount_0f7a4_48 : decode cJ6_bitCount_0f7a4 48 = .ok (.iload_n 0, 1) := by decide +kernel
theorem dJ6_bitCount_0f7a4_49 : decode cJ6_bitCount_0f7a4 49 = .ok (.bipush 63, 2) := by decide +kernel
theorem dJ6_bitCount_0f7a4_51 : decode cJ6_bitCount_0f7a4 51 = .ok (.iand, 1) := by decide +kernel
theorem dJ6_bitCount_0f7a4_52 : decode cJ6_bitCount_0f7a4 52 = .ok (.ireturn, 1) := by decide +kernel
theorem dJ13_bitCount_95d88_0 : decode cJ13_bitCount_95d88 0 = .ok (.lload_n 0, 1) := by decide +kernel
theorem dJ13_bitCount_95d88_1 : decode cJ13_bitCount_95d88 1 = .ok (.lload_n 0, 1) := by decide +kernel
theorem dJ13_bitCount_95d88_2 : decode cJ13_bitCount_95d88 2 = .ok (.iconst 1, 1) := by decide +kernel
theorem dJ13_bitCount_95d88_3 : decode cJ13_bitCount_95d88 3 = .ok (.lushr, 1) := by decide +kernel
theorem dJ13_bitCount_95d88_4 : decode cJ13_bitCount_95d88 4 = .ok (.ldc2_w 314, 3) := by decide +kernel
theorem dJ13_bitCount_95d88_7 : decode cJ13_bitCount_95d88 7 = .ok (.land, 1) := by decide +kernel
theorem dJ13_bitCount_95d88_8 : decode cJ13_bitCount_95d88 8 = .ok (.lsub, 1) := by decide +kernel
theorem dJ13_bitCount_95d88_9 : decode cJ13_bitCount_95d88 9 = .ok (.lstore_n 0, 1) := by decide +kernel
theorem dJ13_bitCount_95d88_10 : decode cJ13_bitCount_95d88 10 = .ok (.lload_n 0, 1) := by decide +kernel
theorem dJ13_bitCount_95d88_11 : decode cJ13_bitCount_95d88 11 = .ok (.ldc2_w 316, 3) := by decide +kernel
theorem dJ13_bitCount_95d88_14 : decode cJ13_bitCount_95d88 14 = .ok (.land, 1) := by decide +kernel
theorem dJ13_bitCount_95d88_15 : decode cJ13_bitCount_95d88 15 = .ok (.lload_n 0, 1) := by decide +kernel
theorem dJ13_bitCount_95d88_16 : decode cJ13_bitCount_95d88 16 = .ok (.iconst 2, 1) := by decide +kernel
theorem dJ13_bitCount_95d88_17 : decode cJ13_bitCount_95d88 17 = .ok (.lushr, 1) := by decide +kernel
theorem dJ13_bitCount_95d88_18 : decode cJ13_bitCount_95d88 18 = .ok (.ldc2_w 316, 3) := by decide +kernel
theorem dJ13_bitCount_95d88_21 : decode cJ13_bitCount_95d88 21 = .ok (.land, 1) := by decide +kernel
theorem dJ13_bitCount_95d88_22 : decode cJ13_bitCount_95d88 22 = .ok (.ladd, 1) := by decide +kernel
theorem dJ13_bitCount_95d88_23 : decode cJ13_bitCount_95d88 23 = .ok (.lstore_n 0, 1) := by decide +kernel
theorem dJ13_bitCount_95d88_24 : decode cJ13_bitCount_95d88 24 = .ok (.lload_n 0, 1) := by decide +kernel
theorem dJ13_bitCount_95d88_25 : decode cJ13_bitCount_95d88 25 = .ok (.lload_n 0, 1) := by decide +kernel
theorem dJ13_bitCount_95d88_26 : decode cJ13_bitCount_95d88 26 = .ok (.iconst 4, 1) := by decide +kernel
theorem dJ13_bitCount_95d88_27 : decode cJ13_bitCount_95d88 27 = .ok (.lushr, 1) := by decide +kernel
theorem dJ13_bitCount_95d88_28 : decode cJ13_bitCount_95d88 28 = .ok (.ladd, 1) := by decide +kernel
theorem dJ13_bitCount_95d88_29 : decode cJ13_bitCount_95d88 29 = .ok (.ldc2_w 318, 3) := by decide +kernel
theorem dJ13_bitCount_95d88_32 : decode cJ13_bitCount_95d88 32 = .ok (.land, 1) := by decide +kernel
theorem dJ13_bitCount_95d88_33 : decode cJ13_bitCount_95d88 33 = .ok (.lstore_n 0, 1) := by decide +kernel
theorem dJ13_bitCount_95d88_34 : decode cJ13_bitCount_95d88 34 = .ok (.lload_n 0, 1) := by decide +kernel
theorem dJ13_bitCount_95d88_35 : decode cJ13_bitCount_95d88 35 = .ok (.lload_n 0, 1) := by decide +kernel
theorem dJ13_bitCount_95d88_36 : decode cJ13_bitCount_95d88 36 = .ok (.bipush 8, 2) := by decide +kernel
theorem dJ13_bitCount_95d88_38 : decode cJ13_bitCount_95d88 38 = .ok (.lushr, 1) := by decide +kernel
theorem dJ13_bitCount_95d88_39 : decode cJ13_bitCount_95d88 39 = .ok (.ladd, 1) := by decide +kernel
theorem dJ13_bitCount_95d88_40 : decode cJ13_bitCount_95d88 40 = .ok (.lstore_n 0, 1) := by decide +kernel
theorem dJ13_bitCount_95d88_41 : decode cJ13_bitCount_95d88 41 = .ok (.lload_n 0, 1) := by decide +kernel
theorem dJ13_bitCount_95d88_42 : decode cJ13_bitCount_95d88 42 = .ok (.lload_n 0, 1) := by decide +kernel
theorem dJ13_bitCount_95d88_43 : decode cJ13_bitCount_95d88 43 = .ok (.bipush 16, 2) := by decide +kernel
theorem dJ13_bitCount_95d88_45 : decode cJ13_bitCount_95d88 45 = .ok (.lushr, 1) := by decide +kernel
theorem dJ13_bitCount_95d88_46 : decode cJ13_bitCount_95d88 46 = .ok (.ladd, 1) := by decide +kernel
theorem dJ13_bitCount_95d88_47 : decode cJ13_bitCount_95d88 47 = .ok (.lstore_n 0, 1) := by decide +kernel
theorem dJ13_bitCount_95d88_48 : decode cJ13_bitCount_95d88 48 = .ok (.lload_n 0, 1) := by decide +kernel
theorem dJ13_bitCount_95d88_49 : decode cJ13_bitCount_95d88 49 = .ok (.lload_n 0, 1) := by decide +kernel
theorem dJ13_bitCount_95d88_50 : decode cJ13_bitCount_95d88 50 = .ok (.bipush 32, 2) := by decide +kernel
theorem dJ13_bitCount_95d88_52 : decode cJ13_bitCount_95d88 52 = .ok (.lushr, 1) := by decide +kernel
theorem dJ13_bitCount_95d88_53 : decode cJ13_bitCount_95d88 53 = .ok (.ladd, 1) := by decide +kernel
theorem dJ13_bitCount_95d88_54 : decode cJ13_bitCount_95d88 54 = .ok (.lstore_n 0, 1) := by decide +kernel
theorem dJ13_bitCount_95d88_55 : decode cJ13_bitCount_95d88 55 = .ok (.lload_n 0, 1) := by decide +kernel
theorem dJ13_bitCount_95d88_56 : decode cJ13_bitCount_95d88 56 = .ok (.l2i, 1) := by decide +kernel
theorem dJ13_bitCount_95d88_57 : decode cJ13_bitCount_95d88 57 = .ok (.bipush 127, 2) := by decide +kernel
theorem dJ13_bitCount_95d88_59 : decode cJ13_bitCount_95d88 59 = .ok (.iand, 1) := by decide +kernel
theorem dJ13_bitCount_95d88_60 : decode cJ13_bitCount_95d88 60 = .ok (.ireturn, 1) := by decide +kernel
theorem dJ7_rangeCheck_23922_0 : decode cJ7_rangeCheck_23922 0 = .ok (.iload_n 1, 1) := by decide +kernel
theorem dJ7_rangeCheck_23922_1 : decode cJ7_rangeCheck_23922 1 = .ok (.iload_n 2, 1) := by decide +kernel
theorem dJ7_rangeCheck_23922_2 : decode cJ7_rangeCheck_23922 2 = .ok (.if_icmp .le 44, 3) := by decide +kernel
theorem dJ7_rangeCheck_23922_5 : decode cJ7_rangeCheck_23922 5 = .ok (.new 43, 3) := by decide +kernel
theorem dJ7_rangeCheck_23922_8 : decode cJ7_rangeCheck_23922 8 = .ok (.dup, 1) := by decide +kernel
theorem dJ7_rangeCheck_23922_9 : decode cJ7_rangeCheck_23922 9 = .ok (.new 45, 3) := by decide +kernel
theorem dJ7_rangeCheck_23922_12 : decode cJ7_rangeCheck_23922 12 = .ok (.dup, 1) := by decide +kernel
theorem dJ7_rangeCheck_23922_13 : decode cJ7_rangeCheck_23922 13 = .ok (.invokespecial 47, 3) := by decide +kernel
theorem dJ7_rangeCheck_23922_16 : decode cJ7_rangeCheck_23922 16 = .ok (.ldc 48, 2) := by decide +kernel
theorem dJ7_rangeCheck_23922_18 : decode cJ7_rangeCheck_23922 18 = .ok (.invokevirtual 50, 3) := by decide +kernel
theorem dJ7_rangeCheck_23922_21 : decode cJ7_rangeCheck_23922 21 = .ok (.iload_n 1, 1) := by decide +kernel
theorem dJ7_rangeCheck_23922_22 : decode cJ7_rangeCheck_23922 22 = .ok (.invokevirtual 54, 3) := by decide +kernel
theorem dJ7_rangeCheck_23922_25 : decode cJ7_rangeCheck_23922 25 = .ok (.ldc 57, 2) := by decide +kernel
theorem dJ7_rangeCheck_23922_27 : decode cJ7_rangeCheck_23922 27 = .ok (.invokevirtual 50, 3) := by decide +kernel
theorem dJ7_rangeCheck_23922_30 : decode cJ7_rangeCheck_23922 30 = .ok (.iload_n 2, 1) := by decide +kernel
theorem dJ7_rangeCheck_23922_31 : decode cJ7_rangeCheck_23922 31 = .ok (.invokevirtual 54, 3) := by decide +kernel
theorem dJ7_rangeCheck_23922_34 : decode cJ7_rangeCheck_23922 34 = .ok (.ldc 59, 2) := by decide +kernel
theorem dJ7_rangeCheck_23922_36 : decode cJ7_rangeCheck_23922 36 = .ok (.invokevirtual 50, 3) := by decide +kernel
theorem dJ7_rangeCheck_23922_39 : decode cJ7_rangeCheck_23922 39 = .ok (.invokevirtual 61, 3) := by decide +kernel
theorem dJ7_rangeCheck_23922_42 : decode cJ7_rangeCheck_23922 42 = .ok (.invokespecial 65, 3) := by decide +kernel
theorem dJ7_rangeCheck_23922_45 : decode cJ7_rangeCheck_23922 45 = .ok (.athrow, 1) := by decide +kernel
theorem dJ7_rangeCheck_23922_46 : decode cJ7_rangeCheck_23922 46 = .ok (.iload_n 1, 1) := by decide +kernel
theorem dJ7_rangeCheck_23922_47 : decode cJ7_rangeCheck_23922 47 = .ok (.ifCond .ge 12, 3) := by decide +kernel
theorem dJ7_rangeCheck_23922_50 : decode cJ7_rangeCheck_23922 50 = .ok (.new 68, 3) := by decide +kernel
theorem dJ7_rangeCheck_23922_53 : decode cJ7_rangeCheck_23922 53 = .ok (.dup, 1) := by decide +kernel
theorem dJ7_rangeCheck_23922_54 : decode cJ7_rangeCheck_23922 54 = .ok (.iload_n 1, 1) := by decide +kernel
theorem dJ7_rangeCheck_23922_55 : decode cJ7_rangeCheck_23922 55 = .ok (.invokespecial 70, 3) := by decide +kernel
theorem dJ7_rangeCheck_23922_58 : decode cJ7_rangeCheck_23922 58 = .ok (.athrow, 1) := by decide +kernel
theorem dJ7_rangeCheck_23922_59 : decode cJ7_rangeCheck_23922 59 = .ok (.iload_n 2, 1) := by decide +kernel
theorem dJ7_rangeCheck_23922_60 : decode cJ7_rangeCheck_23922 60 = .ok (.iload_n 0, 1) := by decide +kernel
theorem dJ7_rangeCheck_23922_61 : decode cJ7_rangeCheck_23922 61 = .ok (.if_icmp .le 12, 3) := by decide +kernel
theorem dJ7_rangeCheck_23922_64 : decode cJ7_rangeCheck_23922 64 = .ok (.new 68, 3) := by decide +kernel
theorem dJ7_rangeCheck_23922_67 : decode cJ7_rangeCheck_23922 67 = .ok (.dup, 1) := by decide +kernel
theorem dJ7_rangeCheck_23922_68 : decode cJ7_rangeCheck_23922 68 = .ok (.iload_n 2, 1) := by decide +kernel
theorem dJ7_rangeCheck_23922_69 : decode cJ7_rangeCheck_23922 69 = .ok (.invokespecial 70, 3) := by decide +kernel
theorem dJ7_rangeCheck_23922_72 : decode cJ7_rangeCheck_23922 72 = .ok (.athrow, 1) := by decide +kernel
theorem dJ7_rangeCheck_23922_73 : decode cJ7_rangeCheck_23922 73 = .ok (.return_, 1) := by decide +kernel
theorem dJ7_fill_53178_0 : decode cJ7_fill_53178 0 = .ok (.iconst 0, 1) := by decide +kernel
theorem dJ7_fill_53178_1 : decode cJ7_fill_53178 1 = .ok (.istore_n 2, 1) := by decide +kernel
theorem dJ7_fill_53178_2 : decode cJ7_fill_53178 2 = .ok (.aload_n 0, 1) := by decide +kernel
theorem dJ7_fill_53178_3 : decode cJ7_fill_53178 3 = .ok (.arraylength, 1) := by decide +kernel
theorem dJ7_fill_53178_4 : decode cJ7_fill_53178 4 = .ok (.istore_n 3, 1) := by decide +kernel
theorem dJ7_fill_53178_5 : decode cJ7_fill_53178 5 = .ok (.iload_n 2, 1) := by decide +kernel
theorem dJ7_fill_53178_6 : decode cJ7_fill_53178 6 = .ok (.iload_n 3, 1) := by decide +kernel
theorem dJ7_fill_53178_7 : decode cJ7_fill_53178 7 = .ok (.if_icmp .ge 13, 3) := by decide +kernel
theorem dJ7_fill_53178_10 : decode cJ7_fill_53178 10 = .ok (.aload_n 0, 1) := by decide +kernel
theorem dJ7_fill_53178_11 : decode cJ7_fill_53178 11 = .ok (.iload_n 2, 1) := by decide +kernel
theorem dJ7_fill_53178_12 : decode cJ7_fill_53178 12 = .ok (.iload_n 1, 1) := by decide +kernel
theorem dJ7_fill_53178_13 : decode cJ7_fill_53178 13 = .ok (.iastore, 1) := by decide +kernel
theorem dJ7_fill_53178_14 : decode cJ7_fill_53178 14 = .ok (.iinc 2 1, 3) := by decide +kernel
theorem dJ7_fill_53178_17 : decode cJ7_fill_53178 17 = .ok (.goto (-12), 3) := by decide +kernel
theorem dJ7_fill_53178_20 : decode cJ7_fill_53178 20 = .ok (.return_, 1) := by decide +kernel
theorem dJ7_fill_fda19_0 : decode cJ7_fill_fda19 0 = .ok (.aload_n 0, 1) := by decide +kernel
theorem dJ7_fill_fda19_1 : decode cJ7_fill_fda19 1 = .ok (.arraylength, 1) := by decide +kernel
theorem dJ7_fill_fda19_2 : decode cJ7_fill_fda19 2 = .ok (.iload_n 1, 1) := by decide +kernel
theorem dJ7_fill_fda19_3 : decode cJ7_fill_fda19 3 = .ok (.iload_n 2, 1) := by decide +kernel
theorem dJ7_fill_fda19_4 : decode cJ7_fill_fda19 4 = .ok (.invokestatic 13, 3) := by decide +kernel
theorem dJ7_fill_fda19_7 : decode cJ7_fill_fda19 7 = .ok (.iload_n 1, 1) := by decide +kernel
theorem dJ7_fill_fda19_8 : decode cJ7_fill_fda19 8 = .ok (.istore 4, 2) := by decide +kernel
theorem dJ7_fill_fda19_10 : decode cJ7_fill_fda19 10 = .ok (.iload 4, 2) := by decide +kernel
theorem dJ7_fill_fda19_12 : decode cJ7_fill_fda19 12 = .ok (.iload_n 2, 1) := by decide +kernel
theorem dJ7_fill_fda19_13 : decode cJ7_fill_fda19 13 = .ok (.if_icmp .ge 14, 3) := by decide +kernel
theorem dJ7_fill_fda19_16 : decode cJ7_fill_fda19 16 = .ok (.aload_n 0, 1) := by decide +kernel
theorem dJ7_fill_fda19_17 : decode cJ7_fill_fda19 17 = .ok (.iload 4, 2) := by decide +kernel
theorem dJ7_fill_fda19_19 : decode cJ7_fill_fda19 19 = .ok (.iload_n 3, 1) := by decide +kernel
theorem dJ7_fill_fda19_20 : decode cJ7_fill_fda19 20 = .ok (.iastore, 1) := by decide +kernel
theorem dJ7_fill_fda19_21 : decode cJ7_fill_fda19 21 = .ok (.iinc 4 1, 3) := by decide +kernel
theorem dJ7_fill_fda19_24 : decode cJ7_fill_fda19 24 = .ok (.goto (-14), 3) := by decide +kernel
theorem dJ7_fill_fda19_27 : decode cJ7_fill_fda19 27 = .ok (.return_, 1) := by decide +kernel
theorem dJ0_length_8abf5_0 : decode cJ0_length_8abf5 0 = .ok (.aload_n 0, 1) := by decide +kernel
theorem dJ0_length_8abf5_1 : decode cJ0_length_8abf5 1 = .ok (.getfield 9, 3) := by decide +kernel
theorem dJ0_length_8abf5_4 : decode cJ0_length_8abf5 4 = .ok (.arraylength, 1) := by decide +kernel
theorem dJ0_length_8abf5_5 : decode cJ0_length_8abf5 5 = .ok (.aload_n 0, 1) := by decide +kernel
theorem dJ0_length_8abf5_6 : decode cJ0_length_8abf5 6 = .ok (.invokevirtual 335, 3) := by decide +kernel
theorem dJ0_length_8abf5_9 : decode cJ0_length_8abf5 9 = .ok (.ishr, 1) := by decide +kernel
theorem dJ0_length_8abf5_10 : decode cJ0_length_8abf5 10 = .ok (.ireturn, 1) := by decide +kernel
theorem dJ0_charAt_5068e_0 : decode cJ0_charAt_5068e 0 = .ok (.aload_n 0, 1) := by decide +kernel
theorem dJ0_charAt_5068e_1 : decode cJ0_charAt_5068e 1 = .ok (.invokevirtual 492, 3) := by decide +kernel
theorem dJ0_charAt_5068e_4 : decode cJ0_charAt_5068e 4 = .ok (.ifCond .eq 12, 3) := by decide +kernel
theorem dJ0_charAt_5068e_7 : decode cJ0_charAt_5068e 7 = .ok (.aload_n 0, 1) := by decide +kernel
theorem dJ0_charAt_5068e_8 : decode cJ0_charAt_5068e 8 = .ok (.getfield 9, 3) := by decide +kernel
theorem dJ0_charAt_5068e_11 : decode cJ0_charAt_5068e 11 = .ok (.iload_n 1, 1) := by decide +kernel
theorem dJ0_charAt_5068e_12 : decode cJ0_charAt_5068e 12 = .ok (.invokestatic 495, 3) := by decide +kernel
theorem dJ0_charAt_5068e_15 : decode cJ0_charAt_5068e 15 = .ok (.ireturn, 1) := by decide +kernel
theorem dJ0_charAt_5068e_16 : decode cJ0_charAt_5068e 16 = .ok (.aload_n 0, 1) := by decide +kernel
theorem dJ0_charAt_5068e_17 : decode cJ0_charAt_5068e 17 = .ok (.getfield 9, 3) := by decide +kernel
theorem dJ0_charAt_5068e_20 : decode cJ0_charAt_5068e 20 = .ok (.iload_n 1, 1) := by decide +kernel
theorem dJ0_charAt_5068e_21 : decode cJ0_charAt_5068e 21 = .ok (.invokestatic 498, 3) := by decide +kernel
theorem dJ0_charAt_5068e_24 : decode cJ0_charAt_5068e 24 = .ok (.ireturn, 1) := by decide +kernel
theorem dJ0_coder_7d493_0 : decode cJ0_coder_7d493 0 = .ok (.getstatic 38, 3) := by decide +kernel
theorem dJ0_coder_7d493_3 : decode cJ0_coder_7d493 3 = .ok (.ifCond .eq 10, 3) := by decide +kernel
theorem dJ0_coder_7d493_6 : decode cJ0_coder_7d493 6 = .ok (.aload_n 0, 1) := by decide +kernel
theorem dJ0_coder_7d493_7 : decode cJ0_coder_7d493 7 = .ok (.getfield 15, 3) := by decide +kernel
theorem dJ0_coder_7d493_10 : decode cJ0_coder_7d493 10 = .ok (.goto 4, 3) := by decide +kernel
theorem dJ0_coder_7d493_13 : decode cJ0_coder_7d493 13 = .ok (.iconst 1, 1) := by decide +kernel
theorem dJ0_coder_7d493_14 : decode cJ0_coder_7d493 14 = .ok (.ireturn, 1) := by decide +kernel
theorem dJ0_isLatin1_aae02_0 : decode cJ0_isLatin1_aae02 0 = .ok (.getstatic 38, 3) := by decide +kernel
theorem dJ0_isLatin1_aae02_3 : decode cJ0_isLatin1_aae02 3 = .ok (.ifCond .eq 14, 3) := by decide +kernel
theorem dJ0_isLatin1_aae02_6 : decode cJ0_isLatin1_aae02 6 = .ok (.aload_n 0, 1) := by decide +kernel
theorem dJ0_isLatin1_aae02_7 : decode cJ0_isLatin1_aae02 7 = .ok (.getfield 15, 3) := by decide +kernel
theorem dJ0_isLatin1_aae02_10 : decode cJ0_isLatin1_aae02 10 = .ok (.ifCond .ne 7, 3) := by decide +kernel
theorem dJ0_isLatin1_aae02_13 : decode cJ0_isLatin1_aae02 13 = .ok (.iconst 1, 1) := by decide +kernel
theorem dJ0_isLatin1_aae02_14 : decode cJ0_isLatin1_aae02 14 = .ok (.goto 4, 3) := by decide +kernel
theorem dJ0_isLatin1_aae02_17 : decode cJ0_isLatin1_aae02 17 = .ok (.iconst 0, 1) := by decide +kernel
theorem dJ0_isLatin1_aae02_18 : decode cJ0_isLatin1_aae02 18 = .ok (.ireturn, 1) := by decide +kernel
theorem dJ0_checkIndex_df160_0 : decode cJ0_checkIndex_df160 0 = .ok (.iload_n 0, 1) := by decide +kernel
theorem dJ0_checkIndex_df160_1 : decode cJ0_checkIndex_df160 1 = .ok (.iload_n 1, 1) := by decide +kernel
theorem dJ0_checkIndex_df160_2 : decode cJ0_checkIndex_df160 2 = .ok (.getstatic 1053, 3) := by decide +kernel
theorem dJ0_checkIndex_df160_5 : decode cJ0_checkIndex_df160 5 = .ok (.invokestatic 1059, 3) := by decide +kernel
theorem dJ0_checkIndex_df160_8 : decode cJ0_checkIndex_df160 8 = .ok (.pop, 1) := by decide +kernel
theorem dJ0_checkIndex_df160_9 : decode cJ0_checkIndex_df160 9 = .ok (.return_, 1) := by decide +kernel
theorem dJ1_charAt_3b067_0 : decode cJ1_charAt_3b067 0 = .ok (.iload_n 1, 1) := by decide +kernel
theorem dJ1_charAt_3b067_1 : decode cJ1_charAt_3b067 1 = .ok (.aload_n 0, 1) := by decide +kernel
theorem dJ1_charAt_3b067_2 : decode cJ1_charAt_3b067 2 = .ok (.arraylength, 1) := by decide +kernel
theorem dJ1_charAt_3b067_3 : decode cJ1_charAt_3b067 3 = .ok (.invokestatic 9, 3) := by decide +kernel
theorem dJ1_charAt_3b067_6 : decode cJ1_charAt_3b067 6 = .ok (.aload_n 0, 1) := by decide +kernel
theorem dJ1_charAt_3b067_7 : decode cJ1_charAt_3b067 7 = .ok (.iload_n 1, 1) := by decide +kernel
theorem dJ1_charAt_3b067_8 : decode cJ1_charAt_3b067 8 = .ok (.baload, 1) := by decide +kernel
theorem dJ1_charAt_3b067_9 : decode cJ1_charAt_3b067 9 = .ok (.sipush 255, 3) := by decide +kernel
theorem dJ1_charAt_3b067_12 : decode cJ1_charAt_3b067 12 = .ok (.iand, 1) := by decide +kernel
theorem dJ1_charAt_3b067_13 : decode cJ1_charAt_3b067 13 = .ok (.i2c, 1) := by decide +kernel
theorem dJ1_charAt_3b067_14 : decode cJ1_charAt_3b067 14 = .ok (.ireturn, 1) := by decide +kernel
