/-! decode rows -/
theorem dX11_records_33 : decode cX11_records 33 = .ok (.iinc 1 1, 3) := by decide +kernel
theorem dX11_records_36 : decode cX11_records 36 = .ok (.goto (-25), 3) := by decide +kernel
theorem dX11_records_39 : decode cX11_records 39 = .ok (.aload_n 0, 1) := by decide +kernel
theorem dX11_records_40 : decode cX11_records 40 = .ok (.dup, 1) := by decide +kernel
theorem dX11_records_41 : decode cX11_records 41 = .ok (.getfield 278, 3) := by decide +kernel
theorem dX11_records_44 : decode cX11_records 44 = .ok (.iconst 1, 1) := by decide +kernel
theorem dX11_records_45 : decode cX11_records 45 = .ok (.isub, 1) := by decide +kernel
theorem dX11_records_46 : decode cX11_records 46 = .ok (.putfield 278, 3) := by decide +kernel
theorem dX11_records_49 : decode cX11_records 49 = .ok (.iconst 0, 1) := by decide +kernel
theorem dX11_records_50 : decode cX11_records 50 = .ok (.istore_n 1, 1) := by decide +kernel
theorem dX11_records_51 : decode cX11_records 51 = .ok (.iload_n 1, 1) := by decide +kernel
theorem dX11_records_52 : decode cX11_records 52 = .ok (.bipush 26, 2) := by decide +kernel
theorem dX11_records_54 : decode cX11_records 54 = .ok (.if_icmp .ge 29, 3) := by decide +kernel
theorem dX11_records_57 : decode cX11_records 57 = .ok (.aload_n 0, 1) := by decide +kernel
theorem dX11_records_58 : decode cX11_records 58 = .ok (.getfield 146, 3) := by decide +kernel
theorem dX11_records_61 : decode cX11_records 61 = .ok (.bipush 26, 2) := by decide +kernel
theorem dX11_records_63 : decode cX11_records 63 = .ok (.aload_n 0, 1) := by decide +kernel
theorem dX11_records_64 : decode cX11_records 64 = .ok (.getfield 278, 3) := by decide +kernel
theorem dX11_records_67 : decode cX11_records 67 = .ok (.imul, 1) := by decide +kernel
theorem dX11_records_68 : decode cX11_records 68 = .ok (.iload_n 1, 1) := by decide +kernel
theorem dX11_records_69 : decode cX11_records 69 = .ok (.iadd, 1) := by decide +kernel
theorem dX11_records_70 : decode cX11_records 70 = .ok (.aload_n 0, 1) := by decide +kernel
theorem dX11_records_71 : decode cX11_records 71 = .ok (.getfield 134, 3) := by decide +kernel
theorem dX11_records_74 : decode cX11_records 74 = .ok (.iload_n 1, 1) := by decide +kernel
theorem dX11_records_75 : decode cX11_records 75 = .ok (.iaload, 1) := by decide +kernel
theorem dX11_records_76 : decode cX11_records 76 = .ok (.iastore, 1) := by decide +kernel
theorem dX11_records_77 : decode cX11_records 77 = .ok (.iinc 1 1, 3) := by decide +kernel
theorem dX11_records_80 : decode cX11_records 80 = .ok (.goto (-29), 3) := by decide +kernel
theorem dX11_records_83 : decode cX11_records 83 = .ok (.aload_n 0, 1) := by decide +kernel
theorem dX11_records_84 : decode cX11_records 84 = .ok (.dup, 1) := by decide +kernel
theorem dX11_records_85 : decode cX11_records 85 = .ok (.getfield 278, 3) := by decide +kernel
theorem dX11_records_88 : decode cX11_records 88 = .ok (.iconst 1, 1) := by decide +kernel
theorem dX11_records_89 : decode cX11_records 89 = .ok (.iadd, 1) := by decide +kernel
theorem dX11_records_90 : decode cX11_records 90 = .ok (.putfield 278, 3) := by decide +kernel
theorem dX11_records_93 : decode cX11_records 93 = .ok (.aload_n 0, 1) := by decide +kernel
theorem dX11_records_94 : decode cX11_records 94 = .ok (.invokevirtual 187, 3) := by decide +kernel
theorem dX11_records_97 : decode cX11_records 97 = .ok (.return_, 1) := by decide +kernel
theorem dX11_goesOver_0 : decode cX11_goesOver 0 = .ok (.aload_n 0, 1) := by decide +kernel
theorem dX11_goesOver_1 : decode cX11_goesOver 1 = .ok (.getfield 137, 3) := by decide +kernel
theorem dX11_goesOver_4 : decode cX11_goesOver 4 = .ok (.bipush 22, 2) := by decide +kernel
theorem dX11_goesOver_6 : decode cX11_goesOver 6 = .ok (.dup2, 1) := by decide +kernel
theorem dX11_goesOver_7 : decode cX11_goesOver 7 = .ok (.iaload, 1) := by decide +kernel
theorem dX11_goesOver_8 : decode cX11_goesOver 8 = .ok (.aload_n 0, 1) := by decide +kernel
theorem dX11_goesOver_9 : decode cX11_goesOver 9 = .ok (.getfield 52, 3) := by decide +kernel
theorem dX11_goesOver_12 : decode cX11_goesOver 12 = .ok (.bipush 7, 2) := by decide +kernel
theorem dX11_goesOver_14 : decode cX11_goesOver 14 = .ok (.aload_n 0, 1) := by decide +kernel
theorem dX11_goesOver_15 : decode cX11_goesOver 15 = .ok (.getfield 257, 3) := by decide +kernel
theorem dX11_goesOver_18 : decode cX11_goesOver 18 = .ok (.imul, 1) := by decide +kernel
theorem dX11_goesOver_19 : decode cX11_goesOver 19 = .ok (.iload_n 2, 1) := by decide +kernel
theorem dX11_goesOver_20 : decode cX11_goesOver 20 = .ok (.iadd, 1) := by decide +kernel
theorem dX11_goesOver_21 : decode cX11_goesOver 21 = .ok (.iaload, 1) := by decide +kernel
theorem dX11_goesOver_22 : decode cX11_goesOver 22 = .ok (.iadd, 1) := by decide +kernel
theorem dX11_goesOver_23 : decode cX11_goesOver 23 = .ok (.iastore, 1) := by decide +kernel
theorem dX11_goesOver_24 : decode cX11_goesOver 24 = .ok (.aload_n 0, 1) := by decide +kernel
theorem dX11_goesOver_25 : decode cX11_goesOver 25 = .ok (.getfield 137, 3) := by decide +kernel
theorem dX11_goesOver_28 : decode cX11_goesOver 28 = .ok (.bipush 25, 2) := by decide +kernel
theorem dX11_goesOver_30 : decode cX11_goesOver 30 = .ok (.dup2, 1) := by decide +kernel
theorem dX11_goesOver_31 : decode cX11_goesOver 31 = .ok (.iaload, 1) := by decide +kernel
theorem dX11_goesOver_32 : decode cX11_goesOver 32 = .ok (.iconst 1, 1) := by decide +kernel
theorem dX11_goesOver_33 : decode cX11_goesOver 33 = .ok (.iload_n 2, 1) := by decide +kernel
theorem dX11_goesOver_34 : decode cX11_goesOver 34 = .ok (.ishl, 1) := by decide +kernel
theorem dX11_goesOver_35 : decode cX11_goesOver 35 = .ok (.iconst (-1), 1) := by decide +kernel
theorem dX11_goesOver_36 : decode cX11_goesOver 36 = .ok (.ixor, 1) := by decide +kernel
theorem dX11_goesOver_37 : decode cX11_goesOver 37 = .ok (.iand, 1) := by decide +kernel
theorem dX11_goesOver_38 : decode cX11_goesOver 38 = .ok (.iastore, 1) := by decide +kernel
theorem dX11_goesOver_39 : decode cX11_goesOver 39 = .ok (.aload_n 0, 1) := by decide +kernel
theorem dX11_goesOver_40 : decode cX11_goesOver 40 = .ok (.getfield 137, 3) := by decide +kernel
theorem dX11_goesOver_43 : decode cX11_goesOver 43 = .ok (.iconst 4, 1) := by decide +kernel
theorem dX11_goesOver_44 : decode cX11_goesOver 44 = .ok (.iload_n 1, 1) := by decide +kernel
theorem dX11_goesOver_45 : decode cX11_goesOver 45 = .ok (.iadd, 1) := by decide +kernel
theorem dX11_goesOver_46 : decode cX11_goesOver 46 = .ok (.iconst 1, 1) := by decide +kernel
theorem dX11_goesOver_47 : decode cX11_goesOver 47 = .ok (.iastore, 1) := by decide +kernel
theorem dX11_goesOver_48 : decode cX11_goesOver 48 = .ok (.iload_n 3, 1) := by decide +kernel
theorem dX11_goesOver_49 : decode cX11_goesOver 49 = .ok (.invokestatic 443, 3) := by decide +kernel
theorem dX11_goesOver_52 : decode cX11_goesOver 52 = .ok (.ifCond .eq 5, 3) := by decide +kernel
theorem dX11_goesOver_55 : decode cX11_goesOver 55 = .ok (.iconst 1, 1) := by decide +kernel
theorem dX11_goesOver_56 : decode cX11_goesOver 56 = .ok (.ireturn, 1) := by decide +kernel
theorem dX11_goesOver_57 : decode cX11_goesOver 57 = .ok (.aload_n 0, 1) := by decide +kernel
theorem dX11_goesOver_58 : decode cX11_goesOver 58 = .ok (.getfield 137, 3) := by decide +kernel
theorem dX11_goesOver_61 : decode cX11_goesOver 61 = .ok (.bipush 24, 2) := by decide +kernel
theorem dX11_goesOver_63 : decode cX11_goesOver 63 = .ok (.dup2, 1) := by decide +kernel
theorem dX11_goesOver_64 : decode cX11_goesOver 64 = .ok (.iaload, 1) := by decide +kernel
theorem dX11_goesOver_65 : decode cX11_goesOver 65 = .ok (.iconst 1, 1) := by decide +kernel
theorem dX11_goesOver_66 : decode cX11_goesOver 66 = .ok (.iadd, 1) := by decide +kernel
theorem dX11_goesOver_67 : decode cX11_goesOver 67 = .ok (.iastore, 1) := by decide +kernel
theorem dX11_goesOver_68 : decode cX11_goesOver 68 = .ok (.aload_n 0, 1) := by decide +kernel
theorem dX11_goesOver_69 : decode cX11_goesOver 69 = .ok (.getfield 137, 3) := by decide +kernel
theorem dX11_goesOver_72 : decode cX11_goesOver 72 = .ok (.iload_n 1, 1) := by decide +kernel
theorem dX11_goesOver_73 : decode cX11_goesOver 73 = .ok (.dup2, 1) := by decide +kernel
theorem dX11_goesOver_74 : decode cX11_goesOver 74 = .ok (.iaload, 1) := by decide +kernel
theorem dX11_goesOver_75 : decode cX11_goesOver 75 = .ok (.iconst 1, 1) := by decide +kernel
theorem dX11_goesOver_76 : decode cX11_goesOver 76 = .ok (.isub, 1) := by decide +kernel
theorem dX11_goesOver_77 : decode cX11_goesOver 77 = .ok (.iastore, 1) := by decide +kernel
theorem dX11_goesOver_78 : decode cX11_goesOver 78 = .ok (.aload_n 0, 1) := by decide +kernel
theorem dX11_goesOver_79 : decode cX11_goesOver 79 = .ok (.getfield 137, 3) := by decide +kernel
theorem dX11_goesOver_82 : decode cX11_goesOver 82 = .ok (.iload_n 1, 1) := by decide +kernel
theorem dX11_goesOver_83 : decode cX11_goesOver 83 = .ok (.iaload, 1) := by decide +kernel
theorem dX11_goesOver_84 : decode cX11_goesOver 84 = .ok (.ifCond .ne 12, 3) := by decide +kernel
theorem dX11_goesOver_87 : decode cX11_goesOver 87 = .ok (.aload_n 0, 1) := by decide +kernel
theorem dX11_goesOver_88 : decode cX11_goesOver 88 = .ok (.getfield 137, 3) := by decide +kernel
theorem dX11_goesOver_91 : decode cX11_goesOver 91 = .ok (.iconst 4, 1) := by decide +kernel
theorem dX11_goesOver_92 : decode cX11_goesOver 92 = .ok (.iload_n 1, 1) := by decide +kernel
theorem dX11_goesOver_93 : decode cX11_goesOver 93 = .ok (.iadd, 1) := by decide +kernel
theorem dX11_goesOver_94 : decode cX11_goesOver 94 = .ok (.iconst 2, 1) := by decide +kernel
theorem dX11_goesOver_95 : decode cX11_goesOver 95 = .ok (.iastore, 1) := by decide +kernel
theorem dX11_goesOver_96 : decode cX11_goesOver 96 = .ok (.aload_n 0, 1) := by decide +kernel
theorem dX11_goesOver_97 : decode cX11_goesOver 97 = .ok (.iload_n 3, 1) := by decide +kernel
theorem dX11_goesOver_98 : decode cX11_goesOver 98 = .ok (.invokevirtual 446, 3) := by decide +kernel
theorem dX11_goesOver_101 : decode cX11_goesOver 101 = .ok (.iconst 2, 1) := by decide +kernel
theorem dX11_goesOver_102 : decode cX11_goesOver 102 = .ok (.ireturn, 1) := by decide +kernel
theorem dX11_send_0 : decode cX11_send 0 = .ok (.aload_n 0, 1) := by decide +kernel
theorem dX11_send_1 : decode cX11_send 1 = .ok (.iload_n 1, 1) := by decide +kernel
theorem dX11_send_2 : decode cX11_send 2 = .ok (.invokevirtual 431, 3) := by decide +kernel
theorem dX11_send_5 : decode cX11_send 5 = .ok (.ifCond .eq 19, 3) := by decide +kernel
theorem dX11_send_8 : decode cX11_send 8 = .ok (.aload_n 0, 1) := by decide +kernel
theorem dX11_send_9 : decode cX11_send 9 = .ok (.iload_n 2, 1) := by decide +kernel
theorem dX11_send_10 : decode cX11_send 10 = .ok (.invokevirtual 419, 3) := by decide +kernel
theorem dX11_send_13 : decode cX11_send 13 = .ok (.ifCond .eq 11, 3) := by decide +kernel
theorem dX11_send_16 : decode cX11_send 16 = .ok (.aload_n 0, 1) := by decide +kernel
theorem dX11_send_17 : decode cX11_send 17 = .ok (.iload_n 3, 1) := by decide +kernel
theorem dX11_send_18 : decode cX11_send 18 = .ok (.invokevirtual 425, 3) := by decide +kernel
theorem dX11_send_21 : decode cX11_send 21 = .ok (.ifCond .ne 5, 3) := by decide +kernel
theorem dX11_send_24 : decode cX11_send 24 = .ok (.iconst (-1), 1) := by decide +kernel
theorem dX11_send_25 : decode cX11_send 25 = .ok (.ireturn, 1) := by decide +kernel
theorem dX11_send_26 : decode cX11_send 26 = .ok (.aload_n 0, 1) := by decide +kernel
theorem dX11_send_27 : decode cX11_send 27 = .ok (.invokevirtual 434, 3) := by decide +kernel
theorem dX11_send_30 : decode cX11_send 30 = .ok (.aload_n 0, 1) := by decide +kernel
theorem dX11_send_31 : decode cX11_send 31 = .ok (.getfield 137, 3) := by decide +kernel
theorem dX11_send_34 : decode cX11_send 34 = .ok (.iconst 4, 1) := by decide +kernel
theorem dX11_send_35 : decode cX11_send 35 = .ok (.iload_n 1, 1) := by decide +kernel
theorem dX11_send_36 : decode cX11_send 36 = .ok (.iadd, 1) := by decide +kernel
theorem dX11_send_37 : decode cX11_send 37 = .ok (.iaload, 1) := by decide +kernel
theorem dX11_send_38 : decode cX11_send 38 = .ok (.ifCond .ne 17, 3) := by decide +kernel
theorem dX11_send_41 : decode cX11_send 41 = .ok (.aload_n 0, 1) := by decide +kernel
theorem dX11_send_42 : decode cX11_send 42 = .ok (.getfield 137, 3) := by decide +kernel
theorem dX11_send_45 : decode cX11_send 45 = .ok (.bipush 25, 2) := by decide +kernel
theorem dX11_send_47 : decode cX11_send 47 = .ok (.iaload, 1) := by decide +kernel
theorem dX11_send_48 : decode cX11_send 48 = .ok (.iload_n 2, 1) := by decide +kernel
theorem dX11_send_49 : decode cX11_send 49 = .ok (.ishr, 1) := by decide +kernel
theorem dX11_send_50 : decode cX11_send 50 = .ok (.iconst 1, 1) := by decide +kernel
theorem dX11_send_51 : decode cX11_send 51 = .ok (.iand, 1) := by decide +kernel
theorem dX11_send_52 : decode cX11_send 52 = .ok (.ifCond .ne 6, 3) := by decide +kernel
theorem dX11_send_55 : decode cX11_send 55 = .ok (.bipush (-2), 2) := by decide +kernel
theorem dX11_send_57 : decode cX11_send 57 = .ok (.ireturn, 1) := by decide +kernel
theorem dX11_send_58 : decode cX11_send 58 = .ok (.aload_n 0, 1) := by decide +kernel
theorem dX11_send_59 : decode cX11_send 59 = .ok (.iload_n 2, 1) := by decide +kernel
theorem dX11_send_60 : decode cX11_send 60 = .ok (.iload_n 3, 1) := by decide +kernel
theorem dX11_send_61 : decode cX11_send 61 = .ok (.invokevirtual 428, 3) := by decide +kernel
theorem dX11_send_64 : decode cX11_send 64 = .ok (.istore 4, 2) := by decide +kernel
theorem dX11_send_66 : decode cX11_send 66 = .ok (.aload_n 0, 1) := by decide +kernel
theorem dX11_send_67 : decode cX11_send 67 = .ok (.getfield 137, 3) := by decide +kernel
theorem dX11_send_70 : decode cX11_send 70 = .ok (.bipush 22, 2) := by decide +kernel
theorem dX11_send_72 : decode cX11_send 72 = .ok (.dup2, 1) := by decide +kernel
theorem dX11_send_73 : decode cX11_send 73 = .ok (.iaload, 1) := by decide +kernel
theorem dX11_send_74 : decode cX11_send 74 = .ok (.aload_n 0, 1) := by decide +kernel
theorem dX11_send_75 : decode cX11_send 75 = .ok (.iload_n 3, 1) := by decide +kernel
theorem dX11_send_76 : decode cX11_send 76 = .ok (.invokevirtual 449, 3) := by decide +kernel
theorem dX11_send_79 : decode cX11_send 79 = .ok (.iadd, 1) := by decide +kernel
theorem dX11_send_80 : decode cX11_send 80 = .ok (.iastore, 1) := by decide +kernel
theorem dX11_send_81 : decode cX11_send 81 = .ok (.aload_n 0, 1) := by decide +kernel
theorem dX11_send_82 : decode cX11_send 82 = .ok (.iload_n 1, 1) := by decide +kernel
theorem dX11_send_83 : decode cX11_send 83 = .ok (.iload 4, 2) := by decide +kernel
theorem dX11_send_85 : decode cX11_send 85 = .ok (.invokevirtual 452, 3) := by decide +kernel
theorem dX11_send_88 : decode cX11_send 88 = .ok (.ifCond .eq 14, 3) := by decide +kernel
theorem dX11_send_91 : decode cX11_send 91 = .ok (.aload_n 0, 1) := by decide +kernel
theorem dX11_send_92 : decode cX11_send 92 = .ok (.iload_n 1, 1) := by decide +kernel
theorem dX11_send_93 : decode cX11_send 93 = .ok (.iload_n 2, 1) := by decide +kernel
theorem dX11_send_94 : decode cX11_send 94 = .ok (.iload 4, 2) := by decide +kernel
theorem dX11_send_96 : decode cX11_send 96 = .ok (.invokevirtual 455, 3) := by decide +kernel
theorem dX11_send_99 : decode cX11_send 99 = .ok (.goto 4, 3) := by decide +kernel
theorem dX11_send_102 : decode cX11_send 102 = .ok (.iconst 0, 1) := by decide +kernel
theorem dX11_send_103 : decode cX11_send 103 = .ok (.istore 5, 2) := by decide +kernel
theorem dX11_send_105 : decode cX11_send 105 = .ok (.aload_n 0, 1) := by decide +kernel
theorem dX11_send_106 : decode cX11_send 106 = .ok (.invokevirtual 458, 3) := by decide +kernel
theorem dX11_send_109 : decode cX11_send 109 = .ok (.iload 5, 2) := by decide +kernel
theorem dX11_send_111 : decode cX11_send 111 = .ok (.ireturn, 1) := by decide +kernel
theorem dX11_mend_0 : decode cX11_mend 0 = .ok (.aload_n 0, 1) := by decide +kernel
theorem dX11_mend_1 : decode cX11_mend 1 = .ok (.iload_n 1, 1) := by decide +kernel
theorem dX11_mend_2 : decode cX11_mend 2 = .ok (.invokevirtual 431, 3) := by decide +kernel
theorem dX11_mend_5 : decode cX11_mend 5 = .ok (.ifCond .ne 5, 3) := by decide +kernel
theorem dX11_mend_8 : decode cX11_mend 8 = .ok (.iconst (-1), 1) := by decide +kernel
theorem dX11_mend_9 : decode cX11_mend 9 = .ok (.ireturn, 1) := by decide +kernel
theorem dX11_mend_10 : decode cX11_mend 10 = .ok (.aload_n 0, 1) := by decide +kernel
theorem dX11_mend_11 : decode cX11_mend 11 = .ok (.invokevirtual 434, 3) := by decide +kernel
theorem dX11_mend_14 : decode cX11_mend 14 = .ok (.aload_n 0, 1) := by decide +kernel
theorem dX11_mend_15 : decode cX11_mend 15 = .ok (.getfield 137, 3) := by decide +kernel
theorem dX11_mend_18 : decode cX11_mend 18 = .ok (.iconst 4, 1) := by decide +kernel
theorem dX11_mend_19 : decode cX11_mend 19 = .ok (.iload_n 1, 1) := by decide +kernel
theorem dX11_mend_20 : decode cX11_mend 20 = .ok (.iadd, 1) := by decide +kernel
theorem dX11_mend_21 : decode cX11_mend 21 = .ok (.iaload, 1) := by decide +kernel
theorem dX11_mend_22 : decode cX11_mend 22 = .ok (.iconst 1, 1) := by decide +kernel
theorem dX11_mend_23 : decode cX11_mend 23 = .ok (.if_icmp .ne 14, 3) := by decide +kernel
theorem dX11_mend_26 : decode cX11_mend 26 = .ok (.aload_n 0, 1) := by decide +kernel
theorem dX11_mend_27 : decode cX11_mend 27 = .ok (.getfield 137, 3) := by decide +kernel
theorem dX11_mend_30 : decode cX11_mend 30 = .ok (.iload_n 1, 1) := by decide +kernel
theorem dX11_mend_31 : decode cX11_mend 31 = .ok (.iaload, 1) := by decide +kernel
theorem dX11_mend_32 : decode cX11_mend 32 = .ok (.bipush 99, 2) := by decide +kernel
theorem dX11_mend_34 : decode cX11_mend 34 = .ok (.if_icmp .ne 6, 3) := by decide +kernel
theorem dX11_mend_37 : decode cX11_mend 37 = .ok (.bipush (-2), 2) := by decide +kernel
theorem dX11_mend_39 : decode cX11_mend 39 = .ok (.ireturn, 1) := by decide +kernel
theorem dX11_mend_40 : decode cX11_mend 40 = .ok (.aload_n 0, 1) := by decide +kernel
theorem dX11_mend_41 : decode cX11_mend 41 = .ok (.getfield 137, 3) := by decide +kernel
theorem dX11_mend_44 : decode cX11_mend 44 = .ok (.bipush 22, 2) := by decide +kernel
theorem dX11_mend_46 : decode cX11_mend 46 = .ok (.dup2, 1) := by decide +kernel
theorem dX11_mend_47 : decode cX11_mend 47 = .ok (.iaload, 1) := by decide +kernel
theorem dX11_mend_48 : decode cX11_mend 48 = .ok (.aload_n 0, 1) := by decide +kernel
theorem dX11_mend_49 : decode cX11_mend 49 = .ok (.iload_n 1, 1) := by decide +kernel
theorem dX11_mend_50 : decode cX11_mend 50 = .ok (.invokevirtual 437, 3) := by decide +kernel
theorem dX11_mend_53 : decode cX11_mend 53 = .ok (.iadd, 1) := by decide +kernel
theorem dX11_mend_54 : decode cX11_mend 54 = .ok (.iastore, 1) := by decide +kernel
theorem dX11_mend_55 : decode cX11_mend 55 = .ok (.aload_n 0, 1) := by decide +kernel
theorem dX11_mend_56 : decode cX11_mend 56 = .ok (.getfield 137, 3) := by decide +kernel
theorem dX11_mend_59 : decode cX11_mend 59 = .ok (.iload_n 1, 1) := by decide +kernel
theorem dX11_mend_60 : decode cX11_mend 60 = .ok (.dup2, 1) := by decide +kernel
theorem dX11_mend_61 : decode cX11_mend 61 = .ok (.iaload, 1) := by decide +kernel
theorem dX11_mend_62 : decode cX11_mend 62 = .ok (.iconst 1, 1) := by decide +kernel
theorem dX11_mend_63 : decode cX11_mend 63 = .ok (.iadd, 1) := by decide +kernel
theorem dX11_mend_64 : decode cX11_mend 64 = .ok (.iastore, 1) := by decide +kernel
theorem dX11_mend_65 : decode cX11_mend 65 = .ok (.aload_n 0, 1) := by decide +kernel
theorem dX11_mend_66 : decode cX11_mend 66 = .ok (.invokevirtual 458, 3) := by decide +kernel
theorem dX11_mend_69 : decode cX11_mend 69 = .ok (.aload_n 0, 1) := by decide +kernel
theorem dX11_mend_70 : decode cX11_mend 70 = .ok (.getfield 134, 3) := by decide +kernel
theorem dX11_mend_73 : decode cX11_mend 73 = .ok (.iload_n 1, 1) := by decide +kernel
theorem dX11_mend_74 : decode cX11_mend 74 = .ok (.iaload, 1) := by decide +kernel
theorem dX11_mend_75 : decode cX11_mend 75 = .ok (.ireturn, 1) := by decide +kernel
theorem dX11_years_0 : decode cX11_years 0 = .ok (.iload_n 1, 1) := by decide +kernel
theorem dX11_years_1 : decode cX11_years 1 = .ok (.iconst 0, 1) := by decide +kernel
theorem dX11_years_2 : decode cX11_years 2 = .ok (.bipush 60, 2) := by decide +kernel
theorem dX11_years_4 : decode cX11_years 4 = .ok (.invokestatic 370, 3) := by decide +kernel
theorem dX11_years_7 : decode cX11_years 7 = .ok (.ifCond .ne 5, 3) := by decide +kernel
theorem dX11_years_10 : decode cX11_years 10 = .ok (.iconst (-1), 1) := by decide +kernel
theorem dX11_years_11 : decode cX11_years 11 = .ok (.ireturn, 1) := by decide +kernel
theorem dX11_years_12 : decode cX11_years 12 = .ok (.iload_n 1, 1) := by decide +kernel
theorem dX11_years_13 : decode cX11_years 13 = .ok (.ifCond .ne 11, 3) := by decide +kernel
theorem dX11_years_16 : decode cX11_years 16 = .ok (.aload_n 0, 1) := by decide +kernel
theorem dX11_years_17 : decode cX11_years 17 = .ok (.getfield 134, 3) := by decide +kernel
theorem dX11_years_20 : decode cX11_years 20 = .ok (.bipush 23, 2) := by decide +kernel
theorem dX11_years_22 : decode cX11_years 22 = .ok (.iaload, 1) := by decide +kernel
theorem dX11_years_23 : decode cX11_years 23 = .ok (.ireturn, 1) := by decide +kernel
theorem dX11_years_24 : decode cX11_years 24 = .ok (.aload_n 0, 1) := by decide +kernel
theorem dX11_years_25 : decode cX11_years 25 = .ok (.invokevirtual 434, 3) := by decide +kernel
theorem dX11_years_28 : decode cX11_years 28 = .ok (.aload_n 0, 1) := by decide +kernel
theorem dX11_years_29 : decode cX11_years 29 = .ok (.iload_n 1, 1) := by decide +kernel
theorem dX11_years_30 : decode cX11_years 30 = .ok (.invokevirtual 461, 3) := by decide +kernel
theorem dX11_years_33 : decode cX11_years 33 = .ok (.aload_n 0, 1) := by decide +kernel
theorem dX11_years_34 : decode cX11_years 34 = .ok (.invokevirtual 458, 3) := by decide +kernel
theorem dX11_years_37 : decode cX11_years 37 = .ok (.aload_n 0, 1) := by decide +kernel
theorem dX11_years_38 : decode cX11_years 38 = .ok (.getfield 134, 3) := by decide +kernel
theorem dX11_years_41 : decode cX11_years 41 = .ok (.bipush 23, 2) := by decide +kernel
theorem dX11_years_43 : decode cX11_years 43 = .ok (.iaload, 1) := by decide +kernel
theorem dX11_years_44 : decode cX11_years 44 = .ok (.ireturn, 1) := by decide +kernel
theorem dX11_undo_0 : decode cX11_undo 0 = .ok (.aload_n 0, 1) := by decide +kernel
theorem dX11_undo_1 : decode cX11_undo 1 = .ok (.getfield 278, 3) := by decide +kernel
theorem dX11_undo_4 : decode cX11_undo 4 = .ok (.ifCond .ne 5, 3) := by decide +kernel
theorem dX11_undo_7 : decode cX11_undo 7 = .ok (.iconst 0, 1) := by decide +kernel
theorem dX11_undo_8 : decode cX11_undo 8 = .ok (.ireturn, 1) := by decide +kernel
theorem dX11_undo_9 : decode cX11_undo 9 = .ok (.aload_n 0, 1) := by decide +kernel
theorem dX11_undo_10 : decode cX11_undo 10 = .ok (.dup, 1) := by decide +kernel
theorem dX11_undo_11 : decode cX11_undo 11 = .ok (.getfield 278, 3) := by decide +kernel
theorem dX11_undo_14 : decode cX11_undo 14 = .ok (.iconst 1, 1) := by decide +kernel
theorem dX11_undo_15 : decode cX11_undo 15 = .ok (.isub, 1) := by decide +kernel
theorem dX11_undo_16 : decode cX11_undo 16 = .ok (.putfield 278, 3) := by decide +kernel
theorem dX11_undo_19 : decode cX11_undo 19 = .ok (.iconst 0, 1) := by decide +kernel
theorem dX11_undo_20 : decode cX11_undo 20 = .ok (.istore_n 1, 1) := by decide +kernel
theorem dX11_undo_21 : decode cX11_undo 21 = .ok (.iload_n 1, 1) := by decide +kernel
theorem dX11_undo_22 : decode cX11_undo 22 = .ok (.bipush 26, 2) := by decide +kernel
theorem dX11_undo_24 : decode cX11_undo 24 = .ok (.if_icmp .ge 29, 3) := by decide +kernel
theorem dX11_undo_27 : decode cX11_undo 27 = .ok (.aload_n 0, 1) := by decide +kernel
theorem dX11_undo_28 : decode cX11_undo 28 = .ok (.getfield 134, 3) := by decide +kernel
theorem dX11_undo_31 : decode cX11_undo 31 = .ok (.iload_n 1, 1) := by decide +kernel
theorem dX11_undo_32 : decode cX11_undo 32 = .ok (.aload_n 0, 1) := by decide +kernel
theorem dX11_undo_33 : decode cX11_undo 33 = .ok (.getfield 146, 3) := by decide +kernel
theorem dX11_undo_36 : decode cX11_undo 36 = .ok (.bipush 26, 2) := by decide +kernel
theorem dX11_undo_38 : decode cX11_undo 38 = .ok (.aload_n 0, 1) := by decide +kernel
theorem dX11_undo_39 : decode cX11_undo 39 = .ok (.getfield 278, 3) := by decide +kernel
theorem dX11_undo_42 : decode cX11_undo 42 = .ok (.imul, 1) := by decide +kernel
theorem dX11_undo_43 : decode cX11_undo 43 = .ok (.iload_n 1, 1) := by decide +kernel
theorem dX11_undo_44 : decode cX11_undo 44 = .ok (.iadd, 1) := by decide +kernel
theorem dX11_undo_45 : decode cX11_undo 45 = .ok (.iaload, 1) := by decide +kernel
theorem dX11_undo_46 : decode cX11_undo 46 = .ok (.iastore, 1) := by decide +kernel
theorem dX11_undo_47 : decode cX11_undo 47 = .ok (.iinc 1 1, 3) := by decide +kernel
theorem dX11_undo_50 : decode cX11_undo 50 = .ok (.goto (-29), 3) := by decide +kernel
theorem dX11_undo_53 : decode cX11_undo 53 = .ok (.iconst 1, 1) := by decide +kernel
theorem dX11_undo_54 : decode cX11_undo 54 = .ok (.ireturn, 1) := by decide +kernel
theorem dX11_isThere_0 : decode cX11_isThere 0 = .ok (.aload_n 0, 1) := by decide +kernel
theorem dX11_isThere_1 : decode cX11_isThere 1 = .ok (.getfield 137, 3) := by decide +kernel
theorem dX11_isThere_4 : decode cX11_isThere 4 = .ok (.bipush 25, 2) := by decide +kernel
theorem dX11_isThere_6 : decode cX11_isThere 6 = .ok (.iaload, 1) := by decide +kernel
theorem dX11_isThere_7 : decode cX11_isThere 7 = .ok (.iload_n 1, 1) := by decide +kernel
theorem dX11_isThere_8 : decode cX11_isThere 8 = .ok (.ishr, 1) := by decide +kernel
theorem dX11_isThere_9 : decode cX11_isThere 9 = .ok (.iconst 1, 1) := by decide +kernel
theorem dX11_isThere_10 : decode cX11_isThere 10 = .ok (.iand, 1) := by decide +kernel
theorem dX11_isThere_11 : decode cX11_isThere 11 = .ok (.iconst 1, 1) := by decide +kernel
theorem dX11_isThere_12 : decode cX11_isThere 12 = .ok (.if_icmp .ne 7, 3) := by decide +kernel
theorem dX11_isThere_15 : decode cX11_isThere 15 = .ok (.iconst 1, 1) := by decide +kernel
theorem dX11_isThere_16 : decode cX11_isThere 16 = .ok (.goto 4, 3) := by decide +kernel
theorem dX11_isThere_19 : decode cX11_isThere 19 = .ok (.iconst 0, 1) := by decide +kernel
theorem dX11_isThere_20 : decode cX11_isThere 20 = .ok (.ireturn, 1) := by decide +kernel
theorem dX11_cheap_0 : decode cX11_cheap 0 = .ok (.aload_n 0, 1) := by decide +kernel
theorem dX11_cheap_1 : decode cX11_cheap 1 = .ok (.iload_n 1, 1) := by decide +kernel
theorem dX11_cheap_2 : decode cX11_cheap 2 = .ok (.invokevirtual 431, 3) := by decide +kernel
theorem dX11_cheap_5 : decode cX11_cheap 5 = .ok (.ifCond .eq 12, 3) := by decide +kernel
theorem dX11_cheap_8 : decode cX11_cheap 8 = .ok (.iload_n 2, 1) := by decide +kernel
theorem dX11_cheap_9 : decode cX11_cheap 9 = .ok (.iconst 0, 1) := by decide +kernel
theorem dX11_cheap_10 : decode cX11_cheap 10 = .ok (.iconst 2, 1) := by decide +kernel
theorem dX11_cheap_11 : decode cX11_cheap 11 = .ok (.invokestatic 370, 3) := by decide +kernel
theorem dX11_cheap_14 : decode cX11_cheap 14 = .ok (.ifCond .ne 5, 3) := by decide +kernel
theorem dX11_cheap_17 : decode cX11_cheap 17 = .ok (.iconst (-1), 1) := by decide +kernel
theorem dX11_cheap_18 : decode cX11_cheap 18 = .ok (.ireturn, 1) := by decide +kernel
theorem dX11_cheap_19 : decode cX11_cheap 19 = .ok (.aload_n 0, 1) := by decide +kernel
theorem dX11_cheap_20 : decode cX11_cheap 20 = .ok (.invokevirtual 434, 3) := by decide +kernel
theorem dX11_cheap_23 : decode cX11_cheap 23 = .ok (.bipush (-2), 2) := by decide +kernel
theorem dX11_cheap_25 : decode cX11_cheap 25 = .ok (.istore_n 3, 1) := by decide +kernel
theorem dX11_cheap_26 : decode cX11_cheap 26 = .ok (.iconst (-1), 1) := by decide +kernel
theorem dX11_cheap_27 : decode cX11_cheap 27 = .ok (.istore 4, 2) := by decide +kernel
theorem dX11_cheap_29 : decode cX11_cheap 29 = .ok (.iconst 0, 1) := by decide +kernel
theorem dX11_cheap_30 : decode cX11_cheap 30 = .ok (.istore 5, 2) := by decide +kernel
theorem dX11_cheap_32 : decode cX11_cheap 32 = .ok (.iconst 0, 1) := by decide +kernel
theorem dX11_cheap_33 : decode cX11_cheap 33 = .ok (.istore 6, 2) := by decide +kernel
theorem dX11_cheap_35 : decode cX11_cheap 35 = .ok (.iload 6, 2) := by decide +kernel
theorem dX11_cheap_37 : decode cX11_cheap 37 = .ok (.aload_n 0, 1) := by decide +kernel
theorem dX11_cheap_38 : decode cX11_cheap 38 = .ok (.getfield 49, 3) := by decide +kernel
theorem dX11_cheap_41 : decode cX11_cheap 41 = .ok (.aload_n 0, 1) := by decide +kernel
theorem dX11_cheap_42 : decode cX11_cheap 42 = .ok (.getfield 257, 3) := by decide +kernel
theorem dX11_cheap_45 : decode cX11_cheap 45 = .ok (.iaload, 1) := by decide +kernel
theorem dX11_cheap_46 : decode cX11_cheap 46 = .ok (.if_icmp .ge 106, 3) := by decide +kernel
theorem dX11_cheap_49 : decode cX11_cheap 49 = .ok (.iconst (-1), 1) := by decide +kernel
theorem dX11_cheap_50 : decode cX11_cheap 50 = .ok (.istore 7, 2) := by decide +kernel
theorem dX11_cheap_52 : decode cX11_cheap 52 = .ok (.iload 7, 2) := by decide +kernel
theorem dX11_cheap_54 : decode cX11_cheap 54 = .ok (.aload_n 0, 1) := by decide +kernel
theorem dX11_cheap_55 : decode cX11_cheap 55 = .ok (.getfield 58, 3) := by decide +kernel
theorem dX11_cheap_58 : decode cX11_cheap 58 = .ok (.aload_n 0, 1) := by decide +kernel
theorem dX11_cheap_59 : decode cX11_cheap 59 = .ok (.getfield 257, 3) := by decide +kernel
theorem dX11_cheap_62 : decode cX11_cheap 62 = .ok (.iaload, 1) := by decide +kernel
theorem dX11_cheap_63 : decode cX11_cheap 63 = .ok (.if_icmp .ge 83, 3) := by decide +kernel
theorem dX11_cheap_66 : decode cX11_cheap 66 = .ok (.aload_n 0, 1) := by decide +kernel
theorem dX11_cheap_67 : decode cX11_cheap 67 = .ok (.getfield 52, 3) := by decide +kernel
theorem dX11_cheap_70 : decode cX11_cheap 70 = .ok (.bipush 7, 2) := by decide +kernel
theorem dX11_cheap_72 : decode cX11_cheap 72 = .ok (.aload_n 0, 1) := by decide +kernel
theorem dX11_cheap_73 : decode cX11_cheap 73 = .ok (.getfield 257, 3) := by decide +kernel
theorem dX11_cheap_76 : decode cX11_cheap 76 = .ok (.imul, 1) := by decide +kernel
theorem dX11_cheap_77 : decode cX11_cheap 77 = .ok (.iload 6, 2) := by decide +kernel
theorem dX11_cheap_79 : decode cX11_cheap 79 = .ok (.iadd, 1) := by decide +kernel
theorem dX11_cheap_80 : decode cX11_cheap 80 = .ok (.iaload, 1) := by decide +kernel
theorem dX11_cheap_81 : decode cX11_cheap 81 = .ok (.aload_n 0, 1) := by decide +kernel
theorem dX11_cheap_82 : decode cX11_cheap 82 = .ok (.iload 7, 2) := by decide +kernel
theorem dX11_cheap_84 : decode cX11_cheap 84 = .ok (.invokevirtual 449, 3) := by decide +kernel
theorem dX11_cheap_87 : decode cX11_cheap 87 = .ok (.iadd, 1) := by decide +kernel
theorem dX11_cheap_88 : decode cX11_cheap 88 = .ok (.istore 8, 2) := by decide +kernel
theorem dX11_cheap_90 : decode cX11_cheap 90 = .ok (.aload_n 0, 1) := by decide +kernel
theorem dX11_cheap_91 : decode cX11_cheap 91 = .ok (.iload 6, 2) := by decide +kernel
theorem dX11_cheap_93 : decode cX11_cheap 93 = .ok (.invokevirtual 464, 3) := by decide +kernel
theorem dX11_cheap_96 : decode cX11_cheap 96 = .ok (.ifCond .eq 44, 3) := by decide +kernel
theorem dX11_cheap_99 : decode cX11_cheap 99 = .ok (.iload_n 3, 1) := by decide +kernel
theorem dX11_cheap_100 : decode cX11_cheap 100 = .ok (.ifCond .lt 10, 3) := by decide +kernel
theorem dX11_cheap_103 : decode cX11_cheap 103 = .ok (.iload 8, 2) := by decide +kernel
theorem dX11_cheap_105 : decode cX11_cheap 105 = .ok (.iload 5, 2) := by decide +kernel
theorem dX11_cheap_107 : decode cX11_cheap 107 = .ok (.if_icmp .ge 33, 3) := by decide +kernel
theorem dX11_cheap_110 : decode cX11_cheap 110 = .ok (.aload_n 0, 1) := by decide +kernel
theorem dX11_cheap_111 : decode cX11_cheap 111 = .ok (.iload_n 1, 1) := by decide +kernel
theorem dX11_cheap_112 : decode cX11_cheap 112 = .ok (.aload_n 0, 1) := by decide +kernel
theorem dX11_cheap_113 : decode cX11_cheap 113 = .ok (.iload 6, 2) := by decide +kernel
theorem dX11_cheap_115 : decode cX11_cheap 115 = .ok (.iload 7, 2) := by decide +kernel
theorem dX11_cheap_117 : decode cX11_cheap 117 = .ok (.invokevirtual 428, 3) := by decide +kernel
theorem dX11_cheap_120 : decode cX11_cheap 120 = .ok (.invokevirtual 452, 3) := by decide +kernel
theorem dX11_cheap_123 : decode cX11_cheap 123 = .ok (.ifCond .ne 6, 3) := by decide +kernel
theorem dX11_cheap_126 : decode cX11_cheap 126 = .ok (.goto 14, 3) := by decide +kernel
theorem dX11_cheap_129 : decode cX11_cheap 129 = .ok (.iload 6, 2) := by decide +kernel
theorem dX11_cheap_131 : decode cX11_cheap 131 = .ok (.istore_n 3, 1) := by decide +kernel
theorem dX11_cheap_132 : decode cX11_cheap 132 = .ok (.iload 7, 2) := by decide +kernel
theorem dX11_cheap_134 : decode cX11_cheap 134 = .ok (.istore 4, 2) := by decide +kernel
theorem dX11_cheap_136 : decode cX11_cheap 136 = .ok (.iload 8, 2) := by decide +kernel
theorem dX11_cheap_138 : decode cX11_cheap 138 = .ok (.istore 5, 2) := by decide +kernel
theorem dX11_cheap_140 : decode cX11_cheap 140 = .ok (.iinc 7 1, 3) := by decide +kernel
theorem dX11_cheap_143 : decode cX11_cheap 143 = .ok (.goto (-91), 3) := by decide +kernel
theorem dX11_cheap_146 : decode cX11_cheap 146 = .ok (.iinc 6 1, 3) := by decide +kernel
theorem dX11_cheap_149 : decode cX11_cheap 149 = .ok (.goto (-114), 3) := by decide +kernel
theorem dX11_cheap_152 : decode cX11_cheap 152 = .ok (.iload_n 3, 1) := by decide +kernel
theorem dX11_cheap_153 : decode cX11_cheap 153 = .ok (.ifCond .ge 6, 3) := by decide +kernel
theorem dX11_cheap_156 : decode cX11_cheap 156 = .ok (.bipush (-2), 2) := by decide +kernel
theorem dX11_cheap_158 : decode cX11_cheap 158 = .ok (.ireturn, 1) := by decide +kernel
theorem dX11_cheap_159 : decode cX11_cheap 159 = .ok (.iload_n 2, 1) := by decide +kernel
theorem dX11_cheap_160 : decode cX11_cheap 160 = .ok (.ifCond .ne 8, 3) := by decide +kernel
theorem dX11_cheap_163 : decode cX11_cheap 163 = .ok (.iload 5, 2) := by decide +kernel
theorem dX11_cheap_165 : decode cX11_cheap 165 = .ok (.goto 25, 3) := by decide +kernel
theorem dX11_cheap_168 : decode cX11_cheap 168 = .ok (.iload_n 2, 1) := by decide +kernel
theorem dX11_cheap_169 : decode cX11_cheap 169 = .ok (.iconst 1, 1) := by decide +kernel
theorem dX11_cheap_170 : decode cX11_cheap 170 = .ok (.if_icmp .ne 7, 3) := by decide +kernel
theorem dX11_cheap_173 : decode cX11_cheap 173 = .ok (.iload_n 3, 1) := by decide +kernel
theorem dX11_cheap_174 : decode cX11_cheap 174 = .ok (.goto 16, 3) := by decide +kernel
theorem dX11_cheap_177 : decode cX11_cheap 177 = .ok (.iload 4, 2) := by decide +kernel
theorem dX11_cheap_179 : decode cX11_cheap 179 = .ok (.iconst (-1), 1) := by decide +kernel
theorem dX11_cheap_180 : decode cX11_cheap 180 = .ok (.if_icmp .ne 8, 3) := by decide +kernel
theorem dX11_cheap_183 : decode cX11_cheap 183 = .ok (.bipush 9, 2) := by decide +kernel
theorem dX11_cheap_185 : decode cX11_cheap 185 = .ok (.goto 5, 3) := by decide +kernel
theorem dX11_cheap_188 : decode cX11_cheap 188 = .ok (.iload 4, 2) := by decide +kernel
theorem dX11_cheap_190 : decode cX11_cheap 190 = .ok (.ireturn, 1) := by decide +kernel
theorem dX11_fillsCheats_0 : decode cX11_fillsCheats 0 = .ok (.aload_n 0, 1) := by decide +kernel
theorem dX11_fillsCheats_1 : decode cX11_fillsCheats 1 = .ok (.invokevirtual 434, 3) := by decide +kernel
theorem dX11_fillsCheats_4 : decode cX11_fillsCheats 4 = .ok (.aload_n 0, 1) := by decide +kernel
theorem dX11_fillsCheats_5 : decode cX11_fillsCheats 5 = .ok (.iconst 0, 1) := by decide +kernel
theorem dX11_fillsCheats_6 : decode cX11_fillsCheats 6 = .ok (.putfield 467, 3) := by decide +kernel
theorem dX11_fillsCheats_9 : decode cX11_fillsCheats 9 = .ok (.iconst 0, 1) := by decide +kernel
theorem dX11_fillsCheats_10 : decode cX11_fillsCheats 10 = .ok (.istore_n 2, 1) := by decide +kernel
theorem dX11_fillsCheats_11 : decode cX11_fillsCheats 11 = .ok (.iload_n 2, 1) := by decide +kernel
theorem dX11_fillsCheats_12 : decode cX11_fillsCheats 12 = .ok (.aload_n 0, 1) := by decide +kernel
theorem dX11_fillsCheats_13 : decode cX11_fillsCheats 13 = .ok (.getfield 49, 3) := by decide +kernel
theorem dX11_fillsCheats_16 : decode cX11_fillsCheats 16 = .ok (.aload_n 0, 1) := by decide +kernel
theorem dX11_fillsCheats_17 : decode cX11_fillsCheats 17 = .ok (.getfield 257, 3) := by decide +kernel
theorem dX11_fillsCheats_20 : decode cX11_fillsCheats 20 = .ok (.iaload, 1) := by decide +kernel
theorem dX11_fillsCheats_21 : decode cX11_fillsCheats 21 = .ok (.if_icmp .ge 88, 3) := by decide +kernel
theorem dX11_fillsCheats_24 : decode cX11_fillsCheats 24 = .ok (.iconst (-1), 1) := by decide +kernel
theorem dX11_fillsCheats_25 : decode cX11_fillsCheats 25 = .ok (.istore_n 3, 1) := by decide +kernel
theorem dX11_fillsCheats_26 : decode cX11_fillsCheats 26 = .ok (.iload_n 3, 1) := by decide +kernel
theorem dX11_fillsCheats_27 : decode cX11_fillsCheats 27 = .ok (.aload_n 0, 1) := by decide +kernel
theorem dX11_fillsCheats_28 : decode cX11_fillsCheats 28 = .ok (.getfield 58, 3) := by decide +kernel
theorem dX11_fillsCheats_31 : decode cX11_fillsCheats 31 = .ok (.aload_n 0, 1) := by decide +kernel
theorem dX11_fillsCheats_32 : decode cX11_fillsCheats 32 = .ok (.getfield 257, 3) := by decide +kernel
theorem dX11_fillsCheats_35 : decode cX11_fillsCheats 35 = .ok (.iaload, 1) := by decide +kernel
theorem dX11_fillsCheats_36 : decode cX11_fillsCheats 36 = .ok (.if_icmp .ge 67, 3) := by decide +kernel
theorem dX11_fillsCheats_39 : decode cX11_fillsCheats 39 = .ok (.aload_n 0, 1) := by decide +kernel
theorem dX11_fillsCheats_40 : decode cX11_fillsCheats 40 = .ok (.iload_n 2, 1) := by decide +kernel
theorem dX11_fillsCheats_41 : decode cX11_fillsCheats 41 = .ok (.iload_n 3, 1) := by decide +kernel
theorem dX11_fillsCheats_42 : decode cX11_fillsCheats 42 = .ok (.invokevirtual 428, 3) := by decide +kernel
theorem dX11_fillsCheats_45 : decode cX11_fillsCheats 45 = .ok (.istore 4, 2) := by decide +kernel
theorem dX11_fillsCheats_47 : decode cX11_fillsCheats 47 = .ok (.aload_n 0, 1) := by decide +kernel
theorem dX11_fillsCheats_48 : decode cX11_fillsCheats 48 = .ok (.iload_n 2, 1) := by decide +kernel
theorem dX11_fillsCheats_49 : decode cX11_fillsCheats 49 = .ok (.invokevirtual 464, 3) := by decide +kernel
theorem dX11_fillsCheats_52 : decode cX11_fillsCheats 52 = .ok (.ifCond .eq 45, 3) := by decide +kernel
theorem dX11_fillsCheats_55 : decode cX11_fillsCheats 55 = .ok (.iload 4, 2) := by decide +kernel
theorem dX11_fillsCheats_57 : decode cX11_fillsCheats 57 = .ok (.invokestatic 443, 3) := by decide +kernel
theorem dX11_fillsCheats_60 : decode cX11_fillsCheats 60 = .ok (.ifCond .ne 37, 3) := by decide +kernel
theorem dX11_fillsCheats_63 : decode cX11_fillsCheats 63 = .ok (.aload_n 0, 1) := by decide +kernel
theorem dX11_fillsCheats_64 : decode cX11_fillsCheats 64 = .ok (.iload_n 1, 1) := by decide +kernel
theorem dX11_fillsCheats_65 : decode cX11_fillsCheats 65 = .ok (.iload 4, 2) := by decide +kernel
theorem dX11_fillsCheats_67 : decode cX11_fillsCheats 67 = .ok (.invokevirtual 452, 3) := by decide +kernel
theorem dX11_fillsCheats_70 : decode cX11_fillsCheats 70 = .ok (.ifCond .ne 6, 3) := by decide +kernel
theorem dX11_fillsCheats_73 : decode cX11_fillsCheats 73 = .ok (.goto 24, 3) := by decide +kernel
theorem dX11_fillsCheats_76 : decode cX11_fillsCheats 76 = .ok (.aload_n 0, 1) := by decide +kernel
theorem dX11_fillsCheats_77 : decode cX11_fillsCheats 77 = .ok (.getfield 149, 3) := by decide +kernel
theorem dX11_fillsCheats_80 : decode cX11_fillsCheats 80 = .ok (.aload_n 0, 1) := by decide +kernel
theorem dX11_fillsCheats_81 : decode cX11_fillsCheats 81 = .ok (.getfield 467, 3) := by decide +kernel
theorem dX11_fillsCheats_84 : decode cX11_fillsCheats 84 = .ok (.iload 4, 2) := by decide +kernel
theorem dX11_fillsCheats_86 : decode cX11_fillsCheats 86 = .ok (.iastore, 1) := by decide +kernel
theorem dX11_fillsCheats_87 : decode cX11_fillsCheats 87 = .ok (.aload_n 0, 1) := by decide +kernel
theorem dX11_fillsCheats_88 : decode cX11_fillsCheats 88 = .ok (.dup, 1) := by decide +kernel
theorem dX11_fillsCheats_89 : decode cX11_fillsCheats 89 = .ok (.getfield 467, 3) := by decide +kernel
theorem dX11_fillsCheats_92 : decode cX11_fillsCheats 92 = .ok (.iconst 1, 1) := by decide +kernel
theorem dX11_fillsCheats_93 : decode cX11_fillsCheats 93 = .ok (.iadd, 1) := by decide +kernel
theorem dX11_fillsCheats_94 : decode cX11_fillsCheats 94 = .ok (.putfield 467, 3) := by decide +kernel
theorem dX11_fillsCheats_97 : decode cX11_fillsCheats 97 = .ok (.iinc 3 1, 3) := by decide +kernel
theorem dX11_fillsCheats_100 : decode cX11_fillsCheats 100 = .ok (.goto (-74), 3) := by decide +kernel
theorem dX11_fillsCheats_103 : decode cX11_fillsCheats 103 = .ok (.iinc 2 1, 3) := by decide +kernel
theorem dX11_fillsCheats_106 : decode cX11_fillsCheats 106 = .ok (.goto (-95), 3) := by decide +kernel
theorem dX11_fillsCheats_109 : decode cX11_fillsCheats 109 = .ok (.return_, 1) := by decide +kernel
theorem dX11_cheats_0 : decode cX11_cheats 0 = .ok (.aload_n 0, 1) := by decide +kernel
theorem dX11_cheats_1 : decode cX11_cheats 1 = .ok (.iload_n 1, 1) := by decide +kernel
theorem dX11_cheats_2 : decode cX11_cheats 2 = .ok (.invokevirtual 431, 3) := by decide +kernel
theorem dX11_cheats_5 : decode cX11_cheats 5 = .ok (.ifCond .ne 5, 3) := by decide +kernel
theorem dX11_cheats_8 : decode cX11_cheats 8 = .ok (.iconst (-1), 1) := by decide +kernel
theorem dX11_cheats_9 : decode cX11_cheats 9 = .ok (.ireturn, 1) := by decide +kernel
theorem dX11_cheats_10 : decode cX11_cheats 10 = .ok (.aload_n 0, 1) := by decide +kernel
theorem dX11_cheats_11 : decode cX11_cheats 11 = .ok (.iload_n 1, 1) := by decide +kernel
theorem dX11_cheats_12 : decode cX11_cheats 12 = .ok (.invokevirtual 470, 3) := by decide +kernel
theorem dX11_cheats_15 : decode cX11_cheats 15 = .ok (.aload_n 0, 1) := by decide +kernel
theorem dX11_cheats_16 : decode cX11_cheats 16 = .ok (.getfield 467, 3) := by decide +kernel
theorem dX11_cheats_19 : decode cX11_cheats 19 = .ok (.ireturn, 1) := by decide +kernel
theorem dX11_shutBy_0 : decode cX11_shutBy 0 = .ok (.iconst 0, 1) := by decide +kernel
theorem dX11_shutBy_1 : decode cX11_shutBy 1 = .ok (.istore_n 2, 1) := by decide +kernel
theorem dX11_shutBy_2 : decode cX11_shutBy 2 = .ok (.iconst 0, 1) := by decide +kernel
theorem dX11_shutBy_3 : decode cX11_shutBy 3 = .ok (.istore_n 3, 1) := by decide +kernel
theorem dX11_shutBy_4 : decode cX11_shutBy 4 = .ok (.iload_n 3, 1) := by decide +kernel
theorem dX11_shutBy_5 : decode cX11_shutBy 5 = .ok (.aload_n 0, 1) := by decide +kernel
theorem dX11_shutBy_6 : decode cX11_shutBy 6 = .ok (.getfield 467, 3) := by decide +kernel
theorem dX11_shutBy_9 : decode cX11_shutBy 9 = .ok (.if_icmp .ge 23, 3) := by decide +kernel
theorem dX11_shutBy_12 : decode cX11_shutBy 12 = .ok (.aload_n 0, 1) := by decide +kernel
theorem dX11_shutBy_13 : decode cX11_shutBy 13 = .ok (.getfield 149, 3) := by decide +kernel
theorem dX11_shutBy_16 : decode cX11_shutBy 16 = .ok (.iload_n 3, 1) := by decide +kernel
theorem dX11_shutBy_17 : decode cX11_shutBy 17 = .ok (.iaload, 1) := by decide +kernel
theorem dX11_shutBy_18 : decode cX11_shutBy 18 = .ok (.iload_n 1, 1) := by decide +kernel
theorem dX11_shutBy_19 : decode cX11_shutBy 19 = .ok (.iand, 1) := by decide +kernel
theorem dX11_shutBy_20 : decode cX11_shutBy 20 = .ok (.ifCond .eq 6, 3) := by decide +kernel
theorem dX11_shutBy_23 : decode cX11_shutBy 23 = .ok (.iinc 2 1, 3) := by decide +kernel
theorem dX11_shutBy_26 : decode cX11_shutBy 26 = .ok (.iinc 3 1, 3) := by decide +kernel
theorem dX11_shutBy_29 : decode cX11_shutBy 29 = .ok (.goto (-25), 3) := by decide +kernel
theorem dX11_shutBy_32 : decode cX11_shutBy 32 = .ok (.iload_n 2, 1) := by decide +kernel
theorem dX11_shutBy_33 : decode cX11_shutBy 33 = .ok (.ireturn, 1) := by decide +kernel
theorem dX11_bar_0 : decode cX11_bar 0 = .ok (.aload_n 0, 1) := by decide +kernel
theorem dX11_bar_1 : decode cX11_bar 1 = .ok (.iload_n 1, 1) := by decide +kernel
theorem dX11_bar_2 : decode cX11_bar 2 = .ok (.invokevirtual 431, 3) := by decide +kernel
theorem dX11_bar_5 : decode cX11_bar 5 = .ok (.ifCond .eq 12, 3) := by decide +kernel
theorem dX11_bar_8 : decode cX11_bar 8 = .ok (.iload_n 2, 1) := by decide +kernel
theorem dX11_bar_9 : decode cX11_bar 9 = .ok (.iconst 0, 1) := by decide +kernel
theorem dX11_bar_10 : decode cX11_bar 10 = .ok (.iconst 1, 1) := by decide +kernel
theorem dX11_bar_11 : decode cX11_bar 11 = .ok (.invokestatic 370, 3) := by decide +kernel
theorem dX11_bar_14 : decode cX11_bar 14 = .ok (.ifCond .ne 5, 3) := by decide +kernel
theorem dX11_bar_17 : decode cX11_bar 17 = .ok (.iconst (-1), 1) := by decide +kernel
theorem dX11_bar_18 : decode cX11_bar 18 = .ok (.ireturn, 1) := by decide +kernel
theorem dX11_bar_19 : decode cX11_bar 19 = .ok (.aload_n 0, 1) := by decide +kernel
theorem dX11_bar_20 : decode cX11_bar 20 = .ok (.iload_n 1, 1) := by decide +kernel
theorem dX11_bar_21 : decode cX11_bar 21 = .ok (.invokevirtual 470, 3) := by decide +kernel
theorem dX11_bar_24 : decode cX11_bar 24 = .ok (.bipush (-2), 2) := by decide +kernel
theorem dX11_bar_26 : decode cX11_bar 26 = .ok (.istore_n 3, 1) := by decide +kernel
theorem dX11_bar_27 : decode cX11_bar 27 = .ok (.bipush (-2), 2) := by decide +kernel
theorem dX11_bar_29 : decode cX11_bar 29 = .ok (.istore 4, 2) := by decide +kernel
theorem dX11_bar_31 : decode cX11_bar 31 = .ok (.iconst 0, 1) := by decide +kernel
theorem dX11_bar_32 : decode cX11_bar 32 = .ok (.istore 5, 2) := by decide +kernel
theorem dX11_bar_34 : decode cX11_bar 34 = .ok (.iload 5, 2) := by decide +kernel
theorem dX11_bar_36 : decode cX11_bar 36 = .ok (.aload_n 0, 1) := by decide +kernel
theorem dX11_bar_37 : decode cX11_bar 37 = .ok (.getfield 46, 3) := by decide +kernel
theorem dX11_bar_40 : decode cX11_bar 40 = .ok (.aload_n 0, 1) := by decide +kernel
theorem dX11_bar_41 : decode cX11_bar 41 = .ok (.getfield 257, 3) := by decide +kernel
theorem dX11_bar_44 : decode cX11_bar 44 = .ok (.iaload, 1) := by decide +kernel
theorem dX11_bar_45 : decode cX11_bar 45 = .ok (.if_icmp .ge 38, 3) := by decide +kernel
theorem dX11_bar_48 : decode cX11_bar 48 = .ok (.aload_n 0, 1) := by decide +kernel
theorem dX11_bar_49 : decode cX11_bar 49 = .ok (.iconst 1, 1) := by decide +kernel
theorem dX11_bar_50 : decode cX11_bar 50 = .ok (.iload 5, 2) := by decide +kernel
theorem dX11_bar_52 : decode cX11_bar 52 = .ok (.ishl, 1) := by decide +kernel
theorem dX11_bar_53 : decode cX11_bar 53 = .ok (.invokevirtual 473, 3) := by decide +kernel
theorem dX11_bar_56 : decode cX11_bar 56 = .ok (.iload 4, 2) := by decide +kernel
theorem dX11_bar_58 : decode cX11_bar 58 = .ok (.if_icmp .gt 6, 3) := by decide +kernel
theorem dX11_bar_61 : decode cX11_bar 61 = .ok (.goto 16, 3) := by decide +kernel
theorem dX11_bar_64 : decode cX11_bar 64 = .ok (.iload 5, 2) := by decide +kernel
theorem dX11_bar_66 : decode cX11_bar 66 = .ok (.istore_n 3, 1) := by decide +kernel
theorem dX11_bar_67 : decode cX11_bar 67 = .ok (.aload_n 0, 1) := by decide +kernel
theorem dX11_bar_68 : decode cX11_bar 68 = .ok (.iconst 1, 1) := by decide +kernel
theorem dX11_bar_69 : decode cX11_bar 69 = .ok (.iload 5, 2) := by decide +kernel
theorem dX11_bar_71 : decode cX11_bar 71 = .ok (.ishl, 1) := by decide +kernel
theorem dX11_bar_72 : decode cX11_bar 72 = .ok (.invokevirtual 473, 3) := by decide +kernel
theorem dX11_bar_75 : decode cX11_bar 75 = .ok (.istore 4, 2) := by decide +kernel
theorem dX11_bar_77 : decode cX11_bar 77 = .ok (.iinc 5 1, 3) := by decide +kernel
theorem dX11_bar_80 : decode cX11_bar 80 = .ok (.goto (-46), 3) := by decide +kernel
theorem dX11_bar_83 : decode cX11_bar 83 = .ok (.iload_n 2, 1) := by decide +kernel
theorem dX11_bar_84 : decode cX11_bar 84 = .ok (.ifCond .ne 7, 3) := by decide +kernel
theorem dX11_bar_87 : decode cX11_bar 87 = .ok (.iload_n 3, 1) := by decide +kernel
theorem dX11_bar_88 : decode cX11_bar 88 = .ok (.goto 5, 3) := by decide +kernel
theorem dX11_bar_91 : decode cX11_bar 91 = .ok (.iload 4, 2) := by decide +kernel
theorem dX11_bar_93 : decode cX11_bar 93 = .ok (.ireturn, 1) := by decide +kernel
theorem dX11_ithOf_0 : decode cX11_ithOf 0 = .ok (.iconst 0, 1) := by decide +kernel
theorem dX11_ithOf_1 : decode cX11_ithOf 1 = .ok (.istore_n 3, 1) := by decide +kernel
theorem dX11_ithOf_2 : decode cX11_ithOf 2 = .ok (.iconst 0, 1) := by decide +kernel
theorem dX11_ithOf_3 : decode cX11_ithOf 3 = .ok (.istore 4, 2) := by decide +kernel
theorem dX11_ithOf_5 : decode cX11_ithOf 5 = .ok (.iload 4, 2) := by decide +kernel
theorem dX11_ithOf_7 : decode cX11_ithOf 7 = .ok (.bipush 8, 2) := by decide +kernel
theorem dX11_ithOf_9 : decode cX11_ithOf 9 = .ok (.if_icmp .ge 32, 3) := by decide +kernel
theorem dX11_ithOf_12 : decode cX11_ithOf 12 = .ok (.iload_n 1, 1) := by decide +kernel
theorem dX11_ithOf_13 : decode cX11_ithOf 13 = .ok (.iload 4, 2) := by decide +kernel
theorem dX11_ithOf_15 : decode cX11_ithOf 15 = .ok (.ishr, 1) := by decide +kernel
theorem dX11_ithOf_16 : decode cX11_ithOf 16 = .ok (.iconst 1, 1) := by decide +kernel
theorem dX11_ithOf_17 : decode cX11_ithOf 17 = .ok (.iand, 1) := by decide +kernel
theorem dX11_ithOf_18 : decode cX11_ithOf 18 = .ok (.ifCond .ne 6, 3) := by decide +kernel
theorem dX11_ithOf_21 : decode cX11_ithOf 21 = .ok (.goto 14, 3) := by decide +kernel
theorem dX11_ithOf_24 : decode cX11_ithOf 24 = .ok (.iload_n 3, 1) := by decide +kernel
theorem dX11_ithOf_25 : decode cX11_ithOf 25 = .ok (.iload_n 2, 1) := by decide +kernel
theorem dX11_ithOf_26 : decode cX11_ithOf 26 = .ok (.if_icmp .ne 6, 3) := by decide +kernel
theorem dX11_ithOf_29 : decode cX11_ithOf 29 = .ok (.iload 4, 2) := by decide +kernel
theorem dX11_ithOf_31 : decode cX11_ithOf 31 = .ok (.ireturn, 1) := by decide +kernel
theorem dX11_ithOf_32 : decode cX11_ithOf 32 = .ok (.iinc 3 1, 3) := by decide +kernel
theorem dX11_ithOf_35 : decode cX11_ithOf 35 = .ok (.iinc 4 1, 3) := by decide +kernel
theorem dX11_ithOf_38 : decode cX11_ithOf 38 = .ok (.goto (-33), 3) := by decide +kernel
theorem dX11_ithOf_41 : decode cX11_ithOf 41 = .ok (.iconst (-1), 1) := by decide +kernel
theorem dX11_ithOf_42 : decode cX11_ithOf 42 = .ok (.ireturn, 1) := by decide +kernel
theorem dX11_isEarlier_0 : decode cX11_isEarlier 0 = .ok (.iconst 0, 1) := by decide +kernel
theorem dX11_isEarlier_1 : decode cX11_isEarlier 1 = .ok (.istore_n 3, 1) := by decide +kernel
theorem dX11_isEarlier_2 : decode cX11_isEarlier 2 = .ok (.iload_n 3, 1) := by decide +kernel
theorem dX11_isEarlier_3 : decode cX11_isEarlier 3 = .ok (.iconst 3, 1) := by decide +kernel
theorem dX11_isEarlier_4 : decode cX11_isEarlier 4 = .ok (.if_icmp .ge 45, 3) := by decide +kernel
theorem dX11_isEarlier_7 : decode cX11_isEarlier 7 = .ok (.aload_n 0, 1) := by decide +kernel
theorem dX11_isEarlier_8 : decode cX11_isEarlier 8 = .ok (.iload_n 1, 1) := by decide +kernel
theorem dX11_isEarlier_9 : decode cX11_isEarlier 9 = .ok (.iload_n 3, 1) := by decide +kernel
theorem dX11_isEarlier_10 : decode cX11_isEarlier 10 = .ok (.invokevirtual 476, 3) := by decide +kernel
theorem dX11_isEarlier_13 : decode cX11_isEarlier 13 = .ok (.aload_n 0, 1) := by decide +kernel
theorem dX11_isEarlier_14 : decode cX11_isEarlier 14 = .ok (.iload_n 2, 1) := by decide +kernel
theorem dX11_isEarlier_15 : decode cX11_isEarlier 15 = .ok (.iload_n 3, 1) := by decide +kernel
theorem dX11_isEarlier_16 : decode cX11_isEarlier 16 = .ok (.invokevirtual 476, 3) := by decide +kernel
theorem dX11_isEarlier_19 : decode cX11_isEarlier 19 = .ok (.if_icmp .eq 24, 3) := by decide +kernel
theorem dX11_isEarlier_22 : decode cX11_isEarlier 22 = .ok (.aload_n 0, 1) := by decide +kernel
theorem dX11_isEarlier_23 : decode cX11_isEarlier 23 = .ok (.iload_n 1, 1) := by decide +kernel
theorem dX11_isEarlier_24 : decode cX11_isEarlier 24 = .ok (.iload_n 3, 1) := by decide +kernel
theorem dX11_isEarlier_25 : decode cX11_isEarlier 25 = .ok (.invokevirtual 476, 3) := by decide +kernel
theorem dX11_isEarlier_28 : decode cX11_isEarlier 28 = .ok (.aload_n 0, 1) := by decide +kernel
theorem dX11_isEarlier_29 : decode cX11_isEarlier 29 = .ok (.iload_n 2, 1) := by decide +kernel
theorem dX11_isEarlier_30 : decode cX11_isEarlier 30 = .ok (.iload_n 3, 1) := by decide +kernel
theorem dX11_isEarlier_31 : decode cX11_isEarlier 31 = .ok (.invokevirtual 476, 3) := by decide +kernel
theorem dX11_isEarlier_34 : decode cX11_isEarlier 34 = .ok (.if_icmp .ge 7, 3) := by decide +kernel
theorem dX11_isEarlier_37 : decode cX11_isEarlier 37 = .ok (.iconst 1, 1) := by decide +kernel
theorem dX11_isEarlier_38 : decode cX11_isEarlier 38 = .ok (.goto 4, 3) := by decide +kernel
theorem dX11_isEarlier_41 : decode cX11_isEarlier 41 = .ok (.iconst 0, 1) := by decide +kernel
theorem dX11_isEarlier_42 : decode cX11_isEarlier 42 = .ok (.ireturn, 1) := by decide +kernel
theorem dX11_isEarlier_43 : decode cX11_isEarlier 43 = .ok (.iinc 3 1, 3) := by decide +kernel
theorem dX11_isEarlier_46 : decode cX11_isEarlier 46 = .ok (.goto (-44), 3) := by decide +kernel
theorem dX11_isEarlier_49 : decode cX11_isEarlier 49 = .ok (.iconst 0, 1) := by decide +kernel
theorem dX11_isEarlier_50 : decode cX11_isEarlier 50 = .ok (.ireturn, 1) := by decide +kernel
theorem dX11_shuts_0 : decode cX11_shuts 0 = .ok (.aload_n 0, 1) := by decide +kernel
theorem dX11_shuts_1 : decode cX11_shuts 1 = .ok (.iload_n 1, 1) := by decide +kernel
theorem dX11_shuts_2 : decode cX11_shuts 2 = .ok (.invokevirtual 431, 3) := by decide +kernel
theorem dX11_shuts_5 : decode cX11_shuts 5 = .ok (.ifCond .eq 12, 3) := by decide +kernel
theorem dX11_shuts_8 : decode cX11_shuts 8 = .ok (.iload_n 2, 1) := by decide +kernel
theorem dX11_shuts_9 : decode cX11_shuts 9 = .ok (.iconst (-1), 1) := by decide +kernel
theorem dX11_shuts_10 : decode cX11_shuts 10 = .ok (.iconst 2, 1) := by decide +kernel
theorem dX11_shuts_11 : decode cX11_shuts 11 = .ok (.invokestatic 370, 3) := by decide +kernel
theorem dX11_shuts_14 : decode cX11_shuts 14 = .ok (.ifCond .ne 5, 3) := by decide +kernel
theorem dX11_shuts_17 : decode cX11_shuts 17 = .ok (.iconst (-1), 1) := by decide +kernel
theorem dX11_shuts_18 : decode cX11_shuts 18 = .ok (.ireturn, 1) := by decide +kernel
theorem dX11_shuts_19 : decode cX11_shuts 19 = .ok (.aload_n 0, 1) := by decide +kernel
theorem dX11_shuts_20 : decode cX11_shuts 20 = .ok (.iload_n 1, 1) := by decide +kernel
theorem dX11_shuts_21 : decode cX11_shuts 21 = .ok (.invokevirtual 470, 3) := by decide +kernel
theorem dX11_shuts_24 : decode cX11_shuts 24 = .ok (.iconst (-1), 1) := by decide +kernel
theorem dX11_shuts_25 : decode cX11_shuts 25 = .ok (.istore_n 3, 1) := by decide +kernel
theorem dX11_shuts_26 : decode cX11_shuts 26 = .ok (.iconst 0, 1) := by decide +kernel
theorem dX11_shuts_27 : decode cX11_shuts 27 = .ok (.istore 4, 2) := by decide +kernel
theorem dX11_shuts_29 : decode cX11_shuts 29 = .ok (.iload 4, 2) := by decide +kernel
theorem dX11_shuts_31 : decode cX11_shuts 31 = .ok (.iconst 1, 1) := by decide +kernel
theorem dX11_shuts_32 : decode cX11_shuts 32 = .ok (.aload_n 0, 1) := by decide +kernel
theorem dX11_shuts_33 : decode cX11_shuts 33 = .ok (.getfield 46, 3) := by decide +kernel
theorem dX11_shuts_36 : decode cX11_shuts 36 = .ok (.aload_n 0, 1) := by decide +kernel
theorem dX11_shuts_37 : decode cX11_shuts 37 = .ok (.getfield 257, 3) := by decide +kernel
theorem dX11_shuts_40 : decode cX11_shuts 40 = .ok (.iaload, 1) := by decide +kernel
theorem dX11_shuts_41 : decode cX11_shuts 41 = .ok (.ishl, 1) := by decide +kernel
theorem dX11_shuts_42 : decode cX11_shuts 42 = .ok (.if_icmp .ge 75, 3) := by decide +kernel
theorem dX11_shuts_45 : decode cX11_shuts 45 = .ok (.iload 4, 2) := by decide +kernel
theorem dX11_shuts_47 : decode cX11_shuts 47 = .ok (.invokestatic 387, 3) := by decide +kernel
theorem dX11_shuts_50 : decode cX11_shuts 50 = .ok (.iconst 3, 1) := by decide +kernel
theorem dX11_shuts_51 : decode cX11_shuts 51 = .ok (.if_icmp .gt 60, 3) := by decide +kernel
theorem dX11_shuts_54 : decode cX11_shuts 54 = .ok (.aload_n 0, 1) := by decide +kernel
theorem dX11_shuts_55 : decode cX11_shuts 55 = .ok (.iload 4, 2) := by decide +kernel
theorem dX11_shuts_57 : decode cX11_shuts 57 = .ok (.invokevirtual 473, 3) := by decide +kernel
theorem dX11_shuts_60 : decode cX11_shuts 60 = .ok (.aload_n 0, 1) := by decide +kernel
theorem dX11_shuts_61 : decode cX11_shuts 61 = .ok (.getfield 467, 3) := by decide +kernel
theorem dX11_shuts_64 : decode cX11_shuts 64 = .ok (.if_icmp .ge 6, 3) := by decide +kernel
theorem dX11_shuts_67 : decode cX11_shuts 67 = .ok (.goto 44, 3) := by decide +kernel
theorem dX11_shuts_70 : decode cX11_shuts 70 = .ok (.iload_n 3, 1) := by decide +kernel
theorem dX11_shuts_71 : decode cX11_shuts 71 = .ok (.ifCond .lt 37, 3) := by decide +kernel
theorem dX11_shuts_74 : decode cX11_shuts 74 = .ok (.iload 4, 2) := by decide +kernel
theorem dX11_shuts_76 : decode cX11_shuts 76 = .ok (.invokestatic 387, 3) := by decide +kernel
theorem dX11_shuts_79 : decode cX11_shuts 79 = .ok (.iload_n 3, 1) := by decide +kernel
theorem dX11_shuts_80 : decode cX11_shuts 80 = .ok (.invokestatic 387, 3) := by decide +kernel
theorem dX11_shuts_83 : decode cX11_shuts 83 = .ok (.if_icmp .lt 25, 3) := by decide +kernel
theorem dX11_shuts_86 : decode cX11_shuts 86 = .ok (.iload 4, 2) := by decide +kernel
theorem dX11_shuts_88 : decode cX11_shuts 88 = .ok (.invokestatic 387, 3) := by decide +kernel
theorem dX11_shuts_91 : decode cX11_shuts 91 = .ok (.iload_n 3, 1) := by decide +kernel
theorem dX11_shuts_92 : decode cX11_shuts 92 = .ok (.invokestatic 387, 3) := by decide +kernel
theorem dX11_shuts_95 : decode cX11_shuts 95 = .ok (.if_icmp .ne 16, 3) := by decide +kernel
theorem dX11_shuts_98 : decode cX11_shuts 98 = .ok (.aload_n 0, 1) := by decide +kernel
theorem dX11_shuts_99 : decode cX11_shuts 99 = .ok (.iload 4, 2) := by decide +kernel
theorem dX11_shuts_101 : decode cX11_shuts 101 = .ok (.iload_n 3, 1) := by decide +kernel
theorem dX11_shuts_102 : decode cX11_shuts 102 = .ok (.invokevirtual 479, 3) := by decide +kernel
theorem dX11_shuts_105 : decode cX11_shuts 105 = .ok (.ifCond .eq 6, 3) := by decide +kernel
theorem dX11_shuts_108 : decode cX11_shuts 108 = .ok (.iload 4, 2) := by decide +kernel
theorem dX11_shuts_110 : decode cX11_shuts 110 = .ok (.istore_n 3, 1) := by decide +kernel
theorem dX11_shuts_111 : decode cX11_shuts 111 = .ok (.iinc 4 1, 3) := by decide +kernel
theorem dX11_shuts_114 : decode cX11_shuts 114 = .ok (.goto (-85), 3) := by decide +kernel
theorem dX11_shuts_117 : decode cX11_shuts 117 = .ok (.iload_n 3, 1) := by decide +kernel
theorem dX11_shuts_118 : decode cX11_shuts 118 = .ok (.ifCond .ge 6, 3) := by decide +kernel
theorem dX11_shuts_121 : decode cX11_shuts 121 = .ok (.bipush (-2), 2) := by decide +kernel
theorem dX11_shuts_123 : decode cX11_shuts 123 = .ok (.ireturn, 1) := by decide +kernel
theorem dX11_shuts_124 : decode cX11_shuts 124 = .ok (.iload_n 2, 1) := by decide +kernel
theorem dX11_shuts_125 : decode cX11_shuts 125 = .ok (.iconst (-1), 1) := by decide +kernel
theorem dX11_shuts_126 : decode cX11_shuts 126 = .ok (.if_icmp .ne 10, 3) := by decide +kernel
theorem dX11_shuts_129 : decode cX11_shuts 129 = .ok (.iload_n 3, 1) := by decide +kernel
theorem dX11_shuts_130 : decode cX11_shuts 130 = .ok (.invokestatic 387, 3) := by decide +kernel
theorem dX11_shuts_133 : decode cX11_shuts 133 = .ok (.goto 9, 3) := by decide +kernel
theorem dX11_shuts_136 : decode cX11_shuts 136 = .ok (.aload_n 0, 1) := by decide +kernel
theorem dX11_shuts_137 : decode cX11_shuts 137 = .ok (.iload_n 3, 1) := by decide +kernel
theorem dX11_shuts_138 : decode cX11_shuts 138 = .ok (.iload_n 2, 1) := by decide +kernel
theorem dX11_shuts_139 : decode cX11_shuts 139 = .ok (.invokevirtual 476, 3) := by decide +kernel
theorem dX11_shuts_142 : decode cX11_shuts 142 = .ok (.ireturn, 1) := by decide +kernel
theorem dX11_pickCost_0 : decode cX11_pickCost 0 = .ok (.aload_n 0, 1) := by decide +kernel
theorem dX11_pickCost_1 : decode cX11_pickCost 1 = .ok (.getfield 52, 3) := by decide +kernel
theorem dX11_pickCost_4 : decode cX11_pickCost 4 = .ok (.bipush 7, 2) := by decide +kernel
theorem dX11_pickCost_6 : decode cX11_pickCost 6 = .ok (.aload_n 0, 1) := by decide +kernel
theorem dX11_pickCost_7 : decode cX11_pickCost 7 = .ok (.getfield 257, 3) := by decide +kernel
theorem dX11_pickCost_10 : decode cX11_pickCost 10 = .ok (.imul, 1) := by decide +kernel
theorem dX11_pickCost_11 : decode cX11_pickCost 11 = .ok (.iload_n 1, 1) := by decide +kernel
theorem dX11_pickCost_12 : decode cX11_pickCost 12 = .ok (.iconst 5, 1) := by decide +kernel
theorem dX11_pickCost_13 : decode cX11_pickCost 13 = .ok (.idiv, 1) := by decide +kernel
theorem dX11_pickCost_14 : decode cX11_pickCost 14 = .ok (.iadd, 1) := by decide +kernel
theorem dX11_pickCost_15 : decode cX11_pickCost 15 = .ok (.iaload, 1) := by decide +kernel
theorem dX11_pickCost_16 : decode cX11_pickCost 16 = .ok (.aload_n 0, 1) := by decide +kernel
theorem dX11_pickCost_17 : decode cX11_pickCost 17 = .ok (.iload_n 1, 1) := by decide +kernel
theorem dX11_pickCost_18 : decode cX11_pickCost 18 = .ok (.iconst 5, 1) := by decide +kernel
theorem dX11_pickCost_19 : decode cX11_pickCost 19 = .ok (.irem, 1) := by decide +kernel
theorem dX11_pickCost_20 : decode cX11_pickCost 20 = .ok (.iconst 1, 1) := by decide +kernel
theorem dX11_pickCost_21 : decode cX11_pickCost 21 = .ok (.isub, 1) := by decide +kernel
theorem dX11_pickCost_22 : decode cX11_pickCost 22 = .ok (.invokevirtual 449, 3) := by decide +kernel
theorem dX11_pickCost_25 : decode cX11_pickCost 25 = .ok (.iadd, 1) := by decide +kernel
theorem dX11_pickCost_26 : decode cX11_pickCost 26 = .ok (.ireturn, 1) := by decide +kernel
theorem dX11_sumOf_0 : decode cX11_sumOf 0 = .ok (.iconst 0, 1) := by decide +kernel
theorem dX11_sumOf_1 : decode cX11_sumOf 1 = .ok (.istore_n 2, 1) := by decide +kernel
theorem dX11_sumOf_2 : decode cX11_sumOf 2 = .ok (.iconst 0, 1) := by decide +kernel
theorem dX11_sumOf_3 : decode cX11_sumOf 3 = .ok (.istore_n 3, 1) := by decide +kernel
theorem dX11_sumOf_4 : decode cX11_sumOf 4 = .ok (.iload_n 3, 1) := by decide +kernel
theorem dX11_sumOf_5 : decode cX11_sumOf 5 = .ok (.iload_n 1, 1) := by decide +kernel
theorem dX11_sumOf_6 : decode cX11_sumOf 6 = .ok (.if_icmp .ge 22, 3) := by decide +kernel
theorem dX11_sumOf_9 : decode cX11_sumOf 9 = .ok (.iload_n 2, 1) := by decide +kernel
theorem dX11_sumOf_10 : decode cX11_sumOf 10 = .ok (.aload_n 0, 1) := by decide +kernel
theorem dX11_sumOf_11 : decode cX11_sumOf 11 = .ok (.aload_n 0, 1) := by decide +kernel
theorem dX11_sumOf_12 : decode cX11_sumOf 12 = .ok (.getfield 155, 3) := by decide +kernel
theorem dX11_sumOf_15 : decode cX11_sumOf 15 = .ok (.iload_n 3, 1) := by decide +kernel
theorem dX11_sumOf_16 : decode cX11_sumOf 16 = .ok (.iaload, 1) := by decide +kernel
theorem dX11_sumOf_17 : decode cX11_sumOf 17 = .ok (.invokevirtual 482, 3) := by decide +kernel
theorem dX11_sumOf_20 : decode cX11_sumOf 20 = .ok (.iadd, 1) := by decide +kernel
theorem dX11_sumOf_21 : decode cX11_sumOf 21 = .ok (.istore_n 2, 1) := by decide +kernel
theorem dX11_sumOf_22 : decode cX11_sumOf 22 = .ok (.iinc 3 1, 3) := by decide +kernel
theorem dX11_sumOf_25 : decode cX11_sumOf 25 = .ok (.goto (-21), 3) := by decide +kernel
theorem dX11_sumOf_28 : decode cX11_sumOf 28 = .ok (.iload_n 2, 1) := by decide +kernel
theorem dX11_sumOf_29 : decode cX11_sumOf 29 = .ok (.ireturn, 1) := by decide +kernel
theorem dX11_isUsed_0 : decode cX11_isUsed 0 = .ok (.iconst 0, 1) := by decide +kernel
theorem dX11_isUsed_1 : decode cX11_isUsed 1 = .ok (.istore_n 3, 1) := by decide +kernel
theorem dX11_isUsed_2 : decode cX11_isUsed 2 = .ok (.iload_n 3, 1) := by decide +kernel
theorem dX11_isUsed_3 : decode cX11_isUsed 3 = .ok (.iload_n 2, 1) := by decide +kernel
theorem dX11_isUsed_4 : decode cX11_isUsed 4 = .ok (.if_icmp .ge 23, 3) := by decide +kernel
theorem dX11_isUsed_7 : decode cX11_isUsed 7 = .ok (.aload_n 0, 1) := by decide +kernel
theorem dX11_isUsed_8 : decode cX11_isUsed 8 = .ok (.getfield 155, 3) := by decide +kernel
theorem dX11_isUsed_11 : decode cX11_isUsed 11 = .ok (.iload_n 3, 1) := by decide +kernel
theorem dX11_isUsed_12 : decode cX11_isUsed 12 = .ok (.iaload, 1) := by decide +kernel
theorem dX11_isUsed_13 : decode cX11_isUsed 13 = .ok (.iconst 5, 1) := by decide +kernel
theorem dX11_isUsed_14 : decode cX11_isUsed 14 = .ok (.idiv, 1) := by decide +kernel
theorem dX11_isUsed_15 : decode cX11_isUsed 15 = .ok (.iload_n 1, 1) := by decide +kernel
theorem dX11_isUsed_16 : decode cX11_isUsed 16 = .ok (.if_icmp .ne 5, 3) := by decide +kernel
theorem dX11_isUsed_19 : decode cX11_isUsed 19 = .ok (.iconst 1, 1) := by decide +kernel
theorem dX11_isUsed_20 : decode cX11_isUsed 20 = .ok (.ireturn, 1) := by decide +kernel
theorem dX11_isUsed_21 : decode cX11_isUsed 21 = .ok (.iinc 3 1, 3) := by decide +kernel
theorem dX11_isUsed_24 : decode cX11_isUsed 24 = .ok (.goto (-22), 3) := by decide +kernel
theorem dX11_isUsed_27 : decode cX11_isUsed 27 = .ok (.iconst 0, 1) := by decide +kernel
theorem dX11_isUsed_28 : decode cX11_isUsed 28 = .ok (.ireturn, 1) := by decide +kernel
theorem dX11_canPick_0 : decode cX11_canPick 0 = .ok (.iload_n 2, 1) := by decide +kernel
theorem dX11_canPick_1 : decode cX11_canPick 1 = .ok (.iconst 5, 1) := by decide +kernel
theorem dX11_canPick_2 : decode cX11_canPick 2 = .ok (.idiv, 1) := by decide +kernel
theorem dX11_canPick_3 : decode cX11_canPick 3 = .ok (.istore_n 3, 1) := by decide +kernel
theorem dX11_canPick_4 : decode cX11_canPick 4 = .ok (.iload_n 2, 1) := by decide +kernel
theorem dX11_canPick_5 : decode cX11_canPick 5 = .ok (.iconst 5, 1) := by decide +kernel
theorem dX11_canPick_6 : decode cX11_canPick 6 = .ok (.irem, 1) := by decide +kernel
theorem dX11_canPick_7 : decode cX11_canPick 7 = .ok (.iconst 1, 1) := by decide +kernel
theorem dX11_canPick_8 : decode cX11_canPick 8 = .ok (.isub, 1) := by decide +kernel
theorem dX11_canPick_9 : decode cX11_canPick 9 = .ok (.istore 4, 2) := by decide +kernel
theorem dX11_canPick_11 : decode cX11_canPick 11 = .ok (.iload_n 3, 1) := by decide +kernel
theorem dX11_canPick_12 : decode cX11_canPick 12 = .ok (.aload_n 0, 1) := by decide +kernel
theorem dX11_canPick_13 : decode cX11_canPick 13 = .ok (.getfield 49, 3) := by decide +kernel
theorem dX11_canPick_16 : decode cX11_canPick 16 = .ok (.aload_n 0, 1) := by decide +kernel
theorem dX11_canPick_17 : decode cX11_canPick 17 = .ok (.getfield 257, 3) := by decide +kernel
theorem dX11_canPick_20 : decode cX11_canPick 20 = .ok (.iaload, 1) := by decide +kernel
theorem dX11_canPick_21 : decode cX11_canPick 21 = .ok (.if_icmp .ge 34, 3) := by decide +kernel
theorem dX11_canPick_24 : decode cX11_canPick 24 = .ok (.iload 4, 2) := by decide +kernel
theorem dX11_canPick_26 : decode cX11_canPick 26 = .ok (.aload_n 0, 1) := by decide +kernel
theorem dX11_canPick_27 : decode cX11_canPick 27 = .ok (.getfield 58, 3) := by decide +kernel
theorem dX11_canPick_30 : decode cX11_canPick 30 = .ok (.aload_n 0, 1) := by decide +kernel
theorem dX11_canPick_31 : decode cX11_canPick 31 = .ok (.getfield 257, 3) := by decide +kernel
theorem dX11_canPick_34 : decode cX11_canPick 34 = .ok (.iaload, 1) := by decide +kernel
theorem dX11_canPick_35 : decode cX11_canPick 35 = .ok (.if_icmp .ge 20, 3) := by decide +kernel
theorem dX11_canPick_38 : decode cX11_canPick 38 = .ok (.aload_n 0, 1) := by decide +kernel
theorem dX11_canPick_39 : decode cX11_canPick 39 = .ok (.iload_n 3, 1) := by decide +kernel
theorem dX11_canPick_40 : decode cX11_canPick 40 = .ok (.invokevirtual 464, 3) := by decide +kernel
theorem dX11_canPick_43 : decode cX11_canPick 43 = .ok (.ifCond .eq 12, 3) := by decide +kernel
theorem dX11_canPick_46 : decode cX11_canPick 46 = .ok (.aload_n 0, 1) := by decide +kernel
theorem dX11_canPick_47 : decode cX11_canPick 47 = .ok (.iload_n 3, 1) := by decide +kernel
theorem dX11_canPick_48 : decode cX11_canPick 48 = .ok (.iload_n 1, 1) := by decide +kernel
theorem dX11_canPick_49 : decode cX11_canPick 49 = .ok (.invokevirtual 485, 3) := by decide +kernel
theorem dX11_canPick_52 : decode cX11_canPick 52 = .ok (.ifCond .eq 5, 3) := by decide +kernel
theorem dX11_canPick_55 : decode cX11_canPick 55 = .ok (.iconst 0, 1) := by decide +kernel
theorem dX11_canPick_56 : decode cX11_canPick 56 = .ok (.ireturn, 1) := by decide +kernel
theorem dX11_canPick_57 : decode cX11_canPick 57 = .ok (.aload_n 0, 1) := by decide +kernel
theorem dX11_canPick_58 : decode cX11_canPick 58 = .ok (.getfield 488, 3) := by decide +kernel
theorem dX11_canPick_61 : decode cX11_canPick 61 = .ok (.ifCond .lt 23, 3) := by decide +kernel
theorem dX11_canPick_64 : decode cX11_canPick 64 = .ok (.aload_n 0, 1) := by decide +kernel
theorem dX11_canPick_65 : decode cX11_canPick 65 = .ok (.iload_n 1, 1) := by decide +kernel
theorem dX11_canPick_66 : decode cX11_canPick 66 = .ok (.invokevirtual 491, 3) := by decide +kernel
theorem dX11_canPick_69 : decode cX11_canPick 69 = .ok (.aload_n 0, 1) := by decide +kernel
theorem dX11_canPick_70 : decode cX11_canPick 70 = .ok (.iload_n 2, 1) := by decide +kernel
theorem dX11_canPick_71 : decode cX11_canPick 71 = .ok (.invokevirtual 482, 3) := by decide +kernel
theorem dX11_canPick_74 : decode cX11_canPick 74 = .ok (.iadd, 1) := by decide +kernel
theorem dX11_canPick_75 : decode cX11_canPick 75 = .ok (.aload_n 0, 1) := by decide +kernel
theorem dX11_canPick_76 : decode cX11_canPick 76 = .ok (.getfield 488, 3) := by decide +kernel
theorem dX11_canPick_79 : decode cX11_canPick 79 = .ok (.if_icmp .lt 5, 3) := by decide +kernel
theorem dX11_canPick_82 : decode cX11_canPick 82 = .ok (.iconst 0, 1) := by decide +kernel
theorem dX11_canPick_83 : decode cX11_canPick 83 = .ok (.ireturn, 1) := by decide +kernel
theorem dX11_canPick_84 : decode cX11_canPick 84 = .ok (.aload_n 0, 1) := by decide +kernel
theorem dX11_canPick_85 : decode cX11_canPick 85 = .ok (.aload_n 0, 1) := by decide +kernel
theorem dX11_canPick_86 : decode cX11_canPick 86 = .ok (.getfield 152, 3) := by decide +kernel
theorem dX11_canPick_89 : decode cX11_canPick 89 = .ok (.iload_n 1, 1) := by decide +kernel
theorem dX11_canPick_90 : decode cX11_canPick 90 = .ok (.iaload, 1) := by decide +kernel
theorem dX11_canPick_91 : decode cX11_canPick 91 = .ok (.aload_n 0, 1) := by decide +kernel
theorem dX11_canPick_92 : decode cX11_canPick 92 = .ok (.iload_n 3, 1) := by decide +kernel
theorem dX11_canPick_93 : decode cX11_canPick 93 = .ok (.iload 4, 2) := by decide +kernel
theorem dX11_canPick_95 : decode cX11_canPick 95 = .ok (.invokevirtual 428, 3) := by decide +kernel
theorem dX11_canPick_98 : decode cX11_canPick 98 = .ok (.invokevirtual 452, 3) := by decide +kernel
theorem dX11_canPick_101 : decode cX11_canPick 101 = .ok (.ireturn, 1) := by decide +kernel
theorem dX11_picksNext_0 : decode cX11_picksNext 0 = .ok (.aload_n 0, 1) := by decide +kernel
theorem dX11_picksNext_1 : decode cX11_picksNext 1 = .ok (.getfield 137, 3) := by decide +kernel
theorem dX11_picksNext_4 : decode cX11_picksNext 4 = .ok (.bipush 21, 2) := by decide +kernel
theorem dX11_picksNext_6 : decode cX11_picksNext 6 = .ok (.aload_n 0, 1) := by decide +kernel
theorem dX11_picksNext_7 : decode cX11_picksNext 7 = .ok (.getfield 158, 3) := by decide +kernel
theorem dX11_picksNext_10 : decode cX11_picksNext 10 = .ok (.iload_n 1, 1) := by decide +kernel
theorem dX11_picksNext_11 : decode cX11_picksNext 11 = .ok (.iaload, 1) := by decide +kernel
theorem dX11_picksNext_12 : decode cX11_picksNext 12 = .ok (.iastore, 1) := by decide +kernel
theorem dX11_picksNext_13 : decode cX11_picksNext 13 = .ok (.aload_n 0, 1) := by decide +kernel
theorem dX11_picksNext_14 : decode cX11_picksNext 14 = .ok (.getfield 155, 3) := by decide +kernel
theorem dX11_picksNext_17 : decode cX11_picksNext 17 = .ok (.iload_n 1, 1) := by decide +kernel
theorem dX11_picksNext_18 : decode cX11_picksNext 18 = .ok (.dup2, 1) := by decide +kernel
theorem dX11_picksNext_19 : decode cX11_picksNext 19 = .ok (.iaload, 1) := by decide +kernel
theorem dX11_picksNext_20 : decode cX11_picksNext 20 = .ok (.iconst 1, 1) := by decide +kernel
theorem dX11_picksNext_21 : decode cX11_picksNext 21 = .ok (.iadd, 1) := by decide +kernel
theorem dX11_picksNext_22 : decode cX11_picksNext 22 = .ok (.iastore, 1) := by decide +kernel
theorem dX11_picksNext_23 : decode cX11_picksNext 23 = .ok (.aload_n 0, 1) := by decide +kernel
theorem dX11_picksNext_24 : decode cX11_picksNext 24 = .ok (.getfield 155, 3) := by decide +kernel
theorem dX11_picksNext_27 : decode cX11_picksNext 27 = .ok (.iload_n 1, 1) := by decide +kernel
theorem dX11_picksNext_28 : decode cX11_picksNext 28 = .ok (.iaload, 1) := by decide +kernel
theorem dX11_picksNext_29 : decode cX11_picksNext 29 = .ok (.bipush 35, 2) := by decide +kernel
theorem dX11_picksNext_31 : decode cX11_picksNext 31 = .ok (.if_icmp .ge 30, 3) := by decide +kernel
theorem dX11_picksNext_34 : decode cX11_picksNext 34 = .ok (.aload_n 0, 1) := by decide +kernel
theorem dX11_picksNext_35 : decode cX11_picksNext 35 = .ok (.iload_n 1, 1) := by decide +kernel
theorem dX11_picksNext_36 : decode cX11_picksNext 36 = .ok (.aload_n 0, 1) := by decide +kernel
theorem dX11_picksNext_37 : decode cX11_picksNext 37 = .ok (.getfield 155, 3) := by decide +kernel
theorem dX11_picksNext_40 : decode cX11_picksNext 40 = .ok (.iload_n 1, 1) := by decide +kernel
theorem dX11_picksNext_41 : decode cX11_picksNext 41 = .ok (.iaload, 1) := by decide +kernel
theorem dX11_picksNext_42 : decode cX11_picksNext 42 = .ok (.invokevirtual 494, 3) := by decide +kernel
theorem dX11_picksNext_45 : decode cX11_picksNext 45 = .ok (.ifCond .ne 16, 3) := by decide +kernel
theorem dX11_picksNext_48 : decode cX11_picksNext 48 = .ok (.aload_n 0, 1) := by decide +kernel
theorem dX11_picksNext_49 : decode cX11_picksNext 49 = .ok (.getfield 155, 3) := by decide +kernel
theorem dX11_picksNext_52 : decode cX11_picksNext 52 = .ok (.iload_n 1, 1) := by decide +kernel
theorem dX11_picksNext_53 : decode cX11_picksNext 53 = .ok (.dup2, 1) := by decide +kernel
theorem dX11_picksNext_54 : decode cX11_picksNext 54 = .ok (.iaload, 1) := by decide +kernel
theorem dX11_picksNext_55 : decode cX11_picksNext 55 = .ok (.iconst 1, 1) := by decide +kernel
theorem dX11_picksNext_56 : decode cX11_picksNext 56 = .ok (.iadd, 1) := by decide +kernel
theorem dX11_picksNext_57 : decode cX11_picksNext 57 = .ok (.iastore, 1) := by decide +kernel
theorem dX11_picksNext_58 : decode cX11_picksNext 58 = .ok (.goto (-35), 3) := by decide +kernel
theorem dX11_picksNext_61 : decode cX11_picksNext 61 = .ok (.aload_n 0, 1) := by decide +kernel
theorem dX11_picksNext_62 : decode cX11_picksNext 62 = .ok (.getfield 155, 3) := by decide +kernel
theorem dX11_picksNext_65 : decode cX11_picksNext 65 = .ok (.iload_n 1, 1) := by decide +kernel
theorem dX11_picksNext_66 : decode cX11_picksNext 66 = .ok (.iaload, 1) := by decide +kernel
theorem dX11_picksNext_67 : decode cX11_picksNext 67 = .ok (.bipush 35, 2) := by decide +kernel
theorem dX11_picksNext_69 : decode cX11_picksNext 69 = .ok (.if_icmp .ne 5, 3) := by decide +kernel
theorem dX11_picksNext_72 : decode cX11_picksNext 72 = .ok (.iconst 0, 1) := by decide +kernel
theorem dX11_picksNext_73 : decode cX11_picksNext 73 = .ok (.ireturn, 1) := by decide +kernel
theorem dX11_picksNext_74 : decode cX11_picksNext 74 = .ok (.aload_n 0, 1) := by decide +kernel
theorem dX11_picksNext_75 : decode cX11_picksNext 75 = .ok (.aload_n 0, 1) := by decide +kernel
theorem dX11_picksNext_76 : decode cX11_picksNext 76 = .ok (.getfield 155, 3) := by decide +kernel
theorem dX11_picksNext_79 : decode cX11_picksNext 79 = .ok (.iload_n 1, 1) := by decide +kernel
theorem dX11_picksNext_80 : decode cX11_picksNext 80 = .ok (.iaload, 1) := by decide +kernel
theorem dX11_picksNext_81 : decode cX11_picksNext 81 = .ok (.iconst 5, 1) := by decide +kernel
theorem dX11_picksNext_82 : decode cX11_picksNext 82 = .ok (.idiv, 1) := by decide +kernel
theorem dX11_picksNext_83 : decode cX11_picksNext 83 = .ok (.aload_n 0, 1) := by decide +kernel
theorem dX11_picksNext_84 : decode cX11_picksNext 84 = .ok (.getfield 155, 3) := by decide +kernel
theorem dX11_picksNext_87 : decode cX11_picksNext 87 = .ok (.iload_n 1, 1) := by decide +kernel
theorem dX11_picksNext_88 : decode cX11_picksNext 88 = .ok (.iaload, 1) := by decide +kernel
theorem dX11_picksNext_89 : decode cX11_picksNext 89 = .ok (.iconst 5, 1) := by decide +kernel
theorem dX11_picksNext_90 : decode cX11_picksNext 90 = .ok (.irem, 1) := by decide +kernel
theorem dX11_picksNext_91 : decode cX11_picksNext 91 = .ok (.iconst 1, 1) := by decide +kernel
theorem dX11_picksNext_92 : decode cX11_picksNext 92 = .ok (.isub, 1) := by decide +kernel
theorem dX11_picksNext_93 : decode cX11_picksNext 93 = .ok (.invokevirtual 428, 3) := by decide +kernel
theorem dX11_picksNext_96 : decode cX11_picksNext 96 = .ok (.istore_n 2, 1) := by decide +kernel
theorem dX11_picksNext_97 : decode cX11_picksNext 97 = .ok (.iload_n 2, 1) := by decide +kernel
theorem dX11_picksNext_98 : decode cX11_picksNext 98 = .ok (.invokestatic 443, 3) := by decide +kernel
theorem dX11_picksNext_101 : decode cX11_picksNext 101 = .ok (.ifCond .ne 8, 3) := by decide +kernel
theorem dX11_picksNext_104 : decode cX11_picksNext 104 = .ok (.aload_n 0, 1) := by decide +kernel
theorem dX11_picksNext_105 : decode cX11_picksNext 105 = .ok (.iload_n 2, 1) := by decide +kernel
theorem dX11_picksNext_106 : decode cX11_picksNext 106 = .ok (.invokevirtual 446, 3) := by decide +kernel
theorem dX11_picksNext_109 : decode cX11_picksNext 109 = .ok (.iconst 1, 1) := by decide +kernel
theorem dX11_picksNext_110 : decode cX11_picksNext 110 = .ok (.ireturn, 1) := by decide +kernel
theorem dX11_fillsAll_0 : decode cX11_fillsAll 0 = .ok (.aload_n 0, 1) := by decide +kernel
theorem dX11_fillsAll_1 : decode cX11_fillsAll 1 = .ok (.invokevirtual 434, 3) := by decide +kernel
theorem dX11_fillsAll_4 : decode cX11_fillsAll 4 = .ok (.aload_n 0, 1) := by decide +kernel
theorem dX11_fillsAll_5 : decode cX11_fillsAll 5 = .ok (.iconst 0, 1) := by decide +kernel
theorem dX11_fillsAll_6 : decode cX11_fillsAll 6 = .ok (.putfield 497, 3) := by decide +kernel
theorem dX11_fillsAll_9 : decode cX11_fillsAll 9 = .ok (.iconst 0, 1) := by decide +kernel
theorem dX11_fillsAll_10 : decode cX11_fillsAll 10 = .ok (.istore_n 1, 1) := by decide +kernel
theorem dX11_fillsAll_11 : decode cX11_fillsAll 11 = .ok (.iload_n 1, 1) := by decide +kernel
theorem dX11_fillsAll_12 : decode cX11_fillsAll 12 = .ok (.aload_n 0, 1) := by decide +kernel
theorem dX11_fillsAll_13 : decode cX11_fillsAll 13 = .ok (.getfield 70, 3) := by decide +kernel
theorem dX11_fillsAll_16 : decode cX11_fillsAll 16 = .ok (.aload_n 0, 1) := by decide +kernel
theorem dX11_fillsAll_17 : decode cX11_fillsAll 17 = .ok (.getfield 257, 3) := by decide +kernel
theorem dX11_fillsAll_20 : decode cX11_fillsAll 20 = .ok (.iaload, 1) := by decide +kernel
theorem dX11_fillsAll_21 : decode cX11_fillsAll 21 = .ok (.if_icmp .ge 43, 3) := by decide +kernel
theorem dX11_fillsAll_24 : decode cX11_fillsAll 24 = .ok (.aload_n 0, 1) := by decide +kernel
theorem dX11_fillsAll_25 : decode cX11_fillsAll 25 = .ok (.getfield 137, 3) := by decide +kernel
theorem dX11_fillsAll_28 : decode cX11_fillsAll 28 = .ok (.iconst 4, 1) := by decide +kernel
theorem dX11_fillsAll_29 : decode cX11_fillsAll 29 = .ok (.iload_n 1, 1) := by decide +kernel
theorem dX11_fillsAll_30 : decode cX11_fillsAll 30 = .ok (.iadd, 1) := by decide +kernel
theorem dX11_fillsAll_31 : decode cX11_fillsAll 31 = .ok (.iaload, 1) := by decide +kernel
theorem dX11_fillsAll_32 : decode cX11_fillsAll 32 = .ok (.ifCond .eq 6, 3) := by decide +kernel
theorem dX11_fillsAll_35 : decode cX11_fillsAll 35 = .ok (.goto 23, 3) := by decide +kernel
theorem dX11_fillsAll_38 : decode cX11_fillsAll 38 = .ok (.aload_n 0, 1) := by decide +kernel
theorem dX11_fillsAll_39 : decode cX11_fillsAll 39 = .ok (.getfield 152, 3) := by decide +kernel
theorem dX11_fillsAll_42 : decode cX11_fillsAll 42 = .ok (.aload_n 0, 1) := by decide +kernel
theorem dX11_fillsAll_43 : decode cX11_fillsAll 43 = .ok (.getfield 497, 3) := by decide +kernel
theorem dX11_fillsAll_46 : decode cX11_fillsAll 46 = .ok (.iload_n 1, 1) := by decide +kernel
theorem dX11_fillsAll_47 : decode cX11_fillsAll 47 = .ok (.iastore, 1) := by decide +kernel
theorem dX11_fillsAll_48 : decode cX11_fillsAll 48 = .ok (.aload_n 0, 1) := by decide +kernel
theorem dX11_fillsAll_49 : decode cX11_fillsAll 49 = .ok (.dup, 1) := by decide +kernel
theorem dX11_fillsAll_50 : decode cX11_fillsAll 50 = .ok (.getfield 497, 3) := by decide +kernel
theorem dX11_fillsAll_53 : decode cX11_fillsAll 53 = .ok (.iconst 1, 1) := by decide +kernel
theorem dX11_fillsAll_54 : decode cX11_fillsAll 54 = .ok (.iadd, 1) := by decide +kernel
theorem dX11_fillsAll_55 : decode cX11_fillsAll 55 = .ok (.putfield 497, 3) := by decide +kernel
theorem dX11_fillsAll_58 : decode cX11_fillsAll 58 = .ok (.iinc 1 1, 3) := by decide +kernel
theorem dX11_fillsAll_61 : decode cX11_fillsAll 61 = .ok (.goto (-50), 3) := by decide +kernel
theorem dX11_fillsAll_64 : decode cX11_fillsAll 64 = .ok (.aload_n 0, 1) := by decide +kernel
theorem dX11_fillsAll_65 : decode cX11_fillsAll 65 = .ok (.aload_n 0, 1) := by decide +kernel
theorem dX11_fillsAll_66 : decode cX11_fillsAll 66 = .ok (.getfield 497, 3) := by decide +kernel
theorem dX11_fillsAll_69 : decode cX11_fillsAll 69 = .ok (.ifCond .ne 7, 3) := by decide +kernel
theorem dX11_fillsAll_72 : decode cX11_fillsAll 72 = .ok (.iconst 0, 1) := by decide +kernel
theorem dX11_fillsAll_73 : decode cX11_fillsAll 73 = .ok (.goto 4, 3) := by decide +kernel
theorem dX11_fillsAll_76 : decode cX11_fillsAll 76 = .ok (.iconst (-1), 1) := by decide +kernel
theorem dX11_fillsAll_77 : decode cX11_fillsAll 77 = .ok (.putfield 488, 3) := by decide +kernel
theorem dX11_fillsAll_80 : decode cX11_fillsAll 80 = .ok (.aload_n 0, 1) := by decide +kernel
theorem dX11_fillsAll_81 : decode cX11_fillsAll 81 = .ok (.getfield 497, 3) := by decide +kernel
theorem dX11_fillsAll_84 : decode cX11_fillsAll 84 = .ok (.ifCond .ne 7, 3) := by decide +kernel
theorem dX11_fillsAll_87 : decode cX11_fillsAll 87 = .ok (.iconst (-1), 1) := by decide +kernel
theorem dX11_fillsAll_88 : decode cX11_fillsAll 88 = .ok (.goto 4, 3) := by decide +kernel
theorem dX11_fillsAll_91 : decode cX11_fillsAll 91 = .ok (.iconst 0, 1) := by decide +kernel
theorem dX11_fillsAll_92 : decode cX11_fillsAll 92 = .ok (.istore_n 1, 1) := by decide +kernel
theorem dX11_fillsAll_93 : decode cX11_fillsAll 93 = .ok (.aload_n 0, 1) := by decide +kernel
theorem dX11_fillsAll_94 : decode cX11_fillsAll 94 = .ok (.getfield 155, 3) := by decide +kernel
theorem dX11_fillsAll_97 : decode cX11_fillsAll 97 = .ok (.iconst 0, 1) := by decide +kernel
theorem dX11_fillsAll_98 : decode cX11_fillsAll 98 = .ok (.iconst (-1), 1) := by decide +kernel
theorem dX11_fillsAll_99 : decode cX11_fillsAll 99 = .ok (.iastore, 1) := by decide +kernel
theorem dX11_fillsAll_100 : decode cX11_fillsAll 100 = .ok (.aload_n 0, 1) := by decide +kernel
theorem dX11_fillsAll_101 : decode cX11_fillsAll 101 = .ok (.getfield 158, 3) := by decide +kernel
theorem dX11_fillsAll_104 : decode cX11_fillsAll 104 = .ok (.iconst 0, 1) := by decide +kernel
theorem dX11_fillsAll_105 : decode cX11_fillsAll 105 = .ok (.aload_n 0, 1) := by decide +kernel
theorem dX11_fillsAll_106 : decode cX11_fillsAll 106 = .ok (.getfield 137, 3) := by decide +kernel
theorem dX11_fillsAll_109 : decode cX11_fillsAll 109 = .ok (.bipush 21, 2) := by decide +kernel
theorem dX11_fillsAll_111 : decode cX11_fillsAll 111 = .ok (.iaload, 1) := by decide +kernel
theorem dX11_fillsAll_112 : decode cX11_fillsAll 112 = .ok (.iastore, 1) := by decide +kernel
theorem dX11_fillsAll_113 : decode cX11_fillsAll 113 = .ok (.iload_n 1, 1) := by decide +kernel
theorem dX11_fillsAll_114 : decode cX11_fillsAll 114 = .ok (.ifCond .lt 96, 3) := by decide +kernel
theorem dX11_fillsAll_117 : decode cX11_fillsAll 117 = .ok (.aload_n 0, 1) := by decide +kernel
theorem dX11_fillsAll_118 : decode cX11_fillsAll 118 = .ok (.iload_n 1, 1) := by decide +kernel
theorem dX11_fillsAll_119 : decode cX11_fillsAll 119 = .ok (.invokevirtual 500, 3) := by decide +kernel
theorem dX11_fillsAll_122 : decode cX11_fillsAll 122 = .ok (.ifCond .ne 9, 3) := by decide +kernel
theorem dX11_fillsAll_125 : decode cX11_fillsAll 125 = .ok (.iinc 1 (-1), 3) := by decide +kernel
theorem dX11_fillsAll_128 : decode cX11_fillsAll 128 = .ok (.goto (-15), 3) := by decide +kernel
theorem dX11_fillsAll_131 : decode cX11_fillsAll 131 = .ok (.iload_n 1, 1) := by decide +kernel
theorem dX11_fillsAll_132 : decode cX11_fillsAll 132 = .ok (.aload_n 0, 1) := by decide +kernel
theorem dX11_fillsAll_133 : decode cX11_fillsAll 133 = .ok (.getfield 497, 3) := by decide +kernel
theorem dX11_fillsAll_136 : decode cX11_fillsAll 136 = .ok (.iconst 1, 1) := by decide +kernel
theorem dX11_fillsAll_137 : decode cX11_fillsAll 137 = .ok (.isub, 1) := by decide +kernel
theorem dX11_fillsAll_138 : decode cX11_fillsAll 138 = .ok (.if_icmp .ge 29, 3) := by decide +kernel
theorem dX11_fillsAll_141 : decode cX11_fillsAll 141 = .ok (.iinc 1 1, 3) := by decide +kernel
theorem dX11_fillsAll_144 : decode cX11_fillsAll 144 = .ok (.aload_n 0, 1) := by decide +kernel
theorem dX11_fillsAll_145 : decode cX11_fillsAll 145 = .ok (.getfield 155, 3) := by decide +kernel
theorem dX11_fillsAll_148 : decode cX11_fillsAll 148 = .ok (.iload_n 1, 1) := by decide +kernel
theorem dX11_fillsAll_149 : decode cX11_fillsAll 149 = .ok (.iconst (-1), 1) := by decide +kernel
theorem dX11_fillsAll_150 : decode cX11_fillsAll 150 = .ok (.iastore, 1) := by decide +kernel
theorem dX11_fillsAll_151 : decode cX11_fillsAll 151 = .ok (.aload_n 0, 1) := by decide +kernel
theorem dX11_fillsAll_152 : decode cX11_fillsAll 152 = .ok (.getfield 158, 3) := by decide +kernel
theorem dX11_fillsAll_155 : decode cX11_fillsAll 155 = .ok (.iload_n 1, 1) := by decide +kernel
theorem dX11_fillsAll_156 : decode cX11_fillsAll 156 = .ok (.aload_n 0, 1) := by decide +kernel
theorem dX11_fillsAll_157 : decode cX11_fillsAll 157 = .ok (.getfield 137, 3) := by decide +kernel
theorem dX11_fillsAll_160 : decode cX11_fillsAll 160 = .ok (.bipush 21, 2) := by decide +kernel
theorem dX11_fillsAll_162 : decode cX11_fillsAll 162 = .ok (.iaload, 1) := by decide +kernel
theorem dX11_fillsAll_163 : decode cX11_fillsAll 163 = .ok (.iastore, 1) := by decide +kernel
theorem dX11_fillsAll_164 : decode cX11_fillsAll 164 = .ok (.goto (-51), 3) := by decide +kernel
theorem dX11_fillsAll_167 : decode cX11_fillsAll 167 = .ok (.aload_n 0, 1) := by decide +kernel
theorem dX11_fillsAll_168 : decode cX11_fillsAll 168 = .ok (.aload_n 0, 1) := by decide +kernel
theorem dX11_fillsAll_169 : decode cX11_fillsAll 169 = .ok (.aload_n 0, 1) := by decide +kernel
theorem dX11_fillsAll_170 : decode cX11_fillsAll 170 = .ok (.getfield 497, 3) := by decide +kernel
theorem dX11_fillsAll_173 : decode cX11_fillsAll 173 = .ok (.invokevirtual 491, 3) := by decide +kernel
theorem dX11_fillsAll_176 : decode cX11_fillsAll 176 = .ok (.putfield 488, 3) := by decide +kernel
theorem dX11_fillsAll_179 : decode cX11_fillsAll 179 = .ok (.iconst 0, 1) := by decide +kernel
theorem dX11_fillsAll_180 : decode cX11_fillsAll 180 = .ok (.istore_n 2, 1) := by decide +kernel
theorem dX11_fillsAll_181 : decode cX11_fillsAll 181 = .ok (.iload_n 2, 1) := by decide +kernel
theorem dX11_fillsAll_182 : decode cX11_fillsAll 182 = .ok (.aload_n 0, 1) := by decide +kernel
theorem dX11_fillsAll_183 : decode cX11_fillsAll 183 = .ok (.getfield 497, 3) := by decide +kernel
theorem dX11_fillsAll_186 : decode cX11_fillsAll 186 = .ok (.if_icmp .ge 21, 3) := by decide +kernel
theorem dX11_fillsAll_189 : decode cX11_fillsAll 189 = .ok (.aload_n 0, 1) := by decide +kernel
theorem dX11_fillsAll_190 : decode cX11_fillsAll 190 = .ok (.getfield 161, 3) := by decide +kernel
theorem dX11_fillsAll_193 : decode cX11_fillsAll 193 = .ok (.iload_n 2, 1) := by decide +kernel
theorem dX11_fillsAll_194 : decode cX11_fillsAll 194 = .ok (.aload_n 0, 1) := by decide +kernel
theorem dX11_fillsAll_195 : decode cX11_fillsAll 195 = .ok (.getfield 155, 3) := by decide +kernel
theorem dX11_fillsAll_198 : decode cX11_fillsAll 198 = .ok (.iload_n 2, 1) := by decide +kernel
theorem dX11_fillsAll_199 : decode cX11_fillsAll 199 = .ok (.iaload, 1) := by decide +kernel
theorem dX11_fillsAll_200 : decode cX11_fillsAll 200 = .ok (.iastore, 1) := by decide +kernel
theorem dX11_fillsAll_201 : decode cX11_fillsAll 201 = .ok (.iinc 2 1, 3) := by decide +kernel
theorem dX11_fillsAll_204 : decode cX11_fillsAll 204 = .ok (.goto (-23), 3) := by decide +kernel
theorem dX11_fillsAll_207 : decode cX11_fillsAll 207 = .ok (.goto (-94), 3) := by decide +kernel
theorem dX11_fillsAll_210 : decode cX11_fillsAll 210 = .ok (.return_, 1) := by decide +kernel
theorem dX11_all_0 : decode cX11_all 0 = .ok (.iload_n 1, 1) := by decide +kernel
theorem dX11_all_1 : decode cX11_all 1 = .ok (.iconst (-1), 1) := by decide +kernel
theorem dX11_all_2 : decode cX11_all 2 = .ok (.if_icmp .eq 22, 3) := by decide +kernel
theorem dX11_all_5 : decode cX11_all 5 = .ok (.aload_n 0, 1) := by decide +kernel
theorem dX11_all_6 : decode cX11_all 6 = .ok (.iload_n 1, 1) := by decide +kernel
theorem dX11_all_7 : decode cX11_all 7 = .ok (.invokevirtual 431, 3) := by decide +kernel
theorem dX11_all_10 : decode cX11_all 10 = .ok (.ifCond .eq 12, 3) := by decide +kernel
theorem dX11_all_13 : decode cX11_all 13 = .ok (.iload_n 2, 1) := by decide +kernel
theorem dX11_all_14 : decode cX11_all 14 = .ok (.iconst 0, 1) := by decide +kernel
theorem dX11_all_15 : decode cX11_all 15 = .ok (.iconst 1, 1) := by decide +kernel
theorem dX11_all_16 : decode cX11_all 16 = .ok (.invokestatic 370, 3) := by decide +kernel
theorem dX11_all_19 : decode cX11_all 19 = .ok (.ifCond .ne 5, 3) := by decide +kernel
theorem dX11_all_22 : decode cX11_all 22 = .ok (.iconst (-1), 1) := by decide +kernel
theorem dX11_all_23 : decode cX11_all 23 = .ok (.ireturn, 1) := by decide +kernel
theorem dX11_all_24 : decode cX11_all 24 = .ok (.iload_n 1, 1) := by decide +kernel
theorem dX11_all_25 : decode cX11_all 25 = .ok (.iconst (-1), 1) := by decide +kernel
theorem dX11_all_26 : decode cX11_all 26 = .ok (.if_icmp .eq 17, 3) := by decide +kernel
theorem dX11_all_29 : decode cX11_all 29 = .ok (.aload_n 0, 1) := by decide +kernel
theorem dX11_all_30 : decode cX11_all 30 = .ok (.getfield 134, 3) := by decide +kernel
theorem dX11_all_33 : decode cX11_all 33 = .ok (.iconst 4, 1) := by decide +kernel
theorem dX11_all_34 : decode cX11_all 34 = .ok (.iload_n 1, 1) := by decide +kernel
theorem dX11_all_35 : decode cX11_all 35 = .ok (.iadd, 1) := by decide +kernel
theorem dX11_all_36 : decode cX11_all 36 = .ok (.iaload, 1) := by decide +kernel
theorem dX11_all_37 : decode cX11_all 37 = .ok (.ifCond .eq 6, 3) := by decide +kernel
theorem dX11_all_40 : decode cX11_all 40 = .ok (.bipush (-3), 2) := by decide +kernel
theorem dX11_all_42 : decode cX11_all 42 = .ok (.ireturn, 1) := by decide +kernel
theorem dX11_all_43 : decode cX11_all 43 = .ok (.aload_n 0, 1) := by decide +kernel
theorem dX11_all_44 : decode cX11_all 44 = .ok (.invokevirtual 503, 3) := by decide +kernel
theorem dX11_all_47 : decode cX11_all 47 = .ok (.aload_n 0, 1) := by decide +kernel
theorem dX11_all_48 : decode cX11_all 48 = .ok (.getfield 488, 3) := by decide +kernel
theorem dX11_all_51 : decode cX11_all 51 = .ok (.ifCond .ge 6, 3) := by decide +kernel
theorem dX11_all_54 : decode cX11_all 54 = .ok (.bipush (-2), 2) := by decide +kernel
theorem dX11_all_56 : decode cX11_all 56 = .ok (.ireturn, 1) := by decide +kernel
theorem dX11_all_57 : decode cX11_all 57 = .ok (.iload_n 1, 1) := by decide +kernel
theorem dX11_all_58 : decode cX11_all 58 = .ok (.iconst (-1), 1) := by decide +kernel
theorem dX11_all_59 : decode cX11_all 59 = .ok (.if_icmp .ne 8, 3) := by decide +kernel
theorem dX11_all_62 : decode cX11_all 62 = .ok (.aload_n 0, 1) := by decide +kernel
theorem dX11_all_63 : decode cX11_all 63 = .ok (.getfield 488, 3) := by decide +kernel
theorem dX11_all_66 : decode cX11_all 66 = .ok (.ireturn, 1) := by decide +kernel
theorem dX11_all_67 : decode cX11_all 67 = .ok (.iconst 0, 1) := by decide +kernel
theorem dX11_all_68 : decode cX11_all 68 = .ok (.istore_n 3, 1) := by decide +kernel
theorem dX11_all_69 : decode cX11_all 69 = .ok (.iconst 0, 1) := by decide +kernel
theorem dX11_all_70 : decode cX11_all 70 = .ok (.istore 4, 2) := by decide +kernel
theorem dX11_all_72 : decode cX11_all 72 = .ok (.iload 4, 2) := by decide +kernel
theorem dX11_all_74 : decode cX11_all 74 = .ok (.aload_n 0, 1) := by decide +kernel
theorem dX11_all_75 : decode cX11_all 75 = .ok (.getfield 497, 3) := by decide +kernel
theorem dX11_all_78 : decode cX11_all 78 = .ok (.if_icmp .ge 28, 3) := by decide +kernel
theorem dX11_all_81 : decode cX11_all 81 = .ok (.aload_n 0, 1) := by decide +kernel
theorem dX11_all_82 : decode cX11_all 82 = .ok (.getfield 152, 3) := by decide +kernel
theorem dX11_all_85 : decode cX11_all 85 = .ok (.iload 4, 2) := by decide +kernel
theorem dX11_all_87 : decode cX11_all 87 = .ok (.iaload, 1) := by decide +kernel
theorem dX11_all_88 : decode cX11_all 88 = .ok (.iload_n 1, 1) := by decide +kernel
theorem dX11_all_89 : decode cX11_all 89 = .ok (.if_icmp .ne 11, 3) := by decide +kernel
theorem dX11_all_92 : decode cX11_all 92 = .ok (.aload_n 0, 1) := by decide +kernel
theorem dX11_all_93 : decode cX11_all 93 = .ok (.getfield 161, 3) := by decide +kernel
theorem dX11_all_96 : decode cX11_all 96 = .ok (.iload 4, 2) := by decide +kernel
theorem dX11_all_98 : decode cX11_all 98 = .ok (.iaload, 1) := by decide +kernel
theorem dX11_all_99 : decode cX11_all 99 = .ok (.istore_n 3, 1) := by decide +kernel
theorem dX11_all_100 : decode cX11_all 100 = .ok (.iinc 4 1, 3) := by decide +kernel
theorem dX11_all_103 : decode cX11_all 103 = .ok (.goto (-31), 3) := by decide +kernel
theorem dX11_all_106 : decode cX11_all 106 = .ok (.iload_n 2, 1) := by decide +kernel
theorem dX11_all_107 : decode cX11_all 107 = .ok (.ifCond .ne 9, 3) := by decide +kernel
theorem dX11_all_110 : decode cX11_all 110 = .ok (.iload_n 3, 1) := by decide +kernel
theorem dX11_all_111 : decode cX11_all 111 = .ok (.iconst 5, 1) := by decide +kernel
theorem dX11_all_112 : decode cX11_all 112 = .ok (.idiv, 1) := by decide +kernel
theorem dX11_all_113 : decode cX11_all 113 = .ok (.goto 19, 3) := by decide +kernel
theorem dX11_all_116 : decode cX11_all 116 = .ok (.iload_n 3, 1) := by decide +kernel
theorem dX11_all_117 : decode cX11_all 117 = .ok (.iconst 5, 1) := by decide +kernel
theorem dX11_all_118 : decode cX11_all 118 = .ok (.irem, 1) := by decide +kernel
theorem dX11_all_119 : decode cX11_all 119 = .ok (.ifCond .ne 8, 3) := by decide +kernel
theorem dX11_all_122 : decode cX11_all 122 = .ok (.bipush 9, 2) := by decide +kernel
theorem dX11_all_124 : decode cX11_all 124 = .ok (.goto 8, 3) := by decide +kernel
theorem dX11_all_127 : decode cX11_all 127 = .ok (.iload_n 3, 1) := by decide +kernel
theorem dX11_all_128 : decode cX11_all 128 = .ok (.iconst 5, 1) := by decide +kernel
theorem dX11_all_129 : decode cX11_all 129 = .ok (.irem, 1) := by decide +kernel
theorem dX11_all_130 : decode cX11_all 130 = .ok (.iconst 1, 1) := by decide +kernel
theorem dX11_all_131 : decode cX11_all 131 = .ok (.isub, 1) := by decide +kernel
theorem dX11_all_132 : decode cX11_all 132 = .ok (.ireturn, 1) := by decide +kernel
theorem dX11_standsFor_0 : decode cX11_standsFor 0 = .ok (.aload_n 0, 1) := by decide +kernel
theorem dX11_standsFor_1 : decode cX11_standsFor 1 = .ok (.iconst 1, 1) := by decide +kernel
theorem dX11_standsFor_2 : decode cX11_standsFor 2 = .ok (.putfield 377, 3) := by decide +kernel
theorem dX11_standsFor_5 : decode cX11_standsFor 5 = .ok (.iconst 1, 1) := by decide +kernel
theorem dX11_standsFor_6 : decode cX11_standsFor 6 = .ok (.istore_n 2, 1) := by decide +kernel
theorem dX11_standsFor_7 : decode cX11_standsFor 7 = .ok (.iload_n 2, 1) := by decide +kernel
theorem dX11_standsFor_8 : decode cX11_standsFor 8 = .ok (.sipush 200, 3) := by decide +kernel
theorem dX11_standsFor_11 : decode cX11_standsFor 11 = .ok (.if_icmp .gt 27, 3) := by decide +kernel
theorem dX11_standsFor_14 : decode cX11_standsFor 14 = .ok (.aload_n 0, 1) := by decide +kernel
theorem dX11_standsFor_15 : decode cX11_standsFor 15 = .ok (.invokevirtual 416, 3) := by decide +kernel
theorem dX11_standsFor_18 : decode cX11_standsFor 18 = .ok (.aload_n 0, 1) := by decide +kernel
theorem dX11_standsFor_19 : decode cX11_standsFor 19 = .ok (.getfield 137, 3) := by decide +kernel
theorem dX11_standsFor_22 : decode cX11_standsFor 22 = .ok (.iconst 4, 1) := by decide +kernel
theorem dX11_standsFor_23 : decode cX11_standsFor 23 = .ok (.iload_n 1, 1) := by decide +kernel
theorem dX11_standsFor_24 : decode cX11_standsFor 24 = .ok (.iadd, 1) := by decide +kernel
theorem dX11_standsFor_25 : decode cX11_standsFor 25 = .ok (.iaload, 1) := by decide +kernel
theorem dX11_standsFor_26 : decode cX11_standsFor 26 = .ok (.iconst 2, 1) := by decide +kernel
theorem dX11_standsFor_27 : decode cX11_standsFor 27 = .ok (.if_icmp .ne 5, 3) := by decide +kernel
theorem dX11_standsFor_30 : decode cX11_standsFor 30 = .ok (.iload_n 2, 1) := by decide +kernel
theorem dX11_standsFor_31 : decode cX11_standsFor 31 = .ok (.ireturn, 1) := by decide +kernel
theorem dX11_standsFor_32 : decode cX11_standsFor 32 = .ok (.iinc 2 1, 3) := by decide +kernel
theorem dX11_standsFor_35 : decode cX11_standsFor 35 = .ok (.goto (-28), 3) := by decide +kernel
theorem dX11_standsFor_38 : decode cX11_standsFor 38 = .ok (.sipush 201, 3) := by decide +kernel
theorem dX11_standsFor_41 : decode cX11_standsFor 41 = .ok (.ireturn, 1) := by decide +kernel
theorem dX11_stands_0 : decode cX11_stands 0 = .ok (.aload_n 0, 1) := by decide +kernel
theorem dX11_stands_1 : decode cX11_stands 1 = .ok (.iload_n 1, 1) := by decide +kernel
theorem dX11_stands_2 : decode cX11_stands 2 = .ok (.invokevirtual 431, 3) := by decide +kernel
theorem dX11_stands_5 : decode cX11_stands 5 = .ok (.ifCond .ne 5, 3) := by decide +kernel
theorem dX11_stands_8 : decode cX11_stands 8 = .ok (.iconst (-1), 1) := by decide +kernel
theorem dX11_stands_9 : decode cX11_stands 9 = .ok (.ireturn, 1) := by decide +kernel
theorem dX11_stands_10 : decode cX11_stands 10 = .ok (.aload_n 0, 1) := by decide +kernel
theorem dX11_stands_11 : decode cX11_stands 11 = .ok (.getfield 134, 3) := by decide +kernel
theorem dX11_stands_14 : decode cX11_stands 14 = .ok (.iconst 4, 1) := by decide +kernel
theorem dX11_stands_15 : decode cX11_stands 15 = .ok (.iload_n 1, 1) := by decide +kernel
theorem dX11_stands_16 : decode cX11_stands 16 = .ok (.iadd, 1) := by decide +kernel
theorem dX11_stands_17 : decode cX11_stands 17 = .ok (.iaload, 1) := by decide +kernel
theorem dX11_stands_18 : decode cX11_stands 18 = .ok (.iconst 1, 1) := by decide +kernel
theorem dX11_stands_19 : decode cX11_stands 19 = .ok (.if_icmp .eq 6, 3) := by decide +kernel
theorem dX11_stands_22 : decode cX11_stands 22 = .ok (.bipush (-2), 2) := by decide +kernel
theorem dX11_stands_24 : decode cX11_stands 24 = .ok (.ireturn, 1) := by decide +kernel
theorem dX11_stands_25 : decode cX11_stands 25 = .ok (.aload_n 0, 1) := by decide +kernel
theorem dX11_stands_26 : decode cX11_stands 26 = .ok (.invokevirtual 434, 3) := by decide +kernel
theorem dX11_stands_29 : decode cX11_stands 29 = .ok (.aload_n 0, 1) := by decide +kernel
theorem dX11_stands_30 : decode cX11_stands 30 = .ok (.iload_n 1, 1) := by decide +kernel
theorem dX11_stands_31 : decode cX11_stands 31 = .ok (.invokevirtual 506, 3) := by decide +kernel
theorem dX11_stands_34 : decode cX11_stands 34 = .ok (.istore_n 2, 1) := by decide +kernel
theorem dX11_stands_35 : decode cX11_stands 35 = .ok (.iload_n 2, 1) := by decide +kernel
theorem dX11_stands_36 : decode cX11_stands 36 = .ok (.sipush 201, 3) := by decide +kernel
theorem dX11_stands_39 : decode cX11_stands 39 = .ok (.if_icmp .ne 8, 3) := by decide +kernel
theorem dX11_stands_42 : decode cX11_stands 42 = .ok (.bipush (-2), 2) := by decide +kernel
theorem dX11_stands_44 : decode cX11_stands 44 = .ok (.goto 4, 3) := by decide +kernel
theorem dX11_stands_47 : decode cX11_stands 47 = .ok (.iload_n 2, 1) := by decide +kernel
theorem dX11_stands_48 : decode cX11_stands 48 = .ok (.ireturn, 1) := by decide +kernel
theorem dX11_mendFirst_0 : decode cX11_mendFirst 0 = .ok (.iload_n 1, 1) := by decide +kernel
theorem dX11_mendFirst_1 : decode cX11_mendFirst 1 = .ok (.iconst 0, 1) := by decide +kernel
theorem dX11_mendFirst_2 : decode cX11_mendFirst 2 = .ok (.iconst 1, 1) := by decide +kernel
theorem dX11_mendFirst_3 : decode cX11_mendFirst 3 = .ok (.invokestatic 370, 3) := by decide +kernel
theorem dX11_mendFirst_6 : decode cX11_mendFirst 6 = .ok (.ifCond .ne 5, 3) := by decide +kernel
theorem dX11_mendFirst_9 : decode cX11_mendFirst 9 = .ok (.iconst (-1), 1) := by decide +kernel
theorem dX11_mendFirst_10 : decode cX11_mendFirst 10 = .ok (.ireturn, 1) := by decide +kernel
theorem dX11_mendFirst_11 : decode cX11_mendFirst 11 = .ok (.bipush (-2), 2) := by decide +kernel
theorem dX11_mendFirst_13 : decode cX11_mendFirst 13 = .ok (.istore_n 2, 1) := by decide +kernel
theorem dX11_mendFirst_14 : decode cX11_mendFirst 14 = .ok (.iconst 0, 1) := by decide +kernel
theorem dX11_mendFirst_15 : decode cX11_mendFirst 15 = .ok (.istore_n 3, 1) := by decide +kernel
theorem dX11_mendFirst_16 : decode cX11_mendFirst 16 = .ok (.iconst 0, 1) := by decide +kernel
theorem dX11_mendFirst_17 : decode cX11_mendFirst 17 = .ok (.istore 4, 2) := by decide +kernel
theorem dX11_mendFirst_19 : decode cX11_mendFirst 19 = .ok (.iload 4, 2) := by decide +kernel
theorem dX11_mendFirst_21 : decode cX11_mendFirst 21 = .ok (.aload_n 0, 1) := by decide +kernel
theorem dX11_mendFirst_22 : decode cX11_mendFirst 22 = .ok (.getfield 70, 3) := by decide +kernel
theorem dX11_mendFirst_25 : decode cX11_mendFirst 25 = .ok (.aload_n 0, 1) := by decide +kernel
theorem dX11_mendFirst_26 : decode cX11_mendFirst 26 = .ok (.getfield 257, 3) := by decide +kernel
theorem dX11_mendFirst_29 : decode cX11_mendFirst 29 = .ok (.iaload, 1) := by decide +kernel
theorem dX11_mendFirst_30 : decode cX11_mendFirst 30 = .ok (.if_icmp .ge 120, 3) := by decide +kernel
theorem dX11_mendFirst_33 : decode cX11_mendFirst 33 = .ok (.aload_n 0, 1) := by decide +kernel
theorem dX11_mendFirst_34 : decode cX11_mendFirst 34 = .ok (.getfield 134, 3) := by decide +kernel
theorem dX11_mendFirst_37 : decode cX11_mendFirst 37 = .ok (.iconst 4, 1) := by decide +kernel
theorem dX11_mendFirst_38 : decode cX11_mendFirst 38 = .ok (.iload 4, 2) := by decide +kernel
theorem dX11_mendFirst_40 : decode cX11_mendFirst 40 = .ok (.iadd, 1) := by decide +kernel
theorem dX11_mendFirst_41 : decode cX11_mendFirst 41 = .ok (.iaload, 1) := by decide +kernel
theorem dX11_mendFirst_42 : decode cX11_mendFirst 42 = .ok (.iconst 1, 1) := by decide +kernel
theorem dX11_mendFirst_43 : decode cX11_mendFirst 43 = .ok (.if_icmp .ne 101, 3) := by decide +kernel
theorem dX11_mendFirst_46 : decode cX11_mendFirst 46 = .ok (.aload_n 0, 1) := by decide +kernel
theorem dX11_mendFirst_47 : decode cX11_mendFirst 47 = .ok (.getfield 134, 3) := by decide +kernel
theorem dX11_mendFirst_50 : decode cX11_mendFirst 50 = .ok (.iload 4, 2) := by decide +kernel
theorem dX11_mendFirst_52 : decode cX11_mendFirst 52 = .ok (.iaload, 1) := by decide +kernel
theorem dX11_mendFirst_53 : decode cX11_mendFirst 53 = .ok (.bipush 99, 2) := by decide +kernel
theorem dX11_mendFirst_55 : decode cX11_mendFirst 55 = .ok (.if_icmp .ne 6, 3) := by decide +kernel
theorem dX11_mendFirst_58 : decode cX11_mendFirst 58 = .ok (.goto 86, 3) := by decide +kernel
theorem dX11_mendFirst_61 : decode cX11_mendFirst 61 = .ok (.aload_n 0, 1) := by decide +kernel
theorem dX11_mendFirst_62 : decode cX11_mendFirst 62 = .ok (.invokevirtual 434, 3) := by decide +kernel
theorem dX11_mendFirst_65 : decode cX11_mendFirst 65 = .ok (.aload_n 0, 1) := by decide +kernel
theorem dX11_mendFirst_66 : decode cX11_mendFirst 66 = .ok (.iload 4, 2) := by decide +kernel
theorem dX11_mendFirst_68 : decode cX11_mendFirst 68 = .ok (.invokevirtual 506, 3) := by decide +kernel
theorem dX11_mendFirst_71 : decode cX11_mendFirst 71 = .ok (.istore 5, 2) := by decide +kernel
theorem dX11_mendFirst_73 : decode cX11_mendFirst 73 = .ok (.aload_n 0, 1) := by decide +kernel
theorem dX11_mendFirst_74 : decode cX11_mendFirst 74 = .ok (.invokevirtual 434, 3) := by decide +kernel
theorem dX11_mendFirst_77 : decode cX11_mendFirst 77 = .ok (.aload_n 0, 1) := by decide +kernel
theorem dX11_mendFirst_78 : decode cX11_mendFirst 78 = .ok (.getfield 137, 3) := by decide +kernel
theorem dX11_mendFirst_81 : decode cX11_mendFirst 81 = .ok (.iload 4, 2) := by decide +kernel
theorem dX11_mendFirst_83 : decode cX11_mendFirst 83 = .ok (.dup2, 1) := by decide +kernel
theorem dX11_mendFirst_84 : decode cX11_mendFirst 84 = .ok (.iaload, 1) := by decide +kernel
theorem dX11_mendFirst_85 : decode cX11_mendFirst 85 = .ok (.iconst 1, 1) := by decide +kernel
theorem dX11_mendFirst_86 : decode cX11_mendFirst 86 = .ok (.iadd, 1) := by decide +kernel
theorem dX11_mendFirst_87 : decode cX11_mendFirst 87 = .ok (.iastore, 1) := by decide +kernel
theorem dX11_mendFirst_88 : decode cX11_mendFirst 88 = .ok (.aload_n 0, 1) := by decide +kernel
theorem dX11_mendFirst_89 : decode cX11_mendFirst 89 = .ok (.iload 4, 2) := by decide +kernel
theorem dX11_mendFirst_91 : decode cX11_mendFirst 91 = .ok (.invokevirtual 506, 3) := by decide +kernel
theorem dX11_mendFirst_94 : decode cX11_mendFirst 94 = .ok (.istore 6, 2) := by decide +kernel
theorem dX11_mendFirst_96 : decode cX11_mendFirst 96 = .ok (.iload 5, 2) := by decide +kernel
theorem dX11_mendFirst_98 : decode cX11_mendFirst 98 = .ok (.sipush 201, 3) := by decide +kernel
theorem dX11_mendFirst_101 : decode cX11_mendFirst 101 = .ok (.if_icmp .ne 7, 3) := by decide +kernel
theorem dX11_mendFirst_104 : decode cX11_mendFirst 104 = .ok (.iconst 0, 1) := by decide +kernel
theorem dX11_mendFirst_105 : decode cX11_mendFirst 105 = .ok (.goto 22, 3) := by decide +kernel
theorem dX11_mendFirst_108 : decode cX11_mendFirst 108 = .ok (.iload 6, 2) := by decide +kernel
theorem dX11_mendFirst_110 : decode cX11_mendFirst 110 = .ok (.sipush 201, 3) := by decide +kernel
theorem dX11_mendFirst_113 : decode cX11_mendFirst 113 = .ok (.if_icmp .ne 9, 3) := by decide +kernel
theorem dX11_mendFirst_116 : decode cX11_mendFirst 116 = .ok (.sipush 999, 3) := by decide +kernel
theorem dX11_mendFirst_119 : decode cX11_mendFirst 119 = .ok (.goto 8, 3) := by decide +kernel
theorem dX11_mendFirst_122 : decode cX11_mendFirst 122 = .ok (.iload 6, 2) := by decide +kernel
theorem dX11_mendFirst_124 : decode cX11_mendFirst 124 = .ok (.iload 5, 2) := by decide +kernel
theorem dX11_mendFirst_126 : decode cX11_mendFirst 126 = .ok (.isub, 1) := by decide +kernel
theorem dX11_mendFirst_127 : decode cX11_mendFirst 127 = .ok (.istore 7, 2) := by decide +kernel
theorem dX11_mendFirst_129 : decode cX11_mendFirst 129 = .ok (.iload 7, 2) := by decide +kernel
theorem dX11_mendFirst_131 : decode cX11_mendFirst 131 = .ok (.iload_n 3, 1) := by decide +kernel
theorem dX11_mendFirst_132 : decode cX11_mendFirst 132 = .ok (.if_icmp .gt 6, 3) := by decide +kernel
theorem dX11_mendFirst_135 : decode cX11_mendFirst 135 = .ok (.goto 9, 3) := by decide +kernel
theorem dX11_mendFirst_138 : decode cX11_mendFirst 138 = .ok (.iload 4, 2) := by decide +kernel
theorem dX11_mendFirst_140 : decode cX11_mendFirst 140 = .ok (.istore_n 2, 1) := by decide +kernel
theorem dX11_mendFirst_141 : decode cX11_mendFirst 141 = .ok (.iload 7, 2) := by decide +kernel
theorem dX11_mendFirst_143 : decode cX11_mendFirst 143 = .ok (.istore_n 3, 1) := by decide +kernel
theorem dX11_mendFirst_144 : decode cX11_mendFirst 144 = .ok (.iinc 4 1, 3) := by decide +kernel
theorem dX11_mendFirst_147 : decode cX11_mendFirst 147 = .ok (.goto (-128), 3) := by decide +kernel
theorem dX11_mendFirst_150 : decode cX11_mendFirst 150 = .ok (.iload_n 2, 1) := by decide +kernel
theorem dX11_mendFirst_151 : decode cX11_mendFirst 151 = .ok (.ifCond .lt 7, 3) := by decide +kernel
theorem dX11_mendFirst_154 : decode cX11_mendFirst 154 = .ok (.iload_n 1, 1) := by decide +kernel
theorem dX11_mendFirst_155 : decode cX11_mendFirst 155 = .ok (.ifCond .ne 7, 3) := by decide +kernel
theorem dX11_mendFirst_158 : decode cX11_mendFirst 158 = .ok (.iload_n 2, 1) := by decide +kernel
theorem dX11_mendFirst_159 : decode cX11_mendFirst 159 = .ok (.goto 16, 3) := by decide +kernel
theorem dX11_mendFirst_162 : decode cX11_mendFirst 162 = .ok (.iload_n 3, 1) := by decide +kernel
theorem dX11_mendFirst_163 : decode cX11_mendFirst 163 = .ok (.sipush 999, 3) := by decide +kernel
theorem dX11_mendFirst_166 : decode cX11_mendFirst 166 = .ok (.if_icmp .ne 8, 3) := by decide +kernel
theorem dX11_mendFirst_169 : decode cX11_mendFirst 169 = .ok (.bipush (-3), 2) := by decide +kernel
theorem dX11_mendFirst_171 : decode cX11_mendFirst 171 = .ok (.goto 4, 3) := by decide +kernel
theorem dX11_mendFirst_174 : decode cX11_mendFirst 174 = .ok (.iload_n 3, 1) := by decide +kernel
theorem dX11_mendFirst_175 : decode cX11_mendFirst 175 = .ok (.ireturn, 1) := by decide +kernel
theorem dX11_alike_0 : decode cX11_alike 0 = .ok (.aload_n 0, 1) := by decide +kernel
theorem dX11_alike_1 : decode cX11_alike 1 = .ok (.iload_n 1, 1) := by decide +kernel
theorem dX11_alike_2 : decode cX11_alike 2 = .ok (.invokevirtual 431, 3) := by decide +kernel
theorem dX11_alike_5 : decode cX11_alike 5 = .ok (.ifCond .eq 20, 3) := by decide +kernel
theorem dX11_alike_8 : decode cX11_alike 8 = .ok (.aload_n 0, 1) := by decide +kernel
theorem dX11_alike_9 : decode cX11_alike 9 = .ok (.iload_n 2, 1) := by decide +kernel
theorem dX11_alike_10 : decode cX11_alike 10 = .ok (.invokevirtual 431, 3) := by decide +kernel
theorem dX11_alike_13 : decode cX11_alike 13 = .ok (.ifCond .eq 12, 3) := by decide +kernel
theorem dX11_alike_16 : decode cX11_alike 16 = .ok (.iload_n 3, 1) := by decide +kernel
theorem dX11_alike_17 : decode cX11_alike 17 = .ok (.iconst 0, 1) := by decide +kernel
theorem dX11_alike_18 : decode cX11_alike 18 = .ok (.iconst 1, 1) := by decide +kernel
theorem dX11_alike_19 : decode cX11_alike 19 = .ok (.invokestatic 370, 3) := by decide +kernel
theorem dX11_alike_22 : decode cX11_alike 22 = .ok (.ifCond .ne 5, 3) := by decide +kernel
theorem dX11_alike_25 : decode cX11_alike 25 = .ok (.iconst (-1), 1) := by decide +kernel
theorem dX11_alike_26 : decode cX11_alike 26 = .ok (.ireturn, 1) := by decide +kernel
theorem dX11_alike_27 : decode cX11_alike 27 = .ok (.aload_n 0, 1) := by decide +kernel
theorem dX11_alike_28 : decode cX11_alike 28 = .ok (.iload_n 1, 1) := by decide +kernel
theorem dX11_alike_29 : decode cX11_alike 29 = .ok (.iload_n 2, 1) := by decide +kernel
theorem dX11_alike_30 : decode cX11_alike 30 = .ok (.invokevirtual 440, 3) := by decide +kernel
theorem dX11_alike_33 : decode cX11_alike 33 = .ok (.istore 4, 2) := by decide +kernel
theorem dX11_alike_35 : decode cX11_alike 35 = .ok (.iload_n 3, 1) := by decide +kernel
theorem dX11_alike_36 : decode cX11_alike 36 = .ok (.iconst 1, 1) := by decide +kernel
theorem dX11_alike_37 : decode cX11_alike 37 = .ok (.if_icmp .ne 8, 3) := by decide +kernel
theorem dX11_alike_40 : decode cX11_alike 40 = .ok (.iload 4, 2) := by decide +kernel
theorem dX11_alike_42 : decode cX11_alike 42 = .ok (.goto 30, 3) := by decide +kernel
theorem dX11_alike_45 : decode cX11_alike 45 = .ok (.aload_n 0, 1) := by decide +kernel
theorem dX11_alike_46 : decode cX11_alike 46 = .ok (.iload_n 1, 1) := by decide +kernel
theorem dX11_alike_47 : decode cX11_alike 47 = .ok (.iload_n 1, 1) := by decide +kernel
theorem dX11_alike_48 : decode cX11_alike 48 = .ok (.invokevirtual 440, 3) := by decide +kernel
theorem dX11_alike_51 : decode cX11_alike 51 = .ok (.iload 4, 2) := by decide +kernel
theorem dX11_alike_53 : decode cX11_alike 53 = .ok (.if_icmp .ne 18, 3) := by decide +kernel
theorem dX11_alike_56 : decode cX11_alike 56 = .ok (.aload_n 0, 1) := by decide +kernel
theorem dX11_alike_57 : decode cX11_alike 57 = .ok (.iload_n 2, 1) := by decide +kernel
theorem dX11_alike_58 : decode cX11_alike 58 = .ok (.iload_n 2, 1) := by decide +kernel
theorem dX11_alike_59 : decode cX11_alike 59 = .ok (.invokevirtual 440, 3) := by decide +kernel
theorem dX11_alike_62 : decode cX11_alike 62 = .ok (.iload 4, 2) := by decide +kernel
theorem dX11_alike_64 : decode cX11_alike 64 = .ok (.if_icmp .ne 7, 3) := by decide +kernel
theorem dX11_alike_67 : decode cX11_alike 67 = .ok (.iconst 1, 1) := by decide +kernel
theorem dX11_alike_68 : decode cX11_alike 68 = .ok (.goto 4, 3) := by decide +kernel
theorem dX11_alike_71 : decode cX11_alike 71 = .ok (.iconst 0, 1) := by decide +kernel
theorem dX11_alike_72 : decode cX11_alike 72 = .ok (.ireturn, 1) := by decide +kernel
theorem dX11_isLong_0 : decode cX11_isLong 0 = .ok (.iload_n 0, 1) := by decide +kernel
theorem dX11_isLong_1 : decode cX11_isLong 1 = .ok (.iconst 0, 1) := by decide +kernel
theorem dX11_isLong_2 : decode cX11_isLong 2 = .ok (.bipush 60, 2) := by decide +kernel
theorem dX11_isLong_4 : decode cX11_isLong 4 = .ok (.invokestatic 370, 3) := by decide +kernel
theorem dX11_isLong_7 : decode cX11_isLong 7 = .ok (.ireturn, 1) := by decide +kernel
theorem dX11_stonesIn_0 : decode cX11_stonesIn 0 = .ok (.aload_n 0, 1) := by decide +kernel
theorem dX11_stonesIn_1 : decode cX11_stonesIn 1 = .ok (.iload_n 1, 1) := by decide +kernel
theorem dX11_stonesIn_2 : decode cX11_stonesIn 2 = .ok (.invokevirtual 431, 3) := by decide +kernel
theorem dX11_stonesIn_5 : decode cX11_stonesIn 5 = .ok (.ifCond .eq 10, 3) := by decide +kernel
theorem dX11_stonesIn_8 : decode cX11_stonesIn 8 = .ok (.iload_n 2, 1) := by decide +kernel
theorem dX11_stonesIn_9 : decode cX11_stonesIn 9 = .ok (.invokestatic 509, 3) := by decide +kernel
theorem dX11_stonesIn_12 : decode cX11_stonesIn 12 = .ok (.ifCond .ne 5, 3) := by decide +kernel
theorem dX11_stonesIn_15 : decode cX11_stonesIn 15 = .ok (.iconst (-1), 1) := by decide +kernel
theorem dX11_stonesIn_16 : decode cX11_stonesIn 16 = .ok (.ireturn, 1) := by decide +kernel
theorem dX11_stonesIn_17 : decode cX11_stonesIn 17 = .ok (.aload_n 0, 1) := by decide +kernel
theorem dX11_stonesIn_18 : decode cX11_stonesIn 18 = .ok (.invokevirtual 434, 3) := by decide +kernel
theorem dX11_stonesIn_21 : decode cX11_stonesIn 21 = .ok (.aload_n 0, 1) := by decide +kernel
theorem dX11_stonesIn_22 : decode cX11_stonesIn 22 = .ok (.iload_n 2, 1) := by decide +kernel
theorem dX11_stonesIn_23 : decode cX11_stonesIn 23 = .ok (.invokevirtual 461, 3) := by decide +kernel
theorem dX11_stonesIn_26 : decode cX11_stonesIn 26 = .ok (.aload_n 0, 1) := by decide +kernel
theorem dX11_stonesIn_27 : decode cX11_stonesIn 27 = .ok (.getfield 137, 3) := by decide +kernel
theorem dX11_stonesIn_30 : decode cX11_stonesIn 30 = .ok (.iload_n 1, 1) := by decide +kernel
theorem dX11_stonesIn_31 : decode cX11_stonesIn 31 = .ok (.iaload, 1) := by decide +kernel
theorem dX11_stonesIn_32 : decode cX11_stonesIn 32 = .ok (.ireturn, 1) := by decide +kernel
theorem dX11_openIn_0 : decode cX11_openIn 0 = .ok (.iload_n 1, 1) := by decide +kernel
theorem dX11_openIn_1 : decode cX11_openIn 1 = .ok (.invokestatic 509, 3) := by decide +kernel
theorem dX11_openIn_4 : decode cX11_openIn 4 = .ok (.ifCond .ne 5, 3) := by decide +kernel
theorem dX11_openIn_7 : decode cX11_openIn 7 = .ok (.iconst (-1), 1) := by decide +kernel
theorem dX11_openIn_8 : decode cX11_openIn 8 = .ok (.ireturn, 1) := by decide +kernel
theorem dX11_openIn_9 : decode cX11_openIn 9 = .ok (.aload_n 0, 1) := by decide +kernel
theorem dX11_openIn_10 : decode cX11_openIn 10 = .ok (.invokevirtual 434, 3) := by decide +kernel
theorem dX11_openIn_13 : decode cX11_openIn 13 = .ok (.aload_n 0, 1) := by decide +kernel
theorem dX11_openIn_14 : decode cX11_openIn 14 = .ok (.iload_n 1, 1) := by decide +kernel
theorem dX11_openIn_15 : decode cX11_openIn 15 = .ok (.invokevirtual 461, 3) := by decide +kernel
theorem dX11_openIn_18 : decode cX11_openIn 18 = .ok (.aload_n 0, 1) := by decide +kernel
theorem dX11_openIn_19 : decode cX11_openIn 19 = .ok (.iconst 1, 1) := by decide +kernel
theorem dX11_openIn_20 : decode cX11_openIn 20 = .ok (.invokevirtual 384, 3) := by decide +kernel
theorem dX11_openIn_23 : decode cX11_openIn 23 = .ok (.invokestatic 387, 3) := by decide +kernel
theorem dX11_openIn_26 : decode cX11_openIn 26 = .ok (.ireturn, 1) := by decide +kernel
theorem dX11_year_0 : decode cX11_year 0 = .ok (.aload_n 0, 1) := by decide +kernel
theorem dX11_year_1 : decode cX11_year 1 = .ok (.iload_n 1, 1) := by decide +kernel
theorem dX11_year_2 : decode cX11_year 2 = .ok (.invokevirtual 431, 3) := by decide +kernel
theorem dX11_year_5 : decode cX11_year 5 = .ok (.ifCond .eq 20, 3) := by decide +kernel
theorem dX11_year_8 : decode cX11_year 8 = .ok (.iload_n 2, 1) := by decide +kernel
theorem dX11_year_9 : decode cX11_year 9 = .ok (.invokestatic 509, 3) := by decide +kernel
theorem dX11_year_12 : decode cX11_year 12 = .ok (.ifCond .eq 13, 3) := by decide +kernel
theorem dX11_year_15 : decode cX11_year 15 = .ok (.iload_n 3, 1) := by decide +kernel
theorem dX11_year_16 : decode cX11_year 16 = .ok (.iconst 1, 1) := by decide +kernel
theorem dX11_year_17 : decode cX11_year 17 = .ok (.bipush 20, 2) := by decide +kernel
theorem dX11_year_19 : decode cX11_year 19 = .ok (.invokestatic 370, 3) := by decide +kernel
theorem dX11_year_22 : decode cX11_year 22 = .ok (.ifCond .ne 5, 3) := by decide +kernel
theorem dX11_year_25 : decode cX11_year 25 = .ok (.iconst (-1), 1) := by decide +kernel
theorem dX11_year_26 : decode cX11_year 26 = .ok (.ireturn, 1) := by decide +kernel
theorem dX11_year_27 : decode cX11_year 27 = .ok (.iconst 0, 1) := by decide +kernel
theorem dX11_year_28 : decode cX11_year 28 = .ok (.istore 4, 2) := by decide +kernel
theorem dX11_year_30 : decode cX11_year 30 = .ok (.iconst 0, 1) := by decide +kernel
theorem dX11_year_31 : decode cX11_year 31 = .ok (.istore 5, 2) := by decide +kernel
theorem dX11_year_33 : decode cX11_year 33 = .ok (.iload 5, 2) := by decide +kernel
theorem dX11_year_35 : decode cX11_year 35 = .ok (.iload_n 3, 1) := by decide +kernel
theorem dX11_year_36 : decode cX11_year 36 = .ok (.if_icmp .ge 44, 3) := by decide +kernel
theorem dX11_year_39 : decode cX11_year 39 = .ok (.aload_n 0, 1) := by decide +kernel
theorem dX11_year_40 : decode cX11_year 40 = .ok (.invokevirtual 434, 3) := by decide +kernel
theorem dX11_year_43 : decode cX11_year 43 = .ok (.aload_n 0, 1) := by decide +kernel
theorem dX11_year_44 : decode cX11_year 44 = .ok (.dup, 1) := by decide +kernel
theorem dX11_year_45 : decode cX11_year 45 = .ok (.getfield 374, 3) := by decide +kernel
theorem dX11_year_48 : decode cX11_year 48 = .ok (.iload 5, 2) := by decide +kernel
theorem dX11_year_50 : decode cX11_year 50 = .ok (.iadd, 1) := by decide +kernel
theorem dX11_year_51 : decode cX11_year 51 = .ok (.putfield 374, 3) := by decide +kernel
theorem dX11_year_54 : decode cX11_year 54 = .ok (.aload_n 0, 1) := by decide +kernel
theorem dX11_year_55 : decode cX11_year 55 = .ok (.iload_n 2, 1) := by decide +kernel
theorem dX11_year_56 : decode cX11_year 56 = .ok (.invokevirtual 461, 3) := by decide +kernel
theorem dX11_year_59 : decode cX11_year 59 = .ok (.aload_n 0, 1) := by decide +kernel
theorem dX11_year_60 : decode cX11_year 60 = .ok (.getfield 137, 3) := by decide +kernel
theorem dX11_year_63 : decode cX11_year 63 = .ok (.iconst 4, 1) := by decide +kernel
theorem dX11_year_64 : decode cX11_year 64 = .ok (.iload_n 1, 1) := by decide +kernel
theorem dX11_year_65 : decode cX11_year 65 = .ok (.iadd, 1) := by decide +kernel
theorem dX11_year_66 : decode cX11_year 66 = .ok (.iaload, 1) := by decide +kernel
theorem dX11_year_67 : decode cX11_year 67 = .ok (.iconst 1, 1) := by decide +kernel
theorem dX11_year_68 : decode cX11_year 68 = .ok (.if_icmp .ne 6, 3) := by decide +kernel
theorem dX11_year_71 : decode cX11_year 71 = .ok (.iinc 4 1, 3) := by decide +kernel
theorem dX11_year_74 : decode cX11_year 74 = .ok (.iinc 5 1, 3) := by decide +kernel
theorem dX11_year_77 : decode cX11_year 77 = .ok (.goto (-44), 3) := by decide +kernel
theorem dX11_year_80 : decode cX11_year 80 = .ok (.iload 4, 2) := by decide +kernel
theorem dX11_year_82 : decode cX11_year 82 = .ok (.ireturn, 1) := by decide +kernel
theorem dX11_tell_0 : decode cX11_tell 0 = .ok (.aload_n 0, 1) := by decide +kernel
theorem dX11_tell_1 : decode cX11_tell 1 = .ok (.getfield 281, 3) := by decide +kernel
theorem dX11_tell_4 : decode cX11_tell 4 = .ok (.bipush 20, 2) := by decide +kernel
theorem dX11_tell_6 : decode cX11_tell 6 = .ok (.if_icmp .eq 22, 3) := by decide +kernel
theorem dX11_tell_9 : decode cX11_tell 9 = .ok (.iload_n 1, 1) := by decide +kernel
theorem dX11_tell_10 : decode cX11_tell 10 = .ok (.iconst 0, 1) := by decide +kernel
theorem dX11_tell_11 : decode cX11_tell 11 = .ok (.aload_n 0, 1) := by decide +kernel
theorem dX11_tell_12 : decode cX11_tell 12 = .ok (.getfield 46, 3) := by decide +kernel
theorem dX11_tell_15 : decode cX11_tell 15 = .ok (.aload_n 0, 1) := by decide +kernel
theorem dX11_tell_16 : decode cX11_tell 16 = .ok (.getfield 257, 3) := by decide +kernel
theorem dX11_tell_19 : decode cX11_tell 19 = .ok (.iaload, 1) := by decide +kernel
theorem dX11_tell_20 : decode cX11_tell 20 = .ok (.iconst 1, 1) := by decide +kernel
theorem dX11_tell_21 : decode cX11_tell 21 = .ok (.isub, 1) := by decide +kernel
theorem dX11_tell_22 : decode cX11_tell 22 = .ok (.invokestatic 370, 3) := by decide +kernel
theorem dX11_tell_25 : decode cX11_tell 25 = .ok (.ifCond .ne 5, 3) := by decide +kernel
theorem dX11_tell_28 : decode cX11_tell 28 = .ok (.iconst (-1), 1) := by decide +kernel
theorem dX11_tell_29 : decode cX11_tell 29 = .ok (.ireturn, 1) := by decide +kernel
theorem dX11_tell_30 : decode cX11_tell 30 = .ok (.aload_n 0, 1) := by decide +kernel
theorem dX11_tell_31 : decode cX11_tell 31 = .ok (.getfield 164, 3) := by decide +kernel
theorem dX11_tell_34 : decode cX11_tell 34 = .ok (.aload_n 0, 1) := by decide +kernel
theorem dX11_tell_35 : decode cX11_tell 35 = .ok (.getfield 281, 3) := by decide +kernel
theorem dX11_tell_38 : decode cX11_tell 38 = .ok (.iload_n 1, 1) := by decide +kernel
theorem dX11_tell_39 : decode cX11_tell 39 = .ok (.iastore, 1) := by decide +kernel
theorem dX11_tell_40 : decode cX11_tell 40 = .ok (.aload_n 0, 1) := by decide +kernel
theorem dX11_tell_41 : decode cX11_tell 41 = .ok (.getfield 167, 3) := by decide +kernel
theorem dX11_tell_44 : decode cX11_tell 44 = .ok (.aload_n 0, 1) := by decide +kernel
theorem dX11_tell_45 : decode cX11_tell 45 = .ok (.getfield 281, 3) := by decide +kernel
theorem dX11_tell_48 : decode cX11_tell 48 = .ok (.iload_n 2, 1) := by decide +kernel
theorem dX11_tell_49 : decode cX11_tell 49 = .ok (.bastore, 1) := by decide +kernel
theorem dX11_tell_50 : decode cX11_tell 50 = .ok (.aload_n 0, 1) := by decide +kernel
theorem dX11_tell_51 : decode cX11_tell 51 = .ok (.dup, 1) := by decide +kernel
theorem dX11_tell_52 : decode cX11_tell 52 = .ok (.getfield 281, 3) := by decide +kernel
theorem dX11_tell_55 : decode cX11_tell 55 = .ok (.iconst 1, 1) := by decide +kernel
theorem dX11_tell_56 : decode cX11_tell 56 = .ok (.iadd, 1) := by decide +kernel
theorem dX11_tell_57 : decode cX11_tell 57 = .ok (.putfield 281, 3) := by decide +kernel
theorem dX11_tell_60 : decode cX11_tell 60 = .ok (.aload_n 0, 1) := by decide +kernel
theorem dX11_tell_61 : decode cX11_tell 61 = .ok (.getfield 281, 3) := by decide +kernel
theorem dX11_tell_64 : decode cX11_tell 64 = .ok (.iconst 1, 1) := by decide +kernel
theorem dX11_tell_65 : decode cX11_tell 65 = .ok (.isub, 1) := by decide +kernel
theorem dX11_tell_66 : decode cX11_tell 66 = .ok (.ireturn, 1) := by decide +kernel
theorem dX11_forget_0 : decode cX11_forget 0 = .ok (.aload_n 0, 1) := by decide +kernel
theorem dX11_forget_1 : decode cX11_forget 1 = .ok (.getfield 281, 3) := by decide +kernel
theorem dX11_forget_4 : decode cX11_forget 4 = .ok (.istore_n 1, 1) := by decide +kernel
theorem dX11_forget_5 : decode cX11_forget 5 = .ok (.aload_n 0, 1) := by decide +kernel
theorem dX11_forget_6 : decode cX11_forget 6 = .ok (.iconst 0, 1) := by decide +kernel
theorem dX11_forget_7 : decode cX11_forget 7 = .ok (.putfield 281, 3) := by decide +kernel
theorem dX11_forget_10 : decode cX11_forget 10 = .ok (.iload_n 1, 1) := by decide +kernel
theorem dX11_forget_11 : decode cX11_forget 11 = .ok (.ireturn, 1) := by decide +kernel
theorem dX11_isSo_0 : decode cX11_isSo 0 = .ok (.iconst 0, 1) := by decide +kernel
theorem dX11_isSo_1 : decode cX11_isSo 1 = .ok (.istore 4, 2) := by decide +kernel
theorem dX11_isSo_3 : decode cX11_isSo 3 = .ok (.iload 4, 2) := by decide +kernel
theorem dX11_isSo_5 : decode cX11_isSo 5 = .ok (.iload_n 3, 1) := by decide +kernel
theorem dX11_isSo_6 : decode cX11_isSo 6 = .ok (.if_icmp .ge 41, 3) := by decide +kernel
theorem dX11_isSo_9 : decode cX11_isSo 9 = .ok (.iload_n 2, 1) := by decide +kernel
theorem dX11_isSo_10 : decode cX11_isSo 10 = .ok (.aload_n 0, 1) := by decide +kernel
theorem dX11_isSo_11 : decode cX11_isSo 11 = .ok (.getfield 164, 3) := by decide +kernel
theorem dX11_isSo_14 : decode cX11_isSo 14 = .ok (.iload 4, 2) := by decide +kernel
theorem dX11_isSo_16 : decode cX11_isSo 16 = .ok (.iaload, 1) := by decide +kernel
theorem dX11_isSo_17 : decode cX11_isSo 17 = .ok (.ishr, 1) := by decide +kernel
theorem dX11_isSo_18 : decode cX11_isSo 18 = .ok (.iconst 1, 1) := by decide +kernel
theorem dX11_isSo_19 : decode cX11_isSo 19 = .ok (.iand, 1) := by decide +kernel
theorem dX11_isSo_20 : decode cX11_isSo 20 = .ok (.iconst 1, 1) := by decide +kernel
theorem dX11_isSo_21 : decode cX11_isSo 21 = .ok (.if_icmp .ne 7, 3) := by decide +kernel
theorem dX11_isSo_24 : decode cX11_isSo 24 = .ok (.iconst 1, 1) := by decide +kernel
theorem dX11_isSo_25 : decode cX11_isSo 25 = .ok (.goto 4, 3) := by decide +kernel
theorem dX11_isSo_28 : decode cX11_isSo 28 = .ok (.iconst 0, 1) := by decide +kernel
theorem dX11_isSo_29 : decode cX11_isSo 29 = .ok (.aload_n 0, 1) := by decide +kernel
theorem dX11_isSo_30 : decode cX11_isSo 30 = .ok (.getfield 167, 3) := by decide +kernel
theorem dX11_isSo_33 : decode cX11_isSo 33 = .ok (.iload 4, 2) := by decide +kernel
theorem dX11_isSo_35 : decode cX11_isSo 35 = .ok (.baload, 1) := by decide +kernel
theorem dX11_isSo_36 : decode cX11_isSo 36 = .ok (.if_icmp .eq 5, 3) := by decide +kernel
theorem dX11_isSo_39 : decode cX11_isSo 39 = .ok (.iconst 0, 1) := by decide +kernel
theorem dX11_isSo_40 : decode cX11_isSo 40 = .ok (.ireturn, 1) := by decide +kernel
theorem dX11_isSo_41 : decode cX11_isSo 41 = .ok (.iinc 4 1, 3) := by decide +kernel
theorem dX11_isSo_44 : decode cX11_isSo 44 = .ok (.goto (-41), 3) := by decide +kernel
theorem dX11_isSo_47 : decode cX11_isSo 47 = .ok (.aload_n 0, 1) := by decide +kernel
theorem dX11_isSo_48 : decode cX11_isSo 48 = .ok (.iload_n 1, 1) := by decide +kernel
theorem dX11_isSo_49 : decode cX11_isSo 49 = .ok (.iload_n 2, 1) := by decide +kernel
theorem dX11_isSo_50 : decode cX11_isSo 50 = .ok (.invokevirtual 402, 3) := by decide +kernel
theorem dX11_isSo_53 : decode cX11_isSo 53 = .ok (.ireturn, 1) := by decide +kernel
theorem dX11_wentBy_0 : decode cX11_wentBy 0 = .ok (.iconst 0, 1) := by decide +kernel
theorem dX11_wentBy_1 : decode cX11_wentBy 1 = .ok (.istore 4, 2) := by decide +kernel
theorem dX11_wentBy_3 : decode cX11_wentBy 3 = .ok (.iconst (-1), 1) := by decide +kernel
theorem dX11_wentBy_4 : decode cX11_wentBy 4 = .ok (.istore 5, 2) := by decide +kernel
theorem dX11_wentBy_6 : decode cX11_wentBy 6 = .ok (.iload 5, 2) := by decide +kernel
theorem dX11_wentBy_8 : decode cX11_wentBy 8 = .ok (.aload_n 0, 1) := by decide +kernel
theorem dX11_wentBy_9 : decode cX11_wentBy 9 = .ok (.getfield 58, 3) := by decide +kernel
theorem dX11_wentBy_12 : decode cX11_wentBy 12 = .ok (.aload_n 0, 1) := by decide +kernel
theorem dX11_wentBy_13 : decode cX11_wentBy 13 = .ok (.getfield 257, 3) := by decide +kernel
theorem dX11_wentBy_16 : decode cX11_wentBy 16 = .ok (.iaload, 1) := by decide +kernel
theorem dX11_wentBy_17 : decode cX11_wentBy 17 = .ok (.if_icmp .ge 28, 3) := by decide +kernel
theorem dX11_wentBy_20 : decode cX11_wentBy 20 = .ok (.aload_n 0, 1) := by decide +kernel
theorem dX11_wentBy_21 : decode cX11_wentBy 21 = .ok (.iload_n 1, 1) := by decide +kernel
theorem dX11_wentBy_22 : decode cX11_wentBy 22 = .ok (.aload_n 0, 1) := by decide +kernel
theorem dX11_wentBy_23 : decode cX11_wentBy 23 = .ok (.iload_n 3, 1) := by decide +kernel
theorem dX11_wentBy_24 : decode cX11_wentBy 24 = .ok (.iload 5, 2) := by decide +kernel
theorem dX11_wentBy_26 : decode cX11_wentBy 26 = .ok (.invokevirtual 428, 3) := by decide +kernel
theorem dX11_wentBy_29 : decode cX11_wentBy 29 = .ok (.iload_n 2, 1) := by decide +kernel
theorem dX11_wentBy_30 : decode cX11_wentBy 30 = .ok (.invokevirtual 512, 3) := by decide +kernel
theorem dX11_wentBy_33 : decode cX11_wentBy 33 = .ok (.ifCond .eq 6, 3) := by decide +kernel
theorem dX11_wentBy_36 : decode cX11_wentBy 36 = .ok (.iinc 4 1, 3) := by decide +kernel
theorem dX11_wentBy_39 : decode cX11_wentBy 39 = .ok (.iinc 5 1, 3) := by decide +kernel
theorem dX11_wentBy_42 : decode cX11_wentBy 42 = .ok (.goto (-36), 3) := by decide +kernel
theorem dX11_wentBy_45 : decode cX11_wentBy 45 = .ok (.iload 4, 2) := by decide +kernel
theorem dX11_wentBy_47 : decode cX11_wentBy 47 = .ok (.ireturn, 1) := by decide +kernel
theorem dX11_isKnown_0 : decode cX11_isKnown 0 = .ok (.aload_n 0, 1) := by decide +kernel
theorem dX11_isKnown_1 : decode cX11_isKnown 1 = .ok (.iload_n 1, 1) := by decide +kernel
theorem dX11_isKnown_2 : decode cX11_isKnown 2 = .ok (.invokevirtual 431, 3) := by decide +kernel
theorem dX11_isKnown_5 : decode cX11_isKnown 5 = .ok (.ifCond .eq 19, 3) := by decide +kernel
theorem dX11_isKnown_8 : decode cX11_isKnown 8 = .ok (.iload_n 2, 1) := by decide +kernel
theorem dX11_isKnown_9 : decode cX11_isKnown 9 = .ok (.iconst 0, 1) := by decide +kernel
theorem dX11_isKnown_10 : decode cX11_isKnown 10 = .ok (.aload_n 0, 1) := by decide +kernel
theorem dX11_isKnown_11 : decode cX11_isKnown 11 = .ok (.getfield 281, 3) := by decide +kernel
theorem dX11_isKnown_14 : decode cX11_isKnown 14 = .ok (.invokestatic 370, 3) := by decide +kernel
theorem dX11_isKnown_17 : decode cX11_isKnown 17 = .ok (.ifCond .eq 7, 3) := by decide +kernel
theorem dX11_isKnown_20 : decode cX11_isKnown 20 = .ok (.iconst 1, 1) := by decide +kernel
theorem dX11_isKnown_21 : decode cX11_isKnown 21 = .ok (.goto 4, 3) := by decide +kernel
theorem dX11_isKnown_24 : decode cX11_isKnown 24 = .ok (.iconst 0, 1) := by decide +kernel
theorem dX11_isKnown_25 : decode cX11_isKnown 25 = .ok (.ireturn, 1) := by decide +kernel
theorem dX11_went_0 : decode cX11_went 0 = .ok (.aload_n 0, 1) := by decide +kernel
theorem dX11_went_1 : decode cX11_went 1 = .ok (.iload_n 1, 1) := by decide +kernel
theorem dX11_went_2 : decode cX11_went 2 = .ok (.iload_n 2, 1) := by decide +kernel
theorem dX11_went_3 : decode cX11_went 3 = .ok (.invokevirtual 515, 3) := by decide +kernel
theorem dX11_went_6 : decode cX11_went 6 = .ok (.ifCond .ne 5, 3) := by decide +kernel
theorem dX11_went_9 : decode cX11_went 9 = .ok (.iconst (-1), 1) := by decide +kernel
theorem dX11_went_10 : decode cX11_went 10 = .ok (.ireturn, 1) := by decide +kernel
theorem dX11_went_11 : decode cX11_went 11 = .ok (.iconst 0, 1) := by decide +kernel
theorem dX11_went_12 : decode cX11_went 12 = .ok (.istore_n 3, 1) := by decide +kernel
theorem dX11_went_13 : decode cX11_went 13 = .ok (.iconst 0, 1) := by decide +kernel
theorem dX11_went_14 : decode cX11_went 14 = .ok (.istore 4, 2) := by decide +kernel
theorem dX11_went_16 : decode cX11_went 16 = .ok (.iload 4, 2) := by decide +kernel
theorem dX11_went_18 : decode cX11_went 18 = .ok (.aload_n 0, 1) := by decide +kernel
theorem dX11_went_19 : decode cX11_went 19 = .ok (.getfield 49, 3) := by decide +kernel
theorem dX11_went_22 : decode cX11_went 22 = .ok (.aload_n 0, 1) := by decide +kernel
theorem dX11_went_23 : decode cX11_went 23 = .ok (.getfield 257, 3) := by decide +kernel
theorem dX11_went_26 : decode cX11_went 26 = .ok (.iaload, 1) := by decide +kernel
theorem dX11_went_27 : decode cX11_went 27 = .ok (.if_icmp .ge 20, 3) := by decide +kernel
theorem dX11_went_30 : decode cX11_went 30 = .ok (.iload_n 3, 1) := by decide +kernel
theorem dX11_went_31 : decode cX11_went 31 = .ok (.aload_n 0, 1) := by decide +kernel
theorem dX11_went_32 : decode cX11_went 32 = .ok (.iload_n 1, 1) := by decide +kernel
theorem dX11_went_33 : decode cX11_went 33 = .ok (.iload_n 2, 1) := by decide +kernel
theorem dX11_went_34 : decode cX11_went 34 = .ok (.iload 4, 2) := by decide +kernel
theorem dX11_went_36 : decode cX11_went 36 = .ok (.invokevirtual 518, 3) := by decide +kernel
theorem dX11_went_39 : decode cX11_went 39 = .ok (.iadd, 1) := by decide +kernel
theorem dX11_went_40 : decode cX11_went 40 = .ok (.istore_n 3, 1) := by decide +kernel
theorem dX11_went_41 : decode cX11_went 41 = .ok (.iinc 4 1, 3) := by decide +kernel
theorem dX11_went_44 : decode cX11_went 44 = .ok (.goto (-28), 3) := by decide +kernel
theorem dX11_went_47 : decode cX11_went 47 = .ok (.iload_n 3, 1) := by decide +kernel
theorem dX11_went_48 : decode cX11_went 48 = .ok (.ireturn, 1) := by decide +kernel
theorem dX11_sure_0 : decode cX11_sure 0 = .ok (.aload_n 0, 1) := by decide +kernel
theorem dX11_sure_1 : decode cX11_sure 1 = .ok (.iload_n 1, 1) := by decide +kernel
theorem dX11_sure_2 : decode cX11_sure 2 = .ok (.iload_n 2, 1) := by decide +kernel
theorem dX11_sure_3 : decode cX11_sure 3 = .ok (.invokevirtual 515, 3) := by decide +kernel
theorem dX11_sure_6 : decode cX11_sure 6 = .ok (.ifCond .ne 5, 3) := by decide +kernel
theorem dX11_sure_9 : decode cX11_sure 9 = .ok (.iconst (-1), 1) := by decide +kernel
theorem dX11_sure_10 : decode cX11_sure 10 = .ok (.ireturn, 1) := by decide +kernel
theorem dX11_sure_11 : decode cX11_sure 11 = .ok (.bipush (-2), 2) := by decide +kernel
theorem dX11_sure_13 : decode cX11_sure 13 = .ok (.istore_n 3, 1) := by decide +kernel
theorem dX11_sure_14 : decode cX11_sure 14 = .ok (.iconst 0, 1) := by decide +kernel
theorem dX11_sure_15 : decode cX11_sure 15 = .ok (.istore 4, 2) := by decide +kernel
theorem dX11_sure_17 : decode cX11_sure 17 = .ok (.iload 4, 2) := by decide +kernel
theorem dX11_sure_19 : decode cX11_sure 19 = .ok (.aload_n 0, 1) := by decide +kernel
theorem dX11_sure_20 : decode cX11_sure 20 = .ok (.getfield 49, 3) := by decide +kernel
theorem dX11_sure_23 : decode cX11_sure 23 = .ok (.aload_n 0, 1) := by decide +kernel
theorem dX11_sure_24 : decode cX11_sure 24 = .ok (.getfield 257, 3) := by decide +kernel
theorem dX11_sure_27 : decode cX11_sure 27 = .ok (.iaload, 1) := by decide +kernel
theorem dX11_sure_28 : decode cX11_sure 28 = .ok (.if_icmp .ge 33, 3) := by decide +kernel
theorem dX11_sure_31 : decode cX11_sure 31 = .ok (.aload_n 0, 1) := by decide +kernel
theorem dX11_sure_32 : decode cX11_sure 32 = .ok (.iload_n 1, 1) := by decide +kernel
theorem dX11_sure_33 : decode cX11_sure 33 = .ok (.iload_n 2, 1) := by decide +kernel
theorem dX11_sure_34 : decode cX11_sure 34 = .ok (.iload 4, 2) := by decide +kernel
theorem dX11_sure_36 : decode cX11_sure 36 = .ok (.invokevirtual 518, 3) := by decide +kernel
theorem dX11_sure_39 : decode cX11_sure 39 = .ok (.ifCond .ne 6, 3) := by decide +kernel
theorem dX11_sure_42 : decode cX11_sure 42 = .ok (.goto 13, 3) := by decide +kernel
theorem dX11_sure_45 : decode cX11_sure 45 = .ok (.iload_n 3, 1) := by decide +kernel
theorem dX11_sure_46 : decode cX11_sure 46 = .ok (.ifCond .lt 6, 3) := by decide +kernel
theorem dX11_sure_49 : decode cX11_sure 49 = .ok (.bipush (-2), 2) := by decide +kernel
theorem dX11_sure_51 : decode cX11_sure 51 = .ok (.ireturn, 1) := by decide +kernel
theorem dX11_sure_52 : decode cX11_sure 52 = .ok (.iload 4, 2) := by decide +kernel
theorem dX11_sure_54 : decode cX11_sure 54 = .ok (.istore_n 3, 1) := by decide +kernel
theorem dX11_sure_55 : decode cX11_sure 55 = .ok (.iinc 4 1, 3) := by decide +kernel
theorem dX11_sure_58 : decode cX11_sure 58 = .ok (.goto (-41), 3) := by decide +kernel
theorem dX11_sure_61 : decode cX11_sure 61 = .ok (.iload_n 3, 1) := by decide +kernel
theorem dX11_sure_62 : decode cX11_sure 62 = .ok (.ireturn, 1) := by decide +kernel
theorem dX11_havingBy_0 : decode cX11_havingBy 0 = .ok (.iconst 0, 1) := by decide +kernel
theorem dX11_havingBy_1 : decode cX11_havingBy 1 = .ok (.istore 4, 2) := by decide +kernel
theorem dX11_havingBy_3 : decode cX11_havingBy 3 = .ok (.iconst 0, 1) := by decide +kernel
theorem dX11_havingBy_4 : decode cX11_havingBy 4 = .ok (.istore 5, 2) := by decide +kernel
theorem dX11_havingBy_6 : decode cX11_havingBy 6 = .ok (.iload 5, 2) := by decide +kernel
theorem dX11_havingBy_8 : decode cX11_havingBy 8 = .ok (.aload_n 0, 1) := by decide +kernel
theorem dX11_havingBy_9 : decode cX11_havingBy 9 = .ok (.getfield 49, 3) := by decide +kernel
theorem dX11_havingBy_12 : decode cX11_havingBy 12 = .ok (.aload_n 0, 1) := by decide +kernel
theorem dX11_havingBy_13 : decode cX11_havingBy 13 = .ok (.getfield 257, 3) := by decide +kernel
theorem dX11_havingBy_16 : decode cX11_havingBy 16 = .ok (.iaload, 1) := by decide +kernel
theorem dX11_havingBy_17 : decode cX11_havingBy 17 = .ok (.if_icmp .ge 68, 3) := by decide +kernel
theorem dX11_havingBy_20 : decode cX11_havingBy 20 = .ok (.iconst (-1), 1) := by decide +kernel
theorem dX11_havingBy_21 : decode cX11_havingBy 21 = .ok (.istore 6, 2) := by decide +kernel
theorem dX11_havingBy_23 : decode cX11_havingBy 23 = .ok (.iload 6, 2) := by decide +kernel
theorem dX11_havingBy_25 : decode cX11_havingBy 25 = .ok (.aload_n 0, 1) := by decide +kernel
theorem dX11_havingBy_26 : decode cX11_havingBy 26 = .ok (.getfield 58, 3) := by decide +kernel
theorem dX11_havingBy_29 : decode cX11_havingBy 29 = .ok (.aload_n 0, 1) := by decide +kernel
theorem dX11_havingBy_30 : decode cX11_havingBy 30 = .ok (.getfield 257, 3) := by decide +kernel
theorem dX11_havingBy_33 : decode cX11_havingBy 33 = .ok (.iaload, 1) := by decide +kernel
theorem dX11_havingBy_34 : decode cX11_havingBy 34 = .ok (.if_icmp .ge 45, 3) := by decide +kernel
theorem dX11_havingBy_37 : decode cX11_havingBy 37 = .ok (.aload_n 0, 1) := by decide +kernel
theorem dX11_havingBy_38 : decode cX11_havingBy 38 = .ok (.iload 5, 2) := by decide +kernel
theorem dX11_havingBy_40 : decode cX11_havingBy 40 = .ok (.iload 6, 2) := by decide +kernel
theorem dX11_havingBy_42 : decode cX11_havingBy 42 = .ok (.invokevirtual 428, 3) := by decide +kernel
theorem dX11_havingBy_45 : decode cX11_havingBy 45 = .ok (.iload_n 3, 1) := by decide +kernel
theorem dX11_havingBy_46 : decode cX11_havingBy 46 = .ok (.ishr, 1) := by decide +kernel
theorem dX11_havingBy_47 : decode cX11_havingBy 47 = .ok (.iconst 1, 1) := by decide +kernel
theorem dX11_havingBy_48 : decode cX11_havingBy 48 = .ok (.iand, 1) := by decide +kernel
theorem dX11_havingBy_49 : decode cX11_havingBy 49 = .ok (.iconst 1, 1) := by decide +kernel
theorem dX11_havingBy_50 : decode cX11_havingBy 50 = .ok (.if_icmp .ne 23, 3) := by decide +kernel
theorem dX11_havingBy_53 : decode cX11_havingBy 53 = .ok (.aload_n 0, 1) := by decide +kernel
theorem dX11_havingBy_54 : decode cX11_havingBy 54 = .ok (.iload_n 1, 1) := by decide +kernel
theorem dX11_havingBy_55 : decode cX11_havingBy 55 = .ok (.aload_n 0, 1) := by decide +kernel
theorem dX11_havingBy_56 : decode cX11_havingBy 56 = .ok (.iload 5, 2) := by decide +kernel
theorem dX11_havingBy_58 : decode cX11_havingBy 58 = .ok (.iload 6, 2) := by decide +kernel
theorem dX11_havingBy_60 : decode cX11_havingBy 60 = .ok (.invokevirtual 428, 3) := by decide +kernel
theorem dX11_havingBy_63 : decode cX11_havingBy 63 = .ok (.iload_n 2, 1) := by decide +kernel
theorem dX11_havingBy_64 : decode cX11_havingBy 64 = .ok (.invokevirtual 512, 3) := by decide +kernel
theorem dX11_havingBy_67 : decode cX11_havingBy 67 = .ok (.ifCond .eq 6, 3) := by decide +kernel
theorem dX11_havingBy_70 : decode cX11_havingBy 70 = .ok (.iinc 4 1, 3) := by decide +kernel
theorem dX11_havingBy_73 : decode cX11_havingBy 73 = .ok (.iinc 6 1, 3) := by decide +kernel
theorem dX11_havingBy_76 : decode cX11_havingBy 76 = .ok (.goto (-53), 3) := by decide +kernel
theorem dX11_havingBy_79 : decode cX11_havingBy 79 = .ok (.iinc 5 1, 3) := by decide +kernel
theorem dX11_havingBy_82 : decode cX11_havingBy 82 = .ok (.goto (-76), 3) := by decide +kernel
theorem dX11_havingBy_85 : decode cX11_havingBy 85 = .ok (.iload 4, 2) := by decide +kernel
theorem dX11_havingBy_87 : decode cX11_havingBy 87 = .ok (.ireturn, 1) := by decide +kernel
theorem dX11_ask_0 : decode cX11_ask 0 = .ok (.aload_n 0, 1) := by decide +kernel
theorem dX11_ask_1 : decode cX11_ask 1 = .ok (.iload_n 1, 1) := by decide +kernel
theorem dX11_ask_2 : decode cX11_ask 2 = .ok (.iload_n 2, 1) := by decide +kernel
theorem dX11_ask_3 : decode cX11_ask 3 = .ok (.invokevirtual 515, 3) := by decide +kernel
theorem dX11_ask_6 : decode cX11_ask 6 = .ok (.ifCond .ne 5, 3) := by decide +kernel
theorem dX11_ask_9 : decode cX11_ask 9 = .ok (.iconst (-1), 1) := by decide +kernel
theorem dX11_ask_10 : decode cX11_ask 10 = .ok (.ireturn, 1) := by decide +kernel
theorem dX11_ask_11 : decode cX11_ask 11 = .ok (.aload_n 0, 1) := by decide +kernel
theorem dX11_ask_12 : decode cX11_ask 12 = .ok (.iload_n 1, 1) := by decide +kernel
theorem dX11_ask_13 : decode cX11_ask 13 = .ok (.iload_n 2, 1) := by decide +kernel
theorem dX11_ask_14 : decode cX11_ask 14 = .ok (.invokevirtual 521, 3) := by decide +kernel
theorem dX11_ask_17 : decode cX11_ask 17 = .ok (.istore_n 3, 1) := by decide +kernel
theorem dX11_ask_18 : decode cX11_ask 18 = .ok (.bipush (-2), 2) := by decide +kernel
theorem dX11_ask_20 : decode cX11_ask 20 = .ok (.istore 4, 2) := by decide +kernel
theorem dX11_ask_22 : decode cX11_ask 22 = .ok (.iconst 0, 1) := by decide +kernel
theorem dX11_ask_23 : decode cX11_ask 23 = .ok (.istore 5, 2) := by decide +kernel
theorem dX11_ask_25 : decode cX11_ask 25 = .ok (.iconst 0, 1) := by decide +kernel
theorem dX11_ask_26 : decode cX11_ask 26 = .ok (.istore 6, 2) := by decide +kernel
theorem dX11_ask_28 : decode cX11_ask 28 = .ok (.iload 6, 2) := by decide +kernel
theorem dX11_ask_30 : decode cX11_ask 30 = .ok (.aload_n 0, 1) := by decide +kernel
theorem dX11_ask_31 : decode cX11_ask 31 = .ok (.getfield 46, 3) := by decide +kernel
theorem dX11_ask_34 : decode cX11_ask 34 = .ok (.aload_n 0, 1) := by decide +kernel
theorem dX11_ask_35 : decode cX11_ask 35 = .ok (.getfield 257, 3) := by decide +kernel
theorem dX11_ask_38 : decode cX11_ask 38 = .ok (.iaload, 1) := by decide +kernel
theorem dX11_ask_39 : decode cX11_ask 39 = .ok (.if_icmp .ge 66, 3) := by decide +kernel
theorem dX11_ask_42 : decode cX11_ask 42 = .ok (.iload_n 3, 1) := by decide +kernel
theorem dX11_ask_43 : decode cX11_ask 43 = .ok (.ifCond .le 62, 3) := by decide +kernel
theorem dX11_ask_46 : decode cX11_ask 46 = .ok (.aload_n 0, 1) := by decide +kernel
theorem dX11_ask_47 : decode cX11_ask 47 = .ok (.iload_n 1, 1) := by decide +kernel
theorem dX11_ask_48 : decode cX11_ask 48 = .ok (.iload_n 2, 1) := by decide +kernel
theorem dX11_ask_49 : decode cX11_ask 49 = .ok (.iload 6, 2) := by decide +kernel
theorem dX11_ask_51 : decode cX11_ask 51 = .ok (.invokevirtual 524, 3) := by decide +kernel
theorem dX11_ask_54 : decode cX11_ask 54 = .ok (.istore 7, 2) := by decide +kernel
theorem dX11_ask_56 : decode cX11_ask 56 = .ok (.iload 7, 2) := by decide +kernel
theorem dX11_ask_58 : decode cX11_ask 58 = .ok (.iload_n 3, 1) := by decide +kernel
theorem dX11_ask_59 : decode cX11_ask 59 = .ok (.iload 7, 2) := by decide +kernel
theorem dX11_ask_61 : decode cX11_ask 61 = .ok (.isub, 1) := by decide +kernel
theorem dX11_ask_62 : decode cX11_ask 62 = .ok (.if_icmp .le 8, 3) := by decide +kernel
theorem dX11_ask_65 : decode cX11_ask 65 = .ok (.iload 7, 2) := by decide +kernel
theorem dX11_ask_67 : decode cX11_ask 67 = .ok (.goto 7, 3) := by decide +kernel
theorem dX11_ask_70 : decode cX11_ask 70 = .ok (.iload_n 3, 1) := by decide +kernel
theorem dX11_ask_71 : decode cX11_ask 71 = .ok (.iload 7, 2) := by decide +kernel
theorem dX11_ask_73 : decode cX11_ask 73 = .ok (.isub, 1) := by decide +kernel
theorem dX11_ask_74 : decode cX11_ask 74 = .ok (.istore 8, 2) := by decide +kernel
theorem dX11_ask_76 : decode cX11_ask 76 = .ok (.iload 4, 2) := by decide +kernel
theorem dX11_ask_78 : decode cX11_ask 78 = .ok (.ifCond .lt 13, 3) := by decide +kernel
theorem dX11_ask_81 : decode cX11_ask 81 = .ok (.iload 8, 2) := by decide +kernel
theorem dX11_ask_83 : decode cX11_ask 83 = .ok (.iload 5, 2) := by decide +kernel
theorem dX11_ask_85 : decode cX11_ask 85 = .ok (.if_icmp .lt 6, 3) := by decide +kernel
theorem dX11_ask_88 : decode cX11_ask 88 = .ok (.goto 11, 3) := by decide +kernel
theorem dX11_ask_91 : decode cX11_ask 91 = .ok (.iload 6, 2) := by decide +kernel
theorem dX11_ask_93 : decode cX11_ask 93 = .ok (.istore 4, 2) := by decide +kernel
theorem dX11_ask_95 : decode cX11_ask 95 = .ok (.iload 8, 2) := by decide +kernel
theorem dX11_ask_97 : decode cX11_ask 97 = .ok (.istore 5, 2) := by decide +kernel
theorem dX11_ask_99 : decode cX11_ask 99 = .ok (.iinc 6 1, 3) := by decide +kernel
theorem dX11_ask_102 : decode cX11_ask 102 = .ok (.goto (-74), 3) := by decide +kernel
theorem dX11_ask_105 : decode cX11_ask 105 = .ok (.iload 4, 2) := by decide +kernel
theorem dX11_ask_107 : decode cX11_ask 107 = .ok (.ireturn, 1) := by decide +kernel
theorem dX11_hold_0 : decode cX11_hold 0 = .ok (.iload_n 1, 1) := by decide +kernel
theorem dX11_hold_1 : decode cX11_hold 1 = .ok (.iconst 0, 1) := by decide +kernel
theorem dX11_hold_2 : decode cX11_hold 2 = .ok (.iconst 2, 1) := by decide +kernel
theorem dX11_hold_3 : decode cX11_hold 3 = .ok (.invokestatic 370, 3) := by decide +kernel
theorem dX11_hold_6 : decode cX11_hold 6 = .ok (.ifCond .ne 5, 3) := by decide +kernel
theorem dX11_hold_9 : decode cX11_hold 9 = .ok (.iconst 0, 1) := by decide +kernel
theorem dX11_hold_10 : decode cX11_hold 10 = .ok (.ireturn, 1) := by decide +kernel
theorem dX11_hold_11 : decode cX11_hold 11 = .ok (.aload_n 0, 1) := by decide +kernel
theorem dX11_hold_12 : decode cX11_hold 12 = .ok (.getfield 170, 3) := by decide +kernel
theorem dX11_hold_15 : decode cX11_hold 15 = .ok (.iload_n 1, 1) := by decide +kernel
theorem dX11_hold_16 : decode cX11_hold 16 = .ok (.iconst 1, 1) := by decide +kernel
theorem dX11_hold_17 : decode cX11_hold 17 = .ok (.bastore, 1) := by decide +kernel
theorem dX11_hold_18 : decode cX11_hold 18 = .ok (.iconst 0, 1) := by decide +kernel
theorem dX11_hold_19 : decode cX11_hold 19 = .ok (.istore_n 2, 1) := by decide +kernel
theorem dX11_hold_20 : decode cX11_hold 20 = .ok (.iload_n 2, 1) := by decide +kernel
theorem dX11_hold_21 : decode cX11_hold 21 = .ok (.bipush 26, 2) := by decide +kernel
theorem dX11_hold_23 : decode cX11_hold 23 = .ok (.if_icmp .ge 26, 3) := by decide +kernel
theorem dX11_hold_26 : decode cX11_hold 26 = .ok (.aload_n 0, 1) := by decide +kernel
theorem dX11_hold_27 : decode cX11_hold 27 = .ok (.getfield 173, 3) := by decide +kernel
theorem dX11_hold_30 : decode cX11_hold 30 = .ok (.bipush 26, 2) := by decide +kernel
theorem dX11_hold_32 : decode cX11_hold 32 = .ok (.iload_n 1, 1) := by decide +kernel
theorem dX11_hold_33 : decode cX11_hold 33 = .ok (.imul, 1) := by decide +kernel
theorem dX11_hold_34 : decode cX11_hold 34 = .ok (.iload_n 2, 1) := by decide +kernel
theorem dX11_hold_35 : decode cX11_hold 35 = .ok (.iadd, 1) := by decide +kernel
theorem dX11_hold_36 : decode cX11_hold 36 = .ok (.aload_n 0, 1) := by decide +kernel
theorem dX11_hold_37 : decode cX11_hold 37 = .ok (.getfield 134, 3) := by decide +kernel
theorem dX11_hold_40 : decode cX11_hold 40 = .ok (.iload_n 2, 1) := by decide +kernel
theorem dX11_hold_41 : decode cX11_hold 41 = .ok (.iaload, 1) := by decide +kernel
theorem dX11_hold_42 : decode cX11_hold 42 = .ok (.iastore, 1) := by decide +kernel
theorem dX11_hold_43 : decode cX11_hold 43 = .ok (.iinc 2 1, 3) := by decide +kernel
theorem dX11_hold_46 : decode cX11_hold 46 = .ok (.goto (-26), 3) := by decide +kernel
theorem dX11_hold_49 : decode cX11_hold 49 = .ok (.iconst 1, 1) := by decide +kernel
theorem dX11_hold_50 : decode cX11_hold 50 = .ok (.ireturn, 1) := by decide +kernel
theorem dX11_restore_0 : decode cX11_restore 0 = .ok (.iload_n 1, 1) := by decide +kernel
theorem dX11_restore_1 : decode cX11_restore 1 = .ok (.iconst 0, 1) := by decide +kernel
theorem dX11_restore_2 : decode cX11_restore 2 = .ok (.iconst 2, 1) := by decide +kernel
theorem dX11_restore_3 : decode cX11_restore 3 = .ok (.invokestatic 370, 3) := by decide +kernel
theorem dX11_restore_6 : decode cX11_restore 6 = .ok (.ifCond .eq 12, 3) := by decide +kernel
theorem dX11_restore_9 : decode cX11_restore 9 = .ok (.aload_n 0, 1) := by decide +kernel
theorem dX11_restore_10 : decode cX11_restore 10 = .ok (.getfield 170, 3) := by decide +kernel
theorem dX11_restore_13 : decode cX11_restore 13 = .ok (.iload_n 1, 1) := by decide +kernel
theorem dX11_restore_14 : decode cX11_restore 14 = .ok (.baload, 1) := by decide +kernel
theorem dX11_restore_15 : decode cX11_restore 15 = .ok (.ifCond .ne 5, 3) := by decide +kernel
theorem dX11_restore_18 : decode cX11_restore 18 = .ok (.iconst 0, 1) := by decide +kernel
theorem dX11_restore_19 : decode cX11_restore 19 = .ok (.ireturn, 1) := by decide +kernel
theorem dX11_restore_20 : decode cX11_restore 20 = .ok (.iconst 0, 1) := by decide +kernel
theorem dX11_restore_21 : decode cX11_restore 21 = .ok (.istore_n 2, 1) := by decide +kernel
theorem dX11_restore_22 : decode cX11_restore 22 = .ok (.iload_n 2, 1) := by decide +kernel
theorem dX11_restore_23 : decode cX11_restore 23 = .ok (.bipush 26, 2) := by decide +kernel
theorem dX11_restore_25 : decode cX11_restore 25 = .ok (.if_icmp .ge 26, 3) := by decide +kernel
theorem dX11_restore_28 : decode cX11_restore 28 = .ok (.aload_n 0, 1) := by decide +kernel
theorem dX11_restore_29 : decode cX11_restore 29 = .ok (.getfield 134, 3) := by decide +kernel
theorem dX11_restore_32 : decode cX11_restore 32 = .ok (.iload_n 2, 1) := by decide +kernel
theorem dX11_restore_33 : decode cX11_restore 33 = .ok (.aload_n 0, 1) := by decide +kernel
theorem dX11_restore_34 : decode cX11_restore 34 = .ok (.getfield 173, 3) := by decide +kernel
theorem dX11_restore_37 : decode cX11_restore 37 = .ok (.bipush 26, 2) := by decide +kernel
theorem dX11_restore_39 : decode cX11_restore 39 = .ok (.iload_n 1, 1) := by decide +kernel
theorem dX11_restore_40 : decode cX11_restore 40 = .ok (.imul, 1) := by decide +kernel
theorem dX11_restore_41 : decode cX11_restore 41 = .ok (.iload_n 2, 1) := by decide +kernel
theorem dX11_restore_42 : decode cX11_restore 42 = .ok (.iadd, 1) := by decide +kernel
theorem dX11_restore_43 : decode cX11_restore 43 = .ok (.iaload, 1) := by decide +kernel
theorem dX11_restore_44 : decode cX11_restore 44 = .ok (.iastore, 1) := by decide +kernel
theorem dX11_restore_45 : decode cX11_restore 45 = .ok (.iinc 2 1, 3) := by decide +kernel
theorem dX11_restore_48 : decode cX11_restore 48 = .ok (.goto (-26), 3) := by decide +kernel
theorem dX11_restore_51 : decode cX11_restore 51 = .ok (.aload_n 0, 1) := by decide +kernel
theorem dX11_restore_52 : decode cX11_restore 52 = .ok (.iconst 0, 1) := by decide +kernel
theorem dX11_restore_53 : decode cX11_restore 53 = .ok (.putfield 278, 3) := by decide +kernel
theorem dX11_restore_56 : decode cX11_restore 56 = .ok (.iconst 1, 1) := by decide +kernel
theorem dX11_restore_57 : decode cX11_restore 57 = .ok (.ireturn, 1) := by decide +kernel
theorem dX11_count_0 : decode cX11_count 0 = .ok (.aload_n 0, 1) := by decide +kernel
theorem dX11_count_1 : decode cX11_count 1 = .ok (.invokevirtual 434, 3) := by decide +kernel
theorem dX11_count_4 : decode cX11_count 4 = .ok (.iload_n 1, 1) := by decide +kernel
theorem dX11_count_5 : decode cX11_count 5 = .ok (.tableswitch 244 0 15 #[79, 89, 99, 109, 119, 127, 135, 141, 147, 155, 163, 171, 176, 181, 186, 231], 79) := by decide +kernel
theorem dX11_count_84 : decode cX11_count 84 = .ok (.aload_n 0, 1) := by decide +kernel
theorem dX11_count_85 : decode cX11_count 85 = .ok (.getfield 46, 3) := by decide +kernel
theorem dX11_count_88 : decode cX11_count 88 = .ok (.aload_n 0, 1) := by decide +kernel
theorem dX11_count_89 : decode cX11_count 89 = .ok (.getfield 257, 3) := by decide +kernel
theorem dX11_count_92 : decode cX11_count 92 = .ok (.iaload, 1) := by decide +kernel
theorem dX11_count_93 : decode cX11_count 93 = .ok (.ireturn, 1) := by decide +kernel
theorem dX11_count_94 : decode cX11_count 94 = .ok (.aload_n 0, 1) := by decide +kernel
theorem dX11_count_95 : decode cX11_count 95 = .ok (.getfield 49, 3) := by decide +kernel
theorem dX11_count_98 : decode cX11_count 98 = .ok (.aload_n 0, 1) := by decide +kernel
theorem dX11_count_99 : decode cX11_count 99 = .ok (.getfield 257, 3) := by decide +kernel
theorem dX11_count_102 : decode cX11_count 102 = .ok (.iaload, 1) := by decide +kernel
theorem dX11_count_103 : decode cX11_count 103 = .ok (.ireturn, 1) := by decide +kernel
theorem dX11_count_104 : decode cX11_count 104 = .ok (.aload_n 0, 1) := by decide +kernel
theorem dX11_count_105 : decode cX11_count 105 = .ok (.getfield 58, 3) := by decide +kernel
theorem dX11_count_108 : decode cX11_count 108 = .ok (.aload_n 0, 1) := by decide +kernel
theorem dX11_count_109 : decode cX11_count 109 = .ok (.getfield 257, 3) := by decide +kernel
theorem dX11_count_112 : decode cX11_count 112 = .ok (.iaload, 1) := by decide +kernel
theorem dX11_count_113 : decode cX11_count 113 = .ok (.ireturn, 1) := by decide +kernel
theorem dX11_count_114 : decode cX11_count 114 = .ok (.aload_n 0, 1) := by decide +kernel
theorem dX11_count_115 : decode cX11_count 115 = .ok (.getfield 70, 3) := by decide +kernel
theorem dX11_count_118 : decode cX11_count 118 = .ok (.aload_n 0, 1) := by decide +kernel
theorem dX11_count_119 : decode cX11_count 119 = .ok (.getfield 257, 3) := by decide +kernel
theorem dX11_count_122 : decode cX11_count 122 = .ok (.iaload, 1) := by decide +kernel
theorem dX11_count_123 : decode cX11_count 123 = .ok (.ireturn, 1) := by decide +kernel
theorem dX11_count_124 : decode cX11_count 124 = .ok (.aload_n 0, 1) := by decide +kernel
theorem dX11_count_125 : decode cX11_count 125 = .ok (.getfield 137, 3) := by decide +kernel
theorem dX11_count_128 : decode cX11_count 128 = .ok (.bipush 23, 2) := by decide +kernel
theorem dX11_count_130 : decode cX11_count 130 = .ok (.iaload, 1) := by decide +kernel
theorem dX11_count_131 : decode cX11_count 131 = .ok (.ireturn, 1) := by decide +kernel
theorem dX11_count_132 : decode cX11_count 132 = .ok (.aload_n 0, 1) := by decide +kernel
theorem dX11_count_133 : decode cX11_count 133 = .ok (.getfield 137, 3) := by decide +kernel
theorem dX11_count_136 : decode cX11_count 136 = .ok (.bipush 22, 2) := by decide +kernel
theorem dX11_count_138 : decode cX11_count 138 = .ok (.iaload, 1) := by decide +kernel
theorem dX11_count_139 : decode cX11_count 139 = .ok (.ireturn, 1) := by decide +kernel
theorem dX11_count_140 : decode cX11_count 140 = .ok (.aload_n 0, 1) := by decide +kernel
theorem dX11_count_141 : decode cX11_count 141 = .ok (.iconst 1, 1) := by decide +kernel
theorem dX11_count_142 : decode cX11_count 142 = .ok (.invokevirtual 384, 3) := by decide +kernel
theorem dX11_count_145 : decode cX11_count 145 = .ok (.ireturn, 1) := by decide +kernel
theorem dX11_count_146 : decode cX11_count 146 = .ok (.aload_n 0, 1) := by decide +kernel
theorem dX11_count_147 : decode cX11_count 147 = .ok (.iconst 2, 1) := by decide +kernel
theorem dX11_count_148 : decode cX11_count 148 = .ok (.invokevirtual 384, 3) := by decide +kernel
theorem dX11_count_151 : decode cX11_count 151 = .ok (.ireturn, 1) := by decide +kernel
theorem dX11_count_152 : decode cX11_count 152 = .ok (.aload_n 0, 1) := by decide +kernel
theorem dX11_count_153 : decode cX11_count 153 = .ok (.getfield 137, 3) := by decide +kernel
theorem dX11_count_156 : decode cX11_count 156 = .ok (.bipush 25, 2) := by decide +kernel
theorem dX11_count_158 : decode cX11_count 158 = .ok (.iaload, 1) := by decide +kernel
theorem dX11_count_159 : decode cX11_count 159 = .ok (.ireturn, 1) := by decide +kernel
theorem dX11_count_160 : decode cX11_count 160 = .ok (.aload_n 0, 1) := by decide +kernel
theorem dX11_count_161 : decode cX11_count 161 = .ok (.getfield 137, 3) := by decide +kernel
theorem dX11_count_164 : decode cX11_count 164 = .ok (.bipush 21, 2) := by decide +kernel
theorem dX11_count_166 : decode cX11_count 166 = .ok (.iaload, 1) := by decide +kernel
theorem dX11_count_167 : decode cX11_count 167 = .ok (.ireturn, 1) := by decide +kernel
theorem dX11_count_168 : decode cX11_count 168 = .ok (.aload_n 0, 1) := by decide +kernel
theorem dX11_count_169 : decode cX11_count 169 = .ok (.getfield 137, 3) := by decide +kernel
theorem dX11_count_172 : decode cX11_count 172 = .ok (.bipush 24, 2) := by decide +kernel
theorem dX11_count_174 : decode cX11_count 174 = .ok (.iaload, 1) := by decide +kernel
theorem dX11_count_175 : decode cX11_count 175 = .ok (.ireturn, 1) := by decide +kernel
theorem dX11_count_176 : decode cX11_count 176 = .ok (.aload_n 0, 1) := by decide +kernel
theorem dX11_count_177 : decode cX11_count 177 = .ok (.getfield 190, 3) := by decide +kernel
theorem dX11_count_180 : decode cX11_count 180 = .ok (.ireturn, 1) := by decide +kernel
theorem dX11_count_181 : decode cX11_count 181 = .ok (.aload_n 0, 1) := by decide +kernel
theorem dX11_count_182 : decode cX11_count 182 = .ok (.getfield 278, 3) := by decide +kernel
theorem dX11_count_185 : decode cX11_count 185 = .ok (.ireturn, 1) := by decide +kernel
theorem dX11_count_186 : decode cX11_count 186 = .ok (.aload_n 0, 1) := by decide +kernel
theorem dX11_count_187 : decode cX11_count 187 = .ok (.getfield 281, 3) := by decide +kernel
theorem dX11_count_190 : decode cX11_count 190 = .ok (.ireturn, 1) := by decide +kernel
theorem dX11_count_191 : decode cX11_count 191 = .ok (.aload_n 0, 1) := by decide +kernel
theorem dX11_count_192 : decode cX11_count 192 = .ok (.getfield 170, 3) := by decide +kernel
theorem dX11_count_195 : decode cX11_count 195 = .ok (.iconst 0, 1) := by decide +kernel
theorem dX11_count_196 : decode cX11_count 196 = .ok (.baload, 1) := by decide +kernel
theorem dX11_count_197 : decode cX11_count 197 = .ok (.ifCond .eq 7, 3) := by decide +kernel
theorem dX11_count_200 : decode cX11_count 200 = .ok (.iconst 1, 1) := by decide +kernel
theorem dX11_count_201 : decode cX11_count 201 = .ok (.goto 4, 3) := by decide +kernel
theorem dX11_count_204 : decode cX11_count 204 = .ok (.iconst 0, 1) := by decide +kernel
theorem dX11_count_205 : decode cX11_count 205 = .ok (.aload_n 0, 1) := by decide +kernel
theorem dX11_count_206 : decode cX11_count 206 = .ok (.getfield 170, 3) := by decide +kernel
theorem dX11_count_209 : decode cX11_count 209 = .ok (.iconst 1, 1) := by decide +kernel
theorem dX11_count_210 : decode cX11_count 210 = .ok (.baload, 1) := by decide +kernel
theorem dX11_count_211 : decode cX11_count 211 = .ok (.ifCond .eq 7, 3) := by decide +kernel
theorem dX11_count_214 : decode cX11_count 214 = .ok (.iconst 1, 1) := by decide +kernel
theorem dX11_count_215 : decode cX11_count 215 = .ok (.goto 4, 3) := by decide +kernel
theorem dX11_count_218 : decode cX11_count 218 = .ok (.iconst 0, 1) := by decide +kernel
theorem dX11_count_219 : decode cX11_count 219 = .ok (.iadd, 1) := by decide +kernel
theorem dX11_count_220 : decode cX11_count 220 = .ok (.aload_n 0, 1) := by decide +kernel
theorem dX11_count_221 : decode cX11_count 221 = .ok (.getfield 170, 3) := by decide +kernel
theorem dX11_count_224 : decode cX11_count 224 = .ok (.iconst 2, 1) := by decide +kernel
theorem dX11_count_225 : decode cX11_count 225 = .ok (.baload, 1) := by decide +kernel
theorem dX11_count_226 : decode cX11_count 226 = .ok (.ifCond .eq 7, 3) := by decide +kernel
theorem dX11_count_229 : decode cX11_count 229 = .ok (.iconst 1, 1) := by decide +kernel
theorem dX11_count_230 : decode cX11_count 230 = .ok (.goto 4, 3) := by decide +kernel
theorem dX11_count_233 : decode cX11_count 233 = .ok (.iconst 0, 1) := by decide +kernel
theorem dX11_count_234 : decode cX11_count 234 = .ok (.iadd, 1) := by decide +kernel
theorem dX11_count_235 : decode cX11_count 235 = .ok (.ireturn, 1) := by decide +kernel
theorem dX11_count_236 : decode cX11_count 236 = .ok (.aload_n 0, 1) := by decide +kernel
theorem dX11_count_237 : decode cX11_count 237 = .ok (.invokevirtual 409, 3) := by decide +kernel
theorem dX11_count_240 : decode cX11_count 240 = .ok (.ifCond .eq 7, 3) := by decide +kernel
theorem dX11_count_243 : decode cX11_count 243 = .ok (.iconst 1, 1) := by decide +kernel
theorem dX11_count_244 : decode cX11_count 244 = .ok (.goto 4, 3) := by decide +kernel
theorem dX11_count_247 : decode cX11_count 247 = .ok (.iconst 0, 1) := by decide +kernel
theorem dX11_count_248 : decode cX11_count 248 = .ok (.ireturn, 1) := by decide +kernel
theorem dX11_count_249 : decode cX11_count 249 = .ok (.iconst (-1), 1) := by decide +kernel
theorem dX11_count_250 : decode cX11_count 250 = .ok (.ireturn, 1) := by decide +kernel
