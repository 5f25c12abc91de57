/-! decode rows -/
theorem dX0_init_0 : decode cX0_init 0 = .ok (.aload_n 0, 1) := by decide +kernel
theorem dX0_init_1 : decode cX0_init 1 = .ok (.invokespecial 3, 3) := by decide +kernel
theorem dX0_init_4 : decode cX0_init 4 = .ok (.aload_n 0, 1) := by decide +kernel
theorem dX0_init_5 : decode cX0_init 5 = .ok (.bipush 35, 2) := by decide +kernel
theorem dX0_init_7 : decode cX0_init 7 = .ok (.newarray .int, 2) := by decide +kernel
theorem dX0_init_9 : decode cX0_init 9 = .ok (.putfield 9, 3) := by decide +kernel
theorem dX0_init_12 : decode cX0_init 12 = .ok (.return_, 1) := by decide +kernel
theorem dX0_gather_0 : decode cX0_gather 0 = .ok (.aload_n 0, 1) := by decide +kernel
theorem dX0_gather_1 : decode cX0_gather 1 = .ok (.iconst 0, 1) := by decide +kernel
theorem dX0_gather_2 : decode cX0_gather 2 = .ok (.putfield 15, 3) := by decide +kernel
theorem dX0_gather_5 : decode cX0_gather 5 = .ok (.iconst 0, 1) := by decide +kernel
theorem dX0_gather_6 : decode cX0_gather 6 = .ok (.istore 4, 2) := by decide +kernel
theorem dX0_gather_8 : decode cX0_gather 8 = .ok (.iload 4, 2) := by decide +kernel
theorem dX0_gather_10 : decode cX0_gather 10 = .ok (.aload_n 1, 1) := by decide +kernel
theorem dX0_gather_11 : decode cX0_gather 11 = .ok (.getfield 19, 3) := by decide +kernel
theorem dX0_gather_14 : decode cX0_gather 14 = .ok (.if_icmp .ge 97, 3) := by decide +kernel
theorem dX0_gather_17 : decode cX0_gather 17 = .ok (.iconst (-1), 1) := by decide +kernel
theorem dX0_gather_18 : decode cX0_gather 18 = .ok (.istore 5, 2) := by decide +kernel
theorem dX0_gather_20 : decode cX0_gather 20 = .ok (.iload 5, 2) := by decide +kernel
theorem dX0_gather_22 : decode cX0_gather 22 = .ok (.aload_n 1, 1) := by decide +kernel
theorem dX0_gather_23 : decode cX0_gather 23 = .ok (.getfield 24, 3) := by decide +kernel
theorem dX0_gather_26 : decode cX0_gather 26 = .ok (.if_icmp .ge 79, 3) := by decide +kernel
theorem dX0_gather_29 : decode cX0_gather 29 = .ok (.aload_n 2, 1) := by decide +kernel
theorem dX0_gather_30 : decode cX0_gather 30 = .ok (.iload 4, 2) := by decide +kernel
theorem dX0_gather_32 : decode cX0_gather 32 = .ok (.invokevirtual 27, 3) := by decide +kernel
theorem dX0_gather_35 : decode cX0_gather 35 = .ok (.ifCond .eq 70, 3) := by decide +kernel
theorem dX0_gather_38 : decode cX0_gather 38 = .ok (.aload_n 1, 1) := by decide +kernel
theorem dX0_gather_39 : decode cX0_gather 39 = .ok (.iload 4, 2) := by decide +kernel
theorem dX0_gather_41 : decode cX0_gather 41 = .ok (.iload 5, 2) := by decide +kernel
theorem dX0_gather_43 : decode cX0_gather 43 = .ok (.invokevirtual 33, 3) := by decide +kernel
theorem dX0_gather_46 : decode cX0_gather 46 = .ok (.istore 6, 2) := by decide +kernel
theorem dX0_gather_48 : decode cX0_gather 48 = .ok (.iload 6, 2) := by decide +kernel
theorem dX0_gather_50 : decode cX0_gather 50 = .ok (.iconst 1, 1) := by decide +kernel
theorem dX0_gather_51 : decode cX0_gather 51 = .ok (.iand, 1) := by decide +kernel
theorem dX0_gather_52 : decode cX0_gather 52 = .ok (.ifCond .ne 47, 3) := by decide +kernel
theorem dX0_gather_55 : decode cX0_gather 55 = .ok (.aload_n 0, 1) := by decide +kernel
theorem dX0_gather_56 : decode cX0_gather 56 = .ok (.getfield 15, 3) := by decide +kernel
theorem dX0_gather_59 : decode cX0_gather 59 = .ok (.aload_n 0, 1) := by decide +kernel
theorem dX0_gather_60 : decode cX0_gather 60 = .ok (.getfield 9, 3) := by decide +kernel
theorem dX0_gather_63 : decode cX0_gather 63 = .ok (.arraylength, 1) := by decide +kernel
theorem dX0_gather_64 : decode cX0_gather 64 = .ok (.if_icmp .ge 35, 3) := by decide +kernel
theorem dX0_gather_67 : decode cX0_gather 67 = .ok (.aload_n 2, 1) := by decide +kernel
theorem dX0_gather_68 : decode cX0_gather 68 = .ok (.aload_n 1, 1) := by decide +kernel
theorem dX0_gather_69 : decode cX0_gather 69 = .ok (.iload_n 3, 1) := by decide +kernel
theorem dX0_gather_70 : decode cX0_gather 70 = .ok (.iload 6, 2) := by decide +kernel
theorem dX0_gather_72 : decode cX0_gather 72 = .ok (.invokevirtual 37, 3) := by decide +kernel
theorem dX0_gather_75 : decode cX0_gather 75 = .ok (.ifCond .eq 24, 3) := by decide +kernel
theorem dX0_gather_78 : decode cX0_gather 78 = .ok (.aload_n 0, 1) := by decide +kernel
theorem dX0_gather_79 : decode cX0_gather 79 = .ok (.getfield 9, 3) := by decide +kernel
theorem dX0_gather_82 : decode cX0_gather 82 = .ok (.aload_n 0, 1) := by decide +kernel
theorem dX0_gather_83 : decode cX0_gather 83 = .ok (.getfield 15, 3) := by decide +kernel
theorem dX0_gather_86 : decode cX0_gather 86 = .ok (.iload 6, 2) := by decide +kernel
theorem dX0_gather_88 : decode cX0_gather 88 = .ok (.iastore, 1) := by decide +kernel
theorem dX0_gather_89 : decode cX0_gather 89 = .ok (.aload_n 0, 1) := by decide +kernel
theorem dX0_gather_90 : decode cX0_gather 90 = .ok (.dup, 1) := by decide +kernel
theorem dX0_gather_91 : decode cX0_gather 91 = .ok (.getfield 15, 3) := by decide +kernel
theorem dX0_gather_94 : decode cX0_gather 94 = .ok (.iconst 1, 1) := by decide +kernel
theorem dX0_gather_95 : decode cX0_gather 95 = .ok (.iadd, 1) := by decide +kernel
theorem dX0_gather_96 : decode cX0_gather 96 = .ok (.putfield 15, 3) := by decide +kernel
theorem dX0_gather_99 : decode cX0_gather 99 = .ok (.iinc 5 1, 3) := by decide +kernel
theorem dX0_gather_102 : decode cX0_gather 102 = .ok (.goto (-82), 3) := by decide +kernel
theorem dX0_gather_105 : decode cX0_gather 105 = .ok (.iinc 4 1, 3) := by decide +kernel
theorem dX0_gather_108 : decode cX0_gather 108 = .ok (.goto (-100), 3) := by decide +kernel
theorem dX0_gather_111 : decode cX0_gather 111 = .ok (.return_, 1) := by decide +kernel
theorem dX0_shutOutBy_0 : decode cX0_shutOutBy 0 = .ok (.iconst 0, 1) := by decide +kernel
theorem dX0_shutOutBy_1 : decode cX0_shutOutBy 1 = .ok (.istore_n 2, 1) := by decide +kernel
theorem dX0_shutOutBy_2 : decode cX0_shutOutBy 2 = .ok (.iconst 0, 1) := by decide +kernel
theorem dX0_shutOutBy_3 : decode cX0_shutOutBy 3 = .ok (.istore_n 3, 1) := by decide +kernel
theorem dX0_shutOutBy_4 : decode cX0_shutOutBy 4 = .ok (.iload_n 3, 1) := by decide +kernel
theorem dX0_shutOutBy_5 : decode cX0_shutOutBy 5 = .ok (.aload_n 0, 1) := by decide +kernel
theorem dX0_shutOutBy_6 : decode cX0_shutOutBy 6 = .ok (.getfield 15, 3) := by decide +kernel
theorem dX0_shutOutBy_9 : decode cX0_shutOutBy 9 = .ok (.if_icmp .ge 23, 3) := by decide +kernel
theorem dX0_shutOutBy_12 : decode cX0_shutOutBy 12 = .ok (.aload_n 0, 1) := by decide +kernel
theorem dX0_shutOutBy_13 : decode cX0_shutOutBy 13 = .ok (.getfield 9, 3) := by decide +kernel
theorem dX0_shutOutBy_16 : decode cX0_shutOutBy 16 = .ok (.iload_n 3, 1) := by decide +kernel
theorem dX0_shutOutBy_17 : decode cX0_shutOutBy 17 = .ok (.iaload, 1) := by decide +kernel
theorem dX0_shutOutBy_18 : decode cX0_shutOutBy 18 = .ok (.iload_n 1, 1) := by decide +kernel
theorem dX0_shutOutBy_19 : decode cX0_shutOutBy 19 = .ok (.iand, 1) := by decide +kernel
theorem dX0_shutOutBy_20 : decode cX0_shutOutBy 20 = .ok (.ifCond .eq 6, 3) := by decide +kernel
theorem dX0_shutOutBy_23 : decode cX0_shutOutBy 23 = .ok (.iinc 2 1, 3) := by decide +kernel
theorem dX0_shutOutBy_26 : decode cX0_shutOutBy 26 = .ok (.iinc 3 1, 3) := by decide +kernel
theorem dX0_shutOutBy_29 : decode cX0_shutOutBy 29 = .ok (.goto (-25), 3) := by decide +kernel
theorem dX0_shutOutBy_32 : decode cX0_shutOutBy 32 = .ok (.iload_n 2, 1) := by decide +kernel
theorem dX0_shutOutBy_33 : decode cX0_shutOutBy 33 = .ok (.ireturn, 1) := by decide +kernel
theorem dX0_traitToBar_0 : decode cX0_traitToBar 0 = .ok (.iconst 0, 1) := by decide +kernel
theorem dX0_traitToBar_1 : decode cX0_traitToBar 1 = .ok (.istore_n 2, 1) := by decide +kernel
theorem dX0_traitToBar_2 : decode cX0_traitToBar 2 = .ok (.iconst 1, 1) := by decide +kernel
theorem dX0_traitToBar_3 : decode cX0_traitToBar 3 = .ok (.istore_n 3, 1) := by decide +kernel
theorem dX0_traitToBar_4 : decode cX0_traitToBar 4 = .ok (.iload_n 3, 1) := by decide +kernel
theorem dX0_traitToBar_5 : decode cX0_traitToBar 5 = .ok (.iload_n 1, 1) := by decide +kernel
theorem dX0_traitToBar_6 : decode cX0_traitToBar 6 = .ok (.if_icmp .ge 28, 3) := by decide +kernel
theorem dX0_traitToBar_9 : decode cX0_traitToBar 9 = .ok (.aload_n 0, 1) := by decide +kernel
theorem dX0_traitToBar_10 : decode cX0_traitToBar 10 = .ok (.iconst 1, 1) := by decide +kernel
theorem dX0_traitToBar_11 : decode cX0_traitToBar 11 = .ok (.iload_n 3, 1) := by decide +kernel
theorem dX0_traitToBar_12 : decode cX0_traitToBar 12 = .ok (.ishl, 1) := by decide +kernel
theorem dX0_traitToBar_13 : decode cX0_traitToBar 13 = .ok (.invokevirtual 41, 3) := by decide +kernel
theorem dX0_traitToBar_16 : decode cX0_traitToBar 16 = .ok (.aload_n 0, 1) := by decide +kernel
theorem dX0_traitToBar_17 : decode cX0_traitToBar 17 = .ok (.iconst 1, 1) := by decide +kernel
theorem dX0_traitToBar_18 : decode cX0_traitToBar 18 = .ok (.iload_n 2, 1) := by decide +kernel
theorem dX0_traitToBar_19 : decode cX0_traitToBar 19 = .ok (.ishl, 1) := by decide +kernel
theorem dX0_traitToBar_20 : decode cX0_traitToBar 20 = .ok (.invokevirtual 41, 3) := by decide +kernel
theorem dX0_traitToBar_23 : decode cX0_traitToBar 23 = .ok (.if_icmp .le 5, 3) := by decide +kernel
theorem dX0_traitToBar_26 : decode cX0_traitToBar 26 = .ok (.iload_n 3, 1) := by decide +kernel
theorem dX0_traitToBar_27 : decode cX0_traitToBar 27 = .ok (.istore_n 2, 1) := by decide +kernel
theorem dX0_traitToBar_28 : decode cX0_traitToBar 28 = .ok (.iinc 3 1, 3) := by decide +kernel
theorem dX0_traitToBar_31 : decode cX0_traitToBar 31 = .ok (.goto (-27), 3) := by decide +kernel
theorem dX0_traitToBar_34 : decode cX0_traitToBar 34 = .ok (.iload_n 2, 1) := by decide +kernel
theorem dX0_traitToBar_35 : decode cX0_traitToBar 35 = .ok (.ireturn, 1) := by decide +kernel
theorem dX0_fewestBars_0 : decode cX0_fewestBars 0 = .ok (.iconst (-1), 1) := by decide +kernel
theorem dX0_fewestBars_1 : decode cX0_fewestBars 1 = .ok (.istore_n 2, 1) := by decide +kernel
theorem dX0_fewestBars_2 : decode cX0_fewestBars 2 = .ok (.iconst 0, 1) := by decide +kernel
theorem dX0_fewestBars_3 : decode cX0_fewestBars 3 = .ok (.istore_n 3, 1) := by decide +kernel
theorem dX0_fewestBars_4 : decode cX0_fewestBars 4 = .ok (.iload_n 3, 1) := by decide +kernel
theorem dX0_fewestBars_5 : decode cX0_fewestBars 5 = .ok (.iconst 3, 1) := by decide +kernel
theorem dX0_fewestBars_6 : decode cX0_fewestBars 6 = .ok (.if_icmp .gt 23, 3) := by decide +kernel
theorem dX0_fewestBars_9 : decode cX0_fewestBars 9 = .ok (.iload_n 2, 1) := by decide +kernel
theorem dX0_fewestBars_10 : decode cX0_fewestBars 10 = .ok (.iconst (-1), 1) := by decide +kernel
theorem dX0_fewestBars_11 : decode cX0_fewestBars 11 = .ok (.if_icmp .ne 18, 3) := by decide +kernel
theorem dX0_fewestBars_14 : decode cX0_fewestBars 14 = .ok (.aload_n 0, 1) := by decide +kernel
theorem dX0_fewestBars_15 : decode cX0_fewestBars 15 = .ok (.iload_n 3, 1) := by decide +kernel
theorem dX0_fewestBars_16 : decode cX0_fewestBars 16 = .ok (.iconst 0, 1) := by decide +kernel
theorem dX0_fewestBars_17 : decode cX0_fewestBars 17 = .ok (.iconst 0, 1) := by decide +kernel
theorem dX0_fewestBars_18 : decode cX0_fewestBars 18 = .ok (.iload_n 1, 1) := by decide +kernel
theorem dX0_fewestBars_19 : decode cX0_fewestBars 19 = .ok (.invokevirtual 45, 3) := by decide +kernel
theorem dX0_fewestBars_22 : decode cX0_fewestBars 22 = .ok (.istore_n 2, 1) := by decide +kernel
theorem dX0_fewestBars_23 : decode cX0_fewestBars 23 = .ok (.iinc 3 1, 3) := by decide +kernel
theorem dX0_fewestBars_26 : decode cX0_fewestBars 26 = .ok (.goto (-22), 3) := by decide +kernel
theorem dX0_fewestBars_29 : decode cX0_fewestBars 29 = .ok (.iload_n 2, 1) := by decide +kernel
theorem dX0_fewestBars_30 : decode cX0_fewestBars 30 = .ok (.ireturn, 1) := by decide +kernel
theorem dX0_barsWith_0 : decode cX0_barsWith 0 = .ok (.iload_n 1, 1) := by decide +kernel
theorem dX0_barsWith_1 : decode cX0_barsWith 1 = .ok (.ifCond .gt 21, 3) := by decide +kernel
theorem dX0_barsWith_4 : decode cX0_barsWith 4 = .ok (.aload_n 0, 1) := by decide +kernel
theorem dX0_barsWith_5 : decode cX0_barsWith 5 = .ok (.iload_n 3, 1) := by decide +kernel
theorem dX0_barsWith_6 : decode cX0_barsWith 6 = .ok (.invokevirtual 41, 3) := by decide +kernel
theorem dX0_barsWith_9 : decode cX0_barsWith 9 = .ok (.aload_n 0, 1) := by decide +kernel
theorem dX0_barsWith_10 : decode cX0_barsWith 10 = .ok (.getfield 15, 3) := by decide +kernel
theorem dX0_barsWith_13 : decode cX0_barsWith 13 = .ok (.if_icmp .ne 7, 3) := by decide +kernel
theorem dX0_barsWith_16 : decode cX0_barsWith 16 = .ok (.iload_n 3, 1) := by decide +kernel
theorem dX0_barsWith_17 : decode cX0_barsWith 17 = .ok (.goto 4, 3) := by decide +kernel
theorem dX0_barsWith_20 : decode cX0_barsWith 20 = .ok (.iconst (-1), 1) := by decide +kernel
theorem dX0_barsWith_21 : decode cX0_barsWith 21 = .ok (.ireturn, 1) := by decide +kernel
theorem dX0_barsWith_22 : decode cX0_barsWith 22 = .ok (.iload_n 2, 1) := by decide +kernel
theorem dX0_barsWith_23 : decode cX0_barsWith 23 = .ok (.istore 5, 2) := by decide +kernel
theorem dX0_barsWith_25 : decode cX0_barsWith 25 = .ok (.iload 5, 2) := by decide +kernel
theorem dX0_barsWith_27 : decode cX0_barsWith 27 = .ok (.iload 4, 2) := by decide +kernel
theorem dX0_barsWith_29 : decode cX0_barsWith 29 = .ok (.if_icmp .ge 39, 3) := by decide +kernel
theorem dX0_barsWith_32 : decode cX0_barsWith 32 = .ok (.aload_n 0, 1) := by decide +kernel
theorem dX0_barsWith_33 : decode cX0_barsWith 33 = .ok (.iload_n 1, 1) := by decide +kernel
theorem dX0_barsWith_34 : decode cX0_barsWith 34 = .ok (.iconst 1, 1) := by decide +kernel
theorem dX0_barsWith_35 : decode cX0_barsWith 35 = .ok (.isub, 1) := by decide +kernel
theorem dX0_barsWith_36 : decode cX0_barsWith 36 = .ok (.iload 5, 2) := by decide +kernel
theorem dX0_barsWith_38 : decode cX0_barsWith 38 = .ok (.iconst 1, 1) := by decide +kernel
theorem dX0_barsWith_39 : decode cX0_barsWith 39 = .ok (.iadd, 1) := by decide +kernel
theorem dX0_barsWith_40 : decode cX0_barsWith 40 = .ok (.iload_n 3, 1) := by decide +kernel
theorem dX0_barsWith_41 : decode cX0_barsWith 41 = .ok (.iconst 1, 1) := by decide +kernel
theorem dX0_barsWith_42 : decode cX0_barsWith 42 = .ok (.iload 5, 2) := by decide +kernel
theorem dX0_barsWith_44 : decode cX0_barsWith 44 = .ok (.ishl, 1) := by decide +kernel
theorem dX0_barsWith_45 : decode cX0_barsWith 45 = .ok (.ior, 1) := by decide +kernel
theorem dX0_barsWith_46 : decode cX0_barsWith 46 = .ok (.iload 4, 2) := by decide +kernel
theorem dX0_barsWith_48 : decode cX0_barsWith 48 = .ok (.invokevirtual 45, 3) := by decide +kernel
theorem dX0_barsWith_51 : decode cX0_barsWith 51 = .ok (.istore 6, 2) := by decide +kernel
theorem dX0_barsWith_53 : decode cX0_barsWith 53 = .ok (.iload 6, 2) := by decide +kernel
theorem dX0_barsWith_55 : decode cX0_barsWith 55 = .ok (.iconst (-1), 1) := by decide +kernel
theorem dX0_barsWith_56 : decode cX0_barsWith 56 = .ok (.if_icmp .eq 6, 3) := by decide +kernel
theorem dX0_barsWith_59 : decode cX0_barsWith 59 = .ok (.iload 6, 2) := by decide +kernel
theorem dX0_barsWith_61 : decode cX0_barsWith 61 = .ok (.ireturn, 1) := by decide +kernel
theorem dX0_barsWith_62 : decode cX0_barsWith 62 = .ok (.iinc 5 1, 3) := by decide +kernel
theorem dX0_barsWith_65 : decode cX0_barsWith 65 = .ok (.goto (-40), 3) := by decide +kernel
theorem dX0_barsWith_68 : decode cX0_barsWith 68 = .ok (.iconst (-1), 1) := by decide +kernel
theorem dX0_barsWith_69 : decode cX0_barsWith 69 = .ok (.ireturn, 1) := by decide +kernel
theorem dX1_init_0 : decode cX1_init 0 = .ok (.aload_n 0, 1) := by decide +kernel
theorem dX1_init_1 : decode cX1_init 1 = .ok (.invokespecial 3, 3) := by decide +kernel
theorem dX1_init_4 : decode cX1_init 4 = .ok (.aload_n 0, 1) := by decide +kernel
theorem dX1_init_5 : decode cX1_init 5 = .ok (.iconst 4, 1) := by decide +kernel
theorem dX1_init_6 : decode cX1_init 6 = .ok (.newarray .int, 2) := by decide +kernel
theorem dX1_init_8 : decode cX1_init 8 = .ok (.putfield 9, 3) := by decide +kernel
theorem dX1_init_11 : decode cX1_init 11 = .ok (.aload_n 0, 1) := by decide +kernel
theorem dX1_init_12 : decode cX1_init 12 = .ok (.iconst 4, 1) := by decide +kernel
theorem dX1_init_13 : decode cX1_init 13 = .ok (.newarray .int, 2) := by decide +kernel
theorem dX1_init_15 : decode cX1_init 15 = .ok (.putfield 15, 3) := by decide +kernel
theorem dX1_init_18 : decode cX1_init 18 = .ok (.aload_n 0, 1) := by decide +kernel
theorem dX1_init_19 : decode cX1_init 19 = .ok (.iconst 4, 1) := by decide +kernel
theorem dX1_init_20 : decode cX1_init 20 = .ok (.newarray .int, 2) := by decide +kernel
theorem dX1_init_22 : decode cX1_init 22 = .ok (.putfield 18, 3) := by decide +kernel
theorem dX1_init_25 : decode cX1_init 25 = .ok (.aload_n 0, 1) := by decide +kernel
theorem dX1_init_26 : decode cX1_init 26 = .ok (.bipush 9, 2) := by decide +kernel
theorem dX1_init_28 : decode cX1_init 28 = .ok (.newarray .int, 2) := by decide +kernel
theorem dX1_init_30 : decode cX1_init 30 = .ok (.putfield 21, 3) := by decide +kernel
theorem dX1_init_33 : decode cX1_init 33 = .ok (.return_, 1) := by decide +kernel
theorem dX1_startFrom_0 : decode cX1_startFrom 0 = .ok (.aload_n 1, 1) := by decide +kernel
theorem dX1_startFrom_1 : decode cX1_startFrom 1 = .ok (.getfield 24, 3) := by decide +kernel
theorem dX1_startFrom_4 : decode cX1_startFrom 4 = .ok (.iconst 0, 1) := by decide +kernel
theorem dX1_startFrom_5 : decode cX1_startFrom 5 = .ok (.aload_n 0, 1) := by decide +kernel
theorem dX1_startFrom_6 : decode cX1_startFrom 6 = .ok (.getfield 9, 3) := by decide +kernel
theorem dX1_startFrom_9 : decode cX1_startFrom 9 = .ok (.iconst 0, 1) := by decide +kernel
theorem dX1_startFrom_10 : decode cX1_startFrom 10 = .ok (.iconst 4, 1) := by decide +kernel
theorem dX1_startFrom_11 : decode cX1_startFrom 11 = .ok (.invokestatic 27, 3) := by decide +kernel
theorem dX1_startFrom_14 : decode cX1_startFrom 14 = .ok (.aload_n 0, 1) := by decide +kernel
theorem dX1_startFrom_15 : decode cX1_startFrom 15 = .ok (.getfield 15, 3) := by decide +kernel
theorem dX1_startFrom_18 : decode cX1_startFrom 18 = .ok (.iconst 0, 1) := by decide +kernel
theorem dX1_startFrom_19 : decode cX1_startFrom 19 = .ok (.invokestatic 33, 3) := by decide +kernel
theorem dX1_startFrom_22 : decode cX1_startFrom 22 = .ok (.aload_n 0, 1) := by decide +kernel
theorem dX1_startFrom_23 : decode cX1_startFrom 23 = .ok (.getfield 18, 3) := by decide +kernel
theorem dX1_startFrom_26 : decode cX1_startFrom 26 = .ok (.iconst 0, 1) := by decide +kernel
theorem dX1_startFrom_27 : decode cX1_startFrom 27 = .ok (.invokestatic 33, 3) := by decide +kernel
theorem dX1_startFrom_30 : decode cX1_startFrom 30 = .ok (.aload_n 0, 1) := by decide +kernel
theorem dX1_startFrom_31 : decode cX1_startFrom 31 = .ok (.iconst 0, 1) := by decide +kernel
theorem dX1_startFrom_32 : decode cX1_startFrom 32 = .ok (.putfield 39, 3) := by decide +kernel
theorem dX1_startFrom_35 : decode cX1_startFrom 35 = .ok (.aload_n 0, 1) := by decide +kernel
theorem dX1_startFrom_36 : decode cX1_startFrom 36 = .ok (.iconst 0, 1) := by decide +kernel
theorem dX1_startFrom_37 : decode cX1_startFrom 37 = .ok (.putfield 43, 3) := by decide +kernel
theorem dX1_startFrom_40 : decode cX1_startFrom 40 = .ok (.aload_n 0, 1) := by decide +kernel
theorem dX1_startFrom_41 : decode cX1_startFrom 41 = .ok (.iconst 1, 1) := by decide +kernel
theorem dX1_startFrom_42 : decode cX1_startFrom 42 = .ok (.aload_n 1, 1) := by decide +kernel
theorem dX1_startFrom_43 : decode cX1_startFrom 43 = .ok (.getfield 46, 3) := by decide +kernel
theorem dX1_startFrom_46 : decode cX1_startFrom 46 = .ok (.ishl, 1) := by decide +kernel
theorem dX1_startFrom_47 : decode cX1_startFrom 47 = .ok (.iconst 1, 1) := by decide +kernel
theorem dX1_startFrom_48 : decode cX1_startFrom 48 = .ok (.isub, 1) := by decide +kernel
theorem dX1_startFrom_49 : decode cX1_startFrom 49 = .ok (.putfield 49, 3) := by decide +kernel
theorem dX1_startFrom_52 : decode cX1_startFrom 52 = .ok (.aload_n 0, 1) := by decide +kernel
theorem dX1_startFrom_53 : decode cX1_startFrom 53 = .ok (.iconst 0, 1) := by decide +kernel
theorem dX1_startFrom_54 : decode cX1_startFrom 54 = .ok (.putfield 52, 3) := by decide +kernel
theorem dX1_startFrom_57 : decode cX1_startFrom 57 = .ok (.aload_n 0, 1) := by decide +kernel
theorem dX1_startFrom_58 : decode cX1_startFrom 58 = .ok (.iconst 0, 1) := by decide +kernel
theorem dX1_startFrom_59 : decode cX1_startFrom 59 = .ok (.putfield 55, 3) := by decide +kernel
theorem dX1_startFrom_62 : decode cX1_startFrom 62 = .ok (.return_, 1) := by decide +kernel
theorem dX1_copyFrom_0 : decode cX1_copyFrom 0 = .ok (.aload_n 1, 1) := by decide +kernel
theorem dX1_copyFrom_1 : decode cX1_copyFrom 1 = .ok (.getfield 9, 3) := by decide +kernel
theorem dX1_copyFrom_4 : decode cX1_copyFrom 4 = .ok (.iconst 0, 1) := by decide +kernel
theorem dX1_copyFrom_5 : decode cX1_copyFrom 5 = .ok (.aload_n 0, 1) := by decide +kernel
theorem dX1_copyFrom_6 : decode cX1_copyFrom 6 = .ok (.getfield 9, 3) := by decide +kernel
theorem dX1_copyFrom_9 : decode cX1_copyFrom 9 = .ok (.iconst 0, 1) := by decide +kernel
theorem dX1_copyFrom_10 : decode cX1_copyFrom 10 = .ok (.iconst 4, 1) := by decide +kernel
theorem dX1_copyFrom_11 : decode cX1_copyFrom 11 = .ok (.invokestatic 27, 3) := by decide +kernel
theorem dX1_copyFrom_14 : decode cX1_copyFrom 14 = .ok (.aload_n 1, 1) := by decide +kernel
theorem dX1_copyFrom_15 : decode cX1_copyFrom 15 = .ok (.getfield 15, 3) := by decide +kernel
theorem dX1_copyFrom_18 : decode cX1_copyFrom 18 = .ok (.iconst 0, 1) := by decide +kernel
theorem dX1_copyFrom_19 : decode cX1_copyFrom 19 = .ok (.aload_n 0, 1) := by decide +kernel
theorem dX1_copyFrom_20 : decode cX1_copyFrom 20 = .ok (.getfield 15, 3) := by decide +kernel
theorem dX1_copyFrom_23 : decode cX1_copyFrom 23 = .ok (.iconst 0, 1) := by decide +kernel
theorem dX1_copyFrom_24 : decode cX1_copyFrom 24 = .ok (.iconst 4, 1) := by decide +kernel
theorem dX1_copyFrom_25 : decode cX1_copyFrom 25 = .ok (.invokestatic 27, 3) := by decide +kernel
theorem dX1_copyFrom_28 : decode cX1_copyFrom 28 = .ok (.aload_n 1, 1) := by decide +kernel
theorem dX1_copyFrom_29 : decode cX1_copyFrom 29 = .ok (.getfield 18, 3) := by decide +kernel
theorem dX1_copyFrom_32 : decode cX1_copyFrom 32 = .ok (.iconst 0, 1) := by decide +kernel
theorem dX1_copyFrom_33 : decode cX1_copyFrom 33 = .ok (.aload_n 0, 1) := by decide +kernel
theorem dX1_copyFrom_34 : decode cX1_copyFrom 34 = .ok (.getfield 18, 3) := by decide +kernel
theorem dX1_copyFrom_37 : decode cX1_copyFrom 37 = .ok (.iconst 0, 1) := by decide +kernel
theorem dX1_copyFrom_38 : decode cX1_copyFrom 38 = .ok (.iconst 4, 1) := by decide +kernel
theorem dX1_copyFrom_39 : decode cX1_copyFrom 39 = .ok (.invokestatic 27, 3) := by decide +kernel
theorem dX1_copyFrom_42 : decode cX1_copyFrom 42 = .ok (.aload_n 1, 1) := by decide +kernel
theorem dX1_copyFrom_43 : decode cX1_copyFrom 43 = .ok (.getfield 21, 3) := by decide +kernel
theorem dX1_copyFrom_46 : decode cX1_copyFrom 46 = .ok (.iconst 0, 1) := by decide +kernel
theorem dX1_copyFrom_47 : decode cX1_copyFrom 47 = .ok (.aload_n 0, 1) := by decide +kernel
theorem dX1_copyFrom_48 : decode cX1_copyFrom 48 = .ok (.getfield 21, 3) := by decide +kernel
theorem dX1_copyFrom_51 : decode cX1_copyFrom 51 = .ok (.iconst 0, 1) := by decide +kernel
theorem dX1_copyFrom_52 : decode cX1_copyFrom 52 = .ok (.bipush 9, 2) := by decide +kernel
theorem dX1_copyFrom_54 : decode cX1_copyFrom 54 = .ok (.invokestatic 27, 3) := by decide +kernel
theorem dX1_copyFrom_57 : decode cX1_copyFrom 57 = .ok (.aload_n 0, 1) := by decide +kernel
theorem dX1_copyFrom_58 : decode cX1_copyFrom 58 = .ok (.aload_n 1, 1) := by decide +kernel
theorem dX1_copyFrom_59 : decode cX1_copyFrom 59 = .ok (.getfield 39, 3) := by decide +kernel
theorem dX1_copyFrom_62 : decode cX1_copyFrom 62 = .ok (.putfield 39, 3) := by decide +kernel
theorem dX1_copyFrom_65 : decode cX1_copyFrom 65 = .ok (.aload_n 0, 1) := by decide +kernel
theorem dX1_copyFrom_66 : decode cX1_copyFrom 66 = .ok (.aload_n 1, 1) := by decide +kernel
theorem dX1_copyFrom_67 : decode cX1_copyFrom 67 = .ok (.getfield 43, 3) := by decide +kernel
theorem dX1_copyFrom_70 : decode cX1_copyFrom 70 = .ok (.putfield 43, 3) := by decide +kernel
theorem dX1_copyFrom_73 : decode cX1_copyFrom 73 = .ok (.aload_n 0, 1) := by decide +kernel
theorem dX1_copyFrom_74 : decode cX1_copyFrom 74 = .ok (.aload_n 1, 1) := by decide +kernel
theorem dX1_copyFrom_75 : decode cX1_copyFrom 75 = .ok (.getfield 49, 3) := by decide +kernel
theorem dX1_copyFrom_78 : decode cX1_copyFrom 78 = .ok (.putfield 49, 3) := by decide +kernel
theorem dX1_copyFrom_81 : decode cX1_copyFrom 81 = .ok (.aload_n 0, 1) := by decide +kernel
theorem dX1_copyFrom_82 : decode cX1_copyFrom 82 = .ok (.aload_n 1, 1) := by decide +kernel
theorem dX1_copyFrom_83 : decode cX1_copyFrom 83 = .ok (.getfield 52, 3) := by decide +kernel
theorem dX1_copyFrom_86 : decode cX1_copyFrom 86 = .ok (.putfield 52, 3) := by decide +kernel
theorem dX1_copyFrom_89 : decode cX1_copyFrom 89 = .ok (.aload_n 0, 1) := by decide +kernel
theorem dX1_copyFrom_90 : decode cX1_copyFrom 90 = .ok (.aload_n 1, 1) := by decide +kernel
theorem dX1_copyFrom_91 : decode cX1_copyFrom 91 = .ok (.getfield 55, 3) := by decide +kernel
theorem dX1_copyFrom_94 : decode cX1_copyFrom 94 = .ok (.putfield 55, 3) := by decide +kernel
theorem dX1_copyFrom_97 : decode cX1_copyFrom 97 = .ok (.return_, 1) := by decide +kernel
theorem dX1_isThere_0 : decode cX1_isThere 0 = .ok (.aload_n 0, 1) := by decide +kernel
theorem dX1_isThere_1 : decode cX1_isThere 1 = .ok (.getfield 49, 3) := by decide +kernel
theorem dX1_isThere_4 : decode cX1_isThere 4 = .ok (.iload_n 1, 1) := by decide +kernel
theorem dX1_isThere_5 : decode cX1_isThere 5 = .ok (.iushr, 1) := by decide +kernel
theorem dX1_isThere_6 : decode cX1_isThere 6 = .ok (.iconst 1, 1) := by decide +kernel
theorem dX1_isThere_7 : decode cX1_isThere 7 = .ok (.iand, 1) := by decide +kernel
theorem dX1_isThere_8 : decode cX1_isThere 8 = .ok (.ifCond .eq 7, 3) := by decide +kernel
theorem dX1_isThere_11 : decode cX1_isThere 11 = .ok (.iconst 1, 1) := by decide +kernel
theorem dX1_isThere_12 : decode cX1_isThere 12 = .ok (.goto 4, 3) := by decide +kernel
theorem dX1_isThere_15 : decode cX1_isThere 15 = .ok (.iconst 0, 1) := by decide +kernel
theorem dX1_isThere_16 : decode cX1_isThere 16 = .ok (.ireturn, 1) := by decide +kernel
theorem dX1_hasLearnt_0 : decode cX1_hasLearnt 0 = .ok (.iconst 0, 1) := by decide +kernel
theorem dX1_hasLearnt_1 : decode cX1_hasLearnt 1 = .ok (.istore_n 2, 1) := by decide +kernel
theorem dX1_hasLearnt_2 : decode cX1_hasLearnt 2 = .ok (.iload_n 2, 1) := by decide +kernel
theorem dX1_hasLearnt_3 : decode cX1_hasLearnt 3 = .ok (.aload_n 0, 1) := by decide +kernel
theorem dX1_hasLearnt_4 : decode cX1_hasLearnt 4 = .ok (.getfield 39, 3) := by decide +kernel
theorem dX1_hasLearnt_7 : decode cX1_hasLearnt 7 = .ok (.if_icmp .ge 21, 3) := by decide +kernel
theorem dX1_hasLearnt_10 : decode cX1_hasLearnt 10 = .ok (.aload_n 0, 1) := by decide +kernel
theorem dX1_hasLearnt_11 : decode cX1_hasLearnt 11 = .ok (.getfield 21, 3) := by decide +kernel
theorem dX1_hasLearnt_14 : decode cX1_hasLearnt 14 = .ok (.iload_n 2, 1) := by decide +kernel
theorem dX1_hasLearnt_15 : decode cX1_hasLearnt 15 = .ok (.iaload, 1) := by decide +kernel
theorem dX1_hasLearnt_16 : decode cX1_hasLearnt 16 = .ok (.iload_n 1, 1) := by decide +kernel
theorem dX1_hasLearnt_17 : decode cX1_hasLearnt 17 = .ok (.if_icmp .ne 5, 3) := by decide +kernel
theorem dX1_hasLearnt_20 : decode cX1_hasLearnt 20 = .ok (.iconst 1, 1) := by decide +kernel
theorem dX1_hasLearnt_21 : decode cX1_hasLearnt 21 = .ok (.ireturn, 1) := by decide +kernel
theorem dX1_hasLearnt_22 : decode cX1_hasLearnt 22 = .ok (.iinc 2 1, 3) := by decide +kernel
theorem dX1_hasLearnt_25 : decode cX1_hasLearnt 25 = .ok (.goto (-23), 3) := by decide +kernel
theorem dX1_hasLearnt_28 : decode cX1_hasLearnt 28 = .ok (.iconst 0, 1) := by decide +kernel
theorem dX1_hasLearnt_29 : decode cX1_hasLearnt 29 = .ok (.ireturn, 1) := by decide +kernel
theorem dX1_takes_0 : decode cX1_takes 0 = .ok (.aload_n 1, 1) := by decide +kernel
theorem dX1_takes_1 : decode cX1_takes 1 = .ok (.iload_n 2, 1) := by decide +kernel
theorem dX1_takes_2 : decode cX1_takes 2 = .ok (.iload_n 3, 1) := by decide +kernel
theorem dX1_takes_3 : decode cX1_takes 3 = .ok (.invokevirtual 58, 3) := by decide +kernel
theorem dX1_takes_6 : decode cX1_takes 6 = .ok (.ifCond .eq 15, 3) := by decide +kernel
theorem dX1_takes_9 : decode cX1_takes 9 = .ok (.aload_n 0, 1) := by decide +kernel
theorem dX1_takes_10 : decode cX1_takes 10 = .ok (.iload_n 3, 1) := by decide +kernel
theorem dX1_takes_11 : decode cX1_takes 11 = .ok (.invokevirtual 62, 3) := by decide +kernel
theorem dX1_takes_14 : decode cX1_takes 14 = .ok (.ifCond .ne 7, 3) := by decide +kernel
theorem dX1_takes_17 : decode cX1_takes 17 = .ok (.iconst 1, 1) := by decide +kernel
theorem dX1_takes_18 : decode cX1_takes 18 = .ok (.goto 4, 3) := by decide +kernel
theorem dX1_takes_21 : decode cX1_takes 21 = .ok (.iconst 0, 1) := by decide +kernel
theorem dX1_takes_22 : decode cX1_takes 22 = .ok (.ireturn, 1) := by decide +kernel
theorem dX1_canBeMended_0 : decode cX1_canBeMended 0 = .ok (.aload_n 0, 1) := by decide +kernel
theorem dX1_canBeMended_1 : decode cX1_canBeMended 1 = .ok (.getfield 15, 3) := by decide +kernel
theorem dX1_canBeMended_4 : decode cX1_canBeMended 4 = .ok (.iload_n 1, 1) := by decide +kernel
theorem dX1_canBeMended_5 : decode cX1_canBeMended 5 = .ok (.iaload, 1) := by decide +kernel
theorem dX1_canBeMended_6 : decode cX1_canBeMended 6 = .ok (.iconst 1, 1) := by decide +kernel
theorem dX1_canBeMended_7 : decode cX1_canBeMended 7 = .ok (.if_icmp .ne 18, 3) := by decide +kernel
theorem dX1_canBeMended_10 : decode cX1_canBeMended 10 = .ok (.aload_n 0, 1) := by decide +kernel
theorem dX1_canBeMended_11 : decode cX1_canBeMended 11 = .ok (.getfield 9, 3) := by decide +kernel
theorem dX1_canBeMended_14 : decode cX1_canBeMended 14 = .ok (.iload_n 1, 1) := by decide +kernel
theorem dX1_canBeMended_15 : decode cX1_canBeMended 15 = .ok (.iaload, 1) := by decide +kernel
theorem dX1_canBeMended_16 : decode cX1_canBeMended 16 = .ok (.bipush 99, 2) := by decide +kernel
theorem dX1_canBeMended_18 : decode cX1_canBeMended 18 = .ok (.if_icmp .ge 7, 3) := by decide +kernel
theorem dX1_canBeMended_21 : decode cX1_canBeMended 21 = .ok (.iconst 1, 1) := by decide +kernel
theorem dX1_canBeMended_22 : decode cX1_canBeMended 22 = .ok (.goto 4, 3) := by decide +kernel
theorem dX1_canBeMended_25 : decode cX1_canBeMended 25 = .ok (.iconst 0, 1) := by decide +kernel
theorem dX1_canBeMended_26 : decode cX1_canBeMended 26 = .ok (.ireturn, 1) := by decide +kernel
theorem dX1_goOver_0 : decode cX1_goOver 0 = .ok (.aload_n 0, 1) := by decide +kernel
theorem dX1_goOver_1 : decode cX1_goOver 1 = .ok (.getfield 15, 3) := by decide +kernel
theorem dX1_goOver_4 : decode cX1_goOver 4 = .ok (.iload_n 1, 1) := by decide +kernel
theorem dX1_goOver_5 : decode cX1_goOver 5 = .ok (.iconst 1, 1) := by decide +kernel
theorem dX1_goOver_6 : decode cX1_goOver 6 = .ok (.iastore, 1) := by decide +kernel
theorem dX1_goOver_7 : decode cX1_goOver 7 = .ok (.aload_n 0, 1) := by decide +kernel
theorem dX1_goOver_8 : decode cX1_goOver 8 = .ok (.dup, 1) := by decide +kernel
theorem dX1_goOver_9 : decode cX1_goOver 9 = .ok (.getfield 49, 3) := by decide +kernel
theorem dX1_goOver_12 : decode cX1_goOver 12 = .ok (.iconst 1, 1) := by decide +kernel
theorem dX1_goOver_13 : decode cX1_goOver 13 = .ok (.iload_n 2, 1) := by decide +kernel
theorem dX1_goOver_14 : decode cX1_goOver 14 = .ok (.ishl, 1) := by decide +kernel
theorem dX1_goOver_15 : decode cX1_goOver 15 = .ok (.iconst (-1), 1) := by decide +kernel
theorem dX1_goOver_16 : decode cX1_goOver 16 = .ok (.ixor, 1) := by decide +kernel
theorem dX1_goOver_17 : decode cX1_goOver 17 = .ok (.iand, 1) := by decide +kernel
theorem dX1_goOver_18 : decode cX1_goOver 18 = .ok (.putfield 49, 3) := by decide +kernel
theorem dX1_goOver_21 : decode cX1_goOver 21 = .ok (.return_, 1) := by decide +kernel
theorem dX1_cheat_0 : decode cX1_cheat 0 = .ok (.aload_n 0, 1) := by decide +kernel
theorem dX1_cheat_1 : decode cX1_cheat 1 = .ok (.dup, 1) := by decide +kernel
theorem dX1_cheat_2 : decode cX1_cheat 2 = .ok (.getfield 43, 3) := by decide +kernel
theorem dX1_cheat_5 : decode cX1_cheat 5 = .ok (.iconst 1, 1) := by decide +kernel
theorem dX1_cheat_6 : decode cX1_cheat 6 = .ok (.iadd, 1) := by decide +kernel
theorem dX1_cheat_7 : decode cX1_cheat 7 = .ok (.putfield 43, 3) := by decide +kernel
theorem dX1_cheat_10 : decode cX1_cheat 10 = .ok (.aload_n 0, 1) := by decide +kernel
theorem dX1_cheat_11 : decode cX1_cheat 11 = .ok (.iload_n 2, 1) := by decide +kernel
theorem dX1_cheat_12 : decode cX1_cheat 12 = .ok (.invokevirtual 66, 3) := by decide +kernel
theorem dX1_cheat_15 : decode cX1_cheat 15 = .ok (.aload_n 0, 1) := by decide +kernel
theorem dX1_cheat_16 : decode cX1_cheat 16 = .ok (.iload_n 1, 1) := by decide +kernel
theorem dX1_cheat_17 : decode cX1_cheat 17 = .ok (.iconst 1, 1) := by decide +kernel
theorem dX1_cheat_18 : decode cX1_cheat 18 = .ok (.invokevirtual 70, 3) := by decide +kernel
theorem dX1_cheat_21 : decode cX1_cheat 21 = .ok (.return_, 1) := by decide +kernel
theorem dX1_learn_0 : decode cX1_learn 0 = .ok (.aload_n 0, 1) := by decide +kernel
theorem dX1_learn_1 : decode cX1_learn 1 = .ok (.getfield 39, 3) := by decide +kernel
theorem dX1_learn_4 : decode cX1_learn 4 = .ok (.aload_n 0, 1) := by decide +kernel
theorem dX1_learn_5 : decode cX1_learn 5 = .ok (.getfield 21, 3) := by decide +kernel
theorem dX1_learn_8 : decode cX1_learn 8 = .ok (.arraylength, 1) := by decide +kernel
theorem dX1_learn_9 : decode cX1_learn 9 = .ok (.if_icmp .ge 23, 3) := by decide +kernel
theorem dX1_learn_12 : decode cX1_learn 12 = .ok (.aload_n 0, 1) := by decide +kernel
theorem dX1_learn_13 : decode cX1_learn 13 = .ok (.getfield 21, 3) := by decide +kernel
theorem dX1_learn_16 : decode cX1_learn 16 = .ok (.aload_n 0, 1) := by decide +kernel
theorem dX1_learn_17 : decode cX1_learn 17 = .ok (.getfield 39, 3) := by decide +kernel
theorem dX1_learn_20 : decode cX1_learn 20 = .ok (.iload_n 1, 1) := by decide +kernel
theorem dX1_learn_21 : decode cX1_learn 21 = .ok (.iastore, 1) := by decide +kernel
theorem dX1_learn_22 : decode cX1_learn 22 = .ok (.aload_n 0, 1) := by decide +kernel
theorem dX1_learn_23 : decode cX1_learn 23 = .ok (.dup, 1) := by decide +kernel
theorem dX1_learn_24 : decode cX1_learn 24 = .ok (.getfield 39, 3) := by decide +kernel
theorem dX1_learn_27 : decode cX1_learn 27 = .ok (.iconst 1, 1) := by decide +kernel
theorem dX1_learn_28 : decode cX1_learn 28 = .ok (.iadd, 1) := by decide +kernel
theorem dX1_learn_29 : decode cX1_learn 29 = .ok (.putfield 39, 3) := by decide +kernel
theorem dX1_learn_32 : decode cX1_learn 32 = .ok (.return_, 1) := by decide +kernel
theorem dX1_loseStones_0 : decode cX1_loseStones 0 = .ok (.aload_n 0, 1) := by decide +kernel
theorem dX1_loseStones_1 : decode cX1_loseStones 1 = .ok (.getfield 9, 3) := by decide +kernel
theorem dX1_loseStones_4 : decode cX1_loseStones 4 = .ok (.iload_n 1, 1) := by decide +kernel
theorem dX1_loseStones_5 : decode cX1_loseStones 5 = .ok (.iconst 0, 1) := by decide +kernel
theorem dX1_loseStones_6 : decode cX1_loseStones 6 = .ok (.aload_n 0, 1) := by decide +kernel
theorem dX1_loseStones_7 : decode cX1_loseStones 7 = .ok (.getfield 9, 3) := by decide +kernel
theorem dX1_loseStones_10 : decode cX1_loseStones 10 = .ok (.iload_n 1, 1) := by decide +kernel
theorem dX1_loseStones_11 : decode cX1_loseStones 11 = .ok (.iaload, 1) := by decide +kernel
theorem dX1_loseStones_12 : decode cX1_loseStones 12 = .ok (.iload_n 2, 1) := by decide +kernel
theorem dX1_loseStones_13 : decode cX1_loseStones 13 = .ok (.isub, 1) := by decide +kernel
theorem dX1_loseStones_14 : decode cX1_loseStones 14 = .ok (.invokestatic 74, 3) := by decide +kernel
theorem dX1_loseStones_17 : decode cX1_loseStones 17 = .ok (.iastore, 1) := by decide +kernel
theorem dX1_loseStones_18 : decode cX1_loseStones 18 = .ok (.aload_n 0, 1) := by decide +kernel
theorem dX1_loseStones_19 : decode cX1_loseStones 19 = .ok (.getfield 9, 3) := by decide +kernel
theorem dX1_loseStones_22 : decode cX1_loseStones 22 = .ok (.iload_n 1, 1) := by decide +kernel
theorem dX1_loseStones_23 : decode cX1_loseStones 23 = .ok (.iaload, 1) := by decide +kernel
theorem dX1_loseStones_24 : decode cX1_loseStones 24 = .ok (.ifCond .ne 10, 3) := by decide +kernel
theorem dX1_loseStones_27 : decode cX1_loseStones 27 = .ok (.aload_n 0, 1) := by decide +kernel
theorem dX1_loseStones_28 : decode cX1_loseStones 28 = .ok (.getfield 15, 3) := by decide +kernel
theorem dX1_loseStones_31 : decode cX1_loseStones 31 = .ok (.iload_n 1, 1) := by decide +kernel
theorem dX1_loseStones_32 : decode cX1_loseStones 32 = .ok (.iconst 2, 1) := by decide +kernel
theorem dX1_loseStones_33 : decode cX1_loseStones 33 = .ok (.iastore, 1) := by decide +kernel
theorem dX1_loseStones_34 : decode cX1_loseStones 34 = .ok (.return_, 1) := by decide +kernel
theorem dX1_bridgesOf_0 : decode cX1_bridgesOf 0 = .ok (.iconst 0, 1) := by decide +kernel
theorem dX1_bridgesOf_1 : decode cX1_bridgesOf 1 = .ok (.istore_n 2, 1) := by decide +kernel
theorem dX1_bridgesOf_2 : decode cX1_bridgesOf 2 = .ok (.iconst 0, 1) := by decide +kernel
theorem dX1_bridgesOf_3 : decode cX1_bridgesOf 3 = .ok (.istore_n 3, 1) := by decide +kernel
theorem dX1_bridgesOf_4 : decode cX1_bridgesOf 4 = .ok (.iload_n 3, 1) := by decide +kernel
theorem dX1_bridgesOf_5 : decode cX1_bridgesOf 5 = .ok (.iconst 4, 1) := by decide +kernel
theorem dX1_bridgesOf_6 : decode cX1_bridgesOf 6 = .ok (.if_icmp .ge 25, 3) := by decide +kernel
theorem dX1_bridgesOf_9 : decode cX1_bridgesOf 9 = .ok (.aload_n 0, 1) := by decide +kernel
theorem dX1_bridgesOf_10 : decode cX1_bridgesOf 10 = .ok (.getfield 15, 3) := by decide +kernel
theorem dX1_bridgesOf_13 : decode cX1_bridgesOf 13 = .ok (.iload_n 3, 1) := by decide +kernel
theorem dX1_bridgesOf_14 : decode cX1_bridgesOf 14 = .ok (.iaload, 1) := by decide +kernel
theorem dX1_bridgesOf_15 : decode cX1_bridgesOf 15 = .ok (.iload_n 1, 1) := by decide +kernel
theorem dX1_bridgesOf_16 : decode cX1_bridgesOf 16 = .ok (.if_icmp .ne 9, 3) := by decide +kernel
theorem dX1_bridgesOf_19 : decode cX1_bridgesOf 19 = .ok (.iload_n 2, 1) := by decide +kernel
theorem dX1_bridgesOf_20 : decode cX1_bridgesOf 20 = .ok (.iconst 1, 1) := by decide +kernel
theorem dX1_bridgesOf_21 : decode cX1_bridgesOf 21 = .ok (.iload_n 3, 1) := by decide +kernel
theorem dX1_bridgesOf_22 : decode cX1_bridgesOf 22 = .ok (.ishl, 1) := by decide +kernel
theorem dX1_bridgesOf_23 : decode cX1_bridgesOf 23 = .ok (.ior, 1) := by decide +kernel
theorem dX1_bridgesOf_24 : decode cX1_bridgesOf 24 = .ok (.istore_n 2, 1) := by decide +kernel
theorem dX1_bridgesOf_25 : decode cX1_bridgesOf 25 = .ok (.iinc 3 1, 3) := by decide +kernel
theorem dX1_bridgesOf_28 : decode cX1_bridgesOf 28 = .ok (.goto (-24), 3) := by decide +kernel
theorem dX1_bridgesOf_31 : decode cX1_bridgesOf 31 = .ok (.iload_n 2, 1) := by decide +kernel
theorem dX1_bridgesOf_32 : decode cX1_bridgesOf 32 = .ok (.ireturn, 1) := by decide +kernel
theorem dX1_countOpen_0 : decode cX1_countOpen 0 = .ok (.aload_n 0, 1) := by decide +kernel
theorem dX1_countOpen_1 : decode cX1_countOpen 1 = .ok (.iconst 1, 1) := by decide +kernel
theorem dX1_countOpen_2 : decode cX1_countOpen 2 = .ok (.invokevirtual 80, 3) := by decide +kernel
theorem dX1_countOpen_5 : decode cX1_countOpen 5 = .ok (.invokestatic 84, 3) := by decide +kernel
theorem dX1_countOpen_8 : decode cX1_countOpen 8 = .ok (.ireturn, 1) := by decide +kernel
theorem dX2_init_0 : decode cX2_init 0 = .ok (.aload_n 0, 1) := by decide +kernel
theorem dX2_init_1 : decode cX2_init 1 = .ok (.invokespecial 3, 3) := by decide +kernel
theorem dX2_init_4 : decode cX2_init 4 = .ok (.aload_n 0, 1) := by decide +kernel
theorem dX2_init_5 : decode cX2_init 5 = .ok (.bipush 40, 2) := by decide +kernel
theorem dX2_init_7 : decode cX2_init 7 = .ok (.anewarray 9, 3) := by decide +kernel
theorem dX2_init_10 : decode cX2_init 10 = .ok (.putfield 11, 3) := by decide +kernel
theorem dX2_init_13 : decode cX2_init 13 = .ok (.iconst 0, 1) := by decide +kernel
theorem dX2_init_14 : decode cX2_init 14 = .ok (.istore_n 1, 1) := by decide +kernel
theorem dX2_init_15 : decode cX2_init 15 = .ok (.iload_n 1, 1) := by decide +kernel
theorem dX2_init_16 : decode cX2_init 16 = .ok (.bipush 40, 2) := by decide +kernel
theorem dX2_init_18 : decode cX2_init 18 = .ok (.if_icmp .ge 22, 3) := by decide +kernel
theorem dX2_init_21 : decode cX2_init 21 = .ok (.aload_n 0, 1) := by decide +kernel
theorem dX2_init_22 : decode cX2_init 22 = .ok (.getfield 11, 3) := by decide +kernel
theorem dX2_init_25 : decode cX2_init 25 = .ok (.iload_n 1, 1) := by decide +kernel
theorem dX2_init_26 : decode cX2_init 26 = .ok (.new 9, 3) := by decide +kernel
theorem dX2_init_29 : decode cX2_init 29 = .ok (.dup, 1) := by decide +kernel
theorem dX2_init_30 : decode cX2_init 30 = .ok (.invokespecial 17, 3) := by decide +kernel
theorem dX2_init_33 : decode cX2_init 33 = .ok (.aastore, 1) := by decide +kernel
theorem dX2_init_34 : decode cX2_init 34 = .ok (.iinc 1 1, 3) := by decide +kernel
theorem dX2_init_37 : decode cX2_init 37 = .ok (.goto (-22), 3) := by decide +kernel
theorem dX2_init_40 : decode cX2_init 40 = .ok (.return_, 1) := by decide +kernel
theorem dX2_keep_0 : decode cX2_keep 0 = .ok (.aload_n 0, 1) := by decide +kernel
theorem dX2_keep_1 : decode cX2_keep 1 = .ok (.getfield 11, 3) := by decide +kernel
theorem dX2_keep_4 : decode cX2_keep 4 = .ok (.aload_n 0, 1) := by decide +kernel
theorem dX2_keep_5 : decode cX2_keep 5 = .ok (.getfield 18, 3) := by decide +kernel
theorem dX2_keep_8 : decode cX2_keep 8 = .ok (.aaload, 1) := by decide +kernel
theorem dX2_keep_9 : decode cX2_keep 9 = .ok (.aload_n 1, 1) := by decide +kernel
theorem dX2_keep_10 : decode cX2_keep 10 = .ok (.invokevirtual 22, 3) := by decide +kernel
theorem dX2_keep_13 : decode cX2_keep 13 = .ok (.aload_n 0, 1) := by decide +kernel
theorem dX2_keep_14 : decode cX2_keep 14 = .ok (.aload_n 0, 1) := by decide +kernel
theorem dX2_keep_15 : decode cX2_keep 15 = .ok (.getfield 18, 3) := by decide +kernel
theorem dX2_keep_18 : decode cX2_keep 18 = .ok (.iconst 1, 1) := by decide +kernel
theorem dX2_keep_19 : decode cX2_keep 19 = .ok (.iadd, 1) := by decide +kernel
theorem dX2_keep_20 : decode cX2_keep 20 = .ok (.bipush 40, 2) := by decide +kernel
theorem dX2_keep_22 : decode cX2_keep 22 = .ok (.if_icmp .ge 12, 3) := by decide +kernel
theorem dX2_keep_25 : decode cX2_keep 25 = .ok (.aload_n 0, 1) := by decide +kernel
theorem dX2_keep_26 : decode cX2_keep 26 = .ok (.getfield 18, 3) := by decide +kernel
theorem dX2_keep_29 : decode cX2_keep 29 = .ok (.iconst 1, 1) := by decide +kernel
theorem dX2_keep_30 : decode cX2_keep 30 = .ok (.iadd, 1) := by decide +kernel
theorem dX2_keep_31 : decode cX2_keep 31 = .ok (.goto 4, 3) := by decide +kernel
theorem dX2_keep_34 : decode cX2_keep 34 = .ok (.iconst 0, 1) := by decide +kernel
theorem dX2_keep_35 : decode cX2_keep 35 = .ok (.putfield 18, 3) := by decide +kernel
theorem dX2_keep_38 : decode cX2_keep 38 = .ok (.aload_n 0, 1) := by decide +kernel
theorem dX2_keep_39 : decode cX2_keep 39 = .ok (.bipush 40, 2) := by decide +kernel
theorem dX2_keep_41 : decode cX2_keep 41 = .ok (.aload_n 0, 1) := by decide +kernel
theorem dX2_keep_42 : decode cX2_keep 42 = .ok (.getfield 26, 3) := by decide +kernel
theorem dX2_keep_45 : decode cX2_keep 45 = .ok (.iconst 1, 1) := by decide +kernel
theorem dX2_keep_46 : decode cX2_keep 46 = .ok (.iadd, 1) := by decide +kernel
theorem dX2_keep_47 : decode cX2_keep 47 = .ok (.invokestatic 29, 3) := by decide +kernel
theorem dX2_keep_50 : decode cX2_keep 50 = .ok (.putfield 26, 3) := by decide +kernel
theorem dX2_keep_53 : decode cX2_keep 53 = .ok (.return_, 1) := by decide +kernel
theorem dX2_giveBack_0 : decode cX2_giveBack 0 = .ok (.aload_n 0, 1) := by decide +kernel
theorem dX2_giveBack_1 : decode cX2_giveBack 1 = .ok (.getfield 26, 3) := by decide +kernel
theorem dX2_giveBack_4 : decode cX2_giveBack 4 = .ok (.ifCond .gt 5, 3) := by decide +kernel
theorem dX2_giveBack_7 : decode cX2_giveBack 7 = .ok (.iconst 0, 1) := by decide +kernel
theorem dX2_giveBack_8 : decode cX2_giveBack 8 = .ok (.ireturn, 1) := by decide +kernel
theorem dX2_giveBack_9 : decode cX2_giveBack 9 = .ok (.aload_n 0, 1) := by decide +kernel
theorem dX2_giveBack_10 : decode cX2_giveBack 10 = .ok (.dup, 1) := by decide +kernel
theorem dX2_giveBack_11 : decode cX2_giveBack 11 = .ok (.getfield 26, 3) := by decide +kernel
theorem dX2_giveBack_14 : decode cX2_giveBack 14 = .ok (.iconst 1, 1) := by decide +kernel
theorem dX2_giveBack_15 : decode cX2_giveBack 15 = .ok (.isub, 1) := by decide +kernel
theorem dX2_giveBack_16 : decode cX2_giveBack 16 = .ok (.putfield 26, 3) := by decide +kernel
theorem dX2_giveBack_19 : decode cX2_giveBack 19 = .ok (.aload_n 0, 1) := by decide +kernel
theorem dX2_giveBack_20 : decode cX2_giveBack 20 = .ok (.aload_n 0, 1) := by decide +kernel
theorem dX2_giveBack_21 : decode cX2_giveBack 21 = .ok (.getfield 18, 3) := by decide +kernel
theorem dX2_giveBack_24 : decode cX2_giveBack 24 = .ok (.ifCond .le 12, 3) := by decide +kernel
theorem dX2_giveBack_27 : decode cX2_giveBack 27 = .ok (.aload_n 0, 1) := by decide +kernel
theorem dX2_giveBack_28 : decode cX2_giveBack 28 = .ok (.getfield 18, 3) := by decide +kernel
theorem dX2_giveBack_31 : decode cX2_giveBack 31 = .ok (.iconst 1, 1) := by decide +kernel
theorem dX2_giveBack_32 : decode cX2_giveBack 32 = .ok (.isub, 1) := by decide +kernel
theorem dX2_giveBack_33 : decode cX2_giveBack 33 = .ok (.goto 5, 3) := by decide +kernel
theorem dX2_giveBack_36 : decode cX2_giveBack 36 = .ok (.bipush 39, 2) := by decide +kernel
theorem dX2_giveBack_38 : decode cX2_giveBack 38 = .ok (.putfield 18, 3) := by decide +kernel
theorem dX2_giveBack_41 : decode cX2_giveBack 41 = .ok (.aload_n 1, 1) := by decide +kernel
theorem dX2_giveBack_42 : decode cX2_giveBack 42 = .ok (.aload_n 0, 1) := by decide +kernel
theorem dX2_giveBack_43 : decode cX2_giveBack 43 = .ok (.getfield 11, 3) := by decide +kernel
theorem dX2_giveBack_46 : decode cX2_giveBack 46 = .ok (.aload_n 0, 1) := by decide +kernel
theorem dX2_giveBack_47 : decode cX2_giveBack 47 = .ok (.getfield 18, 3) := by decide +kernel
theorem dX2_giveBack_50 : decode cX2_giveBack 50 = .ok (.aaload, 1) := by decide +kernel
theorem dX2_giveBack_51 : decode cX2_giveBack 51 = .ok (.invokevirtual 22, 3) := by decide +kernel
theorem dX2_giveBack_54 : decode cX2_giveBack 54 = .ok (.iconst 1, 1) := by decide +kernel
theorem dX2_giveBack_55 : decode cX2_giveBack 55 = .ok (.ireturn, 1) := by decide +kernel
theorem dX3_init_0 : decode cX3_init 0 = .ok (.aload_n 0, 1) := by decide +kernel
theorem dX3_init_1 : decode cX3_init 1 = .ok (.invokespecial 3, 3) := by decide +kernel
theorem dX3_init_4 : decode cX3_init 4 = .ok (.aload_n 0, 1) := by decide +kernel
theorem dX3_init_5 : decode cX3_init 5 = .ok (.bipush 9, 2) := by decide +kernel
theorem dX3_init_7 : decode cX3_init 7 = .ok (.newarray .int, 2) := by decide +kernel
theorem dX3_init_9 : decode cX3_init 9 = .ok (.putfield 9, 3) := by decide +kernel
theorem dX3_init_12 : decode cX3_init 12 = .ok (.aload_n 0, 1) := by decide +kernel
theorem dX3_init_13 : decode cX3_init 13 = .ok (.iconst 4, 1) := by decide +kernel
theorem dX3_init_14 : decode cX3_init 14 = .ok (.newarray .int, 2) := by decide +kernel
theorem dX3_init_16 : decode cX3_init 16 = .ok (.putfield 15, 3) := by decide +kernel
theorem dX3_init_19 : decode cX3_init 19 = .ok (.aload_n 0, 1) := by decide +kernel
theorem dX3_init_20 : decode cX3_init 20 = .ok (.new 18, 3) := by decide +kernel
theorem dX3_init_23 : decode cX3_init 23 = .ok (.dup, 1) := by decide +kernel
theorem dX3_init_24 : decode cX3_init 24 = .ok (.invokespecial 20, 3) := by decide +kernel
theorem dX3_init_27 : decode cX3_init 27 = .ok (.putfield 21, 3) := by decide +kernel
theorem dX3_init_30 : decode cX3_init 30 = .ok (.return_, 1) := by decide +kernel
theorem dX3_wearsOf_0 : decode cX3_wearsOf 0 = .ok (.aload_n 0, 1) := by decide +kernel
theorem dX3_wearsOf_1 : decode cX3_wearsOf 1 = .ok (.aload_n 1, 1) := by decide +kernel
theorem dX3_wearsOf_2 : decode cX3_wearsOf 2 = .ok (.aload_n 2, 1) := by decide +kernel
theorem dX3_wearsOf_3 : decode cX3_wearsOf 3 = .ok (.iload_n 3, 1) := by decide +kernel
theorem dX3_wearsOf_4 : decode cX3_wearsOf 4 = .ok (.invokevirtual 25, 3) := by decide +kernel
theorem dX3_wearsOf_7 : decode cX3_wearsOf 7 = .ok (.bipush 9, 2) := by decide +kernel
theorem dX3_wearsOf_9 : decode cX3_wearsOf 9 = .ok (.aload_n 1, 1) := by decide +kernel
theorem dX3_wearsOf_10 : decode cX3_wearsOf 10 = .ok (.getfield 29, 3) := by decide +kernel
theorem dX3_wearsOf_13 : decode cX3_wearsOf 13 = .ok (.aload_n 0, 1) := by decide +kernel
theorem dX3_wearsOf_14 : decode cX3_wearsOf 14 = .ok (.getfield 9, 3) := by decide +kernel
theorem dX3_wearsOf_17 : decode cX3_wearsOf 17 = .ok (.invokevirtual 35, 3) := by decide +kernel
theorem dX3_wearsOf_20 : decode cX3_wearsOf 20 = .ok (.invokestatic 41, 3) := by decide +kernel
theorem dX3_wearsOf_23 : decode cX3_wearsOf 23 = .ok (.ireturn, 1) := by decide +kernel
theorem dX3_mendsOf_0 : decode cX3_mendsOf 0 = .ok (.aload_n 0, 1) := by decide +kernel
theorem dX3_mendsOf_1 : decode cX3_mendsOf 1 = .ok (.aload_n 1, 1) := by decide +kernel
theorem dX3_mendsOf_2 : decode cX3_mendsOf 2 = .ok (.aload_n 2, 1) := by decide +kernel
theorem dX3_mendsOf_3 : decode cX3_mendsOf 3 = .ok (.iload_n 3, 1) := by decide +kernel
theorem dX3_mendsOf_4 : decode cX3_mendsOf 4 = .ok (.invokevirtual 25, 3) := by decide +kernel
theorem dX3_mendsOf_7 : decode cX3_mendsOf 7 = .ok (.bipush 99, 2) := by decide +kernel
theorem dX3_mendsOf_9 : decode cX3_mendsOf 9 = .ok (.aload_n 1, 1) := by decide +kernel
theorem dX3_mendsOf_10 : decode cX3_mendsOf 10 = .ok (.getfield 45, 3) := by decide +kernel
theorem dX3_mendsOf_13 : decode cX3_mendsOf 13 = .ok (.aload_n 0, 1) := by decide +kernel
theorem dX3_mendsOf_14 : decode cX3_mendsOf 14 = .ok (.getfield 9, 3) := by decide +kernel
theorem dX3_mendsOf_17 : decode cX3_mendsOf 17 = .ok (.invokevirtual 35, 3) := by decide +kernel
theorem dX3_mendsOf_20 : decode cX3_mendsOf 20 = .ok (.invokestatic 41, 3) := by decide +kernel
theorem dX3_mendsOf_23 : decode cX3_mendsOf 23 = .ok (.ireturn, 1) := by decide +kernel
theorem dX3_asksOf_0 : decode cX3_asksOf 0 = .ok (.aload_n 0, 1) := by decide +kernel
theorem dX3_asksOf_1 : decode cX3_asksOf 1 = .ok (.aload_n 1, 1) := by decide +kernel
theorem dX3_asksOf_2 : decode cX3_asksOf 2 = .ok (.aload_n 2, 1) := by decide +kernel
theorem dX3_asksOf_3 : decode cX3_asksOf 3 = .ok (.iload_n 3, 1) := by decide +kernel
theorem dX3_asksOf_4 : decode cX3_asksOf 4 = .ok (.invokevirtual 25, 3) := by decide +kernel
theorem dX3_asksOf_7 : decode cX3_asksOf 7 = .ok (.aload_n 0, 1) := by decide +kernel
theorem dX3_asksOf_8 : decode cX3_asksOf 8 = .ok (.getfield 9, 3) := by decide +kernel
theorem dX3_asksOf_11 : decode cX3_asksOf 11 = .ok (.iconst 5, 1) := by decide +kernel
theorem dX3_asksOf_12 : decode cX3_asksOf 12 = .ok (.aload_n 1, 1) := by decide +kernel
theorem dX3_asksOf_13 : decode cX3_asksOf 13 = .ok (.getfield 48, 3) := by decide +kernel
theorem dX3_asksOf_16 : decode cX3_asksOf 16 = .ok (.iload 4, 2) := by decide +kernel
theorem dX3_asksOf_18 : decode cX3_asksOf 18 = .ok (.iaload, 1) := by decide +kernel
theorem dX3_asksOf_19 : decode cX3_asksOf 19 = .ok (.iastore, 1) := by decide +kernel
theorem dX3_asksOf_20 : decode cX3_asksOf 20 = .ok (.aload_n 0, 1) := by decide +kernel
theorem dX3_asksOf_21 : decode cX3_asksOf 21 = .ok (.getfield 9, 3) := by decide +kernel
theorem dX3_asksOf_24 : decode cX3_asksOf 24 = .ok (.bipush 6, 2) := by decide +kernel
theorem dX3_asksOf_26 : decode cX3_asksOf 26 = .ok (.aload_n 1, 1) := by decide +kernel
theorem dX3_asksOf_27 : decode cX3_asksOf 27 = .ok (.getfield 51, 3) := by decide +kernel
theorem dX3_asksOf_30 : decode cX3_asksOf 30 = .ok (.iload 4, 2) := by decide +kernel
theorem dX3_asksOf_32 : decode cX3_asksOf 32 = .ok (.iaload, 1) := by decide +kernel
theorem dX3_asksOf_33 : decode cX3_asksOf 33 = .ok (.invokestatic 54, 3) := by decide +kernel
theorem dX3_asksOf_36 : decode cX3_asksOf 36 = .ok (.iastore, 1) := by decide +kernel
theorem dX3_asksOf_37 : decode cX3_asksOf 37 = .ok (.bipush 99, 2) := by decide +kernel
theorem dX3_asksOf_39 : decode cX3_asksOf 39 = .ok (.aload_n 1, 1) := by decide +kernel
theorem dX3_asksOf_40 : decode cX3_asksOf 40 = .ok (.getfield 60, 3) := by decide +kernel
theorem dX3_asksOf_43 : decode cX3_asksOf 43 = .ok (.aload_n 0, 1) := by decide +kernel
theorem dX3_asksOf_44 : decode cX3_asksOf 44 = .ok (.getfield 9, 3) := by decide +kernel
theorem dX3_asksOf_47 : decode cX3_asksOf 47 = .ok (.invokevirtual 35, 3) := by decide +kernel
theorem dX3_asksOf_50 : decode cX3_asksOf 50 = .ok (.invokestatic 41, 3) := by decide +kernel
theorem dX3_asksOf_53 : decode cX3_asksOf 53 = .ok (.ireturn, 1) := by decide +kernel
theorem dX3_lookAt_0 : decode cX3_lookAt 0 = .ok (.aload_n 0, 1) := by decide +kernel
theorem dX3_lookAt_1 : decode cX3_lookAt 1 = .ok (.getfield 9, 3) := by decide +kernel
theorem dX3_lookAt_4 : decode cX3_lookAt 4 = .ok (.iconst 0, 1) := by decide +kernel
theorem dX3_lookAt_5 : decode cX3_lookAt 5 = .ok (.aload_n 2, 1) := by decide +kernel
theorem dX3_lookAt_6 : decode cX3_lookAt 6 = .ok (.getfield 63, 3) := by decide +kernel
theorem dX3_lookAt_9 : decode cX3_lookAt 9 = .ok (.iload_n 3, 1) := by decide +kernel
theorem dX3_lookAt_10 : decode cX3_lookAt 10 = .ok (.iaload, 1) := by decide +kernel
theorem dX3_lookAt_11 : decode cX3_lookAt 11 = .ok (.iastore, 1) := by decide +kernel
theorem dX3_lookAt_12 : decode cX3_lookAt 12 = .ok (.aload_n 0, 1) := by decide +kernel
theorem dX3_lookAt_13 : decode cX3_lookAt 13 = .ok (.getfield 9, 3) := by decide +kernel
theorem dX3_lookAt_16 : decode cX3_lookAt 16 = .ok (.iconst 1, 1) := by decide +kernel
theorem dX3_lookAt_17 : decode cX3_lookAt 17 = .ok (.aload_n 1, 1) := by decide +kernel
theorem dX3_lookAt_18 : decode cX3_lookAt 18 = .ok (.getfield 66, 3) := by decide +kernel
theorem dX3_lookAt_21 : decode cX3_lookAt 21 = .ok (.iload_n 3, 1) := by decide +kernel
theorem dX3_lookAt_22 : decode cX3_lookAt 22 = .ok (.iaload, 1) := by decide +kernel
theorem dX3_lookAt_23 : decode cX3_lookAt 23 = .ok (.iastore, 1) := by decide +kernel
theorem dX3_lookAt_24 : decode cX3_lookAt 24 = .ok (.aload_n 0, 1) := by decide +kernel
theorem dX3_lookAt_25 : decode cX3_lookAt 25 = .ok (.getfield 9, 3) := by decide +kernel
theorem dX3_lookAt_28 : decode cX3_lookAt 28 = .ok (.iconst 2, 1) := by decide +kernel
theorem dX3_lookAt_29 : decode cX3_lookAt 29 = .ok (.aload_n 2, 1) := by decide +kernel
theorem dX3_lookAt_30 : decode cX3_lookAt 30 = .ok (.getfield 69, 3) := by decide +kernel
theorem dX3_lookAt_33 : decode cX3_lookAt 33 = .ok (.iastore, 1) := by decide +kernel
theorem dX3_lookAt_34 : decode cX3_lookAt 34 = .ok (.aload_n 0, 1) := by decide +kernel
theorem dX3_lookAt_35 : decode cX3_lookAt 35 = .ok (.getfield 9, 3) := by decide +kernel
theorem dX3_lookAt_38 : decode cX3_lookAt 38 = .ok (.iconst 3, 1) := by decide +kernel
theorem dX3_lookAt_39 : decode cX3_lookAt 39 = .ok (.aload_n 2, 1) := by decide +kernel
theorem dX3_lookAt_40 : decode cX3_lookAt 40 = .ok (.getfield 73, 3) := by decide +kernel
theorem dX3_lookAt_43 : decode cX3_lookAt 43 = .ok (.iload_n 3, 1) := by decide +kernel
theorem dX3_lookAt_44 : decode cX3_lookAt 44 = .ok (.iaload, 1) := by decide +kernel
theorem dX3_lookAt_45 : decode cX3_lookAt 45 = .ok (.iastore, 1) := by decide +kernel
theorem dX3_lookAt_46 : decode cX3_lookAt 46 = .ok (.aload_n 0, 1) := by decide +kernel
theorem dX3_lookAt_47 : decode cX3_lookAt 47 = .ok (.getfield 9, 3) := by decide +kernel
theorem dX3_lookAt_50 : decode cX3_lookAt 50 = .ok (.iconst 4, 1) := by decide +kernel
theorem dX3_lookAt_51 : decode cX3_lookAt 51 = .ok (.iload_n 3, 1) := by decide +kernel
theorem dX3_lookAt_52 : decode cX3_lookAt 52 = .ok (.iastore, 1) := by decide +kernel
theorem dX3_lookAt_53 : decode cX3_lookAt 53 = .ok (.aload_n 0, 1) := by decide +kernel
theorem dX3_lookAt_54 : decode cX3_lookAt 54 = .ok (.getfield 9, 3) := by decide +kernel
theorem dX3_lookAt_57 : decode cX3_lookAt 57 = .ok (.iconst 5, 1) := by decide +kernel
theorem dX3_lookAt_58 : decode cX3_lookAt 58 = .ok (.iconst 0, 1) := by decide +kernel
theorem dX3_lookAt_59 : decode cX3_lookAt 59 = .ok (.iastore, 1) := by decide +kernel
theorem dX3_lookAt_60 : decode cX3_lookAt 60 = .ok (.aload_n 0, 1) := by decide +kernel
theorem dX3_lookAt_61 : decode cX3_lookAt 61 = .ok (.getfield 9, 3) := by decide +kernel
theorem dX3_lookAt_64 : decode cX3_lookAt 64 = .ok (.bipush 6, 2) := by decide +kernel
theorem dX3_lookAt_66 : decode cX3_lookAt 66 = .ok (.iconst 0, 1) := by decide +kernel
theorem dX3_lookAt_67 : decode cX3_lookAt 67 = .ok (.iastore, 1) := by decide +kernel
theorem dX3_lookAt_68 : decode cX3_lookAt 68 = .ok (.aload_n 0, 1) := by decide +kernel
theorem dX3_lookAt_69 : decode cX3_lookAt 69 = .ok (.getfield 9, 3) := by decide +kernel
theorem dX3_lookAt_72 : decode cX3_lookAt 72 = .ok (.bipush 7, 2) := by decide +kernel
theorem dX3_lookAt_74 : decode cX3_lookAt 74 = .ok (.aload_n 2, 1) := by decide +kernel
theorem dX3_lookAt_75 : decode cX3_lookAt 75 = .ok (.invokevirtual 76, 3) := by decide +kernel
theorem dX3_lookAt_78 : decode cX3_lookAt 78 = .ok (.iastore, 1) := by decide +kernel
theorem dX3_lookAt_79 : decode cX3_lookAt 79 = .ok (.aload_n 0, 1) := by decide +kernel
theorem dX3_lookAt_80 : decode cX3_lookAt 80 = .ok (.getfield 9, 3) := by decide +kernel
theorem dX3_lookAt_83 : decode cX3_lookAt 83 = .ok (.bipush 8, 2) := by decide +kernel
theorem dX3_lookAt_85 : decode cX3_lookAt 85 = .ok (.aload_n 2, 1) := by decide +kernel
theorem dX3_lookAt_86 : decode cX3_lookAt 86 = .ok (.getfield 80, 3) := by decide +kernel
theorem dX3_lookAt_89 : decode cX3_lookAt 89 = .ok (.iastore, 1) := by decide +kernel
theorem dX3_lookAt_90 : decode cX3_lookAt 90 = .ok (.return_, 1) := by decide +kernel
theorem dX3_heldTo_0 : decode cX3_heldTo 0 = .ok (.iconst 0, 1) := by decide +kernel
theorem dX3_heldTo_1 : decode cX3_heldTo 1 = .ok (.iload_n 0, 1) := by decide +kernel
theorem dX3_heldTo_2 : decode cX3_heldTo 2 = .ok (.iload_n 1, 1) := by decide +kernel
theorem dX3_heldTo_3 : decode cX3_heldTo 3 = .ok (.invokestatic 83, 3) := by decide +kernel
theorem dX3_heldTo_6 : decode cX3_heldTo 6 = .ok (.invokestatic 88, 3) := by decide +kernel
theorem dX3_heldTo_9 : decode cX3_heldTo 9 = .ok (.ireturn, 1) := by decide +kernel
theorem dX3_passYears_0 : decode cX3_passYears 0 = .ok (.iconst 0, 1) := by decide +kernel
theorem dX3_passYears_1 : decode cX3_passYears 1 = .ok (.istore 5, 2) := by decide +kernel
theorem dX3_passYears_3 : decode cX3_passYears 3 = .ok (.iload 5, 2) := by decide +kernel
theorem dX3_passYears_5 : decode cX3_passYears 5 = .ok (.iload_n 3, 1) := by decide +kernel
theorem dX3_passYears_6 : decode cX3_passYears 6 = .ok (.if_icmp .ge 36, 3) := by decide +kernel
theorem dX3_passYears_9 : decode cX3_passYears 9 = .ok (.aload_n 0, 1) := by decide +kernel
theorem dX3_passYears_10 : decode cX3_passYears 10 = .ok (.aload_n 1, 1) := by decide +kernel
theorem dX3_passYears_11 : decode cX3_passYears 11 = .ok (.aload_n 2, 1) := by decide +kernel
theorem dX3_passYears_12 : decode cX3_passYears 12 = .ok (.aload_n 1, 1) := by decide +kernel
theorem dX3_passYears_13 : decode cX3_passYears 13 = .ok (.getfield 91, 3) := by decide +kernel
theorem dX3_passYears_16 : decode cX3_passYears 16 = .ok (.iload 4, 2) := by decide +kernel
theorem dX3_passYears_18 : decode cX3_passYears 18 = .ok (.aload_n 2, 1) := by decide +kernel
theorem dX3_passYears_19 : decode cX3_passYears 19 = .ok (.getfield 69, 3) := by decide +kernel
theorem dX3_passYears_22 : decode cX3_passYears 22 = .ok (.invokestatic 94, 3) := by decide +kernel
theorem dX3_passYears_25 : decode cX3_passYears 25 = .ok (.ifCond .eq 7, 3) := by decide +kernel
theorem dX3_passYears_28 : decode cX3_passYears 28 = .ok (.iconst 1, 1) := by decide +kernel
theorem dX3_passYears_29 : decode cX3_passYears 29 = .ok (.goto 4, 3) := by decide +kernel
theorem dX3_passYears_32 : decode cX3_passYears 32 = .ok (.iconst 0, 1) := by decide +kernel
theorem dX3_passYears_33 : decode cX3_passYears 33 = .ok (.invokevirtual 98, 3) := by decide +kernel
theorem dX3_passYears_36 : decode cX3_passYears 36 = .ok (.iinc 5 1, 3) := by decide +kernel
theorem dX3_passYears_39 : decode cX3_passYears 39 = .ok (.goto (-36), 3) := by decide +kernel
theorem dX3_passYears_42 : decode cX3_passYears 42 = .ok (.return_, 1) := by decide +kernel
theorem dX3_lookAhead_0 : decode cX3_lookAhead 0 = .ok (.aload_n 0, 1) := by decide +kernel
theorem dX3_lookAhead_1 : decode cX3_lookAhead 1 = .ok (.getfield 21, 3) := by decide +kernel
theorem dX3_lookAhead_4 : decode cX3_lookAhead 4 = .ok (.aload_n 2, 1) := by decide +kernel
theorem dX3_lookAhead_5 : decode cX3_lookAhead 5 = .ok (.invokevirtual 101, 3) := by decide +kernel
theorem dX3_lookAhead_8 : decode cX3_lookAhead 8 = .ok (.aload_n 0, 1) := by decide +kernel
theorem dX3_lookAhead_9 : decode cX3_lookAhead 9 = .ok (.aload_n 1, 1) := by decide +kernel
theorem dX3_lookAhead_10 : decode cX3_lookAhead 10 = .ok (.aload_n 0, 1) := by decide +kernel
theorem dX3_lookAhead_11 : decode cX3_lookAhead 11 = .ok (.getfield 21, 3) := by decide +kernel
theorem dX3_lookAhead_14 : decode cX3_lookAhead 14 = .ok (.iload_n 3, 1) := by decide +kernel
theorem dX3_lookAhead_15 : decode cX3_lookAhead 15 = .ok (.iload 4, 2) := by decide +kernel
theorem dX3_lookAhead_17 : decode cX3_lookAhead 17 = .ok (.invokevirtual 105, 3) := by decide +kernel
theorem dX3_lookAhead_20 : decode cX3_lookAhead 20 = .ok (.aload_n 0, 1) := by decide +kernel
theorem dX3_lookAhead_21 : decode cX3_lookAhead 21 = .ok (.getfield 21, 3) := by decide +kernel
theorem dX3_lookAhead_24 : decode cX3_lookAhead 24 = .ok (.areturn, 1) := by decide +kernel
theorem dX3_yearsToFall_0 : decode cX3_yearsToFall 0 = .ok (.aload_n 0, 1) := by decide +kernel
theorem dX3_yearsToFall_1 : decode cX3_yearsToFall 1 = .ok (.getfield 21, 3) := by decide +kernel
theorem dX3_yearsToFall_4 : decode cX3_yearsToFall 4 = .ok (.aload_n 2, 1) := by decide +kernel
theorem dX3_yearsToFall_5 : decode cX3_yearsToFall 5 = .ok (.invokevirtual 101, 3) := by decide +kernel
theorem dX3_yearsToFall_8 : decode cX3_yearsToFall 8 = .ok (.aload_n 0, 1) := by decide +kernel
theorem dX3_yearsToFall_9 : decode cX3_yearsToFall 9 = .ok (.getfield 21, 3) := by decide +kernel
theorem dX3_yearsToFall_12 : decode cX3_yearsToFall 12 = .ok (.getfield 63, 3) := by decide +kernel
theorem dX3_yearsToFall_15 : decode cX3_yearsToFall 15 = .ok (.iload_n 3, 1) := by decide +kernel
theorem dX3_yearsToFall_16 : decode cX3_yearsToFall 16 = .ok (.dup2, 1) := by decide +kernel
theorem dX3_yearsToFall_17 : decode cX3_yearsToFall 17 = .ok (.iaload, 1) := by decide +kernel
theorem dX3_yearsToFall_18 : decode cX3_yearsToFall 18 = .ok (.iload 4, 2) := by decide +kernel
theorem dX3_yearsToFall_20 : decode cX3_yearsToFall 20 = .ok (.iadd, 1) := by decide +kernel
theorem dX3_yearsToFall_21 : decode cX3_yearsToFall 21 = .ok (.iastore, 1) := by decide +kernel
theorem dX3_yearsToFall_22 : decode cX3_yearsToFall 22 = .ok (.iconst 0, 1) := by decide +kernel
theorem dX3_yearsToFall_23 : decode cX3_yearsToFall 23 = .ok (.istore 5, 2) := by decide +kernel
theorem dX3_yearsToFall_25 : decode cX3_yearsToFall 25 = .ok (.iload 5, 2) := by decide +kernel
theorem dX3_yearsToFall_27 : decode cX3_yearsToFall 27 = .ok (.sipush 200, 3) := by decide +kernel
theorem dX3_yearsToFall_30 : decode cX3_yearsToFall 30 = .ok (.if_icmp .gt 32, 3) := by decide +kernel
theorem dX3_yearsToFall_33 : decode cX3_yearsToFall 33 = .ok (.aload_n 0, 1) := by decide +kernel
theorem dX3_yearsToFall_34 : decode cX3_yearsToFall 34 = .ok (.getfield 21, 3) := by decide +kernel
theorem dX3_yearsToFall_37 : decode cX3_yearsToFall 37 = .ok (.getfield 109, 3) := by decide +kernel
theorem dX3_yearsToFall_40 : decode cX3_yearsToFall 40 = .ok (.iload_n 3, 1) := by decide +kernel
theorem dX3_yearsToFall_41 : decode cX3_yearsToFall 41 = .ok (.iaload, 1) := by decide +kernel
theorem dX3_yearsToFall_42 : decode cX3_yearsToFall 42 = .ok (.iconst 1, 1) := by decide +kernel
theorem dX3_yearsToFall_43 : decode cX3_yearsToFall 43 = .ok (.if_icmp .ne 19, 3) := by decide +kernel
theorem dX3_yearsToFall_46 : decode cX3_yearsToFall 46 = .ok (.aload_n 0, 1) := by decide +kernel
theorem dX3_yearsToFall_47 : decode cX3_yearsToFall 47 = .ok (.aload_n 1, 1) := by decide +kernel
theorem dX3_yearsToFall_48 : decode cX3_yearsToFall 48 = .ok (.aload_n 0, 1) := by decide +kernel
theorem dX3_yearsToFall_49 : decode cX3_yearsToFall 49 = .ok (.getfield 21, 3) := by decide +kernel
theorem dX3_yearsToFall_52 : decode cX3_yearsToFall 52 = .ok (.iconst 0, 1) := by decide +kernel
theorem dX3_yearsToFall_53 : decode cX3_yearsToFall 53 = .ok (.invokevirtual 98, 3) := by decide +kernel
theorem dX3_yearsToFall_56 : decode cX3_yearsToFall 56 = .ok (.iinc 5 1, 3) := by decide +kernel
theorem dX3_yearsToFall_59 : decode cX3_yearsToFall 59 = .ok (.goto (-34), 3) := by decide +kernel
theorem dX3_yearsToFall_62 : decode cX3_yearsToFall 62 = .ok (.iload 5, 2) := by decide +kernel
theorem dX3_yearsToFall_64 : decode cX3_yearsToFall 64 = .ok (.ireturn, 1) := by decide +kernel
theorem dX3_passYear_0 : decode cX3_passYear 0 = .ok (.iconst 0, 1) := by decide +kernel
theorem dX3_passYear_1 : decode cX3_passYear 1 = .ok (.istore 4, 2) := by decide +kernel
theorem dX3_passYear_3 : decode cX3_passYear 3 = .ok (.iload 4, 2) := by decide +kernel
theorem dX3_passYear_5 : decode cX3_passYear 5 = .ok (.aload_n 1, 1) := by decide +kernel
theorem dX3_passYear_6 : decode cX3_passYear 6 = .ok (.getfield 112, 3) := by decide +kernel
theorem dX3_passYear_9 : decode cX3_passYear 9 = .ok (.if_icmp .ge 41, 3) := by decide +kernel
theorem dX3_passYear_12 : decode cX3_passYear 12 = .ok (.aload_n 0, 1) := by decide +kernel
theorem dX3_passYear_13 : decode cX3_passYear 13 = .ok (.getfield 15, 3) := by decide +kernel
theorem dX3_passYear_16 : decode cX3_passYear 16 = .ok (.iload 4, 2) := by decide +kernel
theorem dX3_passYear_18 : decode cX3_passYear 18 = .ok (.aload_n 2, 1) := by decide +kernel
theorem dX3_passYear_19 : decode cX3_passYear 19 = .ok (.getfield 109, 3) := by decide +kernel
theorem dX3_passYear_22 : decode cX3_passYear 22 = .ok (.iload 4, 2) := by decide +kernel
theorem dX3_passYear_24 : decode cX3_passYear 24 = .ok (.iaload, 1) := by decide +kernel
theorem dX3_passYear_25 : decode cX3_passYear 25 = .ok (.iconst 1, 1) := by decide +kernel
theorem dX3_passYear_26 : decode cX3_passYear 26 = .ok (.if_icmp .ne 16, 3) := by decide +kernel
theorem dX3_passYear_29 : decode cX3_passYear 29 = .ok (.aload_n 0, 1) := by decide +kernel
theorem dX3_passYear_30 : decode cX3_passYear 30 = .ok (.aload_n 1, 1) := by decide +kernel
theorem dX3_passYear_31 : decode cX3_passYear 31 = .ok (.aload_n 2, 1) := by decide +kernel
theorem dX3_passYear_32 : decode cX3_passYear 32 = .ok (.iload 4, 2) := by decide +kernel
theorem dX3_passYear_34 : decode cX3_passYear 34 = .ok (.invokevirtual 115, 3) := by decide +kernel
theorem dX3_passYear_37 : decode cX3_passYear 37 = .ok (.iload_n 3, 1) := by decide +kernel
theorem dX3_passYear_38 : decode cX3_passYear 38 = .ok (.iadd, 1) := by decide +kernel
theorem dX3_passYear_39 : decode cX3_passYear 39 = .ok (.goto 4, 3) := by decide +kernel
theorem dX3_passYear_42 : decode cX3_passYear 42 = .ok (.iconst 0, 1) := by decide +kernel
theorem dX3_passYear_43 : decode cX3_passYear 43 = .ok (.iastore, 1) := by decide +kernel
theorem dX3_passYear_44 : decode cX3_passYear 44 = .ok (.iinc 4 1, 3) := by decide +kernel
theorem dX3_passYear_47 : decode cX3_passYear 47 = .ok (.goto (-44), 3) := by decide +kernel
theorem dX3_passYear_50 : decode cX3_passYear 50 = .ok (.iconst 0, 1) := by decide +kernel
theorem dX3_passYear_51 : decode cX3_passYear 51 = .ok (.istore 4, 2) := by decide +kernel
theorem dX3_passYear_53 : decode cX3_passYear 53 = .ok (.iload 4, 2) := by decide +kernel
theorem dX3_passYear_55 : decode cX3_passYear 55 = .ok (.aload_n 1, 1) := by decide +kernel
theorem dX3_passYear_56 : decode cX3_passYear 56 = .ok (.getfield 112, 3) := by decide +kernel
theorem dX3_passYear_59 : decode cX3_passYear 59 = .ok (.if_icmp .ge 44, 3) := by decide +kernel
theorem dX3_passYear_62 : decode cX3_passYear 62 = .ok (.aload_n 2, 1) := by decide +kernel
theorem dX3_passYear_63 : decode cX3_passYear 63 = .ok (.getfield 109, 3) := by decide +kernel
theorem dX3_passYear_66 : decode cX3_passYear 66 = .ok (.iload 4, 2) := by decide +kernel
theorem dX3_passYear_68 : decode cX3_passYear 68 = .ok (.iaload, 1) := by decide +kernel
theorem dX3_passYear_69 : decode cX3_passYear 69 = .ok (.iconst 1, 1) := by decide +kernel
theorem dX3_passYear_70 : decode cX3_passYear 70 = .ok (.if_icmp .ne 27, 3) := by decide +kernel
theorem dX3_passYear_73 : decode cX3_passYear 73 = .ok (.aload_n 2, 1) := by decide +kernel
theorem dX3_passYear_74 : decode cX3_passYear 74 = .ok (.getfield 73, 3) := by decide +kernel
theorem dX3_passYear_77 : decode cX3_passYear 77 = .ok (.iload 4, 2) := by decide +kernel
theorem dX3_passYear_79 : decode cX3_passYear 79 = .ok (.dup2, 1) := by decide +kernel
theorem dX3_passYear_80 : decode cX3_passYear 80 = .ok (.iaload, 1) := by decide +kernel
theorem dX3_passYear_81 : decode cX3_passYear 81 = .ok (.iconst 1, 1) := by decide +kernel
theorem dX3_passYear_82 : decode cX3_passYear 82 = .ok (.iadd, 1) := by decide +kernel
theorem dX3_passYear_83 : decode cX3_passYear 83 = .ok (.iastore, 1) := by decide +kernel
theorem dX3_passYear_84 : decode cX3_passYear 84 = .ok (.aload_n 2, 1) := by decide +kernel
theorem dX3_passYear_85 : decode cX3_passYear 85 = .ok (.iload 4, 2) := by decide +kernel
theorem dX3_passYear_87 : decode cX3_passYear 87 = .ok (.aload_n 0, 1) := by decide +kernel
theorem dX3_passYear_88 : decode cX3_passYear 88 = .ok (.getfield 15, 3) := by decide +kernel
theorem dX3_passYear_91 : decode cX3_passYear 91 = .ok (.iload 4, 2) := by decide +kernel
theorem dX3_passYear_93 : decode cX3_passYear 93 = .ok (.iaload, 1) := by decide +kernel
theorem dX3_passYear_94 : decode cX3_passYear 94 = .ok (.invokevirtual 119, 3) := by decide +kernel
theorem dX3_passYear_97 : decode cX3_passYear 97 = .ok (.iinc 4 1, 3) := by decide +kernel
theorem dX3_passYear_100 : decode cX3_passYear 100 = .ok (.goto (-47), 3) := by decide +kernel
theorem dX3_passYear_103 : decode cX3_passYear 103 = .ok (.aload_n 2, 1) := by decide +kernel
theorem dX3_passYear_104 : decode cX3_passYear 104 = .ok (.dup, 1) := by decide +kernel
theorem dX3_passYear_105 : decode cX3_passYear 105 = .ok (.getfield 69, 3) := by decide +kernel
theorem dX3_passYear_108 : decode cX3_passYear 108 = .ok (.iconst 1, 1) := by decide +kernel
theorem dX3_passYear_109 : decode cX3_passYear 109 = .ok (.iadd, 1) := by decide +kernel
theorem dX3_passYear_110 : decode cX3_passYear 110 = .ok (.putfield 69, 3) := by decide +kernel
theorem dX3_passYear_113 : decode cX3_passYear 113 = .ok (.return_, 1) := by decide +kernel
theorem dX3_isStorm_0 : decode cX3_isStorm 0 = .ok (.bipush 100, 2) := by decide +kernel
theorem dX3_isStorm_2 : decode cX3_isStorm 2 = .ok (.iload_n 1, 1) := by decide +kernel
theorem dX3_isStorm_3 : decode cX3_isStorm 3 = .ok (.iconst 4, 1) := by decide +kernel
theorem dX3_isStorm_4 : decode cX3_isStorm 4 = .ok (.iload_n 2, 1) := by decide +kernel
theorem dX3_isStorm_5 : decode cX3_isStorm 5 = .ok (.imul, 1) := by decide +kernel
theorem dX3_isStorm_6 : decode cX3_isStorm 6 = .ok (.invokestatic 123, 3) := by decide +kernel
theorem dX3_isStorm_9 : decode cX3_isStorm 9 = .ok (.iload_n 0, 1) := by decide +kernel
theorem dX3_isStorm_10 : decode cX3_isStorm 10 = .ok (.if_icmp .ge 7, 3) := by decide +kernel
theorem dX3_isStorm_13 : decode cX3_isStorm 13 = .ok (.iconst 1, 1) := by decide +kernel
theorem dX3_isStorm_14 : decode cX3_isStorm 14 = .ok (.goto 4, 3) := by decide +kernel
theorem dX3_isStorm_17 : decode cX3_isStorm 17 = .ok (.iconst 0, 1) := by decide +kernel
theorem dX3_isStorm_18 : decode cX3_isStorm 18 = .ok (.ireturn, 1) := by decide +kernel
theorem dX3_lot_0 : decode cX3_lot 0 = .ok (.iload_n 1, 1) := by decide +kernel
theorem dX3_lot_1 : decode cX3_lot 1 = .ok (.bipush 109, 2) := by decide +kernel
theorem dX3_lot_3 : decode cX3_lot 3 = .ok (.invokestatic 127, 3) := by decide +kernel
theorem dX3_lot_6 : decode cX3_lot 6 = .ok (.iload_n 2, 1) := by decide +kernel
theorem dX3_lot_7 : decode cX3_lot 7 = .ok (.invokestatic 127, 3) := by decide +kernel
theorem dX3_lot_10 : decode cX3_lot 10 = .ok (.istore_n 3, 1) := by decide +kernel
theorem dX3_lot_11 : decode cX3_lot 11 = .ok (.iload_n 0, 1) := by decide +kernel
theorem dX3_lot_12 : decode cX3_lot 12 = .ok (.ifCond .le 11, 3) := by decide +kernel
theorem dX3_lot_15 : decode cX3_lot 15 = .ok (.iload_n 3, 1) := by decide +kernel
theorem dX3_lot_16 : decode cX3_lot 16 = .ok (.iconst 1, 1) := by decide +kernel
theorem dX3_lot_17 : decode cX3_lot 17 = .ok (.iushr, 1) := by decide +kernel
theorem dX3_lot_18 : decode cX3_lot 18 = .ok (.iload_n 0, 1) := by decide +kernel
theorem dX3_lot_19 : decode cX3_lot 19 = .ok (.irem, 1) := by decide +kernel
theorem dX3_lot_20 : decode cX3_lot 20 = .ok (.goto 4, 3) := by decide +kernel
theorem dX3_lot_23 : decode cX3_lot 23 = .ok (.iconst 0, 1) := by decide +kernel
theorem dX3_lot_24 : decode cX3_lot 24 = .ok (.ireturn, 1) := by decide +kernel
theorem dX3_stirred_0 : decode cX3_stirred 0 = .ok (.iload_n 0, 1) := by decide +kernel
theorem dX3_stirred_1 : decode cX3_stirred 1 = .ok (.iload_n 1, 1) := by decide +kernel
theorem dX3_stirred_2 : decode cX3_stirred 2 = .ok (.ixor, 1) := by decide +kernel
theorem dX3_stirred_3 : decode cX3_stirred 3 = .ok (.ldc 130, 2) := by decide +kernel
theorem dX3_stirred_5 : decode cX3_stirred 5 = .ok (.imul, 1) := by decide +kernel
theorem dX3_stirred_6 : decode cX3_stirred 6 = .ok (.sipush 12345, 3) := by decide +kernel
theorem dX3_stirred_9 : decode cX3_stirred 9 = .ok (.iadd, 1) := by decide +kernel
theorem dX3_stirred_10 : decode cX3_stirred 10 = .ok (.istore_n 2, 1) := by decide +kernel
theorem dX3_stirred_11 : decode cX3_stirred 11 = .ok (.iload_n 2, 1) := by decide +kernel
theorem dX3_stirred_12 : decode cX3_stirred 12 = .ok (.iload_n 2, 1) := by decide +kernel
theorem dX3_stirred_13 : decode cX3_stirred 13 = .ok (.bipush 15, 2) := by decide +kernel
theorem dX3_stirred_15 : decode cX3_stirred 15 = .ok (.iushr, 1) := by decide +kernel
theorem dX3_stirred_16 : decode cX3_stirred 16 = .ok (.ixor, 1) := by decide +kernel
theorem dX3_stirred_17 : decode cX3_stirred 17 = .ok (.ireturn, 1) := by decide +kernel
theorem dX4_init_0 : decode cX4_init 0 = .ok (.aload_n 0, 1) := by decide +kernel
theorem dX4_init_1 : decode cX4_init 1 = .ok (.invokespecial 5, 3) := by decide +kernel
theorem dX4_init_4 : decode cX4_init 4 = .ok (.aload_n 0, 1) := by decide +kernel
theorem dX4_init_5 : decode cX4_init 5 = .ok (.sipush 400, 3) := by decide +kernel
theorem dX4_init_8 : decode cX4_init 8 = .ok (.newarray .int, 2) := by decide +kernel
theorem dX4_init_10 : decode cX4_init 10 = .ok (.putfield 11, 3) := by decide +kernel
theorem dX4_init_13 : decode cX4_init 13 = .ok (.aload_n 0, 1) := by decide +kernel
theorem dX4_init_14 : decode cX4_init 14 = .ok (.bipush 13, 2) := by decide +kernel
theorem dX4_init_16 : decode cX4_init 16 = .ok (.newarray .int, 2) := by decide +kernel
theorem dX4_init_18 : decode cX4_init 18 = .ok (.putfield 17, 3) := by decide +kernel
theorem dX4_init_21 : decode cX4_init 21 = .ok (.aload_n 0, 1) := by decide +kernel
theorem dX4_init_22 : decode cX4_init 22 = .ok (.bipush 16, 2) := by decide +kernel
theorem dX4_init_24 : decode cX4_init 24 = .ok (.newarray .int, 2) := by decide +kernel
theorem dX4_init_26 : decode cX4_init 26 = .ok (.putfield 20, 3) := by decide +kernel
theorem dX4_init_29 : decode cX4_init 29 = .ok (.return_, 1) := by decide +kernel
theorem dX4_clear_0 : decode cX4_clear 0 = .ok (.aload_n 0, 1) := by decide +kernel
theorem dX4_clear_1 : decode cX4_clear 1 = .ok (.iconst 0, 1) := by decide +kernel
theorem dX4_clear_2 : decode cX4_clear 2 = .ok (.putfield 23, 3) := by decide +kernel
theorem dX4_clear_5 : decode cX4_clear 5 = .ok (.aload_n 0, 1) := by decide +kernel
theorem dX4_clear_6 : decode cX4_clear 6 = .ok (.iconst 0, 1) := by decide +kernel
theorem dX4_clear_7 : decode cX4_clear 7 = .ok (.putfield 27, 3) := by decide +kernel
theorem dX4_clear_10 : decode cX4_clear 10 = .ok (.return_, 1) := by decide +kernel
theorem dX4_setTo_0 : decode cX4_setTo 0 = .ok (.aload_n 0, 1) := by decide +kernel
theorem dX4_setTo_1 : decode cX4_setTo 1 = .ok (.invokevirtual 30, 3) := by decide +kernel
theorem dX4_setTo_4 : decode cX4_setTo 4 = .ok (.aload_n 0, 1) := by decide +kernel
theorem dX4_setTo_5 : decode cX4_setTo 5 = .ok (.iload_n 1, 1) := by decide +kernel
theorem dX4_setTo_6 : decode cX4_setTo 6 = .ok (.invokevirtual 33, 3) := by decide +kernel
theorem dX4_setTo_9 : decode cX4_setTo 9 = .ok (.aload_n 0, 1) := by decide +kernel
theorem dX4_setTo_10 : decode cX4_setTo 10 = .ok (.invokevirtual 37, 3) := by decide +kernel
theorem dX4_setTo_13 : decode cX4_setTo 13 = .ok (.return_, 1) := by decide +kernel
theorem dX4_addStep_0 : decode cX4_addStep 0 = .ok (.aload_n 0, 1) := by decide +kernel
theorem dX4_addStep_1 : decode cX4_addStep 1 = .ok (.getfield 23, 3) := by decide +kernel
theorem dX4_addStep_4 : decode cX4_addStep 4 = .ok (.aload_n 0, 1) := by decide +kernel
theorem dX4_addStep_5 : decode cX4_addStep 5 = .ok (.getfield 11, 3) := by decide +kernel
theorem dX4_addStep_8 : decode cX4_addStep 8 = .ok (.arraylength, 1) := by decide +kernel
theorem dX4_addStep_9 : decode cX4_addStep 9 = .ok (.if_icmp .ge 23, 3) := by decide +kernel
theorem dX4_addStep_12 : decode cX4_addStep 12 = .ok (.aload_n 0, 1) := by decide +kernel
theorem dX4_addStep_13 : decode cX4_addStep 13 = .ok (.getfield 11, 3) := by decide +kernel
theorem dX4_addStep_16 : decode cX4_addStep 16 = .ok (.aload_n 0, 1) := by decide +kernel
theorem dX4_addStep_17 : decode cX4_addStep 17 = .ok (.getfield 23, 3) := by decide +kernel
theorem dX4_addStep_20 : decode cX4_addStep 20 = .ok (.iload_n 1, 1) := by decide +kernel
theorem dX4_addStep_21 : decode cX4_addStep 21 = .ok (.iastore, 1) := by decide +kernel
theorem dX4_addStep_22 : decode cX4_addStep 22 = .ok (.aload_n 0, 1) := by decide +kernel
theorem dX4_addStep_23 : decode cX4_addStep 23 = .ok (.dup, 1) := by decide +kernel
theorem dX4_addStep_24 : decode cX4_addStep 24 = .ok (.getfield 23, 3) := by decide +kernel
theorem dX4_addStep_27 : decode cX4_addStep 27 = .ok (.iconst 1, 1) := by decide +kernel
theorem dX4_addStep_28 : decode cX4_addStep 28 = .ok (.iadd, 1) := by decide +kernel
theorem dX4_addStep_29 : decode cX4_addStep 29 = .ok (.putfield 23, 3) := by decide +kernel
theorem dX4_addStep_32 : decode cX4_addStep 32 = .ok (.return_, 1) := by decide +kernel
theorem dX4_endPart_0 : decode cX4_endPart 0 = .ok (.aload_n 0, 1) := by decide +kernel
theorem dX4_endPart_1 : decode cX4_endPart 1 = .ok (.getfield 27, 3) := by decide +kernel
theorem dX4_endPart_4 : decode cX4_endPart 4 = .ok (.aload_n 0, 1) := by decide +kernel
theorem dX4_endPart_5 : decode cX4_endPart 5 = .ok (.getfield 17, 3) := by decide +kernel
theorem dX4_endPart_8 : decode cX4_endPart 8 = .ok (.arraylength, 1) := by decide +kernel
theorem dX4_endPart_9 : decode cX4_endPart 9 = .ok (.if_icmp .ge 26, 3) := by decide +kernel
theorem dX4_endPart_12 : decode cX4_endPart 12 = .ok (.aload_n 0, 1) := by decide +kernel
theorem dX4_endPart_13 : decode cX4_endPart 13 = .ok (.getfield 17, 3) := by decide +kernel
theorem dX4_endPart_16 : decode cX4_endPart 16 = .ok (.aload_n 0, 1) := by decide +kernel
theorem dX4_endPart_17 : decode cX4_endPart 17 = .ok (.getfield 27, 3) := by decide +kernel
theorem dX4_endPart_20 : decode cX4_endPart 20 = .ok (.aload_n 0, 1) := by decide +kernel
theorem dX4_endPart_21 : decode cX4_endPart 21 = .ok (.getfield 23, 3) := by decide +kernel
theorem dX4_endPart_24 : decode cX4_endPart 24 = .ok (.iastore, 1) := by decide +kernel
theorem dX4_endPart_25 : decode cX4_endPart 25 = .ok (.aload_n 0, 1) := by decide +kernel
theorem dX4_endPart_26 : decode cX4_endPart 26 = .ok (.dup, 1) := by decide +kernel
theorem dX4_endPart_27 : decode cX4_endPart 27 = .ok (.getfield 27, 3) := by decide +kernel
theorem dX4_endPart_30 : decode cX4_endPart 30 = .ok (.iconst 1, 1) := by decide +kernel
theorem dX4_endPart_31 : decode cX4_endPart 31 = .ok (.iadd, 1) := by decide +kernel
theorem dX4_endPart_32 : decode cX4_endPart 32 = .ok (.putfield 27, 3) := by decide +kernel
theorem dX4_endPart_35 : decode cX4_endPart 35 = .ok (.return_, 1) := by decide +kernel
theorem dX4_valueBy_0 : decode cX4_valueBy 0 = .ok (.iconst 0, 1) := by decide +kernel
theorem dX4_valueBy_1 : decode cX4_valueBy 1 = .ok (.istore_n 2, 1) := by decide +kernel
theorem dX4_valueBy_2 : decode cX4_valueBy 2 = .ok (.iload_n 2, 1) := by decide +kernel
theorem dX4_valueBy_3 : decode cX4_valueBy 3 = .ok (.iconst 2, 1) := by decide +kernel
theorem dX4_valueBy_4 : decode cX4_valueBy 4 = .ok (.iadd, 1) := by decide +kernel
theorem dX4_valueBy_5 : decode cX4_valueBy 5 = .ok (.aload_n 0, 1) := by decide +kernel
theorem dX4_valueBy_6 : decode cX4_valueBy 6 = .ok (.getfield 27, 3) := by decide +kernel
theorem dX4_valueBy_9 : decode cX4_valueBy 9 = .ok (.if_icmp .ge 64, 3) := by decide +kernel
theorem dX4_valueBy_12 : decode cX4_valueBy 12 = .ok (.aload_n 0, 1) := by decide +kernel
theorem dX4_valueBy_13 : decode cX4_valueBy 13 = .ok (.iload_n 2, 1) := by decide +kernel
theorem dX4_valueBy_14 : decode cX4_valueBy 14 = .ok (.aload_n 1, 1) := by decide +kernel
theorem dX4_valueBy_15 : decode cX4_valueBy 15 = .ok (.invokevirtual 40, 3) := by decide +kernel
theorem dX4_valueBy_18 : decode cX4_valueBy 18 = .ok (.lstore_n 3, 1) := by decide +kernel
theorem dX4_valueBy_19 : decode cX4_valueBy 19 = .ok (.aload_n 0, 1) := by decide +kernel
theorem dX4_valueBy_20 : decode cX4_valueBy 20 = .ok (.iload_n 2, 1) := by decide +kernel
theorem dX4_valueBy_21 : decode cX4_valueBy 21 = .ok (.iconst 1, 1) := by decide +kernel
theorem dX4_valueBy_22 : decode cX4_valueBy 22 = .ok (.iadd, 1) := by decide +kernel
theorem dX4_valueBy_23 : decode cX4_valueBy 23 = .ok (.aload_n 1, 1) := by decide +kernel
theorem dX4_valueBy_24 : decode cX4_valueBy 24 = .ok (.invokevirtual 40, 3) := by decide +kernel
theorem dX4_valueBy_27 : decode cX4_valueBy 27 = .ok (.lstore 5, 2) := by decide +kernel
theorem dX4_valueBy_29 : decode cX4_valueBy 29 = .ok (.lload_n 3, 1) := by decide +kernel
theorem dX4_valueBy_30 : decode cX4_valueBy 30 = .ok (.ldc2_w 44, 3) := by decide +kernel
theorem dX4_valueBy_33 : decode cX4_valueBy 33 = .ok (.lcmp, 1) := by decide +kernel
theorem dX4_valueBy_34 : decode cX4_valueBy 34 = .ok (.ifCond .eq 12, 3) := by decide +kernel
theorem dX4_valueBy_37 : decode cX4_valueBy 37 = .ok (.lload 5, 2) := by decide +kernel
theorem dX4_valueBy_39 : decode cX4_valueBy 39 = .ok (.ldc2_w 44, 3) := by decide +kernel
theorem dX4_valueBy_42 : decode cX4_valueBy 42 = .ok (.lcmp, 1) := by decide +kernel
theorem dX4_valueBy_43 : decode cX4_valueBy 43 = .ok (.ifCond .ne 5, 3) := by decide +kernel
theorem dX4_valueBy_46 : decode cX4_valueBy 46 = .ok (.iconst 0, 1) := by decide +kernel
theorem dX4_valueBy_47 : decode cX4_valueBy 47 = .ok (.ireturn, 1) := by decide +kernel
theorem dX4_valueBy_48 : decode cX4_valueBy 48 = .ok (.lload_n 3, 1) := by decide +kernel
theorem dX4_valueBy_49 : decode cX4_valueBy 49 = .ok (.lload 5, 2) := by decide +kernel
theorem dX4_valueBy_51 : decode cX4_valueBy 51 = .ok (.lcmp, 1) := by decide +kernel
theorem dX4_valueBy_52 : decode cX4_valueBy 52 = .ok (.ifCond .ge 15, 3) := by decide +kernel
theorem dX4_valueBy_55 : decode cX4_valueBy 55 = .ok (.aload_n 0, 1) := by decide +kernel
theorem dX4_valueBy_56 : decode cX4_valueBy 56 = .ok (.iload_n 2, 1) := by decide +kernel
theorem dX4_valueBy_57 : decode cX4_valueBy 57 = .ok (.iconst 2, 1) := by decide +kernel
theorem dX4_valueBy_58 : decode cX4_valueBy 58 = .ok (.iadd, 1) := by decide +kernel
theorem dX4_valueBy_59 : decode cX4_valueBy 59 = .ok (.aload_n 1, 1) := by decide +kernel
theorem dX4_valueBy_60 : decode cX4_valueBy 60 = .ok (.invokevirtual 40, 3) := by decide +kernel
theorem dX4_valueBy_63 : decode cX4_valueBy 63 = .ok (.invokestatic 46, 3) := by decide +kernel
theorem dX4_valueBy_66 : decode cX4_valueBy 66 = .ok (.ireturn, 1) := by decide +kernel
theorem dX4_valueBy_67 : decode cX4_valueBy 67 = .ok (.iinc 2 3, 3) := by decide +kernel
theorem dX4_valueBy_70 : decode cX4_valueBy 70 = .ok (.goto (-68), 3) := by decide +kernel
theorem dX4_valueBy_73 : decode cX4_valueBy 73 = .ok (.aload_n 0, 1) := by decide +kernel
theorem dX4_valueBy_74 : decode cX4_valueBy 74 = .ok (.iload_n 2, 1) := by decide +kernel
theorem dX4_valueBy_75 : decode cX4_valueBy 75 = .ok (.aload_n 1, 1) := by decide +kernel
theorem dX4_valueBy_76 : decode cX4_valueBy 76 = .ok (.invokevirtual 40, 3) := by decide +kernel
theorem dX4_valueBy_79 : decode cX4_valueBy 79 = .ok (.invokestatic 46, 3) := by decide +kernel
theorem dX4_valueBy_82 : decode cX4_valueBy 82 = .ok (.ireturn, 1) := by decide +kernel
theorem dX4_intOf_0 : decode cX4_intOf 0 = .ok (.lload_n 0, 1) := by decide +kernel
theorem dX4_intOf_1 : decode cX4_intOf 1 = .ok (.ldc2_w 44, 3) := by decide +kernel
theorem dX4_intOf_4 : decode cX4_intOf 4 = .ok (.lcmp, 1) := by decide +kernel
theorem dX4_intOf_5 : decode cX4_intOf 5 = .ok (.ifCond .ne 7, 3) := by decide +kernel
theorem dX4_intOf_8 : decode cX4_intOf 8 = .ok (.iconst 0, 1) := by decide +kernel
theorem dX4_intOf_9 : decode cX4_intOf 9 = .ok (.goto 5, 3) := by decide +kernel
theorem dX4_intOf_12 : decode cX4_intOf 12 = .ok (.lload_n 0, 1) := by decide +kernel
theorem dX4_intOf_13 : decode cX4_intOf 13 = .ok (.l2i, 1) := by decide +kernel
theorem dX4_intOf_14 : decode cX4_intOf 14 = .ok (.ireturn, 1) := by decide +kernel
theorem dX4_partBy_0 : decode cX4_partBy 0 = .ok (.iload_n 1, 1) := by decide +kernel
theorem dX4_partBy_1 : decode cX4_partBy 1 = .ok (.ifCond .lt 11, 3) := by decide +kernel
theorem dX4_partBy_4 : decode cX4_partBy 4 = .ok (.iload_n 1, 1) := by decide +kernel
theorem dX4_partBy_5 : decode cX4_partBy 5 = .ok (.aload_n 0, 1) := by decide +kernel
theorem dX4_partBy_6 : decode cX4_partBy 6 = .ok (.getfield 27, 3) := by decide +kernel
theorem dX4_partBy_9 : decode cX4_partBy 9 = .ok (.if_icmp .lt 5, 3) := by decide +kernel
theorem dX4_partBy_12 : decode cX4_partBy 12 = .ok (.lconst 0, 1) := by decide +kernel
theorem dX4_partBy_13 : decode cX4_partBy 13 = .ok (.lreturn, 1) := by decide +kernel
theorem dX4_partBy_14 : decode cX4_partBy 14 = .ok (.iconst 0, 1) := by decide +kernel
theorem dX4_partBy_15 : decode cX4_partBy 15 = .ok (.istore_n 3, 1) := by decide +kernel
theorem dX4_partBy_16 : decode cX4_partBy 16 = .ok (.iload_n 1, 1) := by decide +kernel
theorem dX4_partBy_17 : decode cX4_partBy 17 = .ok (.ifCond .ne 7, 3) := by decide +kernel
theorem dX4_partBy_20 : decode cX4_partBy 20 = .ok (.iconst 0, 1) := by decide +kernel
theorem dX4_partBy_21 : decode cX4_partBy 21 = .ok (.goto 11, 3) := by decide +kernel
theorem dX4_partBy_24 : decode cX4_partBy 24 = .ok (.aload_n 0, 1) := by decide +kernel
theorem dX4_partBy_25 : decode cX4_partBy 25 = .ok (.getfield 17, 3) := by decide +kernel
theorem dX4_partBy_28 : decode cX4_partBy 28 = .ok (.iload_n 1, 1) := by decide +kernel
theorem dX4_partBy_29 : decode cX4_partBy 29 = .ok (.iconst 1, 1) := by decide +kernel
theorem dX4_partBy_30 : decode cX4_partBy 30 = .ok (.isub, 1) := by decide +kernel
theorem dX4_partBy_31 : decode cX4_partBy 31 = .ok (.iaload, 1) := by decide +kernel
theorem dX4_partBy_32 : decode cX4_partBy 32 = .ok (.istore 4, 2) := by decide +kernel
theorem dX4_partBy_34 : decode cX4_partBy 34 = .ok (.iload 4, 2) := by decide +kernel
theorem dX4_partBy_36 : decode cX4_partBy 36 = .ok (.aload_n 0, 1) := by decide +kernel
theorem dX4_partBy_37 : decode cX4_partBy 37 = .ok (.getfield 17, 3) := by decide +kernel
theorem dX4_partBy_40 : decode cX4_partBy 40 = .ok (.iload_n 1, 1) := by decide +kernel
theorem dX4_partBy_41 : decode cX4_partBy 41 = .ok (.iaload, 1) := by decide +kernel
theorem dX4_partBy_42 : decode cX4_partBy 42 = .ok (.if_icmp .ge 117, 3) := by decide +kernel
theorem dX4_partBy_45 : decode cX4_partBy 45 = .ok (.aload_n 0, 1) := by decide +kernel
theorem dX4_partBy_46 : decode cX4_partBy 46 = .ok (.getfield 11, 3) := by decide +kernel
theorem dX4_partBy_49 : decode cX4_partBy 49 = .ok (.iload 4, 2) := by decide +kernel
theorem dX4_partBy_51 : decode cX4_partBy 51 = .ok (.iaload, 1) := by decide +kernel
theorem dX4_partBy_52 : decode cX4_partBy 52 = .ok (.istore 5, 2) := by decide +kernel
theorem dX4_partBy_54 : decode cX4_partBy 54 = .ok (.iload 5, 2) := by decide +kernel
theorem dX4_partBy_56 : decode cX4_partBy 56 = .ok (.bipush (-11), 2) := by decide +kernel
theorem dX4_partBy_58 : decode cX4_partBy 58 = .ok (.if_icmp .le 40, 3) := by decide +kernel
theorem dX4_partBy_61 : decode cX4_partBy 61 = .ok (.iload_n 3, 1) := by decide +kernel
theorem dX4_partBy_62 : decode cX4_partBy 62 = .ok (.aload_n 0, 1) := by decide +kernel
theorem dX4_partBy_63 : decode cX4_partBy 63 = .ok (.getfield 20, 3) := by decide +kernel
theorem dX4_partBy_66 : decode cX4_partBy 66 = .ok (.arraylength, 1) := by decide +kernel
theorem dX4_partBy_67 : decode cX4_partBy 67 = .ok (.if_icmp .ge 86, 3) := by decide +kernel
theorem dX4_partBy_70 : decode cX4_partBy 70 = .ok (.aload_n 0, 1) := by decide +kernel
theorem dX4_partBy_71 : decode cX4_partBy 71 = .ok (.getfield 20, 3) := by decide +kernel
theorem dX4_partBy_74 : decode cX4_partBy 74 = .ok (.iload_n 3, 1) := by decide +kernel
theorem dX4_partBy_75 : decode cX4_partBy 75 = .ok (.iload 5, 2) := by decide +kernel
theorem dX4_partBy_77 : decode cX4_partBy 77 = .ok (.ifCond .lt 8, 3) := by decide +kernel
theorem dX4_partBy_80 : decode cX4_partBy 80 = .ok (.iload 5, 2) := by decide +kernel
theorem dX4_partBy_82 : decode cX4_partBy 82 = .ok (.goto 9, 3) := by decide +kernel
theorem dX4_partBy_85 : decode cX4_partBy 85 = .ok (.iload 5, 2) := by decide +kernel
theorem dX4_partBy_87 : decode cX4_partBy 87 = .ok (.aload_n 2, 1) := by decide +kernel
theorem dX4_partBy_88 : decode cX4_partBy 88 = .ok (.invokestatic 50, 3) := by decide +kernel
theorem dX4_partBy_91 : decode cX4_partBy 91 = .ok (.iastore, 1) := by decide +kernel
theorem dX4_partBy_92 : decode cX4_partBy 92 = .ok (.iinc 3 1, 3) := by decide +kernel
theorem dX4_partBy_95 : decode cX4_partBy 95 = .ok (.goto 58, 3) := by decide +kernel
theorem dX4_partBy_98 : decode cX4_partBy 98 = .ok (.iload_n 3, 1) := by decide +kernel
theorem dX4_partBy_99 : decode cX4_partBy 99 = .ok (.iconst 2, 1) := by decide +kernel
theorem dX4_partBy_100 : decode cX4_partBy 100 = .ok (.if_icmp .lt 53, 3) := by decide +kernel
theorem dX4_partBy_103 : decode cX4_partBy 103 = .ok (.iinc 3 (-1), 3) := by decide +kernel
theorem dX4_partBy_106 : decode cX4_partBy 106 = .ok (.iload 5, 2) := by decide +kernel
theorem dX4_partBy_108 : decode cX4_partBy 108 = .ok (.bipush (-14), 2) := by decide +kernel
theorem dX4_partBy_110 : decode cX4_partBy 110 = .ok (.if_icmp .ne 16, 3) := by decide +kernel
theorem dX4_partBy_113 : decode cX4_partBy 113 = .ok (.aload_n 0, 1) := by decide +kernel
theorem dX4_partBy_114 : decode cX4_partBy 114 = .ok (.getfield 20, 3) := by decide +kernel
theorem dX4_partBy_117 : decode cX4_partBy 117 = .ok (.iload_n 3, 1) := by decide +kernel
theorem dX4_partBy_118 : decode cX4_partBy 118 = .ok (.iaload, 1) := by decide +kernel
theorem dX4_partBy_119 : decode cX4_partBy 119 = .ok (.ifCond .ne 7, 3) := by decide +kernel
theorem dX4_partBy_122 : decode cX4_partBy 122 = .ok (.ldc2_w 44, 3) := by decide +kernel
theorem dX4_partBy_125 : decode cX4_partBy 125 = .ok (.lreturn, 1) := by decide +kernel
theorem dX4_partBy_126 : decode cX4_partBy 126 = .ok (.aload_n 0, 1) := by decide +kernel
theorem dX4_partBy_127 : decode cX4_partBy 127 = .ok (.getfield 20, 3) := by decide +kernel
theorem dX4_partBy_130 : decode cX4_partBy 130 = .ok (.iload_n 3, 1) := by decide +kernel
theorem dX4_partBy_131 : decode cX4_partBy 131 = .ok (.iconst 1, 1) := by decide +kernel
theorem dX4_partBy_132 : decode cX4_partBy 132 = .ok (.isub, 1) := by decide +kernel
theorem dX4_partBy_133 : decode cX4_partBy 133 = .ok (.iload 5, 2) := by decide +kernel
theorem dX4_partBy_135 : decode cX4_partBy 135 = .ok (.aload_n 0, 1) := by decide +kernel
theorem dX4_partBy_136 : decode cX4_partBy 136 = .ok (.getfield 20, 3) := by decide +kernel
theorem dX4_partBy_139 : decode cX4_partBy 139 = .ok (.iload_n 3, 1) := by decide +kernel
theorem dX4_partBy_140 : decode cX4_partBy 140 = .ok (.iconst 1, 1) := by decide +kernel
theorem dX4_partBy_141 : decode cX4_partBy 141 = .ok (.isub, 1) := by decide +kernel
theorem dX4_partBy_142 : decode cX4_partBy 142 = .ok (.iaload, 1) := by decide +kernel
theorem dX4_partBy_143 : decode cX4_partBy 143 = .ok (.aload_n 0, 1) := by decide +kernel
theorem dX4_partBy_144 : decode cX4_partBy 144 = .ok (.getfield 20, 3) := by decide +kernel
theorem dX4_partBy_147 : decode cX4_partBy 147 = .ok (.iload_n 3, 1) := by decide +kernel
theorem dX4_partBy_148 : decode cX4_partBy 148 = .ok (.iaload, 1) := by decide +kernel
theorem dX4_partBy_149 : decode cX4_partBy 149 = .ok (.invokestatic 54, 3) := by decide +kernel
theorem dX4_partBy_152 : decode cX4_partBy 152 = .ok (.iastore, 1) := by decide +kernel
theorem dX4_partBy_153 : decode cX4_partBy 153 = .ok (.iinc 4 1, 3) := by decide +kernel
theorem dX4_partBy_156 : decode cX4_partBy 156 = .ok (.goto (-122), 3) := by decide +kernel
theorem dX4_partBy_159 : decode cX4_partBy 159 = .ok (.iload_n 3, 1) := by decide +kernel
theorem dX4_partBy_160 : decode cX4_partBy 160 = .ok (.ifCond .le 15, 3) := by decide +kernel
theorem dX4_partBy_163 : decode cX4_partBy 163 = .ok (.aload_n 0, 1) := by decide +kernel
theorem dX4_partBy_164 : decode cX4_partBy 164 = .ok (.getfield 20, 3) := by decide +kernel
theorem dX4_partBy_167 : decode cX4_partBy 167 = .ok (.iload_n 3, 1) := by decide +kernel
theorem dX4_partBy_168 : decode cX4_partBy 168 = .ok (.iconst 1, 1) := by decide +kernel
theorem dX4_partBy_169 : decode cX4_partBy 169 = .ok (.isub, 1) := by decide +kernel
theorem dX4_partBy_170 : decode cX4_partBy 170 = .ok (.iaload, 1) := by decide +kernel
theorem dX4_partBy_171 : decode cX4_partBy 171 = .ok (.i2l, 1) := by decide +kernel
theorem dX4_partBy_172 : decode cX4_partBy 172 = .ok (.goto 4, 3) := by decide +kernel
theorem dX4_partBy_175 : decode cX4_partBy 175 = .ok (.lconst 0, 1) := by decide +kernel
theorem dX4_partBy_176 : decode cX4_partBy 176 = .ok (.lreturn, 1) := by decide +kernel
theorem dX4_varOf_0 : decode cX4_varOf 0 = .ok (.iconst (-1), 1) := by decide +kernel
theorem dX4_varOf_1 : decode cX4_varOf 1 = .ok (.iload_n 0, 1) := by decide +kernel
theorem dX4_varOf_2 : decode cX4_varOf 2 = .ok (.isub, 1) := by decide +kernel
theorem dX4_varOf_3 : decode cX4_varOf 3 = .ok (.istore_n 2, 1) := by decide +kernel
theorem dX4_varOf_4 : decode cX4_varOf 4 = .ok (.iload_n 2, 1) := by decide +kernel
theorem dX4_varOf_5 : decode cX4_varOf 5 = .ok (.ifCond .lt 15, 3) := by decide +kernel
theorem dX4_varOf_8 : decode cX4_varOf 8 = .ok (.iload_n 2, 1) := by decide +kernel
theorem dX4_varOf_9 : decode cX4_varOf 9 = .ok (.aload_n 1, 1) := by decide +kernel
theorem dX4_varOf_10 : decode cX4_varOf 10 = .ok (.arraylength, 1) := by decide +kernel
theorem dX4_varOf_11 : decode cX4_varOf 11 = .ok (.if_icmp .ge 9, 3) := by decide +kernel
theorem dX4_varOf_14 : decode cX4_varOf 14 = .ok (.aload_n 1, 1) := by decide +kernel
theorem dX4_varOf_15 : decode cX4_varOf 15 = .ok (.iload_n 2, 1) := by decide +kernel
theorem dX4_varOf_16 : decode cX4_varOf 16 = .ok (.iaload, 1) := by decide +kernel
theorem dX4_varOf_17 : decode cX4_varOf 17 = .ok (.goto 4, 3) := by decide +kernel
theorem dX4_varOf_20 : decode cX4_varOf 20 = .ok (.iconst 0, 1) := by decide +kernel
theorem dX4_varOf_21 : decode cX4_varOf 21 = .ok (.ireturn, 1) := by decide +kernel
theorem dX4_join_0 : decode cX4_join 0 = .ok (.iload_n 0, 1) := by decide +kernel
theorem dX4_join_1 : decode cX4_join 1 = .ok (.tableswitch 39 (-13) (-11) #[35, 31, 27], 27) := by decide +kernel
theorem dX4_join_28 : decode cX4_join 28 = .ok (.iload_n 1, 1) := by decide +kernel
theorem dX4_join_29 : decode cX4_join 29 = .ok (.iload_n 2, 1) := by decide +kernel
theorem dX4_join_30 : decode cX4_join 30 = .ok (.iadd, 1) := by decide +kernel
theorem dX4_join_31 : decode cX4_join 31 = .ok (.ireturn, 1) := by decide +kernel
theorem dX4_join_32 : decode cX4_join 32 = .ok (.iload_n 1, 1) := by decide +kernel
theorem dX4_join_33 : decode cX4_join 33 = .ok (.iload_n 2, 1) := by decide +kernel
theorem dX4_join_34 : decode cX4_join 34 = .ok (.isub, 1) := by decide +kernel
theorem dX4_join_35 : decode cX4_join 35 = .ok (.ireturn, 1) := by decide +kernel
theorem dX4_join_36 : decode cX4_join 36 = .ok (.iload_n 1, 1) := by decide +kernel
theorem dX4_join_37 : decode cX4_join 37 = .ok (.iload_n 2, 1) := by decide +kernel
theorem dX4_join_38 : decode cX4_join 38 = .ok (.imul, 1) := by decide +kernel
theorem dX4_join_39 : decode cX4_join 39 = .ok (.ireturn, 1) := by decide +kernel
theorem dX4_join_40 : decode cX4_join 40 = .ok (.iload_n 2, 1) := by decide +kernel
theorem dX4_join_41 : decode cX4_join 41 = .ok (.ifCond .ne 7, 3) := by decide +kernel
theorem dX4_join_44 : decode cX4_join 44 = .ok (.iconst 0, 1) := by decide +kernel
theorem dX4_join_45 : decode cX4_join 45 = .ok (.goto 6, 3) := by decide +kernel
theorem dX4_join_48 : decode cX4_join 48 = .ok (.iload_n 1, 1) := by decide +kernel
theorem dX4_join_49 : decode cX4_join 49 = .ok (.iload_n 2, 1) := by decide +kernel
theorem dX4_join_50 : decode cX4_join 50 = .ok (.idiv, 1) := by decide +kernel
theorem dX4_join_51 : decode cX4_join 51 = .ok (.ireturn, 1) := by decide +kernel
theorem dX5_init_0 : decode cX5_init 0 = .ok (.aload_n 0, 1) := by decide +kernel
theorem dX5_init_1 : decode cX5_init 1 = .ok (.invokespecial 3, 3) := by decide +kernel
theorem dX5_init_4 : decode cX5_init 4 = .ok (.aload_n 0, 1) := by decide +kernel
theorem dX5_init_5 : decode cX5_init 5 = .ok (.iconst 4, 1) := by decide +kernel
theorem dX5_init_6 : decode cX5_init 6 = .ok (.newarray .int, 2) := by decide +kernel
theorem dX5_init_8 : decode cX5_init 8 = .ok (.putfield 9, 3) := by decide +kernel
theorem dX5_init_11 : decode cX5_init 11 = .ok (.aload_n 0, 1) := by decide +kernel
theorem dX5_init_12 : decode cX5_init 12 = .ok (.iconst 4, 1) := by decide +kernel
theorem dX5_init_13 : decode cX5_init 13 = .ok (.newarray .int, 2) := by decide +kernel
theorem dX5_init_15 : decode cX5_init 15 = .ok (.putfield 15, 3) := by decide +kernel
theorem dX5_init_18 : decode cX5_init 18 = .ok (.aload_n 0, 1) := by decide +kernel
theorem dX5_init_19 : decode cX5_init 19 = .ok (.new 18, 3) := by decide +kernel
theorem dX5_init_22 : decode cX5_init 22 = .ok (.dup, 1) := by decide +kernel
theorem dX5_init_23 : decode cX5_init 23 = .ok (.invokespecial 20, 3) := by decide +kernel
theorem dX5_init_26 : decode cX5_init 26 = .ok (.putfield 21, 3) := by decide +kernel
theorem dX5_init_29 : decode cX5_init 29 = .ok (.aload_n 0, 1) := by decide +kernel
theorem dX5_init_30 : decode cX5_init 30 = .ok (.iconst 4, 1) := by decide +kernel
theorem dX5_init_31 : decode cX5_init 31 = .ok (.newarray .int, 2) := by decide +kernel
theorem dX5_init_33 : decode cX5_init 33 = .ok (.putfield 25, 3) := by decide +kernel
theorem dX5_init_36 : decode cX5_init 36 = .ok (.aload_n 0, 1) := by decide +kernel
theorem dX5_init_37 : decode cX5_init 37 = .ok (.iconst 4, 1) := by decide +kernel
theorem dX5_init_38 : decode cX5_init 38 = .ok (.newarray .int, 2) := by decide +kernel
theorem dX5_init_40 : decode cX5_init 40 = .ok (.putfield 28, 3) := by decide +kernel
theorem dX5_init_43 : decode cX5_init 43 = .ok (.aload_n 0, 1) := by decide +kernel
theorem dX5_init_44 : decode cX5_init 44 = .ok (.bipush 35, 2) := by decide +kernel
theorem dX5_init_46 : decode cX5_init 46 = .ok (.newarray .boolean, 2) := by decide +kernel
theorem dX5_init_48 : decode cX5_init 48 = .ok (.putfield 31, 3) := by decide +kernel
theorem dX5_init_51 : decode cX5_init 51 = .ok (.aload_n 0, 1) := by decide +kernel
theorem dX5_init_52 : decode cX5_init 52 = .ok (.bipush 7, 2) := by decide +kernel
theorem dX5_init_54 : decode cX5_init 54 = .ok (.newarray .int, 2) := by decide +kernel
theorem dX5_init_56 : decode cX5_init 56 = .ok (.putfield 35, 3) := by decide +kernel
theorem dX5_init_59 : decode cX5_init 59 = .ok (.aload_n 0, 1) := by decide +kernel
theorem dX5_init_60 : decode cX5_init 60 = .ok (.sipush 640, 3) := by decide +kernel
theorem dX5_init_63 : decode cX5_init 63 = .ok (.newarray .int, 2) := by decide +kernel
theorem dX5_init_65 : decode cX5_init 65 = .ok (.putfield 38, 3) := by decide +kernel
theorem dX5_init_68 : decode cX5_init 68 = .ok (.return_, 1) := by decide +kernel
theorem dX5_findCheapest_0 : decode cX5_findCheapest 0 = .ok (.aload_n 0, 1) := by decide +kernel
theorem dX5_findCheapest_1 : decode cX5_findCheapest 1 = .ok (.ldc 41, 2) := by decide +kernel
theorem dX5_findCheapest_3 : decode cX5_findCheapest 3 = .ok (.putfield 42, 3) := by decide +kernel
theorem dX5_findCheapest_6 : decode cX5_findCheapest 6 = .ok (.iconst 0, 1) := by decide +kernel
theorem dX5_findCheapest_7 : decode cX5_findCheapest 7 = .ok (.istore 4, 2) := by decide +kernel
theorem dX5_findCheapest_9 : decode cX5_findCheapest 9 = .ok (.iload 4, 2) := by decide +kernel
theorem dX5_findCheapest_11 : decode cX5_findCheapest 11 = .ok (.aload_n 1, 1) := by decide +kernel
theorem dX5_findCheapest_12 : decode cX5_findCheapest 12 = .ok (.getfield 46, 3) := by decide +kernel
theorem dX5_findCheapest_15 : decode cX5_findCheapest 15 = .ok (.if_icmp .ge 78, 3) := by decide +kernel
theorem dX5_findCheapest_18 : decode cX5_findCheapest 18 = .ok (.aload_n 1, 1) := by decide +kernel
theorem dX5_findCheapest_19 : decode cX5_findCheapest 19 = .ok (.aload_n 2, 1) := by decide +kernel
theorem dX5_findCheapest_20 : decode cX5_findCheapest 20 = .ok (.iload_n 3, 1) := by decide +kernel
theorem dX5_findCheapest_21 : decode cX5_findCheapest 21 = .ok (.iload 4, 2) := by decide +kernel
theorem dX5_findCheapest_23 : decode cX5_findCheapest 23 = .ok (.invokestatic 51, 3) := by decide +kernel
theorem dX5_findCheapest_26 : decode cX5_findCheapest 26 = .ok (.istore 5, 2) := by decide +kernel
theorem dX5_findCheapest_28 : decode cX5_findCheapest 28 = .ok (.aload_n 1, 1) := by decide +kernel
theorem dX5_findCheapest_29 : decode cX5_findCheapest 29 = .ok (.getfield 55, 3) := by decide +kernel
theorem dX5_findCheapest_32 : decode cX5_findCheapest 32 = .ok (.iload 4, 2) := by decide +kernel
theorem dX5_findCheapest_34 : decode cX5_findCheapest 34 = .ok (.iaload, 1) := by decide +kernel
theorem dX5_findCheapest_35 : decode cX5_findCheapest 35 = .ok (.aload_n 1, 1) := by decide +kernel
theorem dX5_findCheapest_36 : decode cX5_findCheapest 36 = .ok (.iload 5, 2) := by decide +kernel
theorem dX5_findCheapest_38 : decode cX5_findCheapest 38 = .ok (.invokevirtual 58, 3) := by decide +kernel
theorem dX5_findCheapest_41 : decode cX5_findCheapest 41 = .ok (.iadd, 1) := by decide +kernel
theorem dX5_findCheapest_42 : decode cX5_findCheapest 42 = .ok (.istore 6, 2) := by decide +kernel
theorem dX5_findCheapest_44 : decode cX5_findCheapest 44 = .ok (.iload 5, 2) := by decide +kernel
theorem dX5_findCheapest_46 : decode cX5_findCheapest 46 = .ok (.bipush (-2), 2) := by decide +kernel
theorem dX5_findCheapest_48 : decode cX5_findCheapest 48 = .ok (.if_icmp .eq 39, 3) := by decide +kernel
theorem dX5_findCheapest_51 : decode cX5_findCheapest 51 = .ok (.aload_n 2, 1) := by decide +kernel
theorem dX5_findCheapest_52 : decode cX5_findCheapest 52 = .ok (.iload 4, 2) := by decide +kernel
theorem dX5_findCheapest_54 : decode cX5_findCheapest 54 = .ok (.invokevirtual 62, 3) := by decide +kernel
theorem dX5_findCheapest_57 : decode cX5_findCheapest 57 = .ok (.ifCond .eq 30, 3) := by decide +kernel
theorem dX5_findCheapest_60 : decode cX5_findCheapest 60 = .ok (.iload 6, 2) := by decide +kernel
theorem dX5_findCheapest_62 : decode cX5_findCheapest 62 = .ok (.aload_n 0, 1) := by decide +kernel
theorem dX5_findCheapest_63 : decode cX5_findCheapest 63 = .ok (.getfield 42, 3) := by decide +kernel
theorem dX5_findCheapest_66 : decode cX5_findCheapest 66 = .ok (.if_icmp .ge 21, 3) := by decide +kernel
theorem dX5_findCheapest_69 : decode cX5_findCheapest 69 = .ok (.aload_n 0, 1) := by decide +kernel
theorem dX5_findCheapest_70 : decode cX5_findCheapest 70 = .ok (.iload 6, 2) := by decide +kernel
theorem dX5_findCheapest_72 : decode cX5_findCheapest 72 = .ok (.putfield 42, 3) := by decide +kernel
theorem dX5_findCheapest_75 : decode cX5_findCheapest 75 = .ok (.aload_n 0, 1) := by decide +kernel
theorem dX5_findCheapest_76 : decode cX5_findCheapest 76 = .ok (.iload 4, 2) := by decide +kernel
theorem dX5_findCheapest_78 : decode cX5_findCheapest 78 = .ok (.putfield 66, 3) := by decide +kernel
theorem dX5_findCheapest_81 : decode cX5_findCheapest 81 = .ok (.aload_n 0, 1) := by decide +kernel
theorem dX5_findCheapest_82 : decode cX5_findCheapest 82 = .ok (.iload 5, 2) := by decide +kernel
theorem dX5_findCheapest_84 : decode cX5_findCheapest 84 = .ok (.putfield 69, 3) := by decide +kernel
theorem dX5_findCheapest_87 : decode cX5_findCheapest 87 = .ok (.iinc 4 1, 3) := by decide +kernel
theorem dX5_findCheapest_90 : decode cX5_findCheapest 90 = .ok (.goto (-81), 3) := by decide +kernel
theorem dX5_findCheapest_93 : decode cX5_findCheapest 93 = .ok (.aload_n 0, 1) := by decide +kernel
theorem dX5_findCheapest_94 : decode cX5_findCheapest 94 = .ok (.getfield 42, 3) := by decide +kernel
theorem dX5_findCheapest_97 : decode cX5_findCheapest 97 = .ok (.ldc 41, 2) := by decide +kernel
theorem dX5_findCheapest_99 : decode cX5_findCheapest 99 = .ok (.if_icmp .ge 7, 3) := by decide +kernel
theorem dX5_findCheapest_102 : decode cX5_findCheapest 102 = .ok (.iconst 1, 1) := by decide +kernel
theorem dX5_findCheapest_103 : decode cX5_findCheapest 103 = .ok (.goto 4, 3) := by decide +kernel
theorem dX5_findCheapest_106 : decode cX5_findCheapest 106 = .ok (.iconst 0, 1) := by decide +kernel
theorem dX5_findCheapest_107 : decode cX5_findCheapest 107 = .ok (.ireturn, 1) := by decide +kernel
theorem dX5_cheapestWay_0 : decode cX5_cheapestWay 0 = .ok (.bipush (-2), 2) := by decide +kernel
theorem dX5_cheapestWay_2 : decode cX5_cheapestWay 2 = .ok (.istore 4, 2) := by decide +kernel
theorem dX5_cheapestWay_4 : decode cX5_cheapestWay 4 = .ok (.iconst (-1), 1) := by decide +kernel
theorem dX5_cheapestWay_5 : decode cX5_cheapestWay 5 = .ok (.istore 5, 2) := by decide +kernel
theorem dX5_cheapestWay_7 : decode cX5_cheapestWay 7 = .ok (.iload 5, 2) := by decide +kernel
theorem dX5_cheapestWay_9 : decode cX5_cheapestWay 9 = .ok (.aload_n 0, 1) := by decide +kernel
theorem dX5_cheapestWay_10 : decode cX5_cheapestWay 10 = .ok (.getfield 72, 3) := by decide +kernel
theorem dX5_cheapestWay_13 : decode cX5_cheapestWay 13 = .ok (.if_icmp .ge 63, 3) := by decide +kernel
theorem dX5_cheapestWay_16 : decode cX5_cheapestWay 16 = .ok (.iload 4, 2) := by decide +kernel
theorem dX5_cheapestWay_18 : decode cX5_cheapestWay 18 = .ok (.bipush (-2), 2) := by decide +kernel
theorem dX5_cheapestWay_20 : decode cX5_cheapestWay 20 = .ok (.if_icmp .eq 18, 3) := by decide +kernel
theorem dX5_cheapestWay_23 : decode cX5_cheapestWay 23 = .ok (.aload_n 0, 1) := by decide +kernel
theorem dX5_cheapestWay_24 : decode cX5_cheapestWay 24 = .ok (.iload 5, 2) := by decide +kernel
theorem dX5_cheapestWay_26 : decode cX5_cheapestWay 26 = .ok (.invokevirtual 58, 3) := by decide +kernel
theorem dX5_cheapestWay_29 : decode cX5_cheapestWay 29 = .ok (.aload_n 0, 1) := by decide +kernel
theorem dX5_cheapestWay_30 : decode cX5_cheapestWay 30 = .ok (.iload 4, 2) := by decide +kernel
theorem dX5_cheapestWay_32 : decode cX5_cheapestWay 32 = .ok (.invokevirtual 58, 3) := by decide +kernel
theorem dX5_cheapestWay_35 : decode cX5_cheapestWay 35 = .ok (.if_icmp .ge 7, 3) := by decide +kernel
theorem dX5_cheapestWay_38 : decode cX5_cheapestWay 38 = .ok (.iconst 1, 1) := by decide +kernel
theorem dX5_cheapestWay_39 : decode cX5_cheapestWay 39 = .ok (.goto 4, 3) := by decide +kernel
theorem dX5_cheapestWay_42 : decode cX5_cheapestWay 42 = .ok (.iconst 0, 1) := by decide +kernel
theorem dX5_cheapestWay_43 : decode cX5_cheapestWay 43 = .ok (.istore 6, 2) := by decide +kernel
theorem dX5_cheapestWay_45 : decode cX5_cheapestWay 45 = .ok (.iload 6, 2) := by decide +kernel
theorem dX5_cheapestWay_47 : decode cX5_cheapestWay 47 = .ok (.ifCond .eq 23, 3) := by decide +kernel
theorem dX5_cheapestWay_50 : decode cX5_cheapestWay 50 = .ok (.aload_n 1, 1) := by decide +kernel
theorem dX5_cheapestWay_51 : decode cX5_cheapestWay 51 = .ok (.aload_n 0, 1) := by decide +kernel
theorem dX5_cheapestWay_52 : decode cX5_cheapestWay 52 = .ok (.iload_n 2, 1) := by decide +kernel
theorem dX5_cheapestWay_53 : decode cX5_cheapestWay 53 = .ok (.aload_n 0, 1) := by decide +kernel
theorem dX5_cheapestWay_54 : decode cX5_cheapestWay 54 = .ok (.iload_n 3, 1) := by decide +kernel
theorem dX5_cheapestWay_55 : decode cX5_cheapestWay 55 = .ok (.iload 5, 2) := by decide +kernel
theorem dX5_cheapestWay_57 : decode cX5_cheapestWay 57 = .ok (.invokevirtual 75, 3) := by decide +kernel
theorem dX5_cheapestWay_60 : decode cX5_cheapestWay 60 = .ok (.invokevirtual 79, 3) := by decide +kernel
theorem dX5_cheapestWay_63 : decode cX5_cheapestWay 63 = .ok (.ifCond .eq 7, 3) := by decide +kernel
theorem dX5_cheapestWay_66 : decode cX5_cheapestWay 66 = .ok (.iload 5, 2) := by decide +kernel
theorem dX5_cheapestWay_68 : decode cX5_cheapestWay 68 = .ok (.istore 4, 2) := by decide +kernel
theorem dX5_cheapestWay_70 : decode cX5_cheapestWay 70 = .ok (.iinc 5 1, 3) := by decide +kernel
theorem dX5_cheapestWay_73 : decode cX5_cheapestWay 73 = .ok (.goto (-66), 3) := by decide +kernel
theorem dX5_cheapestWay_76 : decode cX5_cheapestWay 76 = .ok (.iload 4, 2) := by decide +kernel
theorem dX5_cheapestWay_78 : decode cX5_cheapestWay 78 = .ok (.ireturn, 1) := by decide +kernel
theorem dX5_findForAll_0 : decode cX5_findForAll 0 = .ok (.aload_n 0, 1) := by decide +kernel
theorem dX5_findForAll_1 : decode cX5_findForAll 1 = .ok (.getfield 21, 3) := by decide +kernel
theorem dX5_findForAll_4 : decode cX5_findForAll 4 = .ok (.aload_n 2, 1) := by decide +kernel
theorem dX5_findForAll_5 : decode cX5_findForAll 5 = .ok (.invokevirtual 83, 3) := by decide +kernel
theorem dX5_findForAll_8 : decode cX5_findForAll 8 = .ok (.aload_n 0, 1) := by decide +kernel
theorem dX5_findForAll_9 : decode cX5_findForAll 9 = .ok (.ldc 41, 2) := by decide +kernel
theorem dX5_findForAll_11 : decode cX5_findForAll 11 = .ok (.putfield 87, 3) := by decide +kernel
theorem dX5_findForAll_14 : decode cX5_findForAll 14 = .ok (.iconst 1, 1) := by decide +kernel
theorem dX5_findForAll_15 : decode cX5_findForAll 15 = .ok (.aload_n 1, 1) := by decide +kernel
theorem dX5_findForAll_16 : decode cX5_findForAll 16 = .ok (.getfield 46, 3) := by decide +kernel
theorem dX5_findForAll_19 : decode cX5_findForAll 19 = .ok (.ishl, 1) := by decide +kernel
theorem dX5_findForAll_20 : decode cX5_findForAll 20 = .ok (.istore_n 3, 1) := by decide +kernel
theorem dX5_findForAll_21 : decode cX5_findForAll 21 = .ok (.aload_n 0, 1) := by decide +kernel
theorem dX5_findForAll_22 : decode cX5_findForAll 22 = .ok (.getfield 38, 3) := by decide +kernel
theorem dX5_findForAll_25 : decode cX5_findForAll 25 = .ok (.aload_n 1, 1) := by decide +kernel
theorem dX5_findForAll_26 : decode cX5_findForAll 26 = .ok (.getfield 90, 3) := by decide +kernel
theorem dX5_findForAll_29 : decode cX5_findForAll 29 = .ok (.sipush 128, 3) := by decide +kernel
theorem dX5_findForAll_32 : decode cX5_findForAll 32 = .ok (.imul, 1) := by decide +kernel
theorem dX5_findForAll_33 : decode cX5_findForAll 33 = .ok (.aload_n 1, 1) := by decide +kernel
theorem dX5_findForAll_34 : decode cX5_findForAll 34 = .ok (.getfield 90, 3) := by decide +kernel
theorem dX5_findForAll_37 : decode cX5_findForAll 37 = .ok (.sipush 128, 3) := by decide +kernel
theorem dX5_findForAll_40 : decode cX5_findForAll 40 = .ok (.imul, 1) := by decide +kernel
theorem dX5_findForAll_41 : decode cX5_findForAll 41 = .ok (.iload_n 3, 1) := by decide +kernel
theorem dX5_findForAll_42 : decode cX5_findForAll 42 = .ok (.iadd, 1) := by decide +kernel
theorem dX5_findForAll_43 : decode cX5_findForAll 43 = .ok (.iconst 0, 1) := by decide +kernel
theorem dX5_findForAll_44 : decode cX5_findForAll 44 = .ok (.invokestatic 93, 3) := by decide +kernel
theorem dX5_findForAll_47 : decode cX5_findForAll 47 = .ok (.aload_n 1, 1) := by decide +kernel
theorem dX5_findForAll_48 : decode cX5_findForAll 48 = .ok (.getfield 90, 3) := by decide +kernel
theorem dX5_findForAll_51 : decode cX5_findForAll 51 = .ok (.iconst 1, 1) := by decide +kernel
theorem dX5_findForAll_52 : decode cX5_findForAll 52 = .ok (.isub, 1) := by decide +kernel
theorem dX5_findForAll_53 : decode cX5_findForAll 53 = .ok (.istore 4, 2) := by decide +kernel
theorem dX5_findForAll_55 : decode cX5_findForAll 55 = .ok (.iload 4, 2) := by decide +kernel
theorem dX5_findForAll_57 : decode cX5_findForAll 57 = .ok (.ifCond .lt 95, 3) := by decide +kernel
theorem dX5_findForAll_60 : decode cX5_findForAll 60 = .ok (.aload_n 0, 1) := by decide +kernel
theorem dX5_findForAll_61 : decode cX5_findForAll 61 = .ok (.getfield 21, 3) := by decide +kernel
theorem dX5_findForAll_64 : decode cX5_findForAll 64 = .ok (.getfield 99, 3) := by decide +kernel
theorem dX5_findForAll_67 : decode cX5_findForAll 67 = .ok (.iload 4, 2) := by decide +kernel
theorem dX5_findForAll_69 : decode cX5_findForAll 69 = .ok (.iaload, 1) := by decide +kernel
theorem dX5_findForAll_70 : decode cX5_findForAll 70 = .ok (.ifCond .ne 50, 3) := by decide +kernel
theorem dX5_findForAll_73 : decode cX5_findForAll 73 = .ok (.aload_n 0, 1) := by decide +kernel
theorem dX5_findForAll_74 : decode cX5_findForAll 74 = .ok (.aload_n 1, 1) := by decide +kernel
theorem dX5_findForAll_75 : decode cX5_findForAll 75 = .ok (.iload 4, 2) := by decide +kernel
theorem dX5_findForAll_77 : decode cX5_findForAll 77 = .ok (.invokevirtual 102, 3) := by decide +kernel
theorem dX5_findForAll_80 : decode cX5_findForAll 80 = .ok (.iconst 0, 1) := by decide +kernel
theorem dX5_findForAll_81 : decode cX5_findForAll 81 = .ok (.istore 5, 2) := by decide +kernel
theorem dX5_findForAll_83 : decode cX5_findForAll 83 = .ok (.iload 5, 2) := by decide +kernel
theorem dX5_findForAll_85 : decode cX5_findForAll 85 = .ok (.iload_n 3, 1) := by decide +kernel
theorem dX5_findForAll_86 : decode cX5_findForAll 86 = .ok (.if_icmp .ge 31, 3) := by decide +kernel
theorem dX5_findForAll_89 : decode cX5_findForAll 89 = .ok (.aload_n 0, 1) := by decide +kernel
theorem dX5_findForAll_90 : decode cX5_findForAll 90 = .ok (.getfield 38, 3) := by decide +kernel
theorem dX5_findForAll_93 : decode cX5_findForAll 93 = .ok (.iload 4, 2) := by decide +kernel
theorem dX5_findForAll_95 : decode cX5_findForAll 95 = .ok (.sipush 128, 3) := by decide +kernel
theorem dX5_findForAll_98 : decode cX5_findForAll 98 = .ok (.imul, 1) := by decide +kernel
theorem dX5_findForAll_99 : decode cX5_findForAll 99 = .ok (.iload 5, 2) := by decide +kernel
theorem dX5_findForAll_101 : decode cX5_findForAll 101 = .ok (.iadd, 1) := by decide +kernel
theorem dX5_findForAll_102 : decode cX5_findForAll 102 = .ok (.aload_n 0, 1) := by decide +kernel
theorem dX5_findForAll_103 : decode cX5_findForAll 103 = .ok (.iload 4, 2) := by decide +kernel
theorem dX5_findForAll_105 : decode cX5_findForAll 105 = .ok (.iload 5, 2) := by decide +kernel
theorem dX5_findForAll_107 : decode cX5_findForAll 107 = .ok (.invokevirtual 106, 3) := by decide +kernel
theorem dX5_findForAll_110 : decode cX5_findForAll 110 = .ok (.iastore, 1) := by decide +kernel
theorem dX5_findForAll_111 : decode cX5_findForAll 111 = .ok (.iinc 5 1, 3) := by decide +kernel
theorem dX5_findForAll_114 : decode cX5_findForAll 114 = .ok (.goto (-31), 3) := by decide +kernel
theorem dX5_findForAll_117 : decode cX5_findForAll 117 = .ok (.goto 29, 3) := by decide +kernel
theorem dX5_findForAll_120 : decode cX5_findForAll 120 = .ok (.aload_n 0, 1) := by decide +kernel
theorem dX5_findForAll_121 : decode cX5_findForAll 121 = .ok (.getfield 38, 3) := by decide +kernel
theorem dX5_findForAll_124 : decode cX5_findForAll 124 = .ok (.iload 4, 2) := by decide +kernel
theorem dX5_findForAll_126 : decode cX5_findForAll 126 = .ok (.iconst 1, 1) := by decide +kernel
theorem dX5_findForAll_127 : decode cX5_findForAll 127 = .ok (.iadd, 1) := by decide +kernel
theorem dX5_findForAll_128 : decode cX5_findForAll 128 = .ok (.sipush 128, 3) := by decide +kernel
theorem dX5_findForAll_131 : decode cX5_findForAll 131 = .ok (.imul, 1) := by decide +kernel
theorem dX5_findForAll_132 : decode cX5_findForAll 132 = .ok (.aload_n 0, 1) := by decide +kernel
theorem dX5_findForAll_133 : decode cX5_findForAll 133 = .ok (.getfield 38, 3) := by decide +kernel
theorem dX5_findForAll_136 : decode cX5_findForAll 136 = .ok (.iload 4, 2) := by decide +kernel
theorem dX5_findForAll_138 : decode cX5_findForAll 138 = .ok (.sipush 128, 3) := by decide +kernel
theorem dX5_findForAll_141 : decode cX5_findForAll 141 = .ok (.imul, 1) := by decide +kernel
theorem dX5_findForAll_142 : decode cX5_findForAll 142 = .ok (.iload_n 3, 1) := by decide +kernel
theorem dX5_findForAll_143 : decode cX5_findForAll 143 = .ok (.invokestatic 109, 3) := by decide +kernel
theorem dX5_findForAll_146 : decode cX5_findForAll 146 = .ok (.iinc 4 (-1), 3) := by decide +kernel
theorem dX5_findForAll_149 : decode cX5_findForAll 149 = .ok (.goto (-94), 3) := by decide +kernel
theorem dX5_findForAll_152 : decode cX5_findForAll 152 = .ok (.aload_n 0, 1) := by decide +kernel
theorem dX5_findForAll_153 : decode cX5_findForAll 153 = .ok (.getfield 38, 3) := by decide +kernel
theorem dX5_findForAll_156 : decode cX5_findForAll 156 = .ok (.aload_n 0, 1) := by decide +kernel
theorem dX5_findForAll_157 : decode cX5_findForAll 157 = .ok (.getfield 21, 3) := by decide +kernel
theorem dX5_findForAll_160 : decode cX5_findForAll 160 = .ok (.getfield 115, 3) := by decide +kernel
theorem dX5_findForAll_163 : decode cX5_findForAll 163 = .ok (.iaload, 1) := by decide +kernel
theorem dX5_findForAll_164 : decode cX5_findForAll 164 = .ok (.ldc 41, 2) := by decide +kernel
theorem dX5_findForAll_166 : decode cX5_findForAll 166 = .ok (.if_icmp .ge 15, 3) := by decide +kernel
theorem dX5_findForAll_169 : decode cX5_findForAll 169 = .ok (.aload_n 0, 1) := by decide +kernel
theorem dX5_findForAll_170 : decode cX5_findForAll 170 = .ok (.aload_n 1, 1) := by decide +kernel
theorem dX5_findForAll_171 : decode cX5_findForAll 171 = .ok (.invokevirtual 118, 3) := by decide +kernel
theorem dX5_findForAll_174 : decode cX5_findForAll 174 = .ok (.aload_n 0, 1) := by decide +kernel
theorem dX5_findForAll_175 : decode cX5_findForAll 175 = .ok (.aload_n 1, 1) := by decide +kernel
theorem dX5_findForAll_176 : decode cX5_findForAll 176 = .ok (.iconst 0, 1) := by decide +kernel
theorem dX5_findForAll_177 : decode cX5_findForAll 177 = .ok (.iconst 0, 1) := by decide +kernel
theorem dX5_findForAll_178 : decode cX5_findForAll 178 = .ok (.invokevirtual 122, 3) := by decide +kernel
theorem dX5_findForAll_181 : decode cX5_findForAll 181 = .ok (.aload_n 0, 1) := by decide +kernel
theorem dX5_findForAll_182 : decode cX5_findForAll 182 = .ok (.getfield 87, 3) := by decide +kernel
theorem dX5_findForAll_185 : decode cX5_findForAll 185 = .ok (.ldc 41, 2) := by decide +kernel
theorem dX5_findForAll_187 : decode cX5_findForAll 187 = .ok (.if_icmp .ge 7, 3) := by decide +kernel
theorem dX5_findForAll_190 : decode cX5_findForAll 190 = .ok (.iconst 1, 1) := by decide +kernel
theorem dX5_findForAll_191 : decode cX5_findForAll 191 = .ok (.goto 4, 3) := by decide +kernel
theorem dX5_findForAll_194 : decode cX5_findForAll 194 = .ok (.iconst 0, 1) := by decide +kernel
theorem dX5_findForAll_195 : decode cX5_findForAll 195 = .ok (.ireturn, 1) := by decide +kernel
theorem dX5_lookUpWays_0 : decode cX5_lookUpWays 0 = .ok (.iconst 0, 1) := by decide +kernel
theorem dX5_lookUpWays_1 : decode cX5_lookUpWays 1 = .ok (.istore_n 2, 1) := by decide +kernel
theorem dX5_lookUpWays_2 : decode cX5_lookUpWays 2 = .ok (.iload_n 2, 1) := by decide +kernel
theorem dX5_lookUpWays_3 : decode cX5_lookUpWays 3 = .ok (.aload_n 1, 1) := by decide +kernel
theorem dX5_lookUpWays_4 : decode cX5_lookUpWays 4 = .ok (.getfield 46, 3) := by decide +kernel
theorem dX5_lookUpWays_7 : decode cX5_lookUpWays 7 = .ok (.if_icmp .ge 41, 3) := by decide +kernel
theorem dX5_lookUpWays_10 : decode cX5_lookUpWays 10 = .ok (.iconst (-1), 1) := by decide +kernel
theorem dX5_lookUpWays_11 : decode cX5_lookUpWays 11 = .ok (.istore_n 3, 1) := by decide +kernel
theorem dX5_lookUpWays_12 : decode cX5_lookUpWays 12 = .ok (.iload_n 3, 1) := by decide +kernel
theorem dX5_lookUpWays_13 : decode cX5_lookUpWays 13 = .ok (.aload_n 1, 1) := by decide +kernel
theorem dX5_lookUpWays_14 : decode cX5_lookUpWays 14 = .ok (.getfield 72, 3) := by decide +kernel
theorem dX5_lookUpWays_17 : decode cX5_lookUpWays 17 = .ok (.if_icmp .ge 25, 3) := by decide +kernel
theorem dX5_lookUpWays_20 : decode cX5_lookUpWays 20 = .ok (.aload_n 0, 1) := by decide +kernel
theorem dX5_lookUpWays_21 : decode cX5_lookUpWays 21 = .ok (.getfield 31, 3) := by decide +kernel
theorem dX5_lookUpWays_24 : decode cX5_lookUpWays 24 = .ok (.iload_n 2, 1) := by decide +kernel
theorem dX5_lookUpWays_25 : decode cX5_lookUpWays 25 = .ok (.iload_n 3, 1) := by decide +kernel
theorem dX5_lookUpWays_26 : decode cX5_lookUpWays 26 = .ok (.invokestatic 126, 3) := by decide +kernel
theorem dX5_lookUpWays_29 : decode cX5_lookUpWays 29 = .ok (.aload_n 1, 1) := by decide +kernel
theorem dX5_lookUpWays_30 : decode cX5_lookUpWays 30 = .ok (.iload_n 2, 1) := by decide +kernel
theorem dX5_lookUpWays_31 : decode cX5_lookUpWays 31 = .ok (.iload_n 3, 1) := by decide +kernel
theorem dX5_lookUpWays_32 : decode cX5_lookUpWays 32 = .ok (.invokestatic 129, 3) := by decide +kernel
theorem dX5_lookUpWays_35 : decode cX5_lookUpWays 35 = .ok (.bastore, 1) := by decide +kernel
theorem dX5_lookUpWays_36 : decode cX5_lookUpWays 36 = .ok (.iinc 3 1, 3) := by decide +kernel
theorem dX5_lookUpWays_39 : decode cX5_lookUpWays 39 = .ok (.goto (-27), 3) := by decide +kernel
theorem dX5_lookUpWays_42 : decode cX5_lookUpWays 42 = .ok (.iinc 2 1, 3) := by decide +kernel
theorem dX5_lookUpWays_45 : decode cX5_lookUpWays 45 = .ok (.goto (-43), 3) := by decide +kernel
theorem dX5_lookUpWays_48 : decode cX5_lookUpWays 48 = .ok (.return_, 1) := by decide +kernel
theorem dX5_pairOf_0 : decode cX5_pairOf 0 = .ok (.iload_n 0, 1) := by decide +kernel
theorem dX5_pairOf_1 : decode cX5_pairOf 1 = .ok (.iconst 5, 1) := by decide +kernel
theorem dX5_pairOf_2 : decode cX5_pairOf 2 = .ok (.imul, 1) := by decide +kernel
theorem dX5_pairOf_3 : decode cX5_pairOf 3 = .ok (.iload_n 1, 1) := by decide +kernel
theorem dX5_pairOf_4 : decode cX5_pairOf 4 = .ok (.iadd, 1) := by decide +kernel
theorem dX5_pairOf_5 : decode cX5_pairOf 5 = .ok (.iconst 1, 1) := by decide +kernel
theorem dX5_pairOf_6 : decode cX5_pairOf 6 = .ok (.iadd, 1) := by decide +kernel
theorem dX5_pairOf_7 : decode cX5_pairOf 7 = .ok (.ireturn, 1) := by decide +kernel
theorem dX5_isFirstToItsSet_0 : decode cX5_isFirstToItsSet 0 = .ok (.iconst (-1), 1) := by decide +kernel
theorem dX5_isFirstToItsSet_1 : decode cX5_isFirstToItsSet 1 = .ok (.istore_n 3, 1) := by decide +kernel
theorem dX5_isFirstToItsSet_2 : decode cX5_isFirstToItsSet 2 = .ok (.iload_n 3, 1) := by decide +kernel
theorem dX5_isFirstToItsSet_3 : decode cX5_isFirstToItsSet 3 = .ok (.aload_n 0, 1) := by decide +kernel
theorem dX5_isFirstToItsSet_4 : decode cX5_isFirstToItsSet 4 = .ok (.getfield 72, 3) := by decide +kernel
theorem dX5_isFirstToItsSet_7 : decode cX5_isFirstToItsSet 7 = .ok (.if_icmp .ge 66, 3) := by decide +kernel
theorem dX5_isFirstToItsSet_10 : decode cX5_isFirstToItsSet 10 = .ok (.aload_n 0, 1) := by decide +kernel
theorem dX5_isFirstToItsSet_11 : decode cX5_isFirstToItsSet 11 = .ok (.iload_n 3, 1) := by decide +kernel
theorem dX5_isFirstToItsSet_12 : decode cX5_isFirstToItsSet 12 = .ok (.invokevirtual 58, 3) := by decide +kernel
theorem dX5_isFirstToItsSet_15 : decode cX5_isFirstToItsSet 15 = .ok (.aload_n 0, 1) := by decide +kernel
theorem dX5_isFirstToItsSet_16 : decode cX5_isFirstToItsSet 16 = .ok (.iload_n 2, 1) := by decide +kernel
theorem dX5_isFirstToItsSet_17 : decode cX5_isFirstToItsSet 17 = .ok (.invokevirtual 58, 3) := by decide +kernel
theorem dX5_isFirstToItsSet_20 : decode cX5_isFirstToItsSet 20 = .ok (.isub, 1) := by decide +kernel
theorem dX5_isFirstToItsSet_21 : decode cX5_isFirstToItsSet 21 = .ok (.istore 4, 2) := by decide +kernel
theorem dX5_isFirstToItsSet_23 : decode cX5_isFirstToItsSet 23 = .ok (.iload 4, 2) := by decide +kernel
theorem dX5_isFirstToItsSet_25 : decode cX5_isFirstToItsSet 25 = .ok (.ifCond .lt 13, 3) := by decide +kernel
theorem dX5_isFirstToItsSet_28 : decode cX5_isFirstToItsSet 28 = .ok (.iload 4, 2) := by decide +kernel
theorem dX5_isFirstToItsSet_30 : decode cX5_isFirstToItsSet 30 = .ok (.ifCond .ne 12, 3) := by decide +kernel
theorem dX5_isFirstToItsSet_33 : decode cX5_isFirstToItsSet 33 = .ok (.iload_n 3, 1) := by decide +kernel
theorem dX5_isFirstToItsSet_34 : decode cX5_isFirstToItsSet 34 = .ok (.iload_n 2, 1) := by decide +kernel
theorem dX5_isFirstToItsSet_35 : decode cX5_isFirstToItsSet 35 = .ok (.if_icmp .ge 7, 3) := by decide +kernel
theorem dX5_isFirstToItsSet_38 : decode cX5_isFirstToItsSet 38 = .ok (.iconst 1, 1) := by decide +kernel
theorem dX5_isFirstToItsSet_39 : decode cX5_isFirstToItsSet 39 = .ok (.goto 4, 3) := by decide +kernel
theorem dX5_isFirstToItsSet_42 : decode cX5_isFirstToItsSet 42 = .ok (.iconst 0, 1) := by decide +kernel
theorem dX5_isFirstToItsSet_43 : decode cX5_isFirstToItsSet 43 = .ok (.istore 5, 2) := by decide +kernel
theorem dX5_isFirstToItsSet_45 : decode cX5_isFirstToItsSet 45 = .ok (.iload 5, 2) := by decide +kernel
theorem dX5_isFirstToItsSet_47 : decode cX5_isFirstToItsSet 47 = .ok (.ifCond .eq 20, 3) := by decide +kernel
theorem dX5_isFirstToItsSet_50 : decode cX5_isFirstToItsSet 50 = .ok (.aload_n 0, 1) := by decide +kernel
theorem dX5_isFirstToItsSet_51 : decode cX5_isFirstToItsSet 51 = .ok (.iload_n 1, 1) := by decide +kernel
theorem dX5_isFirstToItsSet_52 : decode cX5_isFirstToItsSet 52 = .ok (.iload_n 3, 1) := by decide +kernel
theorem dX5_isFirstToItsSet_53 : decode cX5_isFirstToItsSet 53 = .ok (.invokevirtual 75, 3) := by decide +kernel
theorem dX5_isFirstToItsSet_56 : decode cX5_isFirstToItsSet 56 = .ok (.aload_n 0, 1) := by decide +kernel
theorem dX5_isFirstToItsSet_57 : decode cX5_isFirstToItsSet 57 = .ok (.iload_n 1, 1) := by decide +kernel
theorem dX5_isFirstToItsSet_58 : decode cX5_isFirstToItsSet 58 = .ok (.iload_n 2, 1) := by decide +kernel
theorem dX5_isFirstToItsSet_59 : decode cX5_isFirstToItsSet 59 = .ok (.invokevirtual 75, 3) := by decide +kernel
theorem dX5_isFirstToItsSet_62 : decode cX5_isFirstToItsSet 62 = .ok (.if_icmp .ne 5, 3) := by decide +kernel
theorem dX5_isFirstToItsSet_65 : decode cX5_isFirstToItsSet 65 = .ok (.iconst 0, 1) := by decide +kernel
theorem dX5_isFirstToItsSet_66 : decode cX5_isFirstToItsSet 66 = .ok (.ireturn, 1) := by decide +kernel
theorem dX5_isFirstToItsSet_67 : decode cX5_isFirstToItsSet 67 = .ok (.iinc 3 1, 3) := by decide +kernel
theorem dX5_isFirstToItsSet_70 : decode cX5_isFirstToItsSet 70 = .ok (.goto (-68), 3) := by decide +kernel
theorem dX5_isFirstToItsSet_73 : decode cX5_isFirstToItsSet 73 = .ok (.iconst 1, 1) := by decide +kernel
theorem dX5_isFirstToItsSet_74 : decode cX5_isFirstToItsSet 74 = .ok (.ireturn, 1) := by decide +kernel
theorem dX5_lookUpPrices_0 : decode cX5_lookUpPrices 0 = .ok (.aload_n 0, 1) := by decide +kernel
theorem dX5_lookUpPrices_1 : decode cX5_lookUpPrices 1 = .ok (.getfield 35, 3) := by decide +kernel
theorem dX5_lookUpPrices_4 : decode cX5_lookUpPrices 4 = .ok (.ldc 41, 2) := by decide +kernel
theorem dX5_lookUpPrices_6 : decode cX5_lookUpPrices 6 = .ok (.invokestatic 132, 3) := by decide +kernel
theorem dX5_lookUpPrices_9 : decode cX5_lookUpPrices 9 = .ok (.iconst 0, 1) := by decide +kernel
theorem dX5_lookUpPrices_10 : decode cX5_lookUpPrices 10 = .ok (.istore_n 3, 1) := by decide +kernel
theorem dX5_lookUpPrices_11 : decode cX5_lookUpPrices 11 = .ok (.iload_n 3, 1) := by decide +kernel
theorem dX5_lookUpPrices_12 : decode cX5_lookUpPrices 12 = .ok (.aload_n 1, 1) := by decide +kernel
theorem dX5_lookUpPrices_13 : decode cX5_lookUpPrices 13 = .ok (.getfield 46, 3) := by decide +kernel
theorem dX5_lookUpPrices_16 : decode cX5_lookUpPrices 16 = .ok (.if_icmp .ge 47, 3) := by decide +kernel
theorem dX5_lookUpPrices_19 : decode cX5_lookUpPrices 19 = .ok (.aload_n 1, 1) := by decide +kernel
theorem dX5_lookUpPrices_20 : decode cX5_lookUpPrices 20 = .ok (.aload_n 0, 1) := by decide +kernel
theorem dX5_lookUpPrices_21 : decode cX5_lookUpPrices 21 = .ok (.getfield 21, 3) := by decide +kernel
theorem dX5_lookUpPrices_24 : decode cX5_lookUpPrices 24 = .ok (.iload_n 2, 1) := by decide +kernel
theorem dX5_lookUpPrices_25 : decode cX5_lookUpPrices 25 = .ok (.iload_n 3, 1) := by decide +kernel
theorem dX5_lookUpPrices_26 : decode cX5_lookUpPrices 26 = .ok (.invokestatic 51, 3) := by decide +kernel
theorem dX5_lookUpPrices_29 : decode cX5_lookUpPrices 29 = .ok (.istore 4, 2) := by decide +kernel
theorem dX5_lookUpPrices_31 : decode cX5_lookUpPrices 31 = .ok (.iload 4, 2) := by decide +kernel
theorem dX5_lookUpPrices_33 : decode cX5_lookUpPrices 33 = .ok (.bipush (-2), 2) := by decide +kernel
theorem dX5_lookUpPrices_35 : decode cX5_lookUpPrices 35 = .ok (.if_icmp .eq 22, 3) := by decide +kernel
theorem dX5_lookUpPrices_38 : decode cX5_lookUpPrices 38 = .ok (.aload_n 0, 1) := by decide +kernel
theorem dX5_lookUpPrices_39 : decode cX5_lookUpPrices 39 = .ok (.getfield 35, 3) := by decide +kernel
theorem dX5_lookUpPrices_42 : decode cX5_lookUpPrices 42 = .ok (.iload_n 3, 1) := by decide +kernel
theorem dX5_lookUpPrices_43 : decode cX5_lookUpPrices 43 = .ok (.aload_n 1, 1) := by decide +kernel
theorem dX5_lookUpPrices_44 : decode cX5_lookUpPrices 44 = .ok (.getfield 55, 3) := by decide +kernel
theorem dX5_lookUpPrices_47 : decode cX5_lookUpPrices 47 = .ok (.iload_n 3, 1) := by decide +kernel
theorem dX5_lookUpPrices_48 : decode cX5_lookUpPrices 48 = .ok (.iaload, 1) := by decide +kernel
theorem dX5_lookUpPrices_49 : decode cX5_lookUpPrices 49 = .ok (.aload_n 1, 1) := by decide +kernel
theorem dX5_lookUpPrices_50 : decode cX5_lookUpPrices 50 = .ok (.iload 4, 2) := by decide +kernel
theorem dX5_lookUpPrices_52 : decode cX5_lookUpPrices 52 = .ok (.invokevirtual 58, 3) := by decide +kernel
theorem dX5_lookUpPrices_55 : decode cX5_lookUpPrices 55 = .ok (.iadd, 1) := by decide +kernel
theorem dX5_lookUpPrices_56 : decode cX5_lookUpPrices 56 = .ok (.iastore, 1) := by decide +kernel
theorem dX5_lookUpPrices_57 : decode cX5_lookUpPrices 57 = .ok (.iinc 3 1, 3) := by decide +kernel
theorem dX5_lookUpPrices_60 : decode cX5_lookUpPrices 60 = .ok (.goto (-49), 3) := by decide +kernel
theorem dX5_lookUpPrices_63 : decode cX5_lookUpPrices 63 = .ok (.return_, 1) := by decide +kernel
theorem dX5_leastFrom_0 : decode cX5_leastFrom 0 = .ok (.ldc 41, 2) := by decide +kernel
theorem dX5_leastFrom_2 : decode cX5_leastFrom 2 = .ok (.istore_n 3, 1) := by decide +kernel
theorem dX5_leastFrom_3 : decode cX5_leastFrom 3 = .ok (.iconst 0, 1) := by decide +kernel
theorem dX5_leastFrom_4 : decode cX5_leastFrom 4 = .ok (.istore 4, 2) := by decide +kernel
theorem dX5_leastFrom_6 : decode cX5_leastFrom 6 = .ok (.iload 4, 2) := by decide +kernel
theorem dX5_leastFrom_8 : decode cX5_leastFrom 8 = .ok (.bipush 7, 2) := by decide +kernel
theorem dX5_leastFrom_10 : decode cX5_leastFrom 10 = .ok (.if_icmp .ge 56, 3) := by decide +kernel
theorem dX5_leastFrom_13 : decode cX5_leastFrom 13 = .ok (.iload_n 2, 1) := by decide +kernel
theorem dX5_leastFrom_14 : decode cX5_leastFrom 14 = .ok (.iload 4, 2) := by decide +kernel
theorem dX5_leastFrom_16 : decode cX5_leastFrom 16 = .ok (.iushr, 1) := by decide +kernel
theorem dX5_leastFrom_17 : decode cX5_leastFrom 17 = .ok (.iconst 1, 1) := by decide +kernel
theorem dX5_leastFrom_18 : decode cX5_leastFrom 18 = .ok (.iand, 1) := by decide +kernel
theorem dX5_leastFrom_19 : decode cX5_leastFrom 19 = .ok (.ifCond .eq 41, 3) := by decide +kernel
theorem dX5_leastFrom_22 : decode cX5_leastFrom 22 = .ok (.aload_n 0, 1) := by decide +kernel
theorem dX5_leastFrom_23 : decode cX5_leastFrom 23 = .ok (.getfield 38, 3) := by decide +kernel
theorem dX5_leastFrom_26 : decode cX5_leastFrom 26 = .ok (.iload_n 1, 1) := by decide +kernel
theorem dX5_leastFrom_27 : decode cX5_leastFrom 27 = .ok (.iconst 1, 1) := by decide +kernel
theorem dX5_leastFrom_28 : decode cX5_leastFrom 28 = .ok (.iadd, 1) := by decide +kernel
theorem dX5_leastFrom_29 : decode cX5_leastFrom 29 = .ok (.sipush 128, 3) := by decide +kernel
theorem dX5_leastFrom_32 : decode cX5_leastFrom 32 = .ok (.imul, 1) := by decide +kernel
theorem dX5_leastFrom_33 : decode cX5_leastFrom 33 = .ok (.iload_n 2, 1) := by decide +kernel
theorem dX5_leastFrom_34 : decode cX5_leastFrom 34 = .ok (.iconst 1, 1) := by decide +kernel
theorem dX5_leastFrom_35 : decode cX5_leastFrom 35 = .ok (.iload 4, 2) := by decide +kernel
theorem dX5_leastFrom_37 : decode cX5_leastFrom 37 = .ok (.ishl, 1) := by decide +kernel
theorem dX5_leastFrom_38 : decode cX5_leastFrom 38 = .ok (.iconst (-1), 1) := by decide +kernel
theorem dX5_leastFrom_39 : decode cX5_leastFrom 39 = .ok (.ixor, 1) := by decide +kernel
theorem dX5_leastFrom_40 : decode cX5_leastFrom 40 = .ok (.iand, 1) := by decide +kernel
theorem dX5_leastFrom_41 : decode cX5_leastFrom 41 = .ok (.iadd, 1) := by decide +kernel
theorem dX5_leastFrom_42 : decode cX5_leastFrom 42 = .ok (.iaload, 1) := by decide +kernel
theorem dX5_leastFrom_43 : decode cX5_leastFrom 43 = .ok (.istore 5, 2) := by decide +kernel
theorem dX5_leastFrom_45 : decode cX5_leastFrom 45 = .ok (.iload_n 3, 1) := by decide +kernel
theorem dX5_leastFrom_46 : decode cX5_leastFrom 46 = .ok (.aload_n 0, 1) := by decide +kernel
theorem dX5_leastFrom_47 : decode cX5_leastFrom 47 = .ok (.getfield 35, 3) := by decide +kernel
theorem dX5_leastFrom_50 : decode cX5_leastFrom 50 = .ok (.iload 4, 2) := by decide +kernel
theorem dX5_leastFrom_52 : decode cX5_leastFrom 52 = .ok (.iaload, 1) := by decide +kernel
theorem dX5_leastFrom_53 : decode cX5_leastFrom 53 = .ok (.iload 5, 2) := by decide +kernel
theorem dX5_leastFrom_55 : decode cX5_leastFrom 55 = .ok (.iadd, 1) := by decide +kernel
theorem dX5_leastFrom_56 : decode cX5_leastFrom 56 = .ok (.invokestatic 135, 3) := by decide +kernel
theorem dX5_leastFrom_59 : decode cX5_leastFrom 59 = .ok (.istore_n 3, 1) := by decide +kernel
theorem dX5_leastFrom_60 : decode cX5_leastFrom 60 = .ok (.iinc 4 1, 3) := by decide +kernel
theorem dX5_leastFrom_63 : decode cX5_leastFrom 63 = .ok (.goto (-57), 3) := by decide +kernel
theorem dX5_leastFrom_66 : decode cX5_leastFrom 66 = .ok (.iload_n 3, 1) := by decide +kernel
theorem dX5_leastFrom_67 : decode cX5_leastFrom 67 = .ok (.ireturn, 1) := by decide +kernel
theorem dX5_choose_0 : decode cX5_choose 0 = .ok (.iload_n 2, 1) := by decide +kernel
theorem dX5_choose_1 : decode cX5_choose 1 = .ok (.aload_n 1, 1) := by decide +kernel
theorem dX5_choose_2 : decode cX5_choose 2 = .ok (.getfield 90, 3) := by decide +kernel
theorem dX5_choose_5 : decode cX5_choose 5 = .ok (.if_icmp .lt 37, 3) := by decide +kernel
theorem dX5_choose_8 : decode cX5_choose 8 = .ok (.aload_n 0, 1) := by decide +kernel
theorem dX5_choose_9 : decode cX5_choose 9 = .ok (.iload_n 3, 1) := by decide +kernel
theorem dX5_choose_10 : decode cX5_choose 10 = .ok (.putfield 87, 3) := by decide +kernel
theorem dX5_choose_13 : decode cX5_choose 13 = .ok (.aload_n 0, 1) := by decide +kernel
theorem dX5_choose_14 : decode cX5_choose 14 = .ok (.getfield 25, 3) := by decide +kernel
theorem dX5_choose_17 : decode cX5_choose 17 = .ok (.iconst 0, 1) := by decide +kernel
theorem dX5_choose_18 : decode cX5_choose 18 = .ok (.aload_n 0, 1) := by decide +kernel
theorem dX5_choose_19 : decode cX5_choose 19 = .ok (.getfield 9, 3) := by decide +kernel
theorem dX5_choose_22 : decode cX5_choose 22 = .ok (.iconst 0, 1) := by decide +kernel
theorem dX5_choose_23 : decode cX5_choose 23 = .ok (.iconst 4, 1) := by decide +kernel
theorem dX5_choose_24 : decode cX5_choose 24 = .ok (.invokestatic 109, 3) := by decide +kernel
theorem dX5_choose_27 : decode cX5_choose 27 = .ok (.aload_n 0, 1) := by decide +kernel
theorem dX5_choose_28 : decode cX5_choose 28 = .ok (.getfield 28, 3) := by decide +kernel
theorem dX5_choose_31 : decode cX5_choose 31 = .ok (.iconst 0, 1) := by decide +kernel
theorem dX5_choose_32 : decode cX5_choose 32 = .ok (.aload_n 0, 1) := by decide +kernel
theorem dX5_choose_33 : decode cX5_choose 33 = .ok (.getfield 15, 3) := by decide +kernel
theorem dX5_choose_36 : decode cX5_choose 36 = .ok (.iconst 0, 1) := by decide +kernel
theorem dX5_choose_37 : decode cX5_choose 37 = .ok (.iconst 4, 1) := by decide +kernel
theorem dX5_choose_38 : decode cX5_choose 38 = .ok (.invokestatic 109, 3) := by decide +kernel
theorem dX5_choose_41 : decode cX5_choose 41 = .ok (.return_, 1) := by decide +kernel
theorem dX5_choose_42 : decode cX5_choose 42 = .ok (.aload_n 0, 1) := by decide +kernel
theorem dX5_choose_43 : decode cX5_choose 43 = .ok (.getfield 21, 3) := by decide +kernel
theorem dX5_choose_46 : decode cX5_choose 46 = .ok (.getfield 99, 3) := by decide +kernel
theorem dX5_choose_49 : decode cX5_choose 49 = .ok (.iload_n 2, 1) := by decide +kernel
theorem dX5_choose_50 : decode cX5_choose 50 = .ok (.iaload, 1) := by decide +kernel
theorem dX5_choose_51 : decode cX5_choose 51 = .ok (.ifCond .eq 13, 3) := by decide +kernel
theorem dX5_choose_54 : decode cX5_choose 54 = .ok (.aload_n 0, 1) := by decide +kernel
theorem dX5_choose_55 : decode cX5_choose 55 = .ok (.aload_n 1, 1) := by decide +kernel
theorem dX5_choose_56 : decode cX5_choose 56 = .ok (.iload_n 2, 1) := by decide +kernel
theorem dX5_choose_57 : decode cX5_choose 57 = .ok (.iconst 1, 1) := by decide +kernel
theorem dX5_choose_58 : decode cX5_choose 58 = .ok (.iadd, 1) := by decide +kernel
theorem dX5_choose_59 : decode cX5_choose 59 = .ok (.iload_n 3, 1) := by decide +kernel
theorem dX5_choose_60 : decode cX5_choose 60 = .ok (.invokevirtual 122, 3) := by decide +kernel
theorem dX5_choose_63 : decode cX5_choose 63 = .ok (.return_, 1) := by decide +kernel
theorem dX5_choose_64 : decode cX5_choose 64 = .ok (.iconst 0, 1) := by decide +kernel
theorem dX5_choose_65 : decode cX5_choose 65 = .ok (.istore 4, 2) := by decide +kernel
theorem dX5_choose_67 : decode cX5_choose 67 = .ok (.iload 4, 2) := by decide +kernel
theorem dX5_choose_69 : decode cX5_choose 69 = .ok (.aload_n 1, 1) := by decide +kernel
theorem dX5_choose_70 : decode cX5_choose 70 = .ok (.getfield 46, 3) := by decide +kernel
theorem dX5_choose_73 : decode cX5_choose 73 = .ok (.if_icmp .ge 175, 3) := by decide +kernel
theorem dX5_choose_76 : decode cX5_choose 76 = .ok (.aload_n 0, 1) := by decide +kernel
theorem dX5_choose_77 : decode cX5_choose 77 = .ok (.getfield 38, 3) := by decide +kernel
theorem dX5_choose_80 : decode cX5_choose 80 = .ok (.iload_n 2, 1) := by decide +kernel
theorem dX5_choose_81 : decode cX5_choose 81 = .ok (.iconst 1, 1) := by decide +kernel
theorem dX5_choose_82 : decode cX5_choose 82 = .ok (.iadd, 1) := by decide +kernel
theorem dX5_choose_83 : decode cX5_choose 83 = .ok (.sipush 128, 3) := by decide +kernel
theorem dX5_choose_86 : decode cX5_choose 86 = .ok (.imul, 1) := by decide +kernel
theorem dX5_choose_87 : decode cX5_choose 87 = .ok (.aload_n 0, 1) := by decide +kernel
theorem dX5_choose_88 : decode cX5_choose 88 = .ok (.getfield 21, 3) := by decide +kernel
theorem dX5_choose_91 : decode cX5_choose 91 = .ok (.getfield 115, 3) := by decide +kernel
theorem dX5_choose_94 : decode cX5_choose 94 = .ok (.iconst 1, 1) := by decide +kernel
theorem dX5_choose_95 : decode cX5_choose 95 = .ok (.iload 4, 2) := by decide +kernel
theorem dX5_choose_97 : decode cX5_choose 97 = .ok (.ishl, 1) := by decide +kernel
theorem dX5_choose_98 : decode cX5_choose 98 = .ok (.iconst (-1), 1) := by decide +kernel
theorem dX5_choose_99 : decode cX5_choose 99 = .ok (.ixor, 1) := by decide +kernel
theorem dX5_choose_100 : decode cX5_choose 100 = .ok (.iand, 1) := by decide +kernel
theorem dX5_choose_101 : decode cX5_choose 101 = .ok (.iadd, 1) := by decide +kernel
theorem dX5_choose_102 : decode cX5_choose 102 = .ok (.iaload, 1) := by decide +kernel
theorem dX5_choose_103 : decode cX5_choose 103 = .ok (.istore 5, 2) := by decide +kernel
theorem dX5_choose_105 : decode cX5_choose 105 = .ok (.iconst (-1), 1) := by decide +kernel
theorem dX5_choose_106 : decode cX5_choose 106 = .ok (.istore 6, 2) := by decide +kernel
theorem dX5_choose_108 : decode cX5_choose 108 = .ok (.iload 6, 2) := by decide +kernel
theorem dX5_choose_110 : decode cX5_choose 110 = .ok (.aload_n 1, 1) := by decide +kernel
theorem dX5_choose_111 : decode cX5_choose 111 = .ok (.getfield 72, 3) := by decide +kernel
theorem dX5_choose_114 : decode cX5_choose 114 = .ok (.if_icmp .ge 128, 3) := by decide +kernel
theorem dX5_choose_117 : decode cX5_choose 117 = .ok (.aload_n 0, 1) := by decide +kernel
theorem dX5_choose_118 : decode cX5_choose 118 = .ok (.getfield 21, 3) := by decide +kernel
theorem dX5_choose_121 : decode cX5_choose 121 = .ok (.iload 4, 2) := by decide +kernel
theorem dX5_choose_123 : decode cX5_choose 123 = .ok (.invokevirtual 62, 3) := by decide +kernel
theorem dX5_choose_126 : decode cX5_choose 126 = .ok (.ifCond .eq 116, 3) := by decide +kernel
theorem dX5_choose_129 : decode cX5_choose 129 = .ok (.iload_n 3, 1) := by decide +kernel
theorem dX5_choose_130 : decode cX5_choose 130 = .ok (.aload_n 1, 1) := by decide +kernel
theorem dX5_choose_131 : decode cX5_choose 131 = .ok (.getfield 55, 3) := by decide +kernel
theorem dX5_choose_134 : decode cX5_choose 134 = .ok (.iload 4, 2) := by decide +kernel
theorem dX5_choose_136 : decode cX5_choose 136 = .ok (.iaload, 1) := by decide +kernel
theorem dX5_choose_137 : decode cX5_choose 137 = .ok (.iadd, 1) := by decide +kernel
theorem dX5_choose_138 : decode cX5_choose 138 = .ok (.aload_n 1, 1) := by decide +kernel
theorem dX5_choose_139 : decode cX5_choose 139 = .ok (.iload 6, 2) := by decide +kernel
theorem dX5_choose_141 : decode cX5_choose 141 = .ok (.invokevirtual 58, 3) := by decide +kernel
theorem dX5_choose_144 : decode cX5_choose 144 = .ok (.iadd, 1) := by decide +kernel
theorem dX5_choose_145 : decode cX5_choose 145 = .ok (.istore 7, 2) := by decide +kernel
theorem dX5_choose_147 : decode cX5_choose 147 = .ok (.aload_n 1, 1) := by decide +kernel
theorem dX5_choose_148 : decode cX5_choose 148 = .ok (.iload 4, 2) := by decide +kernel
theorem dX5_choose_150 : decode cX5_choose 150 = .ok (.iload 6, 2) := by decide +kernel
theorem dX5_choose_152 : decode cX5_choose 152 = .ok (.invokevirtual 75, 3) := by decide +kernel
theorem dX5_choose_155 : decode cX5_choose 155 = .ok (.istore 8, 2) := by decide +kernel
theorem dX5_choose_157 : decode cX5_choose 157 = .ok (.aload_n 0, 1) := by decide +kernel
theorem dX5_choose_158 : decode cX5_choose 158 = .ok (.getfield 31, 3) := by decide +kernel
theorem dX5_choose_161 : decode cX5_choose 161 = .ok (.iload 4, 2) := by decide +kernel
theorem dX5_choose_163 : decode cX5_choose 163 = .ok (.iload 6, 2) := by decide +kernel
theorem dX5_choose_165 : decode cX5_choose 165 = .ok (.invokestatic 126, 3) := by decide +kernel
theorem dX5_choose_168 : decode cX5_choose 168 = .ok (.baload, 1) := by decide +kernel
theorem dX5_choose_169 : decode cX5_choose 169 = .ok (.ifCond .eq 19, 3) := by decide +kernel
theorem dX5_choose_172 : decode cX5_choose 172 = .ok (.iload 7, 2) := by decide +kernel
theorem dX5_choose_174 : decode cX5_choose 174 = .ok (.iload 5, 2) := by decide +kernel
theorem dX5_choose_176 : decode cX5_choose 176 = .ok (.iadd, 1) := by decide +kernel
theorem dX5_choose_177 : decode cX5_choose 177 = .ok (.aload_n 0, 1) := by decide +kernel
theorem dX5_choose_178 : decode cX5_choose 178 = .ok (.getfield 87, 3) := by decide +kernel
theorem dX5_choose_181 : decode cX5_choose 181 = .ok (.if_icmp .ge 7, 3) := by decide +kernel
theorem dX5_choose_184 : decode cX5_choose 184 = .ok (.iconst 1, 1) := by decide +kernel
theorem dX5_choose_185 : decode cX5_choose 185 = .ok (.goto 4, 3) := by decide +kernel
theorem dX5_choose_188 : decode cX5_choose 188 = .ok (.iconst 0, 1) := by decide +kernel
theorem dX5_choose_189 : decode cX5_choose 189 = .ok (.istore 9, 2) := by decide +kernel
theorem dX5_choose_191 : decode cX5_choose 191 = .ok (.iload 9, 2) := by decide +kernel
theorem dX5_choose_193 : decode cX5_choose 193 = .ok (.ifCond .eq 43, 3) := by decide +kernel
theorem dX5_choose_196 : decode cX5_choose 196 = .ok (.aload_n 0, 1) := by decide +kernel
theorem dX5_choose_197 : decode cX5_choose 197 = .ok (.getfield 21, 3) := by decide +kernel
theorem dX5_choose_200 : decode cX5_choose 200 = .ok (.aload_n 1, 1) := by decide +kernel
theorem dX5_choose_201 : decode cX5_choose 201 = .ok (.iload_n 2, 1) := by decide +kernel
theorem dX5_choose_202 : decode cX5_choose 202 = .ok (.iload 8, 2) := by decide +kernel
theorem dX5_choose_204 : decode cX5_choose 204 = .ok (.invokevirtual 79, 3) := by decide +kernel
theorem dX5_choose_207 : decode cX5_choose 207 = .ok (.ifCond .eq 29, 3) := by decide +kernel
theorem dX5_choose_210 : decode cX5_choose 210 = .ok (.aload_n 0, 1) := by decide +kernel
theorem dX5_choose_211 : decode cX5_choose 211 = .ok (.getfield 25, 3) := by decide +kernel
theorem dX5_choose_214 : decode cX5_choose 214 = .ok (.iload_n 2, 1) := by decide +kernel
theorem dX5_choose_215 : decode cX5_choose 215 = .ok (.iload 4, 2) := by decide +kernel
theorem dX5_choose_217 : decode cX5_choose 217 = .ok (.iastore, 1) := by decide +kernel
theorem dX5_choose_218 : decode cX5_choose 218 = .ok (.aload_n 0, 1) := by decide +kernel
theorem dX5_choose_219 : decode cX5_choose 219 = .ok (.getfield 28, 3) := by decide +kernel
theorem dX5_choose_222 : decode cX5_choose 222 = .ok (.iload_n 2, 1) := by decide +kernel
theorem dX5_choose_223 : decode cX5_choose 223 = .ok (.iload 6, 2) := by decide +kernel
theorem dX5_choose_225 : decode cX5_choose 225 = .ok (.iastore, 1) := by decide +kernel
theorem dX5_choose_226 : decode cX5_choose 226 = .ok (.aload_n 0, 1) := by decide +kernel
theorem dX5_choose_227 : decode cX5_choose 227 = .ok (.aload_n 1, 1) := by decide +kernel
theorem dX5_choose_228 : decode cX5_choose 228 = .ok (.iload_n 2, 1) := by decide +kernel
theorem dX5_choose_229 : decode cX5_choose 229 = .ok (.iload 7, 2) := by decide +kernel
theorem dX5_choose_231 : decode cX5_choose 231 = .ok (.iload 8, 2) := by decide +kernel
theorem dX5_choose_233 : decode cX5_choose 233 = .ok (.invokevirtual 140, 3) := by decide +kernel
theorem dX5_choose_236 : decode cX5_choose 236 = .ok (.iinc 6 1, 3) := by decide +kernel
theorem dX5_choose_239 : decode cX5_choose 239 = .ok (.goto (-131), 3) := by decide +kernel
theorem dX5_choose_242 : decode cX5_choose 242 = .ok (.iinc 4 1, 3) := by decide +kernel
theorem dX5_choose_245 : decode cX5_choose 245 = .ok (.goto (-178), 3) := by decide +kernel
theorem dX5_choose_248 : decode cX5_choose 248 = .ok (.return_, 1) := by decide +kernel
theorem dX5_chooseBehind_0 : decode cX5_chooseBehind 0 = .ok (.aload_n 0, 1) := by decide +kernel
theorem dX5_chooseBehind_1 : decode cX5_chooseBehind 1 = .ok (.getfield 21, 3) := by decide +kernel
theorem dX5_chooseBehind_4 : decode cX5_chooseBehind 4 = .ok (.getfield 115, 3) := by decide +kernel
theorem dX5_chooseBehind_7 : decode cX5_chooseBehind 7 = .ok (.istore 5, 2) := by decide +kernel
theorem dX5_chooseBehind_9 : decode cX5_chooseBehind 9 = .ok (.aload_n 0, 1) := by decide +kernel
theorem dX5_chooseBehind_10 : decode cX5_chooseBehind 10 = .ok (.getfield 21, 3) := by decide +kernel
theorem dX5_chooseBehind_13 : decode cX5_chooseBehind 13 = .ok (.getfield 144, 3) := by decide +kernel
theorem dX5_chooseBehind_16 : decode cX5_chooseBehind 16 = .ok (.istore 6, 2) := by decide +kernel
theorem dX5_chooseBehind_18 : decode cX5_chooseBehind 18 = .ok (.aload_n 0, 1) := by decide +kernel
theorem dX5_chooseBehind_19 : decode cX5_chooseBehind 19 = .ok (.getfield 21, 3) := by decide +kernel
theorem dX5_chooseBehind_22 : decode cX5_chooseBehind 22 = .ok (.dup, 1) := by decide +kernel
theorem dX5_chooseBehind_23 : decode cX5_chooseBehind 23 = .ok (.getfield 115, 3) := by decide +kernel
theorem dX5_chooseBehind_26 : decode cX5_chooseBehind 26 = .ok (.iconst 1, 1) := by decide +kernel
theorem dX5_chooseBehind_27 : decode cX5_chooseBehind 27 = .ok (.aload_n 0, 1) := by decide +kernel
theorem dX5_chooseBehind_28 : decode cX5_chooseBehind 28 = .ok (.getfield 25, 3) := by decide +kernel
theorem dX5_chooseBehind_31 : decode cX5_chooseBehind 31 = .ok (.iload_n 2, 1) := by decide +kernel
theorem dX5_chooseBehind_32 : decode cX5_chooseBehind 32 = .ok (.iaload, 1) := by decide +kernel
theorem dX5_chooseBehind_33 : decode cX5_chooseBehind 33 = .ok (.ishl, 1) := by decide +kernel
theorem dX5_chooseBehind_34 : decode cX5_chooseBehind 34 = .ok (.iconst (-1), 1) := by decide +kernel
theorem dX5_chooseBehind_35 : decode cX5_chooseBehind 35 = .ok (.ixor, 1) := by decide +kernel
theorem dX5_chooseBehind_36 : decode cX5_chooseBehind 36 = .ok (.iand, 1) := by decide +kernel
theorem dX5_chooseBehind_37 : decode cX5_chooseBehind 37 = .ok (.putfield 115, 3) := by decide +kernel
theorem dX5_chooseBehind_40 : decode cX5_chooseBehind 40 = .ok (.iload 4, 2) := by decide +kernel
theorem dX5_chooseBehind_42 : decode cX5_chooseBehind 42 = .ok (.iconst 1, 1) := by decide +kernel
theorem dX5_chooseBehind_43 : decode cX5_chooseBehind 43 = .ok (.iand, 1) := by decide +kernel
theorem dX5_chooseBehind_44 : decode cX5_chooseBehind 44 = .ok (.ifCond .ne 12, 3) := by decide +kernel
theorem dX5_chooseBehind_47 : decode cX5_chooseBehind 47 = .ok (.aload_n 0, 1) := by decide +kernel
theorem dX5_chooseBehind_48 : decode cX5_chooseBehind 48 = .ok (.getfield 21, 3) := by decide +kernel
theorem dX5_chooseBehind_51 : decode cX5_chooseBehind 51 = .ok (.iload 4, 2) := by decide +kernel
theorem dX5_chooseBehind_53 : decode cX5_chooseBehind 53 = .ok (.invokevirtual 147, 3) := by decide +kernel
theorem dX5_chooseBehind_56 : decode cX5_chooseBehind 56 = .ok (.aload_n 0, 1) := by decide +kernel
theorem dX5_chooseBehind_57 : decode cX5_chooseBehind 57 = .ok (.aload_n 1, 1) := by decide +kernel
theorem dX5_chooseBehind_58 : decode cX5_chooseBehind 58 = .ok (.iload_n 2, 1) := by decide +kernel
theorem dX5_chooseBehind_59 : decode cX5_chooseBehind 59 = .ok (.iconst 1, 1) := by decide +kernel
theorem dX5_chooseBehind_60 : decode cX5_chooseBehind 60 = .ok (.iadd, 1) := by decide +kernel
theorem dX5_chooseBehind_61 : decode cX5_chooseBehind 61 = .ok (.iload_n 3, 1) := by decide +kernel
theorem dX5_chooseBehind_62 : decode cX5_chooseBehind 62 = .ok (.invokevirtual 122, 3) := by decide +kernel
theorem dX5_chooseBehind_65 : decode cX5_chooseBehind 65 = .ok (.aload_n 0, 1) := by decide +kernel
theorem dX5_chooseBehind_66 : decode cX5_chooseBehind 66 = .ok (.getfield 21, 3) := by decide +kernel
theorem dX5_chooseBehind_69 : decode cX5_chooseBehind 69 = .ok (.iload 5, 2) := by decide +kernel
theorem dX5_chooseBehind_71 : decode cX5_chooseBehind 71 = .ok (.putfield 115, 3) := by decide +kernel
theorem dX5_chooseBehind_74 : decode cX5_chooseBehind 74 = .ok (.aload_n 0, 1) := by decide +kernel
theorem dX5_chooseBehind_75 : decode cX5_chooseBehind 75 = .ok (.getfield 21, 3) := by decide +kernel
theorem dX5_chooseBehind_78 : decode cX5_chooseBehind 78 = .ok (.iload 6, 2) := by decide +kernel
theorem dX5_chooseBehind_80 : decode cX5_chooseBehind 80 = .ok (.putfield 144, 3) := by decide +kernel
theorem dX5_chooseBehind_83 : decode cX5_chooseBehind 83 = .ok (.return_, 1) := by decide +kernel
theorem dX9_init_0 : decode cX9_init 0 = .ok (.aload_n 0, 1) := by decide +kernel
theorem dX9_init_1 : decode cX9_init 1 = .ok (.invokespecial 3, 3) := by decide +kernel
theorem dX9_init_4 : decode cX9_init 4 = .ok (.aload_n 0, 1) := by decide +kernel
theorem dX9_init_5 : decode cX9_init 5 = .ok (.bipush 20, 2) := by decide +kernel
theorem dX9_init_7 : decode cX9_init 7 = .ok (.newarray .int, 2) := by decide +kernel
theorem dX9_init_9 : decode cX9_init 9 = .ok (.putfield 9, 3) := by decide +kernel
theorem dX9_init_12 : decode cX9_init 12 = .ok (.aload_n 0, 1) := by decide +kernel
theorem dX9_init_13 : decode cX9_init 13 = .ok (.bipush 20, 2) := by decide +kernel
theorem dX9_init_15 : decode cX9_init 15 = .ok (.newarray .boolean, 2) := by decide +kernel
theorem dX9_init_17 : decode cX9_init 17 = .ok (.putfield 15, 3) := by decide +kernel
theorem dX9_init_20 : decode cX9_init 20 = .ok (.return_, 1) := by decide +kernel
theorem dX9_add_0 : decode cX9_add 0 = .ok (.aload_n 0, 1) := by decide +kernel
theorem dX9_add_1 : decode cX9_add 1 = .ok (.getfield 19, 3) := by decide +kernel
theorem dX9_add_4 : decode cX9_add 4 = .ok (.bipush 20, 2) := by decide +kernel
theorem dX9_add_6 : decode cX9_add 6 = .ok (.if_icmp .lt 5, 3) := by decide +kernel
theorem dX9_add_9 : decode cX9_add 9 = .ok (.iconst (-1), 1) := by decide +kernel
theorem dX9_add_10 : decode cX9_add 10 = .ok (.ireturn, 1) := by decide +kernel
theorem dX9_add_11 : decode cX9_add 11 = .ok (.aload_n 0, 1) := by decide +kernel
theorem dX9_add_12 : decode cX9_add 12 = .ok (.getfield 9, 3) := by decide +kernel
theorem dX9_add_15 : decode cX9_add 15 = .ok (.aload_n 0, 1) := by decide +kernel
theorem dX9_add_16 : decode cX9_add 16 = .ok (.getfield 19, 3) := by decide +kernel
theorem dX9_add_19 : decode cX9_add 19 = .ok (.iload_n 1, 1) := by decide +kernel
theorem dX9_add_20 : decode cX9_add 20 = .ok (.iastore, 1) := by decide +kernel
theorem dX9_add_21 : decode cX9_add 21 = .ok (.aload_n 0, 1) := by decide +kernel
theorem dX9_add_22 : decode cX9_add 22 = .ok (.getfield 15, 3) := by decide +kernel
theorem dX9_add_25 : decode cX9_add 25 = .ok (.aload_n 0, 1) := by decide +kernel
theorem dX9_add_26 : decode cX9_add 26 = .ok (.getfield 19, 3) := by decide +kernel
theorem dX9_add_29 : decode cX9_add 29 = .ok (.iload_n 2, 1) := by decide +kernel
theorem dX9_add_30 : decode cX9_add 30 = .ok (.bastore, 1) := by decide +kernel
theorem dX9_add_31 : decode cX9_add 31 = .ok (.aload_n 0, 1) := by decide +kernel
theorem dX9_add_32 : decode cX9_add 32 = .ok (.dup, 1) := by decide +kernel
theorem dX9_add_33 : decode cX9_add 33 = .ok (.getfield 19, 3) := by decide +kernel
theorem dX9_add_36 : decode cX9_add 36 = .ok (.iconst 1, 1) := by decide +kernel
theorem dX9_add_37 : decode cX9_add 37 = .ok (.iadd, 1) := by decide +kernel
theorem dX9_add_38 : decode cX9_add 38 = .ok (.putfield 19, 3) := by decide +kernel
theorem dX9_add_41 : decode cX9_add 41 = .ok (.aload_n 0, 1) := by decide +kernel
theorem dX9_add_42 : decode cX9_add 42 = .ok (.getfield 19, 3) := by decide +kernel
theorem dX9_add_45 : decode cX9_add 45 = .ok (.iconst 1, 1) := by decide +kernel
theorem dX9_add_46 : decode cX9_add 46 = .ok (.isub, 1) := by decide +kernel
theorem dX9_add_47 : decode cX9_add 47 = .ok (.ireturn, 1) := by decide +kernel
theorem dX9_know_0 : decode cX9_know 0 = .ok (.aload_n 0, 1) := by decide +kernel
theorem dX9_know_1 : decode cX9_know 1 = .ok (.iconst 0, 1) := by decide +kernel
theorem dX9_know_2 : decode cX9_know 2 = .ok (.putfield 23, 3) := by decide +kernel
theorem dX9_know_5 : decode cX9_know 5 = .ok (.aload_n 0, 1) := by decide +kernel
theorem dX9_know_6 : decode cX9_know 6 = .ok (.iconst 0, 1) := by decide +kernel
theorem dX9_know_7 : decode cX9_know 7 = .ok (.putfield 26, 3) := by decide +kernel
theorem dX9_know_10 : decode cX9_know 10 = .ok (.iconst 0, 1) := by decide +kernel
theorem dX9_know_11 : decode cX9_know 11 = .ok (.istore_n 2, 1) := by decide +kernel
theorem dX9_know_12 : decode cX9_know 12 = .ok (.iload_n 2, 1) := by decide +kernel
theorem dX9_know_13 : decode cX9_know 13 = .ok (.iload_n 1, 1) := by decide +kernel
theorem dX9_know_14 : decode cX9_know 14 = .ok (.if_icmp .ge 63, 3) := by decide +kernel
theorem dX9_know_17 : decode cX9_know 17 = .ok (.iload_n 2, 1) := by decide +kernel
theorem dX9_know_18 : decode cX9_know 18 = .ok (.aload_n 0, 1) := by decide +kernel
theorem dX9_know_19 : decode cX9_know 19 = .ok (.getfield 19, 3) := by decide +kernel
theorem dX9_know_22 : decode cX9_know 22 = .ok (.if_icmp .ge 55, 3) := by decide +kernel
theorem dX9_know_25 : decode cX9_know 25 = .ok (.aload_n 0, 1) := by decide +kernel
theorem dX9_know_26 : decode cX9_know 26 = .ok (.getfield 15, 3) := by decide +kernel
theorem dX9_know_29 : decode cX9_know 29 = .ok (.iload_n 2, 1) := by decide +kernel
theorem dX9_know_30 : decode cX9_know 30 = .ok (.baload, 1) := by decide +kernel
theorem dX9_know_31 : decode cX9_know 31 = .ok (.ifCond .eq 23, 3) := by decide +kernel
theorem dX9_know_34 : decode cX9_know 34 = .ok (.aload_n 0, 1) := by decide +kernel
theorem dX9_know_35 : decode cX9_know 35 = .ok (.dup, 1) := by decide +kernel
theorem dX9_know_36 : decode cX9_know 36 = .ok (.getfield 23, 3) := by decide +kernel
theorem dX9_know_39 : decode cX9_know 39 = .ok (.iconst 1, 1) := by decide +kernel
theorem dX9_know_40 : decode cX9_know 40 = .ok (.aload_n 0, 1) := by decide +kernel
theorem dX9_know_41 : decode cX9_know 41 = .ok (.getfield 9, 3) := by decide +kernel
theorem dX9_know_44 : decode cX9_know 44 = .ok (.iload_n 2, 1) := by decide +kernel
theorem dX9_know_45 : decode cX9_know 45 = .ok (.iaload, 1) := by decide +kernel
theorem dX9_know_46 : decode cX9_know 46 = .ok (.ishl, 1) := by decide +kernel
theorem dX9_know_47 : decode cX9_know 47 = .ok (.ior, 1) := by decide +kernel
theorem dX9_know_48 : decode cX9_know 48 = .ok (.putfield 23, 3) := by decide +kernel
theorem dX9_know_51 : decode cX9_know 51 = .ok (.goto 20, 3) := by decide +kernel
theorem dX9_know_54 : decode cX9_know 54 = .ok (.aload_n 0, 1) := by decide +kernel
theorem dX9_know_55 : decode cX9_know 55 = .ok (.dup, 1) := by decide +kernel
theorem dX9_know_56 : decode cX9_know 56 = .ok (.getfield 26, 3) := by decide +kernel
theorem dX9_know_59 : decode cX9_know 59 = .ok (.iconst 1, 1) := by decide +kernel
theorem dX9_know_60 : decode cX9_know 60 = .ok (.aload_n 0, 1) := by decide +kernel
theorem dX9_know_61 : decode cX9_know 61 = .ok (.getfield 9, 3) := by decide +kernel
theorem dX9_know_64 : decode cX9_know 64 = .ok (.iload_n 2, 1) := by decide +kernel
theorem dX9_know_65 : decode cX9_know 65 = .ok (.iaload, 1) := by decide +kernel
theorem dX9_know_66 : decode cX9_know 66 = .ok (.ishl, 1) := by decide +kernel
theorem dX9_know_67 : decode cX9_know 67 = .ok (.ior, 1) := by decide +kernel
theorem dX9_know_68 : decode cX9_know 68 = .ok (.putfield 26, 3) := by decide +kernel
theorem dX9_know_71 : decode cX9_know 71 = .ok (.iinc 2 1, 3) := by decide +kernel
theorem dX9_know_74 : decode cX9_know 74 = .ok (.goto (-62), 3) := by decide +kernel
theorem dX9_know_77 : decode cX9_know 77 = .ok (.return_, 1) := by decide +kernel
theorem dX9_canBe_0 : decode cX9_canBe 0 = .ok (.iload_n 3, 1) := by decide +kernel
theorem dX9_canBe_1 : decode cX9_canBe 1 = .ok (.aload_n 0, 1) := by decide +kernel
theorem dX9_canBe_2 : decode cX9_canBe 2 = .ok (.getfield 23, 3) := by decide +kernel
theorem dX9_canBe_5 : decode cX9_canBe 5 = .ok (.iand, 1) := by decide +kernel
theorem dX9_canBe_6 : decode cX9_canBe 6 = .ok (.aload_n 0, 1) := by decide +kernel
theorem dX9_canBe_7 : decode cX9_canBe 7 = .ok (.getfield 23, 3) := by decide +kernel
theorem dX9_canBe_10 : decode cX9_canBe 10 = .ok (.if_icmp .ne 25, 3) := by decide +kernel
theorem dX9_canBe_13 : decode cX9_canBe 13 = .ok (.iload_n 3, 1) := by decide +kernel
theorem dX9_canBe_14 : decode cX9_canBe 14 = .ok (.aload_n 0, 1) := by decide +kernel
theorem dX9_canBe_15 : decode cX9_canBe 15 = .ok (.getfield 26, 3) := by decide +kernel
theorem dX9_canBe_18 : decode cX9_canBe 18 = .ok (.iand, 1) := by decide +kernel
theorem dX9_canBe_19 : decode cX9_canBe 19 = .ok (.ifCond .ne 16, 3) := by decide +kernel
theorem dX9_canBe_22 : decode cX9_canBe 22 = .ok (.aload_n 1, 1) := by decide +kernel
theorem dX9_canBe_23 : decode cX9_canBe 23 = .ok (.iload_n 2, 1) := by decide +kernel
theorem dX9_canBe_24 : decode cX9_canBe 24 = .ok (.iload_n 3, 1) := by decide +kernel
theorem dX9_canBe_25 : decode cX9_canBe 25 = .ok (.invokevirtual 29, 3) := by decide +kernel
theorem dX9_canBe_28 : decode cX9_canBe 28 = .ok (.ifCond .eq 7, 3) := by decide +kernel
theorem dX9_canBe_31 : decode cX9_canBe 31 = .ok (.iconst 1, 1) := by decide +kernel
theorem dX9_canBe_32 : decode cX9_canBe 32 = .ok (.goto 4, 3) := by decide +kernel
theorem dX9_canBe_35 : decode cX9_canBe 35 = .ok (.iconst 0, 1) := by decide +kernel
theorem dX9_canBe_36 : decode cX9_canBe 36 = .ok (.ireturn, 1) := by decide +kernel
theorem dX9_countLeft_0 : decode cX9_countLeft 0 = .ok (.aload_n 0, 1) := by decide +kernel
theorem dX9_countLeft_1 : decode cX9_countLeft 1 = .ok (.iload_n 3, 1) := by decide +kernel
theorem dX9_countLeft_2 : decode cX9_countLeft 2 = .ok (.invokevirtual 35, 3) := by decide +kernel
theorem dX9_countLeft_5 : decode cX9_countLeft 5 = .ok (.aload_n 0, 1) := by decide +kernel
theorem dX9_countLeft_6 : decode cX9_countLeft 6 = .ok (.aload_n 1, 1) := by decide +kernel
theorem dX9_countLeft_7 : decode cX9_countLeft 7 = .ok (.iload_n 2, 1) := by decide +kernel
theorem dX9_countLeft_8 : decode cX9_countLeft 8 = .ok (.iconst 0, 1) := by decide +kernel
theorem dX9_countLeft_9 : decode cX9_countLeft 9 = .ok (.invokevirtual 39, 3) := by decide +kernel
theorem dX9_countLeft_12 : decode cX9_countLeft 12 = .ok (.ireturn, 1) := by decide +kernel
theorem dX9_countWith_0 : decode cX9_countWith 0 = .ok (.iconst 0, 1) := by decide +kernel
theorem dX9_countWith_1 : decode cX9_countWith 1 = .ok (.istore 4, 2) := by decide +kernel
theorem dX9_countWith_3 : decode cX9_countWith 3 = .ok (.iconst 0, 1) := by decide +kernel
theorem dX9_countWith_4 : decode cX9_countWith 4 = .ok (.istore 5, 2) := by decide +kernel
theorem dX9_countWith_6 : decode cX9_countWith 6 = .ok (.iload 5, 2) := by decide +kernel
theorem dX9_countWith_8 : decode cX9_countWith 8 = .ok (.aload_n 1, 1) := by decide +kernel
theorem dX9_countWith_9 : decode cX9_countWith 9 = .ok (.getfield 43, 3) := by decide +kernel
theorem dX9_countWith_12 : decode cX9_countWith 12 = .ok (.if_icmp .ge 59, 3) := by decide +kernel
theorem dX9_countWith_15 : decode cX9_countWith 15 = .ok (.iconst (-1), 1) := by decide +kernel
theorem dX9_countWith_16 : decode cX9_countWith 16 = .ok (.istore 6, 2) := by decide +kernel
theorem dX9_countWith_18 : decode cX9_countWith 18 = .ok (.iload 6, 2) := by decide +kernel
theorem dX9_countWith_20 : decode cX9_countWith 20 = .ok (.aload_n 1, 1) := by decide +kernel
theorem dX9_countWith_21 : decode cX9_countWith 21 = .ok (.getfield 46, 3) := by decide +kernel
theorem dX9_countWith_24 : decode cX9_countWith 24 = .ok (.if_icmp .ge 41, 3) := by decide +kernel
theorem dX9_countWith_27 : decode cX9_countWith 27 = .ok (.aload_n 1, 1) := by decide +kernel
theorem dX9_countWith_28 : decode cX9_countWith 28 = .ok (.iload 5, 2) := by decide +kernel
theorem dX9_countWith_30 : decode cX9_countWith 30 = .ok (.iload 6, 2) := by decide +kernel
theorem dX9_countWith_32 : decode cX9_countWith 32 = .ok (.invokevirtual 49, 3) := by decide +kernel
theorem dX9_countWith_35 : decode cX9_countWith 35 = .ok (.istore 7, 2) := by decide +kernel
theorem dX9_countWith_37 : decode cX9_countWith 37 = .ok (.iload 7, 2) := by decide +kernel
theorem dX9_countWith_39 : decode cX9_countWith 39 = .ok (.iload_n 3, 1) := by decide +kernel
theorem dX9_countWith_40 : decode cX9_countWith 40 = .ok (.iand, 1) := by decide +kernel
theorem dX9_countWith_41 : decode cX9_countWith 41 = .ok (.iload_n 3, 1) := by decide +kernel
theorem dX9_countWith_42 : decode cX9_countWith 42 = .ok (.if_icmp .ne 17, 3) := by decide +kernel
theorem dX9_countWith_45 : decode cX9_countWith 45 = .ok (.aload_n 0, 1) := by decide +kernel
theorem dX9_countWith_46 : decode cX9_countWith 46 = .ok (.aload_n 1, 1) := by decide +kernel
theorem dX9_countWith_47 : decode cX9_countWith 47 = .ok (.iload_n 2, 1) := by decide +kernel
theorem dX9_countWith_48 : decode cX9_countWith 48 = .ok (.iload 7, 2) := by decide +kernel
theorem dX9_countWith_50 : decode cX9_countWith 50 = .ok (.invokevirtual 53, 3) := by decide +kernel
theorem dX9_countWith_53 : decode cX9_countWith 53 = .ok (.ifCond .eq 6, 3) := by decide +kernel
theorem dX9_countWith_56 : decode cX9_countWith 56 = .ok (.iinc 4 1, 3) := by decide +kernel
theorem dX9_countWith_59 : decode cX9_countWith 59 = .ok (.iinc 6 1, 3) := by decide +kernel
theorem dX9_countWith_62 : decode cX9_countWith 62 = .ok (.goto (-44), 3) := by decide +kernel
theorem dX9_countWith_65 : decode cX9_countWith 65 = .ok (.iinc 5 1, 3) := by decide +kernel
theorem dX9_countWith_68 : decode cX9_countWith 68 = .ok (.goto (-62), 3) := by decide +kernel
theorem dX9_countWith_71 : decode cX9_countWith 71 = .ok (.iload 4, 2) := by decide +kernel
theorem dX9_countWith_73 : decode cX9_countWith 73 = .ok (.ireturn, 1) := by decide +kernel
theorem dX9_onlyBeing_0 : decode cX9_onlyBeing 0 = .ok (.aload_n 0, 1) := by decide +kernel
theorem dX9_onlyBeing_1 : decode cX9_onlyBeing 1 = .ok (.iload_n 3, 1) := by decide +kernel
theorem dX9_onlyBeing_2 : decode cX9_onlyBeing 2 = .ok (.invokevirtual 35, 3) := by decide +kernel
theorem dX9_onlyBeing_5 : decode cX9_onlyBeing 5 = .ok (.bipush (-2), 2) := by decide +kernel
theorem dX9_onlyBeing_7 : decode cX9_onlyBeing 7 = .ok (.istore 4, 2) := by decide +kernel
theorem dX9_onlyBeing_9 : decode cX9_onlyBeing 9 = .ok (.iconst 0, 1) := by decide +kernel
theorem dX9_onlyBeing_10 : decode cX9_onlyBeing 10 = .ok (.istore 5, 2) := by decide +kernel
theorem dX9_onlyBeing_12 : decode cX9_onlyBeing 12 = .ok (.iload 5, 2) := by decide +kernel
theorem dX9_onlyBeing_14 : decode cX9_onlyBeing 14 = .ok (.aload_n 1, 1) := by decide +kernel
theorem dX9_onlyBeing_15 : decode cX9_onlyBeing 15 = .ok (.getfield 43, 3) := by decide +kernel
theorem dX9_onlyBeing_18 : decode cX9_onlyBeing 18 = .ok (.if_icmp .ge 78, 3) := by decide +kernel
theorem dX9_onlyBeing_21 : decode cX9_onlyBeing 21 = .ok (.iconst 0, 1) := by decide +kernel
theorem dX9_onlyBeing_22 : decode cX9_onlyBeing 22 = .ok (.istore 6, 2) := by decide +kernel
theorem dX9_onlyBeing_24 : decode cX9_onlyBeing 24 = .ok (.iconst (-1), 1) := by decide +kernel
theorem dX9_onlyBeing_25 : decode cX9_onlyBeing 25 = .ok (.istore 7, 2) := by decide +kernel
theorem dX9_onlyBeing_27 : decode cX9_onlyBeing 27 = .ok (.iload 7, 2) := by decide +kernel
theorem dX9_onlyBeing_29 : decode cX9_onlyBeing 29 = .ok (.aload_n 1, 1) := by decide +kernel
theorem dX9_onlyBeing_30 : decode cX9_onlyBeing 30 = .ok (.getfield 46, 3) := by decide +kernel
theorem dX9_onlyBeing_33 : decode cX9_onlyBeing 33 = .ok (.if_icmp .ge 28, 3) := by decide +kernel
theorem dX9_onlyBeing_36 : decode cX9_onlyBeing 36 = .ok (.iload 6, 2) := by decide +kernel
theorem dX9_onlyBeing_38 : decode cX9_onlyBeing 38 = .ok (.aload_n 0, 1) := by decide +kernel
theorem dX9_onlyBeing_39 : decode cX9_onlyBeing 39 = .ok (.aload_n 1, 1) := by decide +kernel
theorem dX9_onlyBeing_40 : decode cX9_onlyBeing 40 = .ok (.iload_n 2, 1) := by decide +kernel
theorem dX9_onlyBeing_41 : decode cX9_onlyBeing 41 = .ok (.aload_n 1, 1) := by decide +kernel
theorem dX9_onlyBeing_42 : decode cX9_onlyBeing 42 = .ok (.iload 5, 2) := by decide +kernel
theorem dX9_onlyBeing_44 : decode cX9_onlyBeing 44 = .ok (.iload 7, 2) := by decide +kernel
theorem dX9_onlyBeing_46 : decode cX9_onlyBeing 46 = .ok (.invokevirtual 49, 3) := by decide +kernel
theorem dX9_onlyBeing_49 : decode cX9_onlyBeing 49 = .ok (.invokevirtual 53, 3) := by decide +kernel
theorem dX9_onlyBeing_52 : decode cX9_onlyBeing 52 = .ok (.ior, 1) := by decide +kernel
theorem dX9_onlyBeing_53 : decode cX9_onlyBeing 53 = .ok (.istore 6, 2) := by decide +kernel
theorem dX9_onlyBeing_55 : decode cX9_onlyBeing 55 = .ok (.iinc 7 1, 3) := by decide +kernel
theorem dX9_onlyBeing_58 : decode cX9_onlyBeing 58 = .ok (.goto (-31), 3) := by decide +kernel
theorem dX9_onlyBeing_61 : decode cX9_onlyBeing 61 = .ok (.iload 6, 2) := by decide +kernel
theorem dX9_onlyBeing_63 : decode cX9_onlyBeing 63 = .ok (.ifCond .eq 13, 3) := by decide +kernel
theorem dX9_onlyBeing_66 : decode cX9_onlyBeing 66 = .ok (.iload 4, 2) := by decide +kernel
theorem dX9_onlyBeing_68 : decode cX9_onlyBeing 68 = .ok (.bipush (-2), 2) := by decide +kernel
theorem dX9_onlyBeing_70 : decode cX9_onlyBeing 70 = .ok (.if_icmp .eq 6, 3) := by decide +kernel
theorem dX9_onlyBeing_73 : decode cX9_onlyBeing 73 = .ok (.bipush (-2), 2) := by decide +kernel
theorem dX9_onlyBeing_75 : decode cX9_onlyBeing 75 = .ok (.ireturn, 1) := by decide +kernel
theorem dX9_onlyBeing_76 : decode cX9_onlyBeing 76 = .ok (.iload 6, 2) := by decide +kernel
theorem dX9_onlyBeing_78 : decode cX9_onlyBeing 78 = .ok (.ifCond .eq 8, 3) := by decide +kernel
theorem dX9_onlyBeing_81 : decode cX9_onlyBeing 81 = .ok (.iload 5, 2) := by decide +kernel
theorem dX9_onlyBeing_83 : decode cX9_onlyBeing 83 = .ok (.goto 5, 3) := by decide +kernel
theorem dX9_onlyBeing_86 : decode cX9_onlyBeing 86 = .ok (.iload 4, 2) := by decide +kernel
theorem dX9_onlyBeing_88 : decode cX9_onlyBeing 88 = .ok (.istore 4, 2) := by decide +kernel
theorem dX9_onlyBeing_90 : decode cX9_onlyBeing 90 = .ok (.iinc 5 1, 3) := by decide +kernel
theorem dX9_onlyBeing_93 : decode cX9_onlyBeing 93 = .ok (.goto (-81), 3) := by decide +kernel
theorem dX9_onlyBeing_96 : decode cX9_onlyBeing 96 = .ok (.iload 4, 2) := by decide +kernel
theorem dX9_onlyBeing_98 : decode cX9_onlyBeing 98 = .ok (.ireturn, 1) := by decide +kernel
theorem dX9_traitToAsk_0 : decode cX9_traitToAsk 0 = .ok (.aload_n 0, 1) := by decide +kernel
theorem dX9_traitToAsk_1 : decode cX9_traitToAsk 1 = .ok (.iload_n 3, 1) := by decide +kernel
theorem dX9_traitToAsk_2 : decode cX9_traitToAsk 2 = .ok (.invokevirtual 35, 3) := by decide +kernel
theorem dX9_traitToAsk_5 : decode cX9_traitToAsk 5 = .ok (.aload_n 0, 1) := by decide +kernel
theorem dX9_traitToAsk_6 : decode cX9_traitToAsk 6 = .ok (.aload_n 1, 1) := by decide +kernel
theorem dX9_traitToAsk_7 : decode cX9_traitToAsk 7 = .ok (.iload_n 2, 1) := by decide +kernel
theorem dX9_traitToAsk_8 : decode cX9_traitToAsk 8 = .ok (.iconst 0, 1) := by decide +kernel
theorem dX9_traitToAsk_9 : decode cX9_traitToAsk 9 = .ok (.invokevirtual 39, 3) := by decide +kernel
theorem dX9_traitToAsk_12 : decode cX9_traitToAsk 12 = .ok (.istore 4, 2) := by decide +kernel
theorem dX9_traitToAsk_14 : decode cX9_traitToAsk 14 = .ok (.bipush (-2), 2) := by decide +kernel
theorem dX9_traitToAsk_16 : decode cX9_traitToAsk 16 = .ok (.istore 5, 2) := by decide +kernel
theorem dX9_traitToAsk_18 : decode cX9_traitToAsk 18 = .ok (.iload 4, 2) := by decide +kernel
theorem dX9_traitToAsk_20 : decode cX9_traitToAsk 20 = .ok (.iconst 1, 1) := by decide +kernel
theorem dX9_traitToAsk_21 : decode cX9_traitToAsk 21 = .ok (.iadd, 1) := by decide +kernel
theorem dX9_traitToAsk_22 : decode cX9_traitToAsk 22 = .ok (.istore 6, 2) := by decide +kernel
theorem dX9_traitToAsk_24 : decode cX9_traitToAsk 24 = .ok (.iconst 0, 1) := by decide +kernel
theorem dX9_traitToAsk_25 : decode cX9_traitToAsk 25 = .ok (.istore 7, 2) := by decide +kernel
theorem dX9_traitToAsk_27 : decode cX9_traitToAsk 27 = .ok (.iload 7, 2) := by decide +kernel
theorem dX9_traitToAsk_29 : decode cX9_traitToAsk 29 = .ok (.aload_n 1, 1) := by decide +kernel
theorem dX9_traitToAsk_30 : decode cX9_traitToAsk 30 = .ok (.getfield 57, 3) := by decide +kernel
theorem dX9_traitToAsk_33 : decode cX9_traitToAsk 33 = .ok (.if_icmp .ge 53, 3) := by decide +kernel
theorem dX9_traitToAsk_36 : decode cX9_traitToAsk 36 = .ok (.iload 4, 2) := by decide +kernel
theorem dX9_traitToAsk_38 : decode cX9_traitToAsk 38 = .ok (.ifCond .le 48, 3) := by decide +kernel
theorem dX9_traitToAsk_41 : decode cX9_traitToAsk 41 = .ok (.aload_n 0, 1) := by decide +kernel
theorem dX9_traitToAsk_42 : decode cX9_traitToAsk 42 = .ok (.aload_n 1, 1) := by decide +kernel
theorem dX9_traitToAsk_43 : decode cX9_traitToAsk 43 = .ok (.iload_n 2, 1) := by decide +kernel
theorem dX9_traitToAsk_44 : decode cX9_traitToAsk 44 = .ok (.iconst 1, 1) := by decide +kernel
theorem dX9_traitToAsk_45 : decode cX9_traitToAsk 45 = .ok (.iload 7, 2) := by decide +kernel
theorem dX9_traitToAsk_47 : decode cX9_traitToAsk 47 = .ok (.ishl, 1) := by decide +kernel
theorem dX9_traitToAsk_48 : decode cX9_traitToAsk 48 = .ok (.invokevirtual 39, 3) := by decide +kernel
theorem dX9_traitToAsk_51 : decode cX9_traitToAsk 51 = .ok (.istore 8, 2) := by decide +kernel
theorem dX9_traitToAsk_53 : decode cX9_traitToAsk 53 = .ok (.iload 8, 2) := by decide +kernel
theorem dX9_traitToAsk_55 : decode cX9_traitToAsk 55 = .ok (.iload 4, 2) := by decide +kernel
theorem dX9_traitToAsk_57 : decode cX9_traitToAsk 57 = .ok (.iload 8, 2) := by decide +kernel
theorem dX9_traitToAsk_59 : decode cX9_traitToAsk 59 = .ok (.isub, 1) := by decide +kernel
theorem dX9_traitToAsk_60 : decode cX9_traitToAsk 60 = .ok (.invokestatic 59, 3) := by decide +kernel
theorem dX9_traitToAsk_63 : decode cX9_traitToAsk 63 = .ok (.istore 9, 2) := by decide +kernel
theorem dX9_traitToAsk_65 : decode cX9_traitToAsk 65 = .ok (.iload 9, 2) := by decide +kernel
theorem dX9_traitToAsk_67 : decode cX9_traitToAsk 67 = .ok (.iload 6, 2) := by decide +kernel
theorem dX9_traitToAsk_69 : decode cX9_traitToAsk 69 = .ok (.if_icmp .ge 11, 3) := by decide +kernel
theorem dX9_traitToAsk_72 : decode cX9_traitToAsk 72 = .ok (.iload 9, 2) := by decide +kernel
theorem dX9_traitToAsk_74 : decode cX9_traitToAsk 74 = .ok (.istore 6, 2) := by decide +kernel
theorem dX9_traitToAsk_76 : decode cX9_traitToAsk 76 = .ok (.iload 7, 2) := by decide +kernel
theorem dX9_traitToAsk_78 : decode cX9_traitToAsk 78 = .ok (.istore 5, 2) := by decide +kernel
theorem dX9_traitToAsk_80 : decode cX9_traitToAsk 80 = .ok (.iinc 7 1, 3) := by decide +kernel
theorem dX9_traitToAsk_83 : decode cX9_traitToAsk 83 = .ok (.goto (-56), 3) := by decide +kernel
theorem dX9_traitToAsk_86 : decode cX9_traitToAsk 86 = .ok (.iload 5, 2) := by decide +kernel
theorem dX9_traitToAsk_88 : decode cX9_traitToAsk 88 = .ok (.ireturn, 1) := by decide +kernel
