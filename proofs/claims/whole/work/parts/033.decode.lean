theorem dX6_kindFor_9 : decode cX6_kindFor 9 = .ok (.invokestatic 187, 3) := by decide +kernel
theorem dX6_kindFor_12 : decode cX6_kindFor 12 = .ok (.ifCond .eq 13, 3) := by decide +kernel
theorem dX6_kindFor_15 : decode cX6_kindFor 15 = .ok (.aload_n 0, 1) := by decide +kernel
theorem dX6_kindFor_16 : decode cX6_kindFor 16 = .ok (.iload_n 1, 1) := by decide +kernel
theorem dX6_kindFor_17 : decode cX6_kindFor 17 = .ok (.iconst 0, 1) := by decide +kernel
theorem dX6_kindFor_18 : decode cX6_kindFor 18 = .ok (.iload_n 2, 1) := by decide +kernel
theorem dX6_kindFor_19 : decode cX6_kindFor 19 = .ok (.invokevirtual 195, 3) := by decide +kernel
theorem dX6_kindFor_22 : decode cX6_kindFor 22 = .ok (.goto 9, 3) := by decide +kernel
theorem dX6_kindFor_25 : decode cX6_kindFor 25 = .ok (.aload_n 0, 1) := by decide +kernel
theorem dX6_kindFor_26 : decode cX6_kindFor 26 = .ok (.ldc 46, 2) := by decide +kernel
theorem dX6_kindFor_28 : decode cX6_kindFor 28 = .ok (.invokevirtual 75, 3) := by decide +kernel
theorem dX6_kindFor_31 : decode cX6_kindFor 31 = .ok (.ireturn, 1) := by decide +kernel
theorem dX6_wantFor_0 : decode cX6_wantFor 0 = .ok (.aload_n 0, 1) := by decide +kernel
theorem dX6_wantFor_1 : decode cX6_wantFor 1 = .ok (.iload_n 1, 1) := by decide +kernel
theorem dX6_wantFor_2 : decode cX6_wantFor 2 = .ok (.invokevirtual 100, 3) := by decide +kernel
theorem dX6_wantFor_5 : decode cX6_wantFor 5 = .ok (.ifCond .eq 10, 3) := by decide +kernel
theorem dX6_wantFor_8 : decode cX6_wantFor 8 = .ok (.iload_n 2, 1) := by decide +kernel
theorem dX6_wantFor_9 : decode cX6_wantFor 9 = .ok (.invokestatic 187, 3) := by decide +kernel
theorem dX6_wantFor_12 : decode cX6_wantFor 12 = .ok (.ifCond .ne 10, 3) := by decide +kernel
theorem dX6_wantFor_15 : decode cX6_wantFor 15 = .ok (.aload_n 0, 1) := by decide +kernel
theorem dX6_wantFor_16 : decode cX6_wantFor 16 = .ok (.ldc 46, 2) := by decide +kernel
theorem dX6_wantFor_18 : decode cX6_wantFor 18 = .ok (.invokevirtual 75, 3) := by decide +kernel
theorem dX6_wantFor_21 : decode cX6_wantFor 21 = .ok (.ireturn, 1) := by decide +kernel
theorem dX6_wantFor_22 : decode cX6_wantFor 22 = .ok (.iload_n 2, 1) := by decide +kernel
theorem dX6_wantFor_23 : decode cX6_wantFor 23 = .ok (.ifCond .eq 15, 3) := by decide +kernel
theorem dX6_wantFor_26 : decode cX6_wantFor 26 = .ok (.aload_n 0, 1) := by decide +kernel
theorem dX6_wantFor_27 : decode cX6_wantFor 27 = .ok (.iload_n 1, 1) := by decide +kernel
theorem dX6_wantFor_28 : decode cX6_wantFor 28 = .ok (.iconst 4, 1) := by decide +kernel
theorem dX6_wantFor_29 : decode cX6_wantFor 29 = .ok (.invokevirtual 63, 3) := by decide +kernel
theorem dX6_wantFor_32 : decode cX6_wantFor 32 = .ok (.sipush 9999, 3) := by decide +kernel
theorem dX6_wantFor_35 : decode cX6_wantFor 35 = .ok (.if_icmp .ne 9, 3) := by decide +kernel
theorem dX6_wantFor_38 : decode cX6_wantFor 38 = .ok (.sipush 999, 3) := by decide +kernel
theorem dX6_wantFor_41 : decode cX6_wantFor 41 = .ok (.goto 15, 3) := by decide +kernel
theorem dX6_wantFor_44 : decode cX6_wantFor 44 = .ok (.aload_n 0, 1) := by decide +kernel
theorem dX6_wantFor_45 : decode cX6_wantFor 45 = .ok (.aload_n 0, 1) := by decide +kernel
theorem dX6_wantFor_46 : decode cX6_wantFor 46 = .ok (.iload_n 1, 1) := by decide +kernel
theorem dX6_wantFor_47 : decode cX6_wantFor 47 = .ok (.iconst 1, 1) := by decide +kernel
theorem dX6_wantFor_48 : decode cX6_wantFor 48 = .ok (.invokevirtual 63, 3) := by decide +kernel
theorem dX6_wantFor_51 : decode cX6_wantFor 51 = .ok (.iconst 1, 1) := by decide +kernel
theorem dX6_wantFor_52 : decode cX6_wantFor 52 = .ok (.iload_n 2, 1) := by decide +kernel
theorem dX6_wantFor_53 : decode cX6_wantFor 53 = .ok (.invokevirtual 181, 3) := by decide +kernel
theorem dX6_wantFor_56 : decode cX6_wantFor 56 = .ok (.istore_n 3, 1) := by decide +kernel
theorem dX6_wantFor_57 : decode cX6_wantFor 57 = .ok (.iload_n 3, 1) := by decide +kernel
theorem dX6_wantFor_58 : decode cX6_wantFor 58 = .ok (.sipush 999, 3) := by decide +kernel
theorem dX6_wantFor_61 : decode cX6_wantFor 61 = .ok (.if_icmp .le 9, 3) := by decide +kernel
theorem dX6_wantFor_64 : decode cX6_wantFor 64 = .ok (.sipush 999, 3) := by decide +kernel
theorem dX6_wantFor_67 : decode cX6_wantFor 67 = .ok (.goto 4, 3) := by decide +kernel
theorem dX6_wantFor_70 : decode cX6_wantFor 70 = .ok (.iload_n 3, 1) := by decide +kernel
theorem dX6_wantFor_71 : decode cX6_wantFor 71 = .ok (.ireturn, 1) := by decide +kernel
theorem dX6_watch_0 : decode cX6_watch 0 = .ok (.iload_n 1, 1) := by decide +kernel
theorem dX6_watch_1 : decode cX6_watch 1 = .ok (.i2l, 1) := by decide +kernel
theorem dX6_watch_2 : decode cX6_watch 2 = .ok (.lconst 1, 1) := by decide +kernel
theorem dX6_watch_3 : decode cX6_watch 3 = .ok (.ldc2_w 185, 3) := by decide +kernel
theorem dX6_watch_6 : decode cX6_watch 6 = .ok (.invokestatic 49, 3) := by decide +kernel
theorem dX6_watch_9 : decode cX6_watch 9 = .ok (.ifCond .ne 10, 3) := by decide +kernel
theorem dX6_watch_12 : decode cX6_watch 12 = .ok (.aload_n 0, 1) := by decide +kernel
theorem dX6_watch_13 : decode cX6_watch 13 = .ok (.ldc 46, 2) := by decide +kernel
theorem dX6_watch_15 : decode cX6_watch 15 = .ok (.invokevirtual 75, 3) := by decide +kernel
theorem dX6_watch_18 : decode cX6_watch 18 = .ok (.ireturn, 1) := by decide +kernel
theorem dX6_watch_19 : decode cX6_watch 19 = .ok (.iconst 0, 1) := by decide +kernel
theorem dX6_watch_20 : decode cX6_watch 20 = .ok (.istore_n 2, 1) := by decide +kernel
theorem dX6_watch_21 : decode cX6_watch 21 = .ok (.iload_n 2, 1) := by decide +kernel
theorem dX6_watch_22 : decode cX6_watch 22 = .ok (.bipush 12, 2) := by decide +kernel
theorem dX6_watch_24 : decode cX6_watch 24 = .ok (.if_icmp .ge 16, 3) := by decide +kernel
theorem dX6_watch_27 : decode cX6_watch 27 = .ok (.aload_n 0, 1) := by decide +kernel
theorem dX6_watch_28 : decode cX6_watch 28 = .ok (.getfield 28, 3) := by decide +kernel
theorem dX6_watch_31 : decode cX6_watch 31 = .ok (.iload_n 2, 1) := by decide +kernel
theorem dX6_watch_32 : decode cX6_watch 32 = .ok (.iconst 0, 1) := by decide +kernel
theorem dX6_watch_33 : decode cX6_watch 33 = .ok (.iastore, 1) := by decide +kernel
theorem dX6_watch_34 : decode cX6_watch 34 = .ok (.iinc 2 1, 3) := by decide +kernel
theorem dX6_watch_37 : decode cX6_watch 37 = .ok (.goto (-16), 3) := by decide +kernel
theorem dX6_watch_40 : decode cX6_watch 40 = .ok (.aload_n 0, 1) := by decide +kernel
theorem dX6_watch_41 : decode cX6_watch 41 = .ok (.invokevirtual 156, 3) := by decide +kernel
theorem dX6_watch_44 : decode cX6_watch 44 = .ok (.iconst 0, 1) := by decide +kernel
theorem dX6_watch_45 : decode cX6_watch 45 = .ok (.istore_n 2, 1) := by decide +kernel
theorem dX6_watch_46 : decode cX6_watch 46 = .ok (.iload_n 2, 1) := by decide +kernel
theorem dX6_watch_47 : decode cX6_watch 47 = .ok (.iload_n 1, 1) := by decide +kernel
theorem dX6_watch_48 : decode cX6_watch 48 = .ok (.if_icmp .ge 54, 3) := by decide +kernel
theorem dX6_watch_51 : decode cX6_watch 51 = .ok (.aload_n 0, 1) := by decide +kernel
theorem dX6_watch_52 : decode cX6_watch 52 = .ok (.invokevirtual 134, 3) := by decide +kernel
theorem dX6_watch_55 : decode cX6_watch 55 = .ok (.iconst 0, 1) := by decide +kernel
theorem dX6_watch_56 : decode cX6_watch 56 = .ok (.istore_n 3, 1) := by decide +kernel
theorem dX6_watch_57 : decode cX6_watch 57 = .ok (.iload_n 3, 1) := by decide +kernel
theorem dX6_watch_58 : decode cX6_watch 58 = .ok (.bipush 12, 2) := by decide +kernel
theorem dX6_watch_60 : decode cX6_watch 60 = .ok (.if_icmp .ge 36, 3) := by decide +kernel
theorem dX6_watch_63 : decode cX6_watch 63 = .ok (.aload_n 0, 1) := by decide +kernel
theorem dX6_watch_64 : decode cX6_watch 64 = .ok (.getfield 28, 3) := by decide +kernel
theorem dX6_watch_67 : decode cX6_watch 67 = .ok (.iload_n 3, 1) := by decide +kernel
theorem dX6_watch_68 : decode cX6_watch 68 = .ok (.dup2, 1) := by decide +kernel
theorem dX6_watch_69 : decode cX6_watch 69 = .ok (.iaload, 1) := by decide +kernel
theorem dX6_watch_70 : decode cX6_watch 70 = .ok (.aload_n 0, 1) := by decide +kernel
theorem dX6_watch_71 : decode cX6_watch 71 = .ok (.getfield 7, 3) := by decide +kernel
theorem dX6_watch_74 : decode cX6_watch 74 = .ok (.bipush 12, 2) := by decide +kernel
theorem dX6_watch_76 : decode cX6_watch 76 = .ok (.iload_n 3, 1) := by decide +kernel
theorem dX6_watch_77 : decode cX6_watch 77 = .ok (.iadd, 1) := by decide +kernel
theorem dX6_watch_78 : decode cX6_watch 78 = .ok (.iaload, 1) := by decide +kernel
theorem dX6_watch_79 : decode cX6_watch 79 = .ok (.aload_n 0, 1) := by decide +kernel
theorem dX6_watch_80 : decode cX6_watch 80 = .ok (.getfield 25, 3) := by decide +kernel
theorem dX6_watch_83 : decode cX6_watch 83 = .ok (.iload_n 3, 1) := by decide +kernel
theorem dX6_watch_84 : decode cX6_watch 84 = .ok (.iaload, 1) := by decide +kernel
theorem dX6_watch_85 : decode cX6_watch 85 = .ok (.invokestatic 125, 3) := by decide +kernel
theorem dX6_watch_88 : decode cX6_watch 88 = .ok (.iadd, 1) := by decide +kernel
theorem dX6_watch_89 : decode cX6_watch 89 = .ok (.iastore, 1) := by decide +kernel
theorem dX6_watch_90 : decode cX6_watch 90 = .ok (.iinc 3 1, 3) := by decide +kernel
theorem dX6_watch_93 : decode cX6_watch 93 = .ok (.goto (-36), 3) := by decide +kernel
theorem dX6_watch_96 : decode cX6_watch 96 = .ok (.iinc 2 1, 3) := by decide +kernel
theorem dX6_watch_99 : decode cX6_watch 99 = .ok (.goto (-53), 3) := by decide +kernel
theorem dX6_watch_102 : decode cX6_watch 102 = .ok (.iconst 0, 1) := by decide +kernel
theorem dX6_watch_103 : decode cX6_watch 103 = .ok (.istore_n 2, 1) := by decide +kernel
theorem dX6_watch_104 : decode cX6_watch 104 = .ok (.iconst 1, 1) := by decide +kernel
theorem dX6_watch_105 : decode cX6_watch 105 = .ok (.istore_n 3, 1) := by decide +kernel
theorem dX6_watch_106 : decode cX6_watch 106 = .ok (.iload_n 3, 1) := by decide +kernel
theorem dX6_watch_107 : decode cX6_watch 107 = .ok (.bipush 12, 2) := by decide +kernel
theorem dX6_watch_109 : decode cX6_watch 109 = .ok (.if_icmp .ge 30, 3) := by decide +kernel
theorem dX6_watch_112 : decode cX6_watch 112 = .ok (.aload_n 0, 1) := by decide +kernel
theorem dX6_watch_113 : decode cX6_watch 113 = .ok (.getfield 28, 3) := by decide +kernel
theorem dX6_watch_116 : decode cX6_watch 116 = .ok (.iload_n 3, 1) := by decide +kernel
theorem dX6_watch_117 : decode cX6_watch 117 = .ok (.iaload, 1) := by decide +kernel
theorem dX6_watch_118 : decode cX6_watch 118 = .ok (.aload_n 0, 1) := by decide +kernel
theorem dX6_watch_119 : decode cX6_watch 119 = .ok (.getfield 28, 3) := by decide +kernel
theorem dX6_watch_122 : decode cX6_watch 122 = .ok (.iload_n 2, 1) := by decide +kernel
theorem dX6_watch_123 : decode cX6_watch 123 = .ok (.iaload, 1) := by decide +kernel
theorem dX6_watch_124 : decode cX6_watch 124 = .ok (.if_icmp .le 7, 3) := by decide +kernel
theorem dX6_watch_127 : decode cX6_watch 127 = .ok (.iload_n 3, 1) := by decide +kernel
theorem dX6_watch_128 : decode cX6_watch 128 = .ok (.goto 4, 3) := by decide +kernel
theorem dX6_watch_131 : decode cX6_watch 131 = .ok (.iload_n 2, 1) := by decide +kernel
theorem dX6_watch_132 : decode cX6_watch 132 = .ok (.istore_n 2, 1) := by decide +kernel
theorem dX6_watch_133 : decode cX6_watch 133 = .ok (.iinc 3 1, 3) := by decide +kernel
theorem dX6_watch_136 : decode cX6_watch 136 = .ok (.goto (-30), 3) := by decide +kernel
theorem dX6_watch_139 : decode cX6_watch 139 = .ok (.aload_n 0, 1) := by decide +kernel
theorem dX6_watch_140 : decode cX6_watch 140 = .ok (.iload_n 2, 1) := by decide +kernel
theorem dX6_watch_141 : decode cX6_watch 141 = .ok (.invokevirtual 159, 3) := by decide +kernel
theorem dX6_watch_144 : decode cX6_watch 144 = .ok (.ireturn, 1) := by decide +kernel
theorem dX6_isTold_0 : decode cX6_isTold 0 = .ok (.iconst 1, 1) := by decide +kernel
theorem dX6_isTold_1 : decode cX6_isTold 1 = .ok (.istore_n 3, 1) := by decide +kernel
theorem dX6_isTold_2 : decode cX6_isTold 2 = .ok (.iconst 0, 1) := by decide +kernel
theorem dX6_isTold_3 : decode cX6_isTold 3 = .ok (.istore 4, 2) := by decide +kernel
theorem dX6_isTold_5 : decode cX6_isTold 5 = .ok (.iload 4, 2) := by decide +kernel
theorem dX6_isTold_7 : decode cX6_isTold 7 = .ok (.aload_n 0, 1) := by decide +kernel
theorem dX6_isTold_8 : decode cX6_isTold 8 = .ok (.getfield 37, 3) := by decide +kernel
theorem dX6_isTold_11 : decode cX6_isTold 11 = .ok (.iload_n 1, 1) := by decide +kernel
theorem dX6_isTold_12 : decode cX6_isTold 12 = .ok (.iaload, 1) := by decide +kernel
theorem dX6_isTold_13 : decode cX6_isTold 13 = .ok (.if_icmp .ge 54, 3) := by decide +kernel
theorem dX6_isTold_16 : decode cX6_isTold 16 = .ok (.iload_n 3, 1) := by decide +kernel
theorem dX6_isTold_17 : decode cX6_isTold 17 = .ok (.ifCond .eq 50, 3) := by decide +kernel
theorem dX6_isTold_20 : decode cX6_isTold 20 = .ok (.aload_n 0, 1) := by decide +kernel
theorem dX6_isTold_21 : decode cX6_isTold 21 = .ok (.getfield 40, 3) := by decide +kernel
theorem dX6_isTold_24 : decode cX6_isTold 24 = .ok (.bipush 40, 2) := by decide +kernel
theorem dX6_isTold_26 : decode cX6_isTold 26 = .ok (.iload_n 1, 1) := by decide +kernel
theorem dX6_isTold_27 : decode cX6_isTold 27 = .ok (.imul, 1) := by decide +kernel
theorem dX6_isTold_28 : decode cX6_isTold 28 = .ok (.iload 4, 2) := by decide +kernel
theorem dX6_isTold_30 : decode cX6_isTold 30 = .ok (.iadd, 1) := by decide +kernel
theorem dX6_isTold_31 : decode cX6_isTold 31 = .ok (.iaload, 1) := by decide +kernel
theorem dX6_isTold_32 : decode cX6_isTold 32 = .ok (.istore 5, 2) := by decide +kernel
theorem dX6_isTold_34 : decode cX6_isTold 34 = .ok (.iload 5, 2) := by decide +kernel
theorem dX6_isTold_36 : decode cX6_isTold 36 = .ok (.iconst (-1), 1) := by decide +kernel
theorem dX6_isTold_37 : decode cX6_isTold 37 = .ok (.if_icmp .eq 14, 3) := by decide +kernel
theorem dX6_isTold_40 : decode cX6_isTold 40 = .ok (.iload 5, 2) := by decide +kernel
theorem dX6_isTold_42 : decode cX6_isTold 42 = .ok (.aload_n 0, 1) := by decide +kernel
theorem dX6_isTold_43 : decode cX6_isTold 43 = .ok (.getfield 7, 3) := by decide +kernel
theorem dX6_isTold_46 : decode cX6_isTold 46 = .ok (.iload_n 2, 1) := by decide +kernel
theorem dX6_isTold_47 : decode cX6_isTold 47 = .ok (.iaload, 1) := by decide +kernel
theorem dX6_isTold_48 : decode cX6_isTold 48 = .ok (.if_icmp .ne 7, 3) := by decide +kernel
theorem dX6_isTold_51 : decode cX6_isTold 51 = .ok (.iconst 1, 1) := by decide +kernel
theorem dX6_isTold_52 : decode cX6_isTold 52 = .ok (.goto 4, 3) := by decide +kernel
theorem dX6_isTold_55 : decode cX6_isTold 55 = .ok (.iconst 0, 1) := by decide +kernel
theorem dX6_isTold_56 : decode cX6_isTold 56 = .ok (.istore_n 3, 1) := by decide +kernel
theorem dX6_isTold_57 : decode cX6_isTold 57 = .ok (.aload_n 0, 1) := by decide +kernel
theorem dX6_isTold_58 : decode cX6_isTold 58 = .ok (.invokevirtual 134, 3) := by decide +kernel
theorem dX6_isTold_61 : decode cX6_isTold 61 = .ok (.iinc 4 1, 3) := by decide +kernel
theorem dX6_isTold_64 : decode cX6_isTold 64 = .ok (.goto (-59), 3) := by decide +kernel
theorem dX6_isTold_67 : decode cX6_isTold 67 = .ok (.aload_n 0, 1) := by decide +kernel
theorem dX6_isTold_68 : decode cX6_isTold 68 = .ok (.iload_n 3, 1) := by decide +kernel
theorem dX6_isTold_69 : decode cX6_isTold 69 = .ok (.ifCond .eq 7, 3) := by decide +kernel
theorem dX6_isTold_72 : decode cX6_isTold 72 = .ok (.iconst 1, 1) := by decide +kernel
theorem dX6_isTold_73 : decode cX6_isTold 73 = .ok (.goto 4, 3) := by decide +kernel
theorem dX6_isTold_76 : decode cX6_isTold 76 = .ok (.iconst 0, 1) := by decide +kernel
theorem dX6_isTold_77 : decode cX6_isTold 77 = .ok (.invokevirtual 159, 3) := by decide +kernel
theorem dX6_isTold_80 : decode cX6_isTold 80 = .ok (.iconst 1, 1) := by decide +kernel
theorem dX6_isTold_81 : decode cX6_isTold 81 = .ok (.if_icmp .ne 7, 3) := by decide +kernel
theorem dX6_isTold_84 : decode cX6_isTold 84 = .ok (.iconst 1, 1) := by decide +kernel
theorem dX6_isTold_85 : decode cX6_isTold 85 = .ok (.goto 4, 3) := by decide +kernel
theorem dX6_isTold_88 : decode cX6_isTold 88 = .ok (.iconst 0, 1) := by decide +kernel
theorem dX6_isTold_89 : decode cX6_isTold 89 = .ok (.ireturn, 1) := by decide +kernel
theorem dX6_findOpened_0 : decode cX6_findOpened 0 = .ok (.aload_n 0, 1) := by decide +kernel
theorem dX6_findOpened_1 : decode cX6_findOpened 1 = .ok (.iconst (-1), 1) := by decide +kernel
theorem dX6_findOpened_2 : decode cX6_findOpened 2 = .ok (.putfield 198, 3) := by decide +kernel
theorem dX6_findOpened_5 : decode cX6_findOpened 5 = .ok (.aload_n 0, 1) := by decide +kernel
theorem dX6_findOpened_6 : decode cX6_findOpened 6 = .ok (.iconst 0, 1) := by decide +kernel
theorem dX6_findOpened_7 : decode cX6_findOpened 7 = .ok (.putfield 201, 3) := by decide +kernel
theorem dX6_findOpened_10 : decode cX6_findOpened 10 = .ok (.aload_n 0, 1) := by decide +kernel
theorem dX6_findOpened_11 : decode cX6_findOpened 11 = .ok (.invokevirtual 156, 3) := by decide +kernel
theorem dX6_findOpened_14 : decode cX6_findOpened 14 = .ok (.iconst 0, 1) := by decide +kernel
theorem dX6_findOpened_15 : decode cX6_findOpened 15 = .ok (.istore 4, 2) := by decide +kernel
theorem dX6_findOpened_17 : decode cX6_findOpened 17 = .ok (.iload 4, 2) := by decide +kernel
theorem dX6_findOpened_19 : decode cX6_findOpened 19 = .ok (.bipush 99, 2) := by decide +kernel
theorem dX6_findOpened_21 : decode cX6_findOpened 21 = .ok (.if_icmp .gt 61, 3) := by decide +kernel
theorem dX6_findOpened_24 : decode cX6_findOpened 24 = .ok (.aload_n 0, 1) := by decide +kernel
theorem dX6_findOpened_25 : decode cX6_findOpened 25 = .ok (.getfield 7, 3) := by decide +kernel
theorem dX6_findOpened_28 : decode cX6_findOpened 28 = .ok (.iconst 4, 1) := by decide +kernel
theorem dX6_findOpened_29 : decode cX6_findOpened 29 = .ok (.iload_n 2, 1) := by decide +kernel
theorem dX6_findOpened_30 : decode cX6_findOpened 30 = .ok (.iadd, 1) := by decide +kernel
theorem dX6_findOpened_31 : decode cX6_findOpened 31 = .ok (.iload 4, 2) := by decide +kernel
theorem dX6_findOpened_33 : decode cX6_findOpened 33 = .ok (.iastore, 1) := by decide +kernel
theorem dX6_findOpened_34 : decode cX6_findOpened 34 = .ok (.aload_n 0, 1) := by decide +kernel
theorem dX6_findOpened_35 : decode cX6_findOpened 35 = .ok (.iload_n 1, 1) := by decide +kernel
theorem dX6_findOpened_36 : decode cX6_findOpened 36 = .ok (.bipush 12, 2) := by decide +kernel
theorem dX6_findOpened_38 : decode cX6_findOpened 38 = .ok (.iload_n 3, 1) := by decide +kernel
theorem dX6_findOpened_39 : decode cX6_findOpened 39 = .ok (.iadd, 1) := by decide +kernel
theorem dX6_findOpened_40 : decode cX6_findOpened 40 = .ok (.invokevirtual 204, 3) := by decide +kernel
theorem dX6_findOpened_43 : decode cX6_findOpened 43 = .ok (.ifCond .eq 33, 3) := by decide +kernel
theorem dX6_findOpened_46 : decode cX6_findOpened 46 = .ok (.aload_n 0, 1) := by decide +kernel
theorem dX6_findOpened_47 : decode cX6_findOpened 47 = .ok (.aload_n 0, 1) := by decide +kernel
theorem dX6_findOpened_48 : decode cX6_findOpened 48 = .ok (.getfield 201, 3) := by decide +kernel
theorem dX6_findOpened_51 : decode cX6_findOpened 51 = .ok (.ifCond .ne 8, 3) := by decide +kernel
theorem dX6_findOpened_54 : decode cX6_findOpened 54 = .ok (.iload 4, 2) := by decide +kernel
theorem dX6_findOpened_56 : decode cX6_findOpened 56 = .ok (.goto 7, 3) := by decide +kernel
theorem dX6_findOpened_59 : decode cX6_findOpened 59 = .ok (.aload_n 0, 1) := by decide +kernel
theorem dX6_findOpened_60 : decode cX6_findOpened 60 = .ok (.getfield 198, 3) := by decide +kernel
theorem dX6_findOpened_63 : decode cX6_findOpened 63 = .ok (.putfield 198, 3) := by decide +kernel
theorem dX6_findOpened_66 : decode cX6_findOpened 66 = .ok (.aload_n 0, 1) := by decide +kernel
theorem dX6_findOpened_67 : decode cX6_findOpened 67 = .ok (.dup, 1) := by decide +kernel
theorem dX6_findOpened_68 : decode cX6_findOpened 68 = .ok (.getfield 201, 3) := by decide +kernel
theorem dX6_findOpened_71 : decode cX6_findOpened 71 = .ok (.iconst 1, 1) := by decide +kernel
theorem dX6_findOpened_72 : decode cX6_findOpened 72 = .ok (.iadd, 1) := by decide +kernel
theorem dX6_findOpened_73 : decode cX6_findOpened 73 = .ok (.putfield 201, 3) := by decide +kernel
theorem dX6_findOpened_76 : decode cX6_findOpened 76 = .ok (.iinc 4 1, 3) := by decide +kernel
theorem dX6_findOpened_79 : decode cX6_findOpened 79 = .ok (.goto (-62), 3) := by decide +kernel
theorem dX6_findOpened_82 : decode cX6_findOpened 82 = .ok (.return_, 1) := by decide +kernel
theorem dX6_wrongOpened_0 : decode cX6_wrongOpened 0 = .ok (.aload_n 0, 1) := by decide +kernel
theorem dX6_wrongOpened_1 : decode cX6_wrongOpened 1 = .ok (.iload_n 1, 1) := by decide +kernel
theorem dX6_wrongOpened_2 : decode cX6_wrongOpened 2 = .ok (.invokevirtual 208, 3) := by decide +kernel
theorem dX6_wrongOpened_5 : decode cX6_wrongOpened 5 = .ok (.istore 4, 2) := by decide +kernel
theorem dX6_wrongOpened_7 : decode cX6_wrongOpened 7 = .ok (.iload 4, 2) := by decide +kernel
theorem dX6_wrongOpened_9 : decode cX6_wrongOpened 9 = .ok (.ifCond .eq 8, 3) := by decide +kernel
theorem dX6_wrongOpened_12 : decode cX6_wrongOpened 12 = .ok (.iload 4, 2) := by decide +kernel
theorem dX6_wrongOpened_14 : decode cX6_wrongOpened 14 = .ok (.goto 23, 3) := by decide +kernel
theorem dX6_wrongOpened_17 : decode cX6_wrongOpened 17 = .ok (.iload_n 2, 1) := by decide +kernel
theorem dX6_wrongOpened_18 : decode cX6_wrongOpened 18 = .ok (.invokestatic 79, 3) := by decide +kernel
theorem dX6_wrongOpened_21 : decode cX6_wrongOpened 21 = .ok (.ifCond .eq 14, 3) := by decide +kernel
theorem dX6_wrongOpened_24 : decode cX6_wrongOpened 24 = .ok (.iload_n 3, 1) := by decide +kernel
theorem dX6_wrongOpened_25 : decode cX6_wrongOpened 25 = .ok (.invokestatic 66, 3) := by decide +kernel
theorem dX6_wrongOpened_28 : decode cX6_wrongOpened 28 = .ok (.ifCond .eq 7, 3) := by decide +kernel
theorem dX6_wrongOpened_31 : decode cX6_wrongOpened 31 = .ok (.iconst 0, 1) := by decide +kernel
theorem dX6_wrongOpened_32 : decode cX6_wrongOpened 32 = .ok (.goto 5, 3) := by decide +kernel
theorem dX6_wrongOpened_35 : decode cX6_wrongOpened 35 = .ok (.ldc 46, 2) := by decide +kernel
theorem dX6_wrongOpened_37 : decode cX6_wrongOpened 37 = .ok (.ireturn, 1) := by decide +kernel
theorem dX6_fits_0 : decode cX6_fits 0 = .ok (.aload_n 0, 1) := by decide +kernel
theorem dX6_fits_1 : decode cX6_fits 1 = .ok (.iload_n 1, 1) := by decide +kernel
theorem dX6_fits_2 : decode cX6_fits 2 = .ok (.iload_n 2, 1) := by decide +kernel
theorem dX6_fits_3 : decode cX6_fits 3 = .ok (.iload_n 3, 1) := by decide +kernel
theorem dX6_fits_4 : decode cX6_fits 4 = .ok (.invokevirtual 211, 3) := by decide +kernel
theorem dX6_fits_7 : decode cX6_fits 7 = .ok (.istore 4, 2) := by decide +kernel
theorem dX6_fits_9 : decode cX6_fits 9 = .ok (.iload 4, 2) := by decide +kernel
theorem dX6_fits_11 : decode cX6_fits 11 = .ok (.ifCond .eq 10, 3) := by decide +kernel
theorem dX6_fits_14 : decode cX6_fits 14 = .ok (.aload_n 0, 1) := by decide +kernel
theorem dX6_fits_15 : decode cX6_fits 15 = .ok (.iload 4, 2) := by decide +kernel
theorem dX6_fits_17 : decode cX6_fits 17 = .ok (.invokevirtual 75, 3) := by decide +kernel
theorem dX6_fits_20 : decode cX6_fits 20 = .ok (.ireturn, 1) := by decide +kernel
theorem dX6_fits_21 : decode cX6_fits 21 = .ok (.aload_n 0, 1) := by decide +kernel
theorem dX6_fits_22 : decode cX6_fits 22 = .ok (.iload_n 1, 1) := by decide +kernel
theorem dX6_fits_23 : decode cX6_fits 23 = .ok (.iload_n 2, 1) := by decide +kernel
theorem dX6_fits_24 : decode cX6_fits 24 = .ok (.iload_n 3, 1) := by decide +kernel
theorem dX6_fits_25 : decode cX6_fits 25 = .ok (.invokevirtual 214, 3) := by decide +kernel
theorem dX6_fits_28 : decode cX6_fits 28 = .ok (.aload_n 0, 1) := by decide +kernel
theorem dX6_fits_29 : decode cX6_fits 29 = .ok (.getfield 201, 3) := by decide +kernel
theorem dX6_fits_32 : decode cX6_fits 32 = .ok (.ireturn, 1) := by decide +kernel
theorem dX6_opened_0 : decode cX6_opened 0 = .ok (.aload_n 0, 1) := by decide +kernel
theorem dX6_opened_1 : decode cX6_opened 1 = .ok (.iload_n 1, 1) := by decide +kernel
theorem dX6_opened_2 : decode cX6_opened 2 = .ok (.iload_n 2, 1) := by decide +kernel
theorem dX6_opened_3 : decode cX6_opened 3 = .ok (.iload_n 3, 1) := by decide +kernel
theorem dX6_opened_4 : decode cX6_opened 4 = .ok (.invokevirtual 211, 3) := by decide +kernel
theorem dX6_opened_7 : decode cX6_opened 7 = .ok (.istore 4, 2) := by decide +kernel
theorem dX6_opened_9 : decode cX6_opened 9 = .ok (.iload 4, 2) := by decide +kernel
theorem dX6_opened_11 : decode cX6_opened 11 = .ok (.ifCond .eq 10, 3) := by decide +kernel
theorem dX6_opened_14 : decode cX6_opened 14 = .ok (.aload_n 0, 1) := by decide +kernel
theorem dX6_opened_15 : decode cX6_opened 15 = .ok (.iload 4, 2) := by decide +kernel
theorem dX6_opened_17 : decode cX6_opened 17 = .ok (.invokevirtual 75, 3) := by decide +kernel
theorem dX6_opened_20 : decode cX6_opened 20 = .ok (.ireturn, 1) := by decide +kernel
theorem dX6_opened_21 : decode cX6_opened 21 = .ok (.aload_n 0, 1) := by decide +kernel
theorem dX6_opened_22 : decode cX6_opened 22 = .ok (.iload_n 1, 1) := by decide +kernel
theorem dX6_opened_23 : decode cX6_opened 23 = .ok (.iload_n 2, 1) := by decide +kernel
theorem dX6_opened_24 : decode cX6_opened 24 = .ok (.iload_n 3, 1) := by decide +kernel
theorem dX6_opened_25 : decode cX6_opened 25 = .ok (.invokevirtual 214, 3) := by decide +kernel
theorem dX6_opened_28 : decode cX6_opened 28 = .ok (.aload_n 0, 1) := by decide +kernel
theorem dX6_opened_29 : decode cX6_opened 29 = .ok (.getfield 198, 3) := by decide +kernel
theorem dX6_opened_32 : decode cX6_opened 32 = .ok (.ifCond .ge 12, 3) := by decide +kernel
theorem dX6_opened_35 : decode cX6_opened 35 = .ok (.aload_n 0, 1) := by decide +kernel
theorem dX6_opened_36 : decode cX6_opened 36 = .ok (.ldc 169, 2) := by decide +kernel
theorem dX6_opened_38 : decode cX6_opened 38 = .ok (.invokevirtual 75, 3) := by decide +kernel
theorem dX6_opened_41 : decode cX6_opened 41 = .ok (.goto 7, 3) := by decide +kernel
theorem dX6_opened_44 : decode cX6_opened 44 = .ok (.aload_n 0, 1) := by decide +kernel
theorem dX6_opened_45 : decode cX6_opened 45 = .ok (.getfield 198, 3) := by decide +kernel
theorem dX6_opened_48 : decode cX6_opened 48 = .ok (.ireturn, 1) := by decide +kernel
theorem dX6_kinds_0 : decode cX6_kinds 0 = .ok (.aload_n 0, 1) := by decide +kernel
theorem dX6_kinds_1 : decode cX6_kinds 1 = .ok (.iload_n 1, 1) := by decide +kernel
theorem dX6_kinds_2 : decode cX6_kinds 2 = .ok (.invokevirtual 208, 3) := by decide +kernel
theorem dX6_kinds_5 : decode cX6_kinds 5 = .ok (.istore_n 3, 1) := by decide +kernel
theorem dX6_kinds_6 : decode cX6_kinds 6 = .ok (.iload_n 3, 1) := by decide +kernel
theorem dX6_kinds_7 : decode cX6_kinds 7 = .ok (.ifCond .ne 16, 3) := by decide +kernel
theorem dX6_kinds_10 : decode cX6_kinds 10 = .ok (.aload_n 0, 1) := by decide +kernel
theorem dX6_kinds_11 : decode cX6_kinds 11 = .ok (.iload_n 2, 1) := by decide +kernel
theorem dX6_kinds_12 : decode cX6_kinds 12 = .ok (.invokevirtual 100, 3) := by decide +kernel
theorem dX6_kinds_15 : decode cX6_kinds 15 = .ok (.ifCond .ne 8, 3) := by decide +kernel
theorem dX6_kinds_18 : decode cX6_kinds 18 = .ok (.ldc 46, 2) := by decide +kernel
theorem dX6_kinds_20 : decode cX6_kinds 20 = .ok (.goto 4, 3) := by decide +kernel
theorem dX6_kinds_23 : decode cX6_kinds 23 = .ok (.iload_n 3, 1) := by decide +kernel
theorem dX6_kinds_24 : decode cX6_kinds 24 = .ok (.istore_n 3, 1) := by decide +kernel
theorem dX6_kinds_25 : decode cX6_kinds 25 = .ok (.iload_n 3, 1) := by decide +kernel
theorem dX6_kinds_26 : decode cX6_kinds 26 = .ok (.ifCond .eq 9, 3) := by decide +kernel
theorem dX6_kinds_29 : decode cX6_kinds 29 = .ok (.aload_n 0, 1) := by decide +kernel
theorem dX6_kinds_30 : decode cX6_kinds 30 = .ok (.iload_n 3, 1) := by decide +kernel
theorem dX6_kinds_31 : decode cX6_kinds 31 = .ok (.invokevirtual 75, 3) := by decide +kernel
theorem dX6_kinds_34 : decode cX6_kinds 34 = .ok (.ireturn, 1) := by decide +kernel
theorem dX6_kinds_35 : decode cX6_kinds 35 = .ok (.aload_n 0, 1) := by decide +kernel
theorem dX6_kinds_36 : decode cX6_kinds 36 = .ok (.invokevirtual 156, 3) := by decide +kernel
theorem dX6_kinds_39 : decode cX6_kinds 39 = .ok (.iconst 0, 1) := by decide +kernel
theorem dX6_kinds_40 : decode cX6_kinds 40 = .ok (.istore 4, 2) := by decide +kernel
theorem dX6_kinds_42 : decode cX6_kinds 42 = .ok (.iconst 0, 1) := by decide +kernel
theorem dX6_kinds_43 : decode cX6_kinds 43 = .ok (.istore 5, 2) := by decide +kernel
theorem dX6_kinds_45 : decode cX6_kinds 45 = .ok (.iload 5, 2) := by decide +kernel
theorem dX6_kinds_47 : decode cX6_kinds 47 = .ok (.bipush 6, 2) := by decide +kernel
theorem dX6_kinds_49 : decode cX6_kinds 49 = .ok (.if_icmp .gt 47, 3) := by decide +kernel
theorem dX6_kinds_52 : decode cX6_kinds 52 = .ok (.aload_n 0, 1) := by decide +kernel
theorem dX6_kinds_53 : decode cX6_kinds 53 = .ok (.getfield 7, 3) := by decide +kernel
theorem dX6_kinds_56 : decode cX6_kinds 56 = .ok (.iload_n 2, 1) := by decide +kernel
theorem dX6_kinds_57 : decode cX6_kinds 57 = .ok (.iconst 0, 1) := by decide +kernel
theorem dX6_kinds_58 : decode cX6_kinds 58 = .ok (.invokestatic 59, 3) := by decide +kernel
theorem dX6_kinds_61 : decode cX6_kinds 61 = .ok (.iload 5, 2) := by decide +kernel
theorem dX6_kinds_63 : decode cX6_kinds 63 = .ok (.iastore, 1) := by decide +kernel
theorem dX6_kinds_64 : decode cX6_kinds 64 = .ok (.iload 4, 2) := by decide +kernel
theorem dX6_kinds_66 : decode cX6_kinds 66 = .ok (.aload_n 0, 1) := by decide +kernel
theorem dX6_kinds_67 : decode cX6_kinds 67 = .ok (.iload_n 1, 1) := by decide +kernel
theorem dX6_kinds_68 : decode cX6_kinds 68 = .ok (.iload_n 2, 1) := by decide +kernel
theorem dX6_kinds_69 : decode cX6_kinds 69 = .ok (.iconst 3, 1) := by decide +kernel
theorem dX6_kinds_70 : decode cX6_kinds 70 = .ok (.invokestatic 59, 3) := by decide +kernel
theorem dX6_kinds_73 : decode cX6_kinds 73 = .ok (.invokevirtual 204, 3) := by decide +kernel
theorem dX6_kinds_76 : decode cX6_kinds 76 = .ok (.ifCond .eq 10, 3) := by decide +kernel
theorem dX6_kinds_79 : decode cX6_kinds 79 = .ok (.iconst 1, 1) := by decide +kernel
theorem dX6_kinds_80 : decode cX6_kinds 80 = .ok (.iload 5, 2) := by decide +kernel
theorem dX6_kinds_82 : decode cX6_kinds 82 = .ok (.ishl, 1) := by decide +kernel
theorem dX6_kinds_83 : decode cX6_kinds 83 = .ok (.goto 4, 3) := by decide +kernel
theorem dX6_kinds_86 : decode cX6_kinds 86 = .ok (.iconst 0, 1) := by decide +kernel
theorem dX6_kinds_87 : decode cX6_kinds 87 = .ok (.ior, 1) := by decide +kernel
theorem dX6_kinds_88 : decode cX6_kinds 88 = .ok (.istore 4, 2) := by decide +kernel
theorem dX6_kinds_90 : decode cX6_kinds 90 = .ok (.iinc 5 1, 3) := by decide +kernel
theorem dX6_kinds_93 : decode cX6_kinds 93 = .ok (.goto (-48), 3) := by decide +kernel
theorem dX6_kinds_96 : decode cX6_kinds 96 = .ok (.iload 4, 2) := by decide +kernel
theorem dX6_kinds_98 : decode cX6_kinds 98 = .ok (.ireturn, 1) := by decide +kernel
theorem dX6_draw_0 : decode cX6_draw 0 = .ok (.aload_n 0, 1) := by decide +kernel
theorem dX6_draw_1 : decode cX6_draw 1 = .ok (.getfield 7, 3) := by decide +kernel
theorem dX6_draw_4 : decode cX6_draw 4 = .ok (.iconst 3, 1) := by decide +kernel
theorem dX6_draw_5 : decode cX6_draw 5 = .ok (.aload_n 0, 1) := by decide +kernel
theorem dX6_draw_6 : decode cX6_draw 6 = .ok (.getfield 7, 3) := by decide +kernel
theorem dX6_draw_9 : decode cX6_draw 9 = .ok (.iconst 3, 1) := by decide +kernel
theorem dX6_draw_10 : decode cX6_draw 10 = .ok (.iaload, 1) := by decide +kernel
theorem dX6_draw_11 : decode cX6_draw 11 = .ok (.ldc 218, 2) := by decide +kernel
theorem dX6_draw_13 : decode cX6_draw 13 = .ok (.imul, 1) := by decide +kernel
theorem dX6_draw_14 : decode cX6_draw 14 = .ok (.sipush 12345, 3) := by decide +kernel
theorem dX6_draw_17 : decode cX6_draw 17 = .ok (.iadd, 1) := by decide +kernel
theorem dX6_draw_18 : decode cX6_draw 18 = .ok (.iastore, 1) := by decide +kernel
theorem dX6_draw_19 : decode cX6_draw 19 = .ok (.aload_n 0, 1) := by decide +kernel
theorem dX6_draw_20 : decode cX6_draw 20 = .ok (.getfield 7, 3) := by decide +kernel
theorem dX6_draw_23 : decode cX6_draw 23 = .ok (.iconst 3, 1) := by decide +kernel
theorem dX6_draw_24 : decode cX6_draw 24 = .ok (.iaload, 1) := by decide +kernel
theorem dX6_draw_25 : decode cX6_draw 25 = .ok (.bipush 8, 2) := by decide +kernel
theorem dX6_draw_27 : decode cX6_draw 27 = .ok (.iushr, 1) := by decide +kernel
theorem dX6_draw_28 : decode cX6_draw 28 = .ok (.ireturn, 1) := by decide +kernel
theorem dX6_nights_0 : decode cX6_nights 0 = .ok (.iload_n 1, 1) := by decide +kernel
theorem dX6_nights_1 : decode cX6_nights 1 = .ok (.i2l, 1) := by decide +kernel
theorem dX6_nights_2 : decode cX6_nights 2 = .ok (.lconst 1, 1) := by decide +kernel
theorem dX6_nights_3 : decode cX6_nights 3 = .ok (.ldc2_w 193, 3) := by decide +kernel
theorem dX6_nights_6 : decode cX6_nights 6 = .ok (.invokestatic 49, 3) := by decide +kernel
theorem dX6_nights_9 : decode cX6_nights 9 = .ok (.ifCond .ne 10, 3) := by decide +kernel
theorem dX6_nights_12 : decode cX6_nights 12 = .ok (.aload_n 0, 1) := by decide +kernel
theorem dX6_nights_13 : decode cX6_nights 13 = .ok (.ldc 46, 2) := by decide +kernel
theorem dX6_nights_15 : decode cX6_nights 15 = .ok (.invokevirtual 75, 3) := by decide +kernel
theorem dX6_nights_18 : decode cX6_nights 18 = .ok (.ireturn, 1) := by decide +kernel
theorem dX6_nights_19 : decode cX6_nights 19 = .ok (.aload_n 0, 1) := by decide +kernel
theorem dX6_nights_20 : decode cX6_nights 20 = .ok (.getfield 7, 3) := by decide +kernel
theorem dX6_nights_23 : decode cX6_nights 23 = .ok (.iconst 0, 1) := by decide +kernel
theorem dX6_nights_24 : decode cX6_nights 24 = .ok (.iaload, 1) := by decide +kernel
theorem dX6_nights_25 : decode cX6_nights 25 = .ok (.iload_n 1, 1) := by decide +kernel
theorem dX6_nights_26 : decode cX6_nights 26 = .ok (.iadd, 1) := by decide +kernel
theorem dX6_nights_27 : decode cX6_nights 27 = .ok (.ldc 139, 2) := by decide +kernel
theorem dX6_nights_29 : decode cX6_nights 29 = .ok (.if_icmp .le 10, 3) := by decide +kernel
theorem dX6_nights_32 : decode cX6_nights 32 = .ok (.aload_n 0, 1) := by decide +kernel
theorem dX6_nights_33 : decode cX6_nights 33 = .ok (.ldc 140, 2) := by decide +kernel
theorem dX6_nights_35 : decode cX6_nights 35 = .ok (.invokevirtual 75, 3) := by decide +kernel
theorem dX6_nights_38 : decode cX6_nights 38 = .ok (.ireturn, 1) := by decide +kernel
theorem dX6_nights_39 : decode cX6_nights 39 = .ok (.iconst 0, 1) := by decide +kernel
theorem dX6_nights_40 : decode cX6_nights 40 = .ok (.istore_n 2, 1) := by decide +kernel
theorem dX6_nights_41 : decode cX6_nights 41 = .ok (.iload_n 2, 1) := by decide +kernel
theorem dX6_nights_42 : decode cX6_nights 42 = .ok (.iload_n 1, 1) := by decide +kernel
theorem dX6_nights_43 : decode cX6_nights 43 = .ok (.if_icmp .ge 36, 3) := by decide +kernel
theorem dX6_nights_46 : decode cX6_nights 46 = .ok (.aload_n 0, 1) := by decide +kernel
theorem dX6_nights_47 : decode cX6_nights 47 = .ok (.invokevirtual 219, 3) := by decide +kernel
theorem dX6_nights_50 : decode cX6_nights 50 = .ok (.bipush 8, 2) := by decide +kernel
theorem dX6_nights_52 : decode cX6_nights 52 = .ok (.irem, 1) := by decide +kernel
theorem dX6_nights_53 : decode cX6_nights 53 = .ok (.istore_n 3, 1) := by decide +kernel
theorem dX6_nights_54 : decode cX6_nights 54 = .ok (.aload_n 0, 1) := by decide +kernel
theorem dX6_nights_55 : decode cX6_nights 55 = .ok (.getfield 7, 3) := by decide +kernel
theorem dX6_nights_58 : decode cX6_nights 58 = .ok (.iconst 4, 1) := by decide +kernel
theorem dX6_nights_59 : decode cX6_nights 59 = .ok (.iload_n 3, 1) := by decide +kernel
theorem dX6_nights_60 : decode cX6_nights 60 = .ok (.iadd, 1) := by decide +kernel
theorem dX6_nights_61 : decode cX6_nights 61 = .ok (.aload_n 0, 1) := by decide +kernel
theorem dX6_nights_62 : decode cX6_nights 62 = .ok (.invokevirtual 219, 3) := by decide +kernel
theorem dX6_nights_65 : decode cX6_nights 65 = .ok (.bipush 40, 2) := by decide +kernel
theorem dX6_nights_67 : decode cX6_nights 67 = .ok (.irem, 1) := by decide +kernel
theorem dX6_nights_68 : decode cX6_nights 68 = .ok (.iastore, 1) := by decide +kernel
theorem dX6_nights_69 : decode cX6_nights 69 = .ok (.aload_n 0, 1) := by decide +kernel
theorem dX6_nights_70 : decode cX6_nights 70 = .ok (.invokevirtual 134, 3) := by decide +kernel
theorem dX6_nights_73 : decode cX6_nights 73 = .ok (.iinc 2 1, 3) := by decide +kernel
theorem dX6_nights_76 : decode cX6_nights 76 = .ok (.goto (-35), 3) := by decide +kernel
theorem dX6_nights_79 : decode cX6_nights 79 = .ok (.aload_n 0, 1) := by decide +kernel
theorem dX6_nights_80 : decode cX6_nights 80 = .ok (.invokevirtual 144, 3) := by decide +kernel
theorem dX6_nights_83 : decode cX6_nights 83 = .ok (.invokestatic 190, 3) := by decide +kernel
theorem dX6_nights_86 : decode cX6_nights 86 = .ok (.ireturn, 1) := by decide +kernel
theorem dX6_odds_0 : decode cX6_odds 0 = .ok (.iload_n 1, 1) := by decide +kernel
theorem dX6_odds_1 : decode cX6_odds 1 = .ok (.i2l, 1) := by decide +kernel
theorem dX6_odds_2 : decode cX6_odds 2 = .ok (.lconst 0, 1) := by decide +kernel
theorem dX6_odds_3 : decode cX6_odds 3 = .ok (.ldc2_w 193, 3) := by decide +kernel
theorem dX6_odds_6 : decode cX6_odds 6 = .ok (.invokestatic 49, 3) := by decide +kernel
theorem dX6_odds_9 : decode cX6_odds 9 = .ok (.ifCond .eq 13, 3) := by decide +kernel
theorem dX6_odds_12 : decode cX6_odds 12 = .ok (.iload_n 2, 1) := by decide +kernel
theorem dX6_odds_13 : decode cX6_odds 13 = .ok (.i2l, 1) := by decide +kernel
theorem dX6_odds_14 : decode cX6_odds 14 = .ok (.lconst 0, 1) := by decide +kernel
theorem dX6_odds_15 : decode cX6_odds 15 = .ok (.lconst 1, 1) := by decide +kernel
theorem dX6_odds_16 : decode cX6_odds 16 = .ok (.invokestatic 49, 3) := by decide +kernel
theorem dX6_odds_19 : decode cX6_odds 19 = .ok (.ifCond .ne 11, 3) := by decide +kernel
theorem dX6_odds_22 : decode cX6_odds 22 = .ok (.aload_n 0, 1) := by decide +kernel
theorem dX6_odds_23 : decode cX6_odds 23 = .ok (.ldc 46, 2) := by decide +kernel
theorem dX6_odds_25 : decode cX6_odds 25 = .ok (.invokevirtual 75, 3) := by decide +kernel
theorem dX6_odds_28 : decode cX6_odds 28 = .ok (.i2l, 1) := by decide +kernel
theorem dX6_odds_29 : decode cX6_odds 29 = .ok (.lreturn, 1) := by decide +kernel
theorem dX6_odds_30 : decode cX6_odds 30 = .ok (.iconst 0, 1) := by decide +kernel
theorem dX6_odds_31 : decode cX6_odds 31 = .ok (.istore_n 3, 1) := by decide +kernel
theorem dX6_odds_32 : decode cX6_odds 32 = .ok (.iconst 0, 1) := by decide +kernel
theorem dX6_odds_33 : decode cX6_odds 33 = .ok (.istore 4, 2) := by decide +kernel
theorem dX6_odds_35 : decode cX6_odds 35 = .ok (.iload 4, 2) := by decide +kernel
theorem dX6_odds_37 : decode cX6_odds 37 = .ok (.bipush 8, 2) := by decide +kernel
theorem dX6_odds_39 : decode cX6_odds 39 = .ok (.if_icmp .ge 29, 3) := by decide +kernel
theorem dX6_odds_42 : decode cX6_odds 42 = .ok (.iload_n 3, 1) := by decide +kernel
theorem dX6_odds_43 : decode cX6_odds 43 = .ok (.aload_n 0, 1) := by decide +kernel
theorem dX6_odds_44 : decode cX6_odds 44 = .ok (.getfield 7, 3) := by decide +kernel
theorem dX6_odds_47 : decode cX6_odds 47 = .ok (.iconst 4, 1) := by decide +kernel
theorem dX6_odds_48 : decode cX6_odds 48 = .ok (.iload 4, 2) := by decide +kernel
theorem dX6_odds_50 : decode cX6_odds 50 = .ok (.iadd, 1) := by decide +kernel
theorem dX6_odds_51 : decode cX6_odds 51 = .ok (.iaload, 1) := by decide +kernel
theorem dX6_odds_52 : decode cX6_odds 52 = .ok (.ifCond .le 7, 3) := by decide +kernel
theorem dX6_odds_55 : decode cX6_odds 55 = .ok (.iconst 1, 1) := by decide +kernel
theorem dX6_odds_56 : decode cX6_odds 56 = .ok (.goto 4, 3) := by decide +kernel
theorem dX6_odds_59 : decode cX6_odds 59 = .ok (.iconst 0, 1) := by decide +kernel
theorem dX6_odds_60 : decode cX6_odds 60 = .ok (.iadd, 1) := by decide +kernel
theorem dX6_odds_61 : decode cX6_odds 61 = .ok (.istore_n 3, 1) := by decide +kernel
theorem dX6_odds_62 : decode cX6_odds 62 = .ok (.iinc 4 1, 3) := by decide +kernel
theorem dX6_odds_65 : decode cX6_odds 65 = .ok (.goto (-30), 3) := by decide +kernel
theorem dX6_odds_68 : decode cX6_odds 68 = .ok (.bipush 8, 2) := by decide +kernel
theorem dX6_odds_70 : decode cX6_odds 70 = .ok (.istore 4, 2) := by decide +kernel
theorem dX6_odds_72 : decode cX6_odds 72 = .ok (.iload_n 3, 1) := by decide +kernel
theorem dX6_odds_73 : decode cX6_odds 73 = .ok (.iload 4, 2) := by decide +kernel
theorem dX6_odds_75 : decode cX6_odds 75 = .ok (.irem, 1) := by decide +kernel
theorem dX6_odds_76 : decode cX6_odds 76 = .ok (.ifCond .ne 11, 3) := by decide +kernel
theorem dX6_odds_79 : decode cX6_odds 79 = .ok (.bipush 8, 2) := by decide +kernel
theorem dX6_odds_81 : decode cX6_odds 81 = .ok (.iload 4, 2) := by decide +kernel
theorem dX6_odds_83 : decode cX6_odds 83 = .ok (.irem, 1) := by decide +kernel
theorem dX6_odds_84 : decode cX6_odds 84 = .ok (.ifCond .eq 9, 3) := by decide +kernel
theorem dX6_odds_87 : decode cX6_odds 87 = .ok (.iinc 4 (-1), 3) := by decide +kernel
theorem dX6_odds_90 : decode cX6_odds 90 = .ok (.goto (-18), 3) := by decide +kernel
theorem dX6_odds_93 : decode cX6_odds 93 = .ok (.lconst 1, 1) := by decide +kernel
theorem dX6_odds_94 : decode cX6_odds 94 = .ok (.lstore 5, 2) := by decide +kernel
theorem dX6_odds_96 : decode cX6_odds 96 = .ok (.iconst 0, 1) := by decide +kernel
theorem dX6_odds_97 : decode cX6_odds 97 = .ok (.istore 7, 2) := by decide +kernel
theorem dX6_odds_99 : decode cX6_odds 99 = .ok (.iload 7, 2) := by decide +kernel
theorem dX6_odds_101 : decode cX6_odds 101 = .ok (.iload_n 1, 1) := by decide +kernel
theorem dX6_odds_102 : decode cX6_odds 102 = .ok (.if_icmp .ge 32, 3) := by decide +kernel
theorem dX6_odds_105 : decode cX6_odds 105 = .ok (.lload 5, 2) := by decide +kernel
theorem dX6_odds_107 : decode cX6_odds 107 = .ok (.iload_n 2, 1) := by decide +kernel
theorem dX6_odds_108 : decode cX6_odds 108 = .ok (.ifCond .ne 11, 3) := by decide +kernel
theorem dX6_odds_111 : decode cX6_odds 111 = .ok (.iload_n 3, 1) := by decide +kernel
theorem dX6_odds_112 : decode cX6_odds 112 = .ok (.iload 4, 2) := by decide +kernel
theorem dX6_odds_114 : decode cX6_odds 114 = .ok (.idiv, 1) := by decide +kernel
theorem dX6_odds_115 : decode cX6_odds 115 = .ok (.i2l, 1) := by decide +kernel
theorem dX6_odds_116 : decode cX6_odds 116 = .ok (.goto 9, 3) := by decide +kernel
theorem dX6_odds_119 : decode cX6_odds 119 = .ok (.bipush 8, 2) := by decide +kernel
theorem dX6_odds_121 : decode cX6_odds 121 = .ok (.iload 4, 2) := by decide +kernel
theorem dX6_odds_123 : decode cX6_odds 123 = .ok (.idiv, 1) := by decide +kernel
theorem dX6_odds_124 : decode cX6_odds 124 = .ok (.i2l, 1) := by decide +kernel
theorem dX6_odds_125 : decode cX6_odds 125 = .ok (.lmul, 1) := by decide +kernel
theorem dX6_odds_126 : decode cX6_odds 126 = .ok (.lstore 5, 2) := by decide +kernel
theorem dX6_odds_128 : decode cX6_odds 128 = .ok (.iinc 7 1, 3) := by decide +kernel
theorem dX6_odds_131 : decode cX6_odds 131 = .ok (.goto (-32), 3) := by decide +kernel
theorem dX6_odds_134 : decode cX6_odds 134 = .ok (.lload 5, 2) := by decide +kernel
theorem dX6_odds_136 : decode cX6_odds 136 = .ok (.lreturn, 1) := by decide +kernel
theorem dX6_seed_0 : decode cX6_seed 0 = .ok (.aload_n 0, 1) := by decide +kernel
theorem dX6_seed_1 : decode cX6_seed 1 = .ok (.iconst 3, 1) := by decide +kernel
theorem dX6_seed_2 : decode cX6_seed 2 = .ok (.iload_n 1, 1) := by decide +kernel
theorem dX6_seed_3 : decode cX6_seed 3 = .ok (.invokevirtual 72, 3) := by decide +kernel
theorem dX6_seed_6 : decode cX6_seed 6 = .ok (.ireturn, 1) := by decide +kernel
theorem dX6_feed_0 : decode cX6_feed 0 = .ok (.iload_n 2, 1) := by decide +kernel
theorem dX6_feed_1 : decode cX6_feed 1 = .ok (.i2l, 1) := by decide +kernel
theorem dX6_feed_2 : decode cX6_feed 2 = .ok (.lconst 1, 1) := by decide +kernel
theorem dX6_feed_3 : decode cX6_feed 3 = .ok (.ldc2_w 112, 3) := by decide +kernel
theorem dX6_feed_6 : decode cX6_feed 6 = .ok (.invokestatic 49, 3) := by decide +kernel
theorem dX6_feed_9 : decode cX6_feed 9 = .ok (.ifCond .ne 10, 3) := by decide +kernel
theorem dX6_feed_12 : decode cX6_feed 12 = .ok (.aload_n 0, 1) := by decide +kernel
theorem dX6_feed_13 : decode cX6_feed 13 = .ok (.ldc 46, 2) := by decide +kernel
theorem dX6_feed_15 : decode cX6_feed 15 = .ok (.invokevirtual 75, 3) := by decide +kernel
theorem dX6_feed_18 : decode cX6_feed 18 = .ok (.ireturn, 1) := by decide +kernel
theorem dX6_feed_19 : decode cX6_feed 19 = .ok (.aload_n 0, 1) := by decide +kernel
theorem dX6_feed_20 : decode cX6_feed 20 = .ok (.getfield 222, 3) := by decide +kernel
theorem dX6_feed_23 : decode cX6_feed 23 = .ok (.iload_n 2, 1) := by decide +kernel
theorem dX6_feed_24 : decode cX6_feed 24 = .ok (.iadd, 1) := by decide +kernel
theorem dX6_feed_25 : decode cX6_feed 25 = .ok (.bipush 120, 2) := by decide +kernel
theorem dX6_feed_27 : decode cX6_feed 27 = .ok (.if_icmp .le 10, 3) := by decide +kernel
theorem dX6_feed_30 : decode cX6_feed 30 = .ok (.aload_n 0, 1) := by decide +kernel
theorem dX6_feed_31 : decode cX6_feed 31 = .ok (.ldc 96, 2) := by decide +kernel
theorem dX6_feed_33 : decode cX6_feed 33 = .ok (.invokevirtual 75, 3) := by decide +kernel
theorem dX6_feed_36 : decode cX6_feed 36 = .ok (.ireturn, 1) := by decide +kernel
theorem dX6_feed_37 : decode cX6_feed 37 = .ok (.iload_n 2, 1) := by decide +kernel
theorem dX6_feed_38 : decode cX6_feed 38 = .ok (.iconst 1, 1) := by decide +kernel
theorem dX6_feed_39 : decode cX6_feed 39 = .ok (.isub, 1) := by decide +kernel
theorem dX6_feed_40 : decode cX6_feed 40 = .ok (.istore_n 3, 1) := by decide +kernel
theorem dX6_feed_41 : decode cX6_feed 41 = .ok (.iload_n 3, 1) := by decide +kernel
theorem dX6_feed_42 : decode cX6_feed 42 = .ok (.ifCond .lt 38, 3) := by decide +kernel
theorem dX6_feed_45 : decode cX6_feed 45 = .ok (.aload_n 0, 1) := by decide +kernel
theorem dX6_feed_46 : decode cX6_feed 46 = .ok (.getfield 31, 3) := by decide +kernel
theorem dX6_feed_49 : decode cX6_feed 49 = .ok (.aload_n 0, 1) := by decide +kernel
theorem dX6_feed_50 : decode cX6_feed 50 = .ok (.getfield 222, 3) := by decide +kernel
theorem dX6_feed_53 : decode cX6_feed 53 = .ok (.iload_n 1, 1) := by decide +kernel
theorem dX6_feed_54 : decode cX6_feed 54 = .ok (.bipush 8, 2) := by decide +kernel
theorem dX6_feed_56 : decode cX6_feed 56 = .ok (.iload_n 3, 1) := by decide +kernel
theorem dX6_feed_57 : decode cX6_feed 57 = .ok (.imul, 1) := by decide +kernel
theorem dX6_feed_58 : decode cX6_feed 58 = .ok (.ishr, 1) := by decide +kernel
theorem dX6_feed_59 : decode cX6_feed 59 = .ok (.sipush 255, 3) := by decide +kernel
theorem dX6_feed_62 : decode cX6_feed 62 = .ok (.iand, 1) := by decide +kernel
theorem dX6_feed_63 : decode cX6_feed 63 = .ok (.iastore, 1) := by decide +kernel
theorem dX6_feed_64 : decode cX6_feed 64 = .ok (.aload_n 0, 1) := by decide +kernel
theorem dX6_feed_65 : decode cX6_feed 65 = .ok (.dup, 1) := by decide +kernel
theorem dX6_feed_66 : decode cX6_feed 66 = .ok (.getfield 222, 3) := by decide +kernel
theorem dX6_feed_69 : decode cX6_feed 69 = .ok (.iconst 1, 1) := by decide +kernel
theorem dX6_feed_70 : decode cX6_feed 70 = .ok (.iadd, 1) := by decide +kernel
theorem dX6_feed_71 : decode cX6_feed 71 = .ok (.putfield 222, 3) := by decide +kernel
theorem dX6_feed_74 : decode cX6_feed 74 = .ok (.iinc 3 (-1), 3) := by decide +kernel
theorem dX6_feed_77 : decode cX6_feed 77 = .ok (.goto (-36), 3) := by decide +kernel
theorem dX6_feed_80 : decode cX6_feed 80 = .ok (.aload_n 0, 1) := by decide +kernel
theorem dX6_feed_81 : decode cX6_feed 81 = .ok (.getfield 222, 3) := by decide +kernel
theorem dX6_feed_84 : decode cX6_feed 84 = .ok (.ireturn, 1) := by decide +kernel
theorem dX6_wipe_0 : decode cX6_wipe 0 = .ok (.aload_n 0, 1) := by decide +kernel
theorem dX6_wipe_1 : decode cX6_wipe 1 = .ok (.getfield 222, 3) := by decide +kernel
theorem dX6_wipe_4 : decode cX6_wipe 4 = .ok (.istore_n 1, 1) := by decide +kernel
theorem dX6_wipe_5 : decode cX6_wipe 5 = .ok (.aload_n 0, 1) := by decide +kernel
theorem dX6_wipe_6 : decode cX6_wipe 6 = .ok (.iconst 0, 1) := by decide +kernel
theorem dX6_wipe_7 : decode cX6_wipe 7 = .ok (.putfield 222, 3) := by decide +kernel
theorem dX6_wipe_10 : decode cX6_wipe 10 = .ok (.iload_n 1, 1) := by decide +kernel
theorem dX6_wipe_11 : decode cX6_wipe 11 = .ok (.ireturn, 1) := by decide +kernel
theorem dX6_byteAt_0 : decode cX6_byteAt 0 = .ok (.iload_n 1, 1) := by decide +kernel
theorem dX6_byteAt_1 : decode cX6_byteAt 1 = .ok (.aload_n 0, 1) := by decide +kernel
theorem dX6_byteAt_2 : decode cX6_byteAt 2 = .ok (.getfield 222, 3) := by decide +kernel
theorem dX6_byteAt_5 : decode cX6_byteAt 5 = .ok (.if_icmp .ge 12, 3) := by decide +kernel
theorem dX6_byteAt_8 : decode cX6_byteAt 8 = .ok (.aload_n 0, 1) := by decide +kernel
theorem dX6_byteAt_9 : decode cX6_byteAt 9 = .ok (.getfield 31, 3) := by decide +kernel
theorem dX6_byteAt_12 : decode cX6_byteAt 12 = .ok (.iload_n 1, 1) := by decide +kernel
theorem dX6_byteAt_13 : decode cX6_byteAt 13 = .ok (.iaload, 1) := by decide +kernel
theorem dX6_byteAt_14 : decode cX6_byteAt 14 = .ok (.goto 4, 3) := by decide +kernel
theorem dX6_byteAt_17 : decode cX6_byteAt 17 = .ok (.iconst (-1), 1) := by decide +kernel
theorem dX6_byteAt_18 : decode cX6_byteAt 18 = .ok (.ireturn, 1) := by decide +kernel
theorem dX6_isLetter_0 : decode cX6_isLetter 0 = .ok (.iload_n 0, 1) := by decide +kernel
theorem dX6_isLetter_1 : decode cX6_isLetter 1 = .ok (.i2l, 1) := by decide +kernel
theorem dX6_isLetter_2 : decode cX6_isLetter 2 = .ok (.ldc2_w 225, 3) := by decide +kernel
theorem dX6_isLetter_5 : decode cX6_isLetter 5 = .ok (.ldc2_w 227, 3) := by decide +kernel
theorem dX6_isLetter_8 : decode cX6_isLetter 8 = .ok (.invokestatic 49, 3) := by decide +kernel
theorem dX6_isLetter_11 : decode cX6_isLetter 11 = .ok (.ireturn, 1) := by decide +kernel
theorem dX6_isDigit_0 : decode cX6_isDigit 0 = .ok (.iload_n 0, 1) := by decide +kernel
theorem dX6_isDigit_1 : decode cX6_isDigit 1 = .ok (.i2l, 1) := by decide +kernel
theorem dX6_isDigit_2 : decode cX6_isDigit 2 = .ok (.ldc2_w 229, 3) := by decide +kernel
theorem dX6_isDigit_5 : decode cX6_isDigit 5 = .ok (.ldc2_w 231, 3) := by decide +kernel
theorem dX6_isDigit_8 : decode cX6_isDigit 8 = .ok (.invokestatic 49, 3) := by decide +kernel
theorem dX6_isDigit_11 : decode cX6_isDigit 11 = .ok (.ireturn, 1) := by decide +kernel
theorem dX6_token_0 : decode cX6_token 0 = .ok (.aload_n 0, 1) := by decide +kernel
theorem dX6_token_1 : decode cX6_token 1 = .ok (.aload_n 0, 1) := by decide +kernel
theorem dX6_token_2 : decode cX6_token 2 = .ok (.getfield 233, 3) := by decide +kernel
theorem dX6_token_5 : decode cX6_token 5 = .ok (.putfield 236, 3) := by decide +kernel
theorem dX6_token_8 : decode cX6_token 8 = .ok (.aload_n 0, 1) := by decide +kernel
theorem dX6_token_9 : decode cX6_token 9 = .ok (.aload_n 0, 1) := by decide +kernel
theorem dX6_token_10 : decode cX6_token 10 = .ok (.getfield 236, 3) := by decide +kernel
theorem dX6_token_13 : decode cX6_token 13 = .ok (.invokevirtual 239, 3) := by decide +kernel
theorem dX6_token_16 : decode cX6_token 16 = .ok (.bipush 32, 2) := by decide +kernel
theorem dX6_token_18 : decode cX6_token 18 = .ok (.if_icmp .ne 16, 3) := by decide +kernel
theorem dX6_token_21 : decode cX6_token 21 = .ok (.aload_n 0, 1) := by decide +kernel
theorem dX6_token_22 : decode cX6_token 22 = .ok (.dup, 1) := by decide +kernel
theorem dX6_token_23 : decode cX6_token 23 = .ok (.getfield 236, 3) := by decide +kernel
theorem dX6_token_26 : decode cX6_token 26 = .ok (.iconst 1, 1) := by decide +kernel
theorem dX6_token_27 : decode cX6_token 27 = .ok (.iadd, 1) := by decide +kernel
theorem dX6_token_28 : decode cX6_token 28 = .ok (.putfield 236, 3) := by decide +kernel
theorem dX6_token_31 : decode cX6_token 31 = .ok (.goto (-23), 3) := by decide +kernel
theorem dX6_token_34 : decode cX6_token 34 = .ok (.aload_n 0, 1) := by decide +kernel
theorem dX6_token_35 : decode cX6_token 35 = .ok (.aload_n 0, 1) := by decide +kernel
theorem dX6_token_36 : decode cX6_token 36 = .ok (.getfield 236, 3) := by decide +kernel
theorem dX6_token_39 : decode cX6_token 39 = .ok (.invokevirtual 239, 3) := by decide +kernel
theorem dX6_token_42 : decode cX6_token 42 = .ok (.invokestatic 242, 3) := by decide +kernel
theorem dX6_token_45 : decode cX6_token 45 = .ok (.istore_n 1, 1) := by decide +kernel
theorem dX6_token_46 : decode cX6_token 46 = .ok (.aload_n 0, 1) := by decide +kernel
theorem dX6_token_47 : decode cX6_token 47 = .ok (.aload_n 0, 1) := by decide +kernel
theorem dX6_token_48 : decode cX6_token 48 = .ok (.getfield 236, 3) := by decide +kernel
theorem dX6_token_51 : decode cX6_token 51 = .ok (.invokevirtual 239, 3) := by decide +kernel
theorem dX6_token_54 : decode cX6_token 54 = .ok (.invokestatic 245, 3) := by decide +kernel
theorem dX6_token_57 : decode cX6_token 57 = .ok (.istore_n 2, 1) := by decide +kernel
theorem dX6_token_58 : decode cX6_token 58 = .ok (.aload_n 0, 1) := by decide +kernel
theorem dX6_token_59 : decode cX6_token 59 = .ok (.aload_n 0, 1) := by decide +kernel
theorem dX6_token_60 : decode cX6_token 60 = .ok (.getfield 236, 3) := by decide +kernel
theorem dX6_token_63 : decode cX6_token 63 = .ok (.aload_n 0, 1) := by decide +kernel
theorem dX6_token_64 : decode cX6_token 64 = .ok (.getfield 222, 3) := by decide +kernel
theorem dX6_token_67 : decode cX6_token 67 = .ok (.if_icmp .ge 12, 3) := by decide +kernel
theorem dX6_token_70 : decode cX6_token 70 = .ok (.aload_n 0, 1) := by decide +kernel
theorem dX6_token_71 : decode cX6_token 71 = .ok (.getfield 236, 3) := by decide +kernel
theorem dX6_token_74 : decode cX6_token 74 = .ok (.iconst 1, 1) := by decide +kernel
theorem dX6_token_75 : decode cX6_token 75 = .ok (.iadd, 1) := by decide +kernel
theorem dX6_token_76 : decode cX6_token 76 = .ok (.goto 7, 3) := by decide +kernel
theorem dX6_token_79 : decode cX6_token 79 = .ok (.aload_n 0, 1) := by decide +kernel
theorem dX6_token_80 : decode cX6_token 80 = .ok (.getfield 236, 3) := by decide +kernel
theorem dX6_token_83 : decode cX6_token 83 = .ok (.putfield 233, 3) := by decide +kernel
theorem dX6_token_86 : decode cX6_token 86 = .ok (.iload_n 1, 1) := by decide +kernel
theorem dX6_token_87 : decode cX6_token 87 = .ok (.ifCond .eq 17, 3) := by decide +kernel
theorem dX6_token_90 : decode cX6_token 90 = .ok (.aload_n 0, 1) := by decide +kernel
theorem dX6_token_91 : decode cX6_token 91 = .ok (.aload_n 0, 1) := by decide +kernel
theorem dX6_token_92 : decode cX6_token 92 = .ok (.getfield 233, 3) := by decide +kernel
theorem dX6_token_95 : decode cX6_token 95 = .ok (.invokevirtual 239, 3) := by decide +kernel
theorem dX6_token_98 : decode cX6_token 98 = .ok (.invokestatic 242, 3) := by decide +kernel
theorem dX6_token_101 : decode cX6_token 101 = .ok (.ifCond .ne 21, 3) := by decide +kernel
theorem dX6_token_104 : decode cX6_token 104 = .ok (.iload_n 2, 1) := by decide +kernel
theorem dX6_token_105 : decode cX6_token 105 = .ok (.ifCond .eq 30, 3) := by decide +kernel
theorem dX6_token_108 : decode cX6_token 108 = .ok (.aload_n 0, 1) := by decide +kernel
theorem dX6_token_109 : decode cX6_token 109 = .ok (.aload_n 0, 1) := by decide +kernel
theorem dX6_token_110 : decode cX6_token 110 = .ok (.getfield 233, 3) := by decide +kernel
theorem dX6_token_113 : decode cX6_token 113 = .ok (.invokevirtual 239, 3) := by decide +kernel
theorem dX6_token_116 : decode cX6_token 116 = .ok (.invokestatic 245, 3) := by decide +kernel
theorem dX6_token_119 : decode cX6_token 119 = .ok (.ifCond .eq 16, 3) := by decide +kernel
theorem dX6_token_122 : decode cX6_token 122 = .ok (.aload_n 0, 1) := by decide +kernel
theorem dX6_token_123 : decode cX6_token 123 = .ok (.dup, 1) := by decide +kernel
theorem dX6_token_124 : decode cX6_token 124 = .ok (.getfield 233, 3) := by decide +kernel
theorem dX6_token_127 : decode cX6_token 127 = .ok (.iconst 1, 1) := by decide +kernel
theorem dX6_token_128 : decode cX6_token 128 = .ok (.iadd, 1) := by decide +kernel
theorem dX6_token_129 : decode cX6_token 129 = .ok (.putfield 233, 3) := by decide +kernel
theorem dX6_token_132 : decode cX6_token 132 = .ok (.goto (-46), 3) := by decide +kernel
theorem dX6_token_135 : decode cX6_token 135 = .ok (.return_, 1) := by decide +kernel
theorem dX6_must_0 : decode cX6_must 0 = .ok (.aload_n 0, 1) := by decide +kernel
theorem dX6_must_1 : decode cX6_must 1 = .ok (.aload_n 0, 1) := by decide +kernel
theorem dX6_must_2 : decode cX6_must 2 = .ok (.getfield 248, 3) := by decide +kernel
theorem dX6_must_5 : decode cX6_must 5 = .ok (.ifCond .ne 7, 3) := by decide +kernel
theorem dX6_must_8 : decode cX6_must 8 = .ok (.iload_n 1, 1) := by decide +kernel
theorem dX6_must_9 : decode cX6_must 9 = .ok (.ifCond .ne 7, 3) := by decide +kernel
theorem dX6_must_12 : decode cX6_must 12 = .ok (.iconst 1, 1) := by decide +kernel
theorem dX6_must_13 : decode cX6_must 13 = .ok (.goto 4, 3) := by decide +kernel
theorem dX6_must_16 : decode cX6_must 16 = .ok (.iconst 0, 1) := by decide +kernel
theorem dX6_must_17 : decode cX6_must 17 = .ok (.putfield 248, 3) := by decide +kernel
theorem dX6_must_20 : decode cX6_must 20 = .ok (.aload_n 0, 1) := by decide +kernel
theorem dX6_must_21 : decode cX6_must 21 = .ok (.getfield 248, 3) := by decide +kernel
theorem dX6_must_24 : decode cX6_must 24 = .ok (.ifCond .ne 7, 3) := by decide +kernel
theorem dX6_must_27 : decode cX6_must 27 = .ok (.aload_n 0, 1) := by decide +kernel
theorem dX6_must_28 : decode cX6_must 28 = .ok (.invokevirtual 251, 3) := by decide +kernel
theorem dX6_must_31 : decode cX6_must 31 = .ok (.return_, 1) := by decide +kernel
theorem dX6_word_0 : decode cX6_word 0 = .ok (.lconst 0, 1) := by decide +kernel
theorem dX6_word_1 : decode cX6_word 1 = .ok (.lstore_n 1, 1) := by decide +kernel
theorem dX6_word_2 : decode cX6_word 2 = .ok (.aload_n 0, 1) := by decide +kernel
theorem dX6_word_3 : decode cX6_word 3 = .ok (.getfield 236, 3) := by decide +kernel
theorem dX6_word_6 : decode cX6_word 6 = .ok (.istore_n 3, 1) := by decide +kernel
theorem dX6_word_7 : decode cX6_word 7 = .ok (.iload_n 3, 1) := by decide +kernel
theorem dX6_word_8 : decode cX6_word 8 = .ok (.aload_n 0, 1) := by decide +kernel
theorem dX6_word_9 : decode cX6_word 9 = .ok (.getfield 233, 3) := by decide +kernel
theorem dX6_word_12 : decode cX6_word 12 = .ok (.if_icmp .ge 38, 3) := by decide +kernel
theorem dX6_word_15 : decode cX6_word 15 = .ok (.lload_n 1, 1) := by decide +kernel
theorem dX6_word_16 : decode cX6_word 16 = .ok (.ldc2_w 254, 3) := by decide +kernel
theorem dX6_word_19 : decode cX6_word 19 = .ok (.lcmp, 1) := by decide +kernel
theorem dX6_word_20 : decode cX6_word 20 = .ok (.ifCond .le 7, 3) := by decide +kernel
theorem dX6_word_23 : decode cX6_word 23 = .ok (.lload_n 1, 1) := by decide +kernel
theorem dX6_word_24 : decode cX6_word 24 = .ok (.goto 19, 3) := by decide +kernel
theorem dX6_word_27 : decode cX6_word 27 = .ok (.ldc2_w 256, 3) := by decide +kernel
theorem dX6_word_30 : decode cX6_word 30 = .ok (.lload_n 1, 1) := by decide +kernel
theorem dX6_word_31 : decode cX6_word 31 = .ok (.lmul, 1) := by decide +kernel
theorem dX6_word_32 : decode cX6_word 32 = .ok (.aload_n 0, 1) := by decide +kernel
theorem dX6_word_33 : decode cX6_word 33 = .ok (.getfield 31, 3) := by decide +kernel
theorem dX6_word_36 : decode cX6_word 36 = .ok (.iload_n 3, 1) := by decide +kernel
theorem dX6_word_37 : decode cX6_word 37 = .ok (.iaload, 1) := by decide +kernel
theorem dX6_word_38 : decode cX6_word 38 = .ok (.bipush 96, 2) := by decide +kernel
theorem dX6_word_40 : decode cX6_word 40 = .ok (.isub, 1) := by decide +kernel
theorem dX6_word_41 : decode cX6_word 41 = .ok (.i2l, 1) := by decide +kernel
theorem dX6_word_42 : decode cX6_word 42 = .ok (.ladd, 1) := by decide +kernel
theorem dX6_word_43 : decode cX6_word 43 = .ok (.lstore_n 1, 1) := by decide +kernel
theorem dX6_word_44 : decode cX6_word 44 = .ok (.iinc 3 1, 3) := by decide +kernel
theorem dX6_word_47 : decode cX6_word 47 = .ok (.goto (-40), 3) := by decide +kernel
theorem dX6_word_50 : decode cX6_word 50 = .ok (.aload_n 0, 1) := by decide +kernel
theorem dX6_word_51 : decode cX6_word 51 = .ok (.getfield 248, 3) := by decide +kernel
theorem dX6_word_54 : decode cX6_word 54 = .ok (.ifCond .ne 17, 3) := by decide +kernel
theorem dX6_word_57 : decode cX6_word 57 = .ok (.aload_n 0, 1) := by decide +kernel
theorem dX6_word_58 : decode cX6_word 58 = .ok (.aload_n 0, 1) := by decide +kernel
theorem dX6_word_59 : decode cX6_word 59 = .ok (.getfield 236, 3) := by decide +kernel
theorem dX6_word_62 : decode cX6_word 62 = .ok (.invokevirtual 239, 3) := by decide +kernel
theorem dX6_word_65 : decode cX6_word 65 = .ok (.invokestatic 242, 3) := by decide +kernel
theorem dX6_word_68 : decode cX6_word 68 = .ok (.ifCond .ne 7, 3) := by decide +kernel
theorem dX6_word_71 : decode cX6_word 71 = .ok (.lconst 0, 1) := by decide +kernel
theorem dX6_word_72 : decode cX6_word 72 = .ok (.goto 4, 3) := by decide +kernel
theorem dX6_word_75 : decode cX6_word 75 = .ok (.lload_n 1, 1) := by decide +kernel
theorem dX6_word_76 : decode cX6_word 76 = .ok (.lreturn, 1) := by decide +kernel
theorem dX6_number_0 : decode cX6_number 0 = .ok (.aload_n 0, 1) := by decide +kernel
theorem dX6_number_1 : decode cX6_number 1 = .ok (.getfield 248, 3) := by decide +kernel
theorem dX6_number_4 : decode cX6_number 4 = .ok (.ifCond .eq 4, 3) := by decide +kernel
theorem dX6_number_7 : decode cX6_number 7 = .ok (.return_, 1) := by decide +kernel
theorem dX6_number_8 : decode cX6_number 8 = .ok (.aload_n 0, 1) := by decide +kernel
theorem dX6_number_9 : decode cX6_number 9 = .ok (.aload_n 0, 1) := by decide +kernel
theorem dX6_number_10 : decode cX6_number 10 = .ok (.getfield 236, 3) := by decide +kernel
theorem dX6_number_13 : decode cX6_number 13 = .ok (.invokevirtual 239, 3) := by decide +kernel
theorem dX6_number_16 : decode cX6_number 16 = .ok (.invokestatic 245, 3) := by decide +kernel
theorem dX6_number_19 : decode cX6_number 19 = .ok (.istore_n 3, 1) := by decide +kernel
theorem dX6_number_20 : decode cX6_number 20 = .ok (.iconst 0, 1) := by decide +kernel
theorem dX6_number_21 : decode cX6_number 21 = .ok (.istore 4, 2) := by decide +kernel
theorem dX6_number_23 : decode cX6_number 23 = .ok (.aload_n 0, 1) := by decide +kernel
theorem dX6_number_24 : decode cX6_number 24 = .ok (.getfield 236, 3) := by decide +kernel
theorem dX6_number_27 : decode cX6_number 27 = .ok (.istore 5, 2) := by decide +kernel
theorem dX6_number_29 : decode cX6_number 29 = .ok (.iload 5, 2) := by decide +kernel
theorem dX6_number_31 : decode cX6_number 31 = .ok (.aload_n 0, 1) := by decide +kernel
theorem dX6_number_32 : decode cX6_number 32 = .ok (.getfield 233, 3) := by decide +kernel
theorem dX6_number_35 : decode cX6_number 35 = .ok (.if_icmp .ge 44, 3) := by decide +kernel
theorem dX6_number_38 : decode cX6_number 38 = .ok (.iload_n 3, 1) := by decide +kernel
theorem dX6_number_39 : decode cX6_number 39 = .ok (.ifCond .eq 40, 3) := by decide +kernel
theorem dX6_number_42 : decode cX6_number 42 = .ok (.iload 4, 2) := by decide +kernel
theorem dX6_number_44 : decode cX6_number 44 = .ok (.sipush 9999, 3) := by decide +kernel
theorem dX6_number_47 : decode cX6_number 47 = .ok (.if_icmp .le 8, 3) := by decide +kernel
theorem dX6_number_50 : decode cX6_number 50 = .ok (.iload 4, 2) := by decide +kernel
theorem dX6_number_52 : decode cX6_number 52 = .ok (.goto 19, 3) := by decide +kernel
theorem dX6_number_55 : decode cX6_number 55 = .ok (.bipush 10, 2) := by decide +kernel
theorem dX6_number_57 : decode cX6_number 57 = .ok (.iload 4, 2) := by decide +kernel
theorem dX6_number_59 : decode cX6_number 59 = .ok (.imul, 1) := by decide +kernel
theorem dX6_number_60 : decode cX6_number 60 = .ok (.aload_n 0, 1) := by decide +kernel
theorem dX6_number_61 : decode cX6_number 61 = .ok (.getfield 31, 3) := by decide +kernel
theorem dX6_number_64 : decode cX6_number 64 = .ok (.iload 5, 2) := by decide +kernel
theorem dX6_number_66 : decode cX6_number 66 = .ok (.iaload, 1) := by decide +kernel
theorem dX6_number_67 : decode cX6_number 67 = .ok (.iadd, 1) := by decide +kernel
theorem dX6_number_68 : decode cX6_number 68 = .ok (.bipush 48, 2) := by decide +kernel
theorem dX6_number_70 : decode cX6_number 70 = .ok (.isub, 1) := by decide +kernel
theorem dX6_number_71 : decode cX6_number 71 = .ok (.istore 4, 2) := by decide +kernel
theorem dX6_number_73 : decode cX6_number 73 = .ok (.iinc 5 1, 3) := by decide +kernel
theorem dX6_number_76 : decode cX6_number 76 = .ok (.goto (-47), 3) := by decide +kernel
theorem dX6_number_79 : decode cX6_number 79 = .ok (.aload_n 0, 1) := by decide +kernel
theorem dX6_number_80 : decode cX6_number 80 = .ok (.iload 4, 2) := by decide +kernel
theorem dX6_number_82 : decode cX6_number 82 = .ok (.putfield 258, 3) := by decide +kernel
theorem dX6_number_85 : decode cX6_number 85 = .ok (.aload_n 0, 1) := by decide +kernel
theorem dX6_number_86 : decode cX6_number 86 = .ok (.iload_n 3, 1) := by decide +kernel
theorem dX6_number_87 : decode cX6_number 87 = .ok (.ifCond .eq 20, 3) := by decide +kernel
theorem dX6_number_90 : decode cX6_number 90 = .ok (.iload 4, 2) := by decide +kernel
theorem dX6_number_92 : decode cX6_number 92 = .ok (.i2l, 1) := by decide +kernel
theorem dX6_number_93 : decode cX6_number 93 = .ok (.iload_n 1, 1) := by decide +kernel
theorem dX6_number_94 : decode cX6_number 94 = .ok (.i2l, 1) := by decide +kernel
theorem dX6_number_95 : decode cX6_number 95 = .ok (.iload_n 2, 1) := by decide +kernel
theorem dX6_number_96 : decode cX6_number 96 = .ok (.i2l, 1) := by decide +kernel
theorem dX6_number_97 : decode cX6_number 97 = .ok (.invokestatic 49, 3) := by decide +kernel
theorem dX6_number_100 : decode cX6_number 100 = .ok (.ifCond .eq 7, 3) := by decide +kernel
theorem dX6_number_103 : decode cX6_number 103 = .ok (.iconst 1, 1) := by decide +kernel
theorem dX6_number_104 : decode cX6_number 104 = .ok (.goto 4, 3) := by decide +kernel
theorem dX6_number_107 : decode cX6_number 107 = .ok (.iconst 0, 1) := by decide +kernel
theorem dX6_number_108 : decode cX6_number 108 = .ok (.invokevirtual 261, 3) := by decide +kernel
theorem dX6_number_111 : decode cX6_number 111 = .ok (.return_, 1) := by decide +kernel
theorem dX6_kindHere_0 : decode cX6_kindHere 0 = .ok (.aload_n 0, 1) := by decide +kernel
theorem dX6_kindHere_1 : decode cX6_kindHere 1 = .ok (.invokevirtual 265, 3) := by decide +kernel
theorem dX6_kindHere_4 : decode cX6_kindHere 4 = .ok (.lstore_n 1, 1) := by decide +kernel
theorem dX6_kindHere_5 : decode cX6_kindHere 5 = .ok (.lload_n 1, 1) := by decide +kernel
theorem dX6_kindHere_6 : decode cX6_kindHere 6 = .ok (.ldc2_w 269, 3) := by decide +kernel
theorem dX6_kindHere_9 : decode cX6_kindHere 9 = .ok (.lcmp, 1) := by decide +kernel
theorem dX6_kindHere_10 : decode cX6_kindHere 10 = .ok (.ifCond .ne 7, 3) := by decide +kernel
theorem dX6_kindHere_13 : decode cX6_kindHere 13 = .ok (.iconst 0, 1) := by decide +kernel
theorem dX6_kindHere_14 : decode cX6_kindHere 14 = .ok (.goto 77, 3) := by decide +kernel
theorem dX6_kindHere_17 : decode cX6_kindHere 17 = .ok (.lload_n 1, 1) := by decide +kernel
theorem dX6_kindHere_18 : decode cX6_kindHere 18 = .ok (.ldc2_w 271, 3) := by decide +kernel
theorem dX6_kindHere_21 : decode cX6_kindHere 21 = .ok (.lcmp, 1) := by decide +kernel
theorem dX6_kindHere_22 : decode cX6_kindHere 22 = .ok (.ifCond .ne 7, 3) := by decide +kernel
theorem dX6_kindHere_25 : decode cX6_kindHere 25 = .ok (.iconst 1, 1) := by decide +kernel
theorem dX6_kindHere_26 : decode cX6_kindHere 26 = .ok (.goto 65, 3) := by decide +kernel
theorem dX6_kindHere_29 : decode cX6_kindHere 29 = .ok (.lload_n 1, 1) := by decide +kernel
theorem dX6_kindHere_30 : decode cX6_kindHere 30 = .ok (.ldc2_w 273, 3) := by decide +kernel
theorem dX6_kindHere_33 : decode cX6_kindHere 33 = .ok (.lcmp, 1) := by decide +kernel
theorem dX6_kindHere_34 : decode cX6_kindHere 34 = .ok (.ifCond .ne 7, 3) := by decide +kernel
theorem dX6_kindHere_37 : decode cX6_kindHere 37 = .ok (.iconst 2, 1) := by decide +kernel
theorem dX6_kindHere_38 : decode cX6_kindHere 38 = .ok (.goto 53, 3) := by decide +kernel
theorem dX6_kindHere_41 : decode cX6_kindHere 41 = .ok (.lload_n 1, 1) := by decide +kernel
theorem dX6_kindHere_42 : decode cX6_kindHere 42 = .ok (.ldc2_w 275, 3) := by decide +kernel
theorem dX6_kindHere_45 : decode cX6_kindHere 45 = .ok (.lcmp, 1) := by decide +kernel
theorem dX6_kindHere_46 : decode cX6_kindHere 46 = .ok (.ifCond .ne 7, 3) := by decide +kernel
theorem dX6_kindHere_49 : decode cX6_kindHere 49 = .ok (.iconst 3, 1) := by decide +kernel
theorem dX6_kindHere_50 : decode cX6_kindHere 50 = .ok (.goto 41, 3) := by decide +kernel
theorem dX6_kindHere_53 : decode cX6_kindHere 53 = .ok (.lload_n 1, 1) := by decide +kernel
theorem dX6_kindHere_54 : decode cX6_kindHere 54 = .ok (.ldc2_w 277, 3) := by decide +kernel
theorem dX6_kindHere_57 : decode cX6_kindHere 57 = .ok (.lcmp, 1) := by decide +kernel
theorem dX6_kindHere_58 : decode cX6_kindHere 58 = .ok (.ifCond .ne 7, 3) := by decide +kernel
theorem dX6_kindHere_61 : decode cX6_kindHere 61 = .ok (.iconst 4, 1) := by decide +kernel
theorem dX6_kindHere_62 : decode cX6_kindHere 62 = .ok (.goto 29, 3) := by decide +kernel
theorem dX6_kindHere_65 : decode cX6_kindHere 65 = .ok (.lload_n 1, 1) := by decide +kernel
theorem dX6_kindHere_66 : decode cX6_kindHere 66 = .ok (.ldc2_w 279, 3) := by decide +kernel
theorem dX6_kindHere_69 : decode cX6_kindHere 69 = .ok (.lcmp, 1) := by decide +kernel
theorem dX6_kindHere_70 : decode cX6_kindHere 70 = .ok (.ifCond .ne 7, 3) := by decide +kernel
theorem dX6_kindHere_73 : decode cX6_kindHere 73 = .ok (.iconst 5, 1) := by decide +kernel
theorem dX6_kindHere_74 : decode cX6_kindHere 74 = .ok (.goto 17, 3) := by decide +kernel
theorem dX6_kindHere_77 : decode cX6_kindHere 77 = .ok (.lload_n 1, 1) := by decide +kernel
theorem dX6_kindHere_78 : decode cX6_kindHere 78 = .ok (.ldc2_w 281, 3) := by decide +kernel
theorem dX6_kindHere_81 : decode cX6_kindHere 81 = .ok (.lcmp, 1) := by decide +kernel
theorem dX6_kindHere_82 : decode cX6_kindHere 82 = .ok (.ifCond .ne 8, 3) := by decide +kernel
theorem dX6_kindHere_85 : decode cX6_kindHere 85 = .ok (.bipush 6, 2) := by decide +kernel
theorem dX6_kindHere_87 : decode cX6_kindHere 87 = .ok (.goto 4, 3) := by decide +kernel
theorem dX6_kindHere_90 : decode cX6_kindHere 90 = .ok (.iconst (-1), 1) := by decide +kernel
theorem dX6_kindHere_91 : decode cX6_kindHere 91 = .ok (.ireturn, 1) := by decide +kernel
theorem dX6_perhaps_0 : decode cX6_perhaps 0 = .ok (.aload_n 0, 1) := by decide +kernel
theorem dX6_perhaps_1 : decode cX6_perhaps 1 = .ok (.invokevirtual 265, 3) := by decide +kernel
theorem dX6_perhaps_4 : decode cX6_perhaps 4 = .ok (.lload_n 1, 1) := by decide +kernel
theorem dX6_perhaps_5 : decode cX6_perhaps 5 = .ok (.lcmp, 1) := by decide +kernel
theorem dX6_perhaps_6 : decode cX6_perhaps 6 = .ok (.ifCond .ne 41, 3) := by decide +kernel
theorem dX6_perhaps_9 : decode cX6_perhaps 9 = .ok (.aload_n 0, 1) := by decide +kernel
theorem dX6_perhaps_10 : decode cX6_perhaps 10 = .ok (.iconst 1, 1) := by decide +kernel
theorem dX6_perhaps_11 : decode cX6_perhaps 11 = .ok (.invokevirtual 261, 3) := by decide +kernel
theorem dX6_perhaps_14 : decode cX6_perhaps 14 = .ok (.aload_n 0, 1) := by decide +kernel
theorem dX6_perhaps_15 : decode cX6_perhaps 15 = .ok (.iconst 0, 1) := by decide +kernel
theorem dX6_perhaps_16 : decode cX6_perhaps 16 = .ok (.iload 4, 2) := by decide +kernel
theorem dX6_perhaps_18 : decode cX6_perhaps 18 = .ok (.invokevirtual 283, 3) := by decide +kernel
theorem dX6_perhaps_21 : decode cX6_perhaps 21 = .ok (.aload_n 0, 1) := by decide +kernel
theorem dX6_perhaps_22 : decode cX6_perhaps 22 = .ok (.getfield 7, 3) := by decide +kernel
theorem dX6_perhaps_25 : decode cX6_perhaps 25 = .ok (.iload_n 3, 1) := by decide +kernel
theorem dX6_perhaps_26 : decode cX6_perhaps 26 = .ok (.aload_n 0, 1) := by decide +kernel
theorem dX6_perhaps_27 : decode cX6_perhaps 27 = .ok (.getfield 248, 3) := by decide +kernel
theorem dX6_perhaps_30 : decode cX6_perhaps 30 = .ok (.ifCond .eq 12, 3) := by decide +kernel
theorem dX6_perhaps_33 : decode cX6_perhaps 33 = .ok (.aload_n 0, 1) := by decide +kernel
theorem dX6_perhaps_34 : decode cX6_perhaps 34 = .ok (.getfield 7, 3) := by decide +kernel
theorem dX6_perhaps_37 : decode cX6_perhaps 37 = .ok (.iload_n 3, 1) := by decide +kernel
theorem dX6_perhaps_38 : decode cX6_perhaps 38 = .ok (.iaload, 1) := by decide +kernel
theorem dX6_perhaps_39 : decode cX6_perhaps 39 = .ok (.goto 7, 3) := by decide +kernel
theorem dX6_perhaps_42 : decode cX6_perhaps 42 = .ok (.aload_n 0, 1) := by decide +kernel
theorem dX6_perhaps_43 : decode cX6_perhaps 43 = .ok (.getfield 258, 3) := by decide +kernel
theorem dX6_perhaps_46 : decode cX6_perhaps 46 = .ok (.iastore, 1) := by decide +kernel
theorem dX6_perhaps_47 : decode cX6_perhaps 47 = .ok (.return_, 1) := by decide +kernel
theorem dX6_watcherItem_0 : decode cX6_watcherItem 0 = .ok (.aload_n 0, 1) := by decide +kernel
theorem dX6_watcherItem_1 : decode cX6_watcherItem 1 = .ok (.aload_n 0, 1) := by decide +kernel
theorem dX6_watcherItem_2 : decode cX6_watcherItem 2 = .ok (.getfield 7, 3) := by decide +kernel
theorem dX6_watcherItem_5 : decode cX6_watcherItem 5 = .ok (.iconst 1, 1) := by decide +kernel
theorem dX6_watcherItem_6 : decode cX6_watcherItem 6 = .ok (.iaload, 1) := by decide +kernel
theorem dX6_watcherItem_7 : decode cX6_watcherItem 7 = .ok (.bipush 8, 2) := by decide +kernel
theorem dX6_watcherItem_9 : decode cX6_watcherItem 9 = .ok (.if_icmp .ge 7, 3) := by decide +kernel
theorem dX6_watcherItem_12 : decode cX6_watcherItem 12 = .ok (.iconst 1, 1) := by decide +kernel
theorem dX6_watcherItem_13 : decode cX6_watcherItem 13 = .ok (.goto 4, 3) := by decide +kernel
theorem dX6_watcherItem_16 : decode cX6_watcherItem 16 = .ok (.iconst 0, 1) := by decide +kernel
theorem dX6_watcherItem_17 : decode cX6_watcherItem 17 = .ok (.invokevirtual 261, 3) := by decide +kernel
theorem dX6_watcherItem_20 : decode cX6_watcherItem 20 = .ok (.aload_n 0, 1) := by decide +kernel
theorem dX6_watcherItem_21 : decode cX6_watcherItem 21 = .ok (.getfield 248, 3) := by decide +kernel
theorem dX6_watcherItem_24 : decode cX6_watcherItem 24 = .ok (.ifCond .eq 4, 3) := by decide +kernel
theorem dX6_watcherItem_27 : decode cX6_watcherItem 27 = .ok (.return_, 1) := by decide +kernel
theorem dX6_watcherItem_28 : decode cX6_watcherItem 28 = .ok (.aload_n 0, 1) := by decide +kernel
theorem dX6_watcherItem_29 : decode cX6_watcherItem 29 = .ok (.iload_n 1, 1) := by decide +kernel
theorem dX6_watcherItem_30 : decode cX6_watcherItem 30 = .ok (.iconst 0, 1) := by decide +kernel
theorem dX6_watcherItem_31 : decode cX6_watcherItem 31 = .ok (.invokevirtual 97, 3) := by decide +kernel
theorem dX6_watcherItem_34 : decode cX6_watcherItem 34 = .ok (.istore_n 2, 1) := by decide +kernel
theorem dX6_watcherItem_35 : decode cX6_watcherItem 35 = .ok (.aload_n 0, 1) := by decide +kernel
theorem dX6_watcherItem_36 : decode cX6_watcherItem 36 = .ok (.ldc2_w 287, 3) := by decide +kernel
theorem dX6_watcherItem_39 : decode cX6_watcherItem 39 = .ok (.iload_n 2, 1) := by decide +kernel
theorem dX6_watcherItem_40 : decode cX6_watcherItem 40 = .ok (.iconst 1, 1) := by decide +kernel
theorem dX6_watcherItem_41 : decode cX6_watcherItem 41 = .ok (.invokestatic 59, 3) := by decide +kernel
theorem dX6_watcherItem_44 : decode cX6_watcherItem 44 = .ok (.bipush 11, 2) := by decide +kernel
theorem dX6_watcherItem_46 : decode cX6_watcherItem 46 = .ok (.invokevirtual 289, 3) := by decide +kernel
theorem dX6_watcherItem_49 : decode cX6_watcherItem 49 = .ok (.aload_n 0, 1) := by decide +kernel
theorem dX6_watcherItem_50 : decode cX6_watcherItem 50 = .ok (.ldc2_w 293, 3) := by decide +kernel
theorem dX6_watcherItem_53 : decode cX6_watcherItem 53 = .ok (.iload_n 2, 1) := by decide +kernel
theorem dX6_watcherItem_54 : decode cX6_watcherItem 54 = .ok (.iconst 2, 1) := by decide +kernel
theorem dX6_watcherItem_55 : decode cX6_watcherItem 55 = .ok (.invokestatic 59, 3) := by decide +kernel
theorem dX6_watcherItem_58 : decode cX6_watcherItem 58 = .ok (.sipush 999, 3) := by decide +kernel
theorem dX6_watcherItem_61 : decode cX6_watcherItem 61 = .ok (.invokevirtual 289, 3) := by decide +kernel
theorem dX6_watcherItem_64 : decode cX6_watcherItem 64 = .ok (.aload_n 0, 1) := by decide +kernel
theorem dX6_watcherItem_65 : decode cX6_watcherItem 65 = .ok (.ldc2_w 295, 3) := by decide +kernel
theorem dX6_watcherItem_68 : decode cX6_watcherItem 68 = .ok (.iload_n 2, 1) := by decide +kernel
theorem dX6_watcherItem_69 : decode cX6_watcherItem 69 = .ok (.iconst 3, 1) := by decide +kernel
theorem dX6_watcherItem_70 : decode cX6_watcherItem 70 = .ok (.invokestatic 59, 3) := by decide +kernel
theorem dX6_watcherItem_73 : decode cX6_watcherItem 73 = .ok (.bipush 99, 2) := by decide +kernel
theorem dX6_watcherItem_75 : decode cX6_watcherItem 75 = .ok (.invokevirtual 289, 3) := by decide +kernel
theorem dX6_watcherItem_78 : decode cX6_watcherItem 78 = .ok (.return_, 1) := by decide +kernel
theorem dX6_rowItem_0 : decode cX6_rowItem 0 = .ok (.aload_n 0, 1) := by decide +kernel
theorem dX6_rowItem_1 : decode cX6_rowItem 1 = .ok (.iconst 1, 1) := by decide +kernel
theorem dX6_rowItem_2 : decode cX6_rowItem 2 = .ok (.invokevirtual 261, 3) := by decide +kernel
theorem dX6_rowItem_5 : decode cX6_rowItem 5 = .ok (.aload_n 0, 1) := by decide +kernel
theorem dX6_rowItem_6 : decode cX6_rowItem 6 = .ok (.iconst 0, 1) := by decide +kernel
theorem dX6_rowItem_7 : decode cX6_rowItem 7 = .ok (.iload_n 2, 1) := by decide +kernel
theorem dX6_rowItem_8 : decode cX6_rowItem 8 = .ok (.iconst 1, 1) := by decide +kernel
theorem dX6_rowItem_9 : decode cX6_rowItem 9 = .ok (.isub, 1) := by decide +kernel
theorem dX6_rowItem_10 : decode cX6_rowItem 10 = .ok (.invokevirtual 283, 3) := by decide +kernel
theorem dX6_rowItem_13 : decode cX6_rowItem 13 = .ok (.aload_n 0, 1) := by decide +kernel
theorem dX6_rowItem_14 : decode cX6_rowItem 14 = .ok (.getfield 248, 3) := by decide +kernel
theorem dX6_rowItem_17 : decode cX6_rowItem 17 = .ok (.ifCond .eq 7, 3) := by decide +kernel
theorem dX6_rowItem_20 : decode cX6_rowItem 20 = .ok (.iload_n 1, 1) := by decide +kernel
theorem dX6_rowItem_21 : decode cX6_rowItem 21 = .ok (.goto 9, 3) := by decide +kernel
theorem dX6_rowItem_24 : decode cX6_rowItem 24 = .ok (.iload_n 1, 1) := by decide +kernel
theorem dX6_rowItem_25 : decode cX6_rowItem 25 = .ok (.aload_n 0, 1) := by decide +kernel
theorem dX6_rowItem_26 : decode cX6_rowItem 26 = .ok (.getfield 258, 3) := by decide +kernel
theorem dX6_rowItem_29 : decode cX6_rowItem 29 = .ok (.iadd, 1) := by decide +kernel
theorem dX6_rowItem_30 : decode cX6_rowItem 30 = .ok (.istore 4, 2) := by decide +kernel
theorem dX6_rowItem_32 : decode cX6_rowItem 32 = .ok (.aload_n 0, 1) := by decide +kernel
theorem dX6_rowItem_33 : decode cX6_rowItem 33 = .ok (.iconst 0, 1) := by decide +kernel
theorem dX6_rowItem_34 : decode cX6_rowItem 34 = .ok (.iload_n 3, 1) := by decide +kernel
theorem dX6_rowItem_35 : decode cX6_rowItem 35 = .ok (.invokevirtual 283, 3) := by decide +kernel
theorem dX6_rowItem_38 : decode cX6_rowItem 38 = .ok (.aload_n 0, 1) := by decide +kernel
theorem dX6_rowItem_39 : decode cX6_rowItem 39 = .ok (.getfield 7, 3) := by decide +kernel
theorem dX6_rowItem_42 : decode cX6_rowItem 42 = .ok (.iload 4, 2) := by decide +kernel
theorem dX6_rowItem_44 : decode cX6_rowItem 44 = .ok (.aload_n 0, 1) := by decide +kernel
theorem dX6_rowItem_45 : decode cX6_rowItem 45 = .ok (.getfield 248, 3) := by decide +kernel
theorem dX6_rowItem_48 : decode cX6_rowItem 48 = .ok (.ifCond .eq 13, 3) := by decide +kernel
theorem dX6_rowItem_51 : decode cX6_rowItem 51 = .ok (.aload_n 0, 1) := by decide +kernel
theorem dX6_rowItem_52 : decode cX6_rowItem 52 = .ok (.getfield 7, 3) := by decide +kernel
theorem dX6_rowItem_55 : decode cX6_rowItem 55 = .ok (.iload 4, 2) := by decide +kernel
theorem dX6_rowItem_57 : decode cX6_rowItem 57 = .ok (.iaload, 1) := by decide +kernel
theorem dX6_rowItem_58 : decode cX6_rowItem 58 = .ok (.goto 7, 3) := by decide +kernel
theorem dX6_rowItem_61 : decode cX6_rowItem 61 = .ok (.aload_n 0, 1) := by decide +kernel
theorem dX6_rowItem_62 : decode cX6_rowItem 62 = .ok (.getfield 258, 3) := by decide +kernel
theorem dX6_rowItem_65 : decode cX6_rowItem 65 = .ok (.iastore, 1) := by decide +kernel
theorem dX6_rowItem_66 : decode cX6_rowItem 66 = .ok (.return_, 1) := by decide +kernel
theorem dX6_item_0 : decode cX6_item 0 = .ok (.aload_n 0, 1) := by decide +kernel
theorem dX6_item_1 : decode cX6_item 1 = .ok (.invokevirtual 297, 3) := by decide +kernel
theorem dX6_item_4 : decode cX6_item 4 = .ok (.istore_n 1, 1) := by decide +kernel
theorem dX6_item_5 : decode cX6_item 5 = .ok (.aload_n 0, 1) := by decide +kernel
theorem dX6_item_6 : decode cX6_item 6 = .ok (.invokevirtual 265, 3) := by decide +kernel
theorem dX6_item_9 : decode cX6_item 9 = .ok (.lstore_n 2, 1) := by decide +kernel
theorem dX6_item_10 : decode cX6_item 10 = .ok (.iload_n 1, 1) := by decide +kernel
theorem dX6_item_11 : decode cX6_item 11 = .ok (.ifCond .lt 11, 3) := by decide +kernel
theorem dX6_item_14 : decode cX6_item 14 = .ok (.aload_n 0, 1) := by decide +kernel
theorem dX6_item_15 : decode cX6_item 15 = .ok (.iload_n 1, 1) := by decide +kernel
theorem dX6_item_16 : decode cX6_item 16 = .ok (.invokevirtual 300, 3) := by decide +kernel
theorem dX6_item_19 : decode cX6_item 19 = .ok (.goto 84, 3) := by decide +kernel
theorem dX6_item_22 : decode cX6_item 22 = .ok (.lload_n 2, 1) := by decide +kernel
theorem dX6_item_23 : decode cX6_item 23 = .ok (.ldc2_w 303, 3) := by decide +kernel
theorem dX6_item_26 : decode cX6_item 26 = .ok (.lcmp, 1) := by decide +kernel
theorem dX6_item_27 : decode cX6_item 27 = .ok (.ifCond .ne 17, 3) := by decide +kernel
theorem dX6_item_30 : decode cX6_item 30 = .ok (.aload_n 0, 1) := by decide +kernel
theorem dX6_item_31 : decode cX6_item 31 = .ok (.bipush 12, 2) := by decide +kernel
theorem dX6_item_33 : decode cX6_item 33 = .ok (.bipush 12, 2) := by decide +kernel
theorem dX6_item_35 : decode cX6_item 35 = .ok (.sipush 9999, 3) := by decide +kernel
theorem dX6_item_38 : decode cX6_item 38 = .ok (.invokevirtual 305, 3) := by decide +kernel
theorem dX6_item_41 : decode cX6_item 41 = .ok (.goto 62, 3) := by decide +kernel
theorem dX6_item_44 : decode cX6_item 44 = .ok (.lload_n 2, 1) := by decide +kernel
theorem dX6_item_45 : decode cX6_item 45 = .ok (.ldc2_w 308, 3) := by decide +kernel
theorem dX6_item_48 : decode cX6_item 48 = .ok (.lcmp, 1) := by decide +kernel
theorem dX6_item_49 : decode cX6_item 49 = .ok (.ifCond .ne 15, 3) := by decide +kernel
theorem dX6_item_52 : decode cX6_item 52 = .ok (.aload_n 0, 1) := by decide +kernel
theorem dX6_item_53 : decode cX6_item 53 = .ok (.iconst 4, 1) := by decide +kernel
theorem dX6_item_54 : decode cX6_item 54 = .ok (.bipush 8, 2) := by decide +kernel
theorem dX6_item_56 : decode cX6_item 56 = .ok (.bipush 99, 2) := by decide +kernel
theorem dX6_item_58 : decode cX6_item 58 = .ok (.invokevirtual 305, 3) := by decide +kernel
theorem dX6_item_61 : decode cX6_item 61 = .ok (.goto 42, 3) := by decide +kernel
theorem dX6_item_64 : decode cX6_item 64 = .ok (.aload_n 0, 1) := by decide +kernel
theorem dX6_item_65 : decode cX6_item 65 = .ok (.lload_n 2, 1) := by decide +kernel
theorem dX6_item_66 : decode cX6_item 66 = .ok (.ldc2_w 310, 3) := by decide +kernel
theorem dX6_item_69 : decode cX6_item 69 = .ok (.lcmp, 1) := by decide +kernel
theorem dX6_item_70 : decode cX6_item 70 = .ok (.ifCond .ne 7, 3) := by decide +kernel
theorem dX6_item_73 : decode cX6_item 73 = .ok (.iconst 1, 1) := by decide +kernel
theorem dX6_item_74 : decode cX6_item 74 = .ok (.goto 4, 3) := by decide +kernel
theorem dX6_item_77 : decode cX6_item 77 = .ok (.iconst 0, 1) := by decide +kernel
theorem dX6_item_78 : decode cX6_item 78 = .ok (.invokevirtual 261, 3) := by decide +kernel
theorem dX6_item_81 : decode cX6_item 81 = .ok (.aload_n 0, 1) := by decide +kernel
theorem dX6_item_82 : decode cX6_item 82 = .ok (.iconst 0, 1) := by decide +kernel
theorem dX6_item_83 : decode cX6_item 83 = .ok (.bipush 99, 2) := by decide +kernel
theorem dX6_item_85 : decode cX6_item 85 = .ok (.invokevirtual 283, 3) := by decide +kernel
theorem dX6_item_88 : decode cX6_item 88 = .ok (.aload_n 0, 1) := by decide +kernel
theorem dX6_item_89 : decode cX6_item 89 = .ok (.getfield 248, 3) := by decide +kernel
theorem dX6_item_92 : decode cX6_item 92 = .ok (.ifCond .ne 11, 3) := by decide +kernel
theorem dX6_item_95 : decode cX6_item 95 = .ok (.aload_n 0, 1) := by decide +kernel
theorem dX6_item_96 : decode cX6_item 96 = .ok (.aload_n 0, 1) := by decide +kernel
theorem dX6_item_97 : decode cX6_item 97 = .ok (.getfield 258, 3) := by decide +kernel
theorem dX6_item_100 : decode cX6_item 100 = .ok (.invokevirtual 89, 3) := by decide +kernel
theorem dX6_item_103 : decode cX6_item 103 = .ok (.return_, 1) := by decide +kernel
theorem dX6_text_0 : decode cX6_text 0 = .ok (.aload_n 0, 1) := by decide +kernel
theorem dX6_text_1 : decode cX6_text 1 = .ok (.invokevirtual 312, 3) := by decide +kernel
theorem dX6_text_4 : decode cX6_text 4 = .ok (.aload_n 0, 1) := by decide +kernel
theorem dX6_text_5 : decode cX6_text 5 = .ok (.iconst 0, 1) := by decide +kernel
theorem dX6_text_6 : decode cX6_text 6 = .ok (.putfield 248, 3) := by decide +kernel
theorem dX6_text_9 : decode cX6_text 9 = .ok (.aload_n 0, 1) := by decide +kernel
theorem dX6_text_10 : decode cX6_text 10 = .ok (.iconst 0, 1) := by decide +kernel
theorem dX6_text_11 : decode cX6_text 11 = .ok (.putfield 233, 3) := by decide +kernel
theorem dX6_text_14 : decode cX6_text 14 = .ok (.aload_n 0, 1) := by decide +kernel
theorem dX6_text_15 : decode cX6_text 15 = .ok (.invokevirtual 251, 3) := by decide +kernel
theorem dX6_text_18 : decode cX6_text 18 = .ok (.iconst 1, 1) := by decide +kernel
theorem dX6_text_19 : decode cX6_text 19 = .ok (.istore_n 1, 1) := by decide +kernel
theorem dX6_text_20 : decode cX6_text 20 = .ok (.aload_n 0, 1) := by decide +kernel
theorem dX6_text_21 : decode cX6_text 21 = .ok (.invokevirtual 315, 3) := by decide +kernel
theorem dX6_text_24 : decode cX6_text 24 = .ok (.aload_n 0, 1) := by decide +kernel
theorem dX6_text_25 : decode cX6_text 25 = .ok (.getfield 248, 3) := by decide +kernel
theorem dX6_text_28 : decode cX6_text 28 = .ok (.ifCond .ne 31, 3) := by decide +kernel
theorem dX6_text_31 : decode cX6_text 31 = .ok (.aload_n 0, 1) := by decide +kernel
theorem dX6_text_32 : decode cX6_text 32 = .ok (.aload_n 0, 1) := by decide +kernel
theorem dX6_text_33 : decode cX6_text 33 = .ok (.getfield 236, 3) := by decide +kernel
theorem dX6_text_36 : decode cX6_text 36 = .ok (.invokevirtual 239, 3) := by decide +kernel
theorem dX6_text_39 : decode cX6_text 39 = .ok (.bipush 59, 2) := by decide +kernel
theorem dX6_text_41 : decode cX6_text 41 = .ok (.if_icmp .ne 18, 3) := by decide +kernel
theorem dX6_text_44 : decode cX6_text 44 = .ok (.aload_n 0, 1) := by decide +kernel
theorem dX6_text_45 : decode cX6_text 45 = .ok (.iconst 1, 1) := by decide +kernel
theorem dX6_text_46 : decode cX6_text 46 = .ok (.invokevirtual 261, 3) := by decide +kernel
theorem dX6_text_49 : decode cX6_text 49 = .ok (.aload_n 0, 1) := by decide +kernel
theorem dX6_text_50 : decode cX6_text 50 = .ok (.invokevirtual 315, 3) := by decide +kernel
theorem dX6_text_53 : decode cX6_text 53 = .ok (.iinc 1 1, 3) := by decide +kernel
theorem dX6_text_56 : decode cX6_text 56 = .ok (.goto (-32), 3) := by decide +kernel
theorem dX6_text_59 : decode cX6_text 59 = .ok (.aload_n 0, 1) := by decide +kernel
theorem dX6_text_60 : decode cX6_text 60 = .ok (.aload_n 0, 1) := by decide +kernel
theorem dX6_text_61 : decode cX6_text 61 = .ok (.getfield 248, 3) := by decide +kernel
theorem dX6_text_64 : decode cX6_text 64 = .ok (.ifCond .ne 14, 3) := by decide +kernel
theorem dX6_text_67 : decode cX6_text 67 = .ok (.aload_n 0, 1) := by decide +kernel
theorem dX6_text_68 : decode cX6_text 68 = .ok (.getfield 236, 3) := by decide +kernel
theorem dX6_text_71 : decode cX6_text 71 = .ok (.aload_n 0, 1) := by decide +kernel
theorem dX6_text_72 : decode cX6_text 72 = .ok (.getfield 222, 3) := by decide +kernel
theorem dX6_text_75 : decode cX6_text 75 = .ok (.if_icmp .ge 7, 3) := by decide +kernel
theorem dX6_text_78 : decode cX6_text 78 = .ok (.iconst 1, 1) := by decide +kernel
theorem dX6_text_79 : decode cX6_text 79 = .ok (.goto 4, 3) := by decide +kernel
theorem dX6_text_82 : decode cX6_text 82 = .ok (.iconst 0, 1) := by decide +kernel
theorem dX6_text_83 : decode cX6_text 83 = .ok (.putfield 248, 3) := by decide +kernel
theorem dX6_text_86 : decode cX6_text 86 = .ok (.aload_n 0, 1) := by decide +kernel
theorem dX6_text_87 : decode cX6_text 87 = .ok (.getfield 248, 3) := by decide +kernel
theorem dX6_text_90 : decode cX6_text 90 = .ok (.ifCond .eq 7, 3) := by decide +kernel
theorem dX6_text_93 : decode cX6_text 93 = .ok (.aload_n 0, 1) := by decide +kernel
theorem dX6_text_94 : decode cX6_text 94 = .ok (.invokevirtual 318, 3) := by decide +kernel
theorem dX6_text_97 : decode cX6_text 97 = .ok (.aload_n 0, 1) := by decide +kernel
theorem dX6_text_98 : decode cX6_text 98 = .ok (.iconst 0, 1) := by decide +kernel
theorem dX6_text_99 : decode cX6_text 99 = .ok (.putfield 222, 3) := by decide +kernel
theorem dX6_text_102 : decode cX6_text 102 = .ok (.aload_n 0, 1) := by decide +kernel
theorem dX6_text_103 : decode cX6_text 103 = .ok (.getfield 248, 3) := by decide +kernel
theorem dX6_text_106 : decode cX6_text 106 = .ok (.ifCond .eq 12, 3) := by decide +kernel
theorem dX6_text_109 : decode cX6_text 109 = .ok (.iconst (-1), 1) := by decide +kernel
theorem dX6_text_110 : decode cX6_text 110 = .ok (.aload_n 0, 1) := by decide +kernel
theorem dX6_text_111 : decode cX6_text 111 = .ok (.getfield 236, 3) := by decide +kernel
theorem dX6_text_114 : decode cX6_text 114 = .ok (.isub, 1) := by decide +kernel
theorem dX6_text_115 : decode cX6_text 115 = .ok (.goto 4, 3) := by decide +kernel
theorem dX6_text_118 : decode cX6_text 118 = .ok (.iload_n 1, 1) := by decide +kernel
theorem dX6_text_119 : decode cX6_text 119 = .ok (.ireturn, 1) := by decide +kernel
theorem dX6_isSpot_0 : decode cX6_isSpot 0 = .ok (.iload_n 0, 1) := by decide +kernel
theorem dX6_isSpot_1 : decode cX6_isSpot 1 = .ok (.i2l, 1) := by decide +kernel
theorem dX6_isSpot_2 : decode cX6_isSpot 2 = .ok (.lconst 0, 1) := by decide +kernel
theorem dX6_isSpot_3 : decode cX6_isSpot 3 = .ok (.ldc2_w 321, 3) := by decide +kernel
theorem dX6_isSpot_6 : decode cX6_isSpot 6 = .ok (.invokestatic 49, 3) := by decide +kernel
theorem dX6_isSpot_9 : decode cX6_isSpot 9 = .ok (.ireturn, 1) := by decide +kernel
theorem dX6_hold_0 : decode cX6_hold 0 = .ok (.iload_n 1, 1) := by decide +kernel
theorem dX6_hold_1 : decode cX6_hold 1 = .ok (.invokestatic 323, 3) := by decide +kernel
theorem dX6_hold_4 : decode cX6_hold 4 = .ok (.ifCond .eq 16, 3) := by decide +kernel
theorem dX6_hold_7 : decode cX6_hold 7 = .ok (.iload_n 2, 1) := by decide +kernel
theorem dX6_hold_8 : decode cX6_hold 8 = .ok (.iconst (-1), 1) := by decide +kernel
theorem dX6_hold_9 : decode cX6_hold 9 = .ok (.if_icmp .eq 18, 3) := by decide +kernel
theorem dX6_hold_12 : decode cX6_hold 12 = .ok (.aload_n 0, 1) := by decide +kernel
theorem dX6_hold_13 : decode cX6_hold 13 = .ok (.iload_n 2, 1) := by decide +kernel
theorem dX6_hold_14 : decode cX6_hold 14 = .ok (.invokevirtual 100, 3) := by decide +kernel
theorem dX6_hold_17 : decode cX6_hold 17 = .ok (.ifCond .ne 10, 3) := by decide +kernel
theorem dX6_hold_20 : decode cX6_hold 20 = .ok (.aload_n 0, 1) := by decide +kernel
theorem dX6_hold_21 : decode cX6_hold 21 = .ok (.ldc 46, 2) := by decide +kernel
theorem dX6_hold_23 : decode cX6_hold 23 = .ok (.invokevirtual 75, 3) := by decide +kernel
theorem dX6_hold_26 : decode cX6_hold 26 = .ok (.ireturn, 1) := by decide +kernel
theorem dX6_hold_27 : decode cX6_hold 27 = .ok (.aload_n 0, 1) := by decide +kernel
theorem dX6_hold_28 : decode cX6_hold 28 = .ok (.getfield 7, 3) := by decide +kernel
theorem dX6_hold_31 : decode cX6_hold 31 = .ok (.bipush 64, 2) := by decide +kernel
theorem dX6_hold_33 : decode cX6_hold 33 = .ok (.iload_n 1, 1) := by decide +kernel
theorem dX6_hold_34 : decode cX6_hold 34 = .ok (.iadd, 1) := by decide +kernel
theorem dX6_hold_35 : decode cX6_hold 35 = .ok (.iload_n 2, 1) := by decide +kernel
theorem dX6_hold_36 : decode cX6_hold 36 = .ok (.iastore, 1) := by decide +kernel
theorem dX6_hold_37 : decode cX6_hold 37 = .ok (.iconst 1, 1) := by decide +kernel
theorem dX6_hold_38 : decode cX6_hold 38 = .ok (.ireturn, 1) := by decide +kernel
theorem dX6_above_0 : decode cX6_above 0 = .ok (.iload_n 0, 1) := by decide +kernel
theorem dX6_above_1 : decode cX6_above 1 = .ok (.bipush 6, 2) := by decide +kernel
theorem dX6_above_3 : decode cX6_above 3 = .ok (.if_icmp .ne 7, 3) := by decide +kernel
theorem dX6_above_6 : decode cX6_above 6 = .ok (.iconst 1, 1) := by decide +kernel
theorem dX6_above_7 : decode cX6_above 7 = .ok (.goto 22, 3) := by decide +kernel
theorem dX6_above_10 : decode cX6_above 10 = .ok (.iload_n 0, 1) := by decide +kernel
theorem dX6_above_11 : decode cX6_above 11 = .ok (.iconst 3, 1) := by decide +kernel
theorem dX6_above_12 : decode cX6_above 12 = .ok (.if_icmp .ne 7, 3) := by decide +kernel
theorem dX6_above_15 : decode cX6_above 15 = .ok (.iconst 2, 1) := by decide +kernel
theorem dX6_above_16 : decode cX6_above 16 = .ok (.goto 13, 3) := by decide +kernel
theorem dX6_above_19 : decode cX6_above 19 = .ok (.iload_n 0, 1) := by decide +kernel
theorem dX6_above_20 : decode cX6_above 20 = .ok (.iconst 4, 1) := by decide +kernel
theorem dX6_above_21 : decode cX6_above 21 = .ok (.if_icmp .ne 7, 3) := by decide +kernel
theorem dX6_above_24 : decode cX6_above 24 = .ok (.iconst 3, 1) := by decide +kernel
theorem dX6_above_25 : decode cX6_above 25 = .ok (.goto 4, 3) := by decide +kernel
theorem dX6_above_28 : decode cX6_above 28 = .ok (.iconst 0, 1) := by decide +kernel
theorem dX6_above_29 : decode cX6_above 29 = .ok (.ireturn, 1) := by decide +kernel
theorem dX6_as_0 : decode cX6_as 0 = .ok (.iload_n 1, 1) := by decide +kernel
theorem dX6_as_1 : decode cX6_as 1 = .ok (.invokestatic 323, 3) := by decide +kernel
theorem dX6_as_4 : decode cX6_as 4 = .ok (.ifCond .eq 10, 3) := by decide +kernel
theorem dX6_as_7 : decode cX6_as 7 = .ok (.iload_n 2, 1) := by decide +kernel
theorem dX6_as_8 : decode cX6_as 8 = .ok (.invokestatic 93, 3) := by decide +kernel
theorem dX6_as_11 : decode cX6_as 11 = .ok (.ifCond .ne 10, 3) := by decide +kernel
theorem dX6_as_14 : decode cX6_as 14 = .ok (.aload_n 0, 1) := by decide +kernel
theorem dX6_as_15 : decode cX6_as 15 = .ok (.ldc 46, 2) := by decide +kernel
theorem dX6_as_17 : decode cX6_as 17 = .ok (.invokevirtual 75, 3) := by decide +kernel
theorem dX6_as_20 : decode cX6_as 20 = .ok (.ireturn, 1) := by decide +kernel
theorem dX6_as_21 : decode cX6_as 21 = .ok (.aload_n 0, 1) := by decide +kernel
theorem dX6_as_22 : decode cX6_as 22 = .ok (.getfield 7, 3) := by decide +kernel
theorem dX6_as_25 : decode cX6_as 25 = .ok (.bipush 64, 2) := by decide +kernel
theorem dX6_as_27 : decode cX6_as 27 = .ok (.iload_n 1, 1) := by decide +kernel
theorem dX6_as_28 : decode cX6_as 28 = .ok (.iadd, 1) := by decide +kernel
theorem dX6_as_29 : decode cX6_as 29 = .ok (.iaload, 1) := by decide +kernel
theorem dX6_as_30 : decode cX6_as 30 = .ok (.istore_n 3, 1) := by decide +kernel
theorem dX6_as_31 : decode cX6_as 31 = .ok (.iload_n 3, 1) := by decide +kernel
theorem dX6_as_32 : decode cX6_as 32 = .ok (.ifCond .ge 11, 3) := by decide +kernel
theorem dX6_as_35 : decode cX6_as 35 = .ok (.aload_n 0, 1) := by decide +kernel
theorem dX6_as_36 : decode cX6_as 36 = .ok (.ldc_w 326, 3) := by decide +kernel
theorem dX6_as_39 : decode cX6_as 39 = .ok (.invokevirtual 75, 3) := by decide +kernel
theorem dX6_as_42 : decode cX6_as 42 = .ok (.ireturn, 1) := by decide +kernel
theorem dX6_as_43 : decode cX6_as 43 = .ok (.aload_n 0, 1) := by decide +kernel
theorem dX6_as_44 : decode cX6_as 44 = .ok (.iload_n 3, 1) := by decide +kernel
theorem dX6_as_45 : decode cX6_as 45 = .ok (.iconst 0, 1) := by decide +kernel
theorem dX6_as_46 : decode cX6_as 46 = .ok (.invokevirtual 63, 3) := by decide +kernel
theorem dX6_as_49 : decode cX6_as 49 = .ok (.istore 4, 2) := by decide +kernel
theorem dX6_as_51 : decode cX6_as 51 = .ok (.iload 4, 2) := by decide +kernel
theorem dX6_as_53 : decode cX6_as 53 = .ok (.iload_n 2, 1) := by decide +kernel
theorem dX6_as_54 : decode cX6_as 54 = .ok (.if_icmp .eq 18, 3) := by decide +kernel
theorem dX6_as_57 : decode cX6_as 57 = .ok (.iload 4, 2) := by decide +kernel
theorem dX6_as_59 : decode cX6_as 59 = .ok (.ifCond .eq 13, 3) := by decide +kernel
theorem dX6_as_62 : decode cX6_as 62 = .ok (.iload 4, 2) := by decide +kernel
theorem dX6_as_64 : decode cX6_as 64 = .ok (.invokestatic 327, 3) := by decide +kernel
theorem dX6_as_67 : decode cX6_as 67 = .ok (.istore 4, 2) := by decide +kernel
theorem dX6_as_69 : decode cX6_as 69 = .ok (.goto (-18), 3) := by decide +kernel
theorem dX6_as_72 : decode cX6_as 72 = .ok (.iload 4, 2) := by decide +kernel
theorem dX6_as_74 : decode cX6_as 74 = .ok (.iload_n 2, 1) := by decide +kernel
theorem dX6_as_75 : decode cX6_as 75 = .ok (.if_icmp .ne 7, 3) := by decide +kernel
theorem dX6_as_78 : decode cX6_as 78 = .ok (.iload_n 3, 1) := by decide +kernel
theorem dX6_as_79 : decode cX6_as 79 = .ok (.goto 10, 3) := by decide +kernel
theorem dX6_as_82 : decode cX6_as 82 = .ok (.aload_n 0, 1) := by decide +kernel
theorem dX6_as_83 : decode cX6_as 83 = .ok (.ldc_w 330, 3) := by decide +kernel
theorem dX6_as_86 : decode cX6_as 86 = .ok (.invokevirtual 75, 3) := by decide +kernel
theorem dX6_as_89 : decode cX6_as 89 = .ok (.ireturn, 1) := by decide +kernel
theorem dX6_isOne_0 : decode cX6_isOne 0 = .ok (.iload_n 0, 1) := by decide +kernel
theorem dX6_isOne_1 : decode cX6_isOne 1 = .ok (.i2l, 1) := by decide +kernel
theorem dX6_isOne_2 : decode cX6_isOne 2 = .ok (.lconst 0, 1) := by decide +kernel
theorem dX6_isOne_3 : decode cX6_isOne 3 = .ok (.ldc2_w 167, 3) := by decide +kernel
theorem dX6_isOne_6 : decode cX6_isOne 6 = .ok (.invokestatic 49, 3) := by decide +kernel
theorem dX6_isOne_9 : decode cX6_isOne 9 = .ok (.ireturn, 1) := by decide +kernel
theorem dX6_sheet_0 : decode cX6_sheet 0 = .ok (.iload_n 1, 1) := by decide +kernel
theorem dX6_sheet_1 : decode cX6_sheet 1 = .ok (.invokestatic 331, 3) := by decide +kernel
theorem dX6_sheet_4 : decode cX6_sheet 4 = .ok (.ifCond .eq 25, 3) := by decide +kernel
theorem dX6_sheet_7 : decode cX6_sheet 7 = .ok (.iload_n 2, 1) := by decide +kernel
theorem dX6_sheet_8 : decode cX6_sheet 8 = .ok (.ifCond .eq 28, 3) := by decide +kernel
theorem dX6_sheet_11 : decode cX6_sheet 11 = .ok (.iload_n 2, 1) := by decide +kernel
theorem dX6_sheet_12 : decode cX6_sheet 12 = .ok (.bipush 8, 2) := by decide +kernel
theorem dX6_sheet_14 : decode cX6_sheet 14 = .ok (.if_icmp .eq 22, 3) := by decide +kernel
theorem dX6_sheet_17 : decode cX6_sheet 17 = .ok (.iload_n 2, 1) := by decide +kernel
theorem dX6_sheet_18 : decode cX6_sheet 18 = .ok (.bipush 16, 2) := by decide +kernel
theorem dX6_sheet_20 : decode cX6_sheet 20 = .ok (.if_icmp .eq 16, 3) := by decide +kernel
theorem dX6_sheet_23 : decode cX6_sheet 23 = .ok (.iload_n 2, 1) := by decide +kernel
theorem dX6_sheet_24 : decode cX6_sheet 24 = .ok (.bipush 32, 2) := by decide +kernel
theorem dX6_sheet_26 : decode cX6_sheet 26 = .ok (.if_icmp .eq 10, 3) := by decide +kernel
theorem dX6_sheet_29 : decode cX6_sheet 29 = .ok (.aload_n 0, 1) := by decide +kernel
theorem dX6_sheet_30 : decode cX6_sheet 30 = .ok (.ldc 46, 2) := by decide +kernel
theorem dX6_sheet_32 : decode cX6_sheet 32 = .ok (.invokevirtual 75, 3) := by decide +kernel
theorem dX6_sheet_35 : decode cX6_sheet 35 = .ok (.ireturn, 1) := by decide +kernel
theorem dX6_sheet_36 : decode cX6_sheet 36 = .ok (.iload_n 3, 1) := by decide +kernel
theorem dX6_sheet_37 : decode cX6_sheet 37 = .ok (.ifCond .ge 11, 3) := by decide +kernel
theorem dX6_sheet_40 : decode cX6_sheet 40 = .ok (.aload_n 0, 1) := by decide +kernel
theorem dX6_sheet_41 : decode cX6_sheet 41 = .ok (.ldc_w 334, 3) := by decide +kernel
theorem dX6_sheet_44 : decode cX6_sheet 44 = .ok (.invokevirtual 75, 3) := by decide +kernel
theorem dX6_sheet_47 : decode cX6_sheet 47 = .ok (.ireturn, 1) := by decide +kernel
theorem dX6_sheet_48 : decode cX6_sheet 48 = .ok (.iload_n 3, 1) := by decide +kernel
theorem dX6_sheet_49 : decode cX6_sheet 49 = .ok (.bipush 40, 2) := by decide +kernel
theorem dX6_sheet_51 : decode cX6_sheet 51 = .ok (.if_icmp .le 10, 3) := by decide +kernel
theorem dX6_sheet_54 : decode cX6_sheet 54 = .ok (.aload_n 0, 1) := by decide +kernel
theorem dX6_sheet_55 : decode cX6_sheet 55 = .ok (.ldc 46, 2) := by decide +kernel
theorem dX6_sheet_57 : decode cX6_sheet 57 = .ok (.invokevirtual 75, 3) := by decide +kernel
theorem dX6_sheet_60 : decode cX6_sheet 60 = .ok (.ireturn, 1) := by decide +kernel
theorem dX6_sheet_61 : decode cX6_sheet 61 = .ok (.aload_n 0, 1) := by decide +kernel
theorem dX6_sheet_62 : decode cX6_sheet 62 = .ok (.getfield 34, 3) := by decide +kernel
theorem dX6_sheet_65 : decode cX6_sheet 65 = .ok (.iload_n 1, 1) := by decide +kernel
theorem dX6_sheet_66 : decode cX6_sheet 66 = .ok (.iload_n 2, 1) := by decide +kernel
theorem dX6_sheet_67 : decode cX6_sheet 67 = .ok (.iastore, 1) := by decide +kernel
theorem dX6_sheet_68 : decode cX6_sheet 68 = .ok (.aload_n 0, 1) := by decide +kernel
theorem dX6_sheet_69 : decode cX6_sheet 69 = .ok (.getfield 37, 3) := by decide +kernel
theorem dX6_sheet_72 : decode cX6_sheet 72 = .ok (.iload_n 1, 1) := by decide +kernel
theorem dX6_sheet_73 : decode cX6_sheet 73 = .ok (.iload_n 2, 1) := by decide +kernel
theorem dX6_sheet_74 : decode cX6_sheet 74 = .ok (.ifCond .ne 7, 3) := by decide +kernel
theorem dX6_sheet_77 : decode cX6_sheet 77 = .ok (.iconst 0, 1) := by decide +kernel
theorem dX6_sheet_78 : decode cX6_sheet 78 = .ok (.goto 4, 3) := by decide +kernel
theorem dX6_sheet_81 : decode cX6_sheet 81 = .ok (.iload_n 3, 1) := by decide +kernel
theorem dX6_sheet_82 : decode cX6_sheet 82 = .ok (.iastore, 1) := by decide +kernel
theorem dX6_sheet_83 : decode cX6_sheet 83 = .ok (.iconst 0, 1) := by decide +kernel
theorem dX6_sheet_84 : decode cX6_sheet 84 = .ok (.istore 4, 2) := by decide +kernel
theorem dX6_sheet_86 : decode cX6_sheet 86 = .ok (.iload 4, 2) := by decide +kernel
theorem dX6_sheet_88 : decode cX6_sheet 88 = .ok (.bipush 40, 2) := by decide +kernel
theorem dX6_sheet_90 : decode cX6_sheet 90 = .ok (.if_icmp .ge 22, 3) := by decide +kernel
theorem dX6_sheet_93 : decode cX6_sheet 93 = .ok (.aload_n 0, 1) := by decide +kernel
theorem dX6_sheet_94 : decode cX6_sheet 94 = .ok (.getfield 40, 3) := by decide +kernel
theorem dX6_sheet_97 : decode cX6_sheet 97 = .ok (.bipush 40, 2) := by decide +kernel
theorem dX6_sheet_99 : decode cX6_sheet 99 = .ok (.iload_n 1, 1) := by decide +kernel
theorem dX6_sheet_100 : decode cX6_sheet 100 = .ok (.imul, 1) := by decide +kernel
theorem dX6_sheet_101 : decode cX6_sheet 101 = .ok (.iload 4, 2) := by decide +kernel
theorem dX6_sheet_103 : decode cX6_sheet 103 = .ok (.iadd, 1) := by decide +kernel
theorem dX6_sheet_104 : decode cX6_sheet 104 = .ok (.iconst 0, 1) := by decide +kernel
theorem dX6_sheet_105 : decode cX6_sheet 105 = .ok (.iastore, 1) := by decide +kernel
theorem dX6_sheet_106 : decode cX6_sheet 106 = .ok (.iinc 4 1, 3) := by decide +kernel
theorem dX6_sheet_109 : decode cX6_sheet 109 = .ok (.goto (-23), 3) := by decide +kernel
theorem dX6_sheet_112 : decode cX6_sheet 112 = .ok (.aload_n 0, 1) := by decide +kernel
theorem dX6_sheet_113 : decode cX6_sheet 113 = .ok (.getfield 37, 3) := by decide +kernel
theorem dX6_sheet_116 : decode cX6_sheet 116 = .ok (.iload_n 1, 1) := by decide +kernel
theorem dX6_sheet_117 : decode cX6_sheet 117 = .ok (.iaload, 1) := by decide +kernel
theorem dX6_sheet_118 : decode cX6_sheet 118 = .ok (.ireturn, 1) := by decide +kernel
theorem dX6_narrowed_0 : decode cX6_narrowed 0 = .ok (.iload_n 0, 1) := by decide +kernel
theorem dX6_narrowed_1 : decode cX6_narrowed 1 = .ok (.bipush 8, 2) := by decide +kernel
theorem dX6_narrowed_3 : decode cX6_narrowed 3 = .ok (.if_icmp .ne 8, 3) := by decide +kernel
theorem dX6_narrowed_6 : decode cX6_narrowed 6 = .ok (.iload_n 1, 1) := by decide +kernel
theorem dX6_narrowed_7 : decode cX6_narrowed 7 = .ok (.i2b, 1) := by decide +kernel
theorem dX6_narrowed_8 : decode cX6_narrowed 8 = .ok (.goto 15, 3) := by decide +kernel
theorem dX6_narrowed_11 : decode cX6_narrowed 11 = .ok (.iload_n 0, 1) := by decide +kernel
theorem dX6_narrowed_12 : decode cX6_narrowed 12 = .ok (.bipush 16, 2) := by decide +kernel
theorem dX6_narrowed_14 : decode cX6_narrowed 14 = .ok (.if_icmp .ne 8, 3) := by decide +kernel
theorem dX6_narrowed_17 : decode cX6_narrowed 17 = .ok (.iload_n 1, 1) := by decide +kernel
theorem dX6_narrowed_18 : decode cX6_narrowed 18 = .ok (.i2s, 1) := by decide +kernel
theorem dX6_narrowed_19 : decode cX6_narrowed 19 = .ok (.goto 4, 3) := by decide +kernel
theorem dX6_narrowed_22 : decode cX6_narrowed 22 = .ok (.iload_n 1, 1) := by decide +kernel
theorem dX6_narrowed_23 : decode cX6_narrowed 23 = .ok (.ireturn, 1) := by decide +kernel
theorem dX6_wrong_0 : decode cX6_wrong 0 = .ok (.iload_n 1, 1) := by decide +kernel
theorem dX6_wrong_1 : decode cX6_wrong 1 = .ok (.invokestatic 331, 3) := by decide +kernel
theorem dX6_wrong_4 : decode cX6_wrong 4 = .ok (.ifCond .ne 8, 3) := by decide +kernel
theorem dX6_wrong_7 : decode cX6_wrong 7 = .ok (.ldc 46, 2) := by decide +kernel
theorem dX6_wrong_9 : decode cX6_wrong 9 = .ok (.goto 19, 3) := by decide +kernel
theorem dX6_wrong_12 : decode cX6_wrong 12 = .ok (.aload_n 0, 1) := by decide +kernel
theorem dX6_wrong_13 : decode cX6_wrong 13 = .ok (.getfield 34, 3) := by decide +kernel
theorem dX6_wrong_16 : decode cX6_wrong 16 = .ok (.iload_n 1, 1) := by decide +kernel
theorem dX6_wrong_17 : decode cX6_wrong 17 = .ok (.iaload, 1) := by decide +kernel
theorem dX6_wrong_18 : decode cX6_wrong 18 = .ok (.ifCond .ne 9, 3) := by decide +kernel
theorem dX6_wrong_21 : decode cX6_wrong 21 = .ok (.ldc_w 326, 3) := by decide +kernel
theorem dX6_wrong_24 : decode cX6_wrong 24 = .ok (.goto 4, 3) := by decide +kernel
theorem dX6_wrong_27 : decode cX6_wrong 27 = .ok (.iconst 0, 1) := by decide +kernel
theorem dX6_wrong_28 : decode cX6_wrong 28 = .ok (.ireturn, 1) := by decide +kernel
theorem dX6_write_0 : decode cX6_write 0 = .ok (.aload_n 0, 1) := by decide +kernel
theorem dX6_write_1 : decode cX6_write 1 = .ok (.iload_n 1, 1) := by decide +kernel
theorem dX6_write_2 : decode cX6_write 2 = .ok (.invokevirtual 208, 3) := by decide +kernel
theorem dX6_write_5 : decode cX6_write 5 = .ok (.istore 4, 2) := by decide +kernel
theorem dX6_write_7 : decode cX6_write 7 = .ok (.iload 4, 2) := by decide +kernel
theorem dX6_write_9 : decode cX6_write 9 = .ok (.ifCond .eq 10, 3) := by decide +kernel
theorem dX6_write_12 : decode cX6_write 12 = .ok (.aload_n 0, 1) := by decide +kernel
theorem dX6_write_13 : decode cX6_write 13 = .ok (.iload 4, 2) := by decide +kernel
theorem dX6_write_15 : decode cX6_write 15 = .ok (.invokevirtual 75, 3) := by decide +kernel
theorem dX6_write_18 : decode cX6_write 18 = .ok (.ireturn, 1) := by decide +kernel
theorem dX6_write_19 : decode cX6_write 19 = .ok (.iload_n 2, 1) := by decide +kernel
theorem dX6_write_20 : decode cX6_write 20 = .ok (.i2l, 1) := by decide +kernel
theorem dX6_write_21 : decode cX6_write 21 = .ok (.lconst 0, 1) := by decide +kernel
theorem dX6_write_22 : decode cX6_write 22 = .ok (.aload_n 0, 1) := by decide +kernel
theorem dX6_write_23 : decode cX6_write 23 = .ok (.getfield 37, 3) := by decide +kernel
theorem dX6_write_26 : decode cX6_write 26 = .ok (.iload_n 1, 1) := by decide +kernel
theorem dX6_write_27 : decode cX6_write 27 = .ok (.iaload, 1) := by decide +kernel
theorem dX6_write_28 : decode cX6_write 28 = .ok (.iconst 1, 1) := by decide +kernel
theorem dX6_write_29 : decode cX6_write 29 = .ok (.isub, 1) := by decide +kernel
theorem dX6_write_30 : decode cX6_write 30 = .ok (.i2l, 1) := by decide +kernel
theorem dX6_write_31 : decode cX6_write 31 = .ok (.invokestatic 49, 3) := by decide +kernel
theorem dX6_write_34 : decode cX6_write 34 = .ok (.ifCond .ne 10, 3) := by decide +kernel
theorem dX6_write_37 : decode cX6_write 37 = .ok (.aload_n 0, 1) := by decide +kernel
theorem dX6_write_38 : decode cX6_write 38 = .ok (.ldc 46, 2) := by decide +kernel
theorem dX6_write_40 : decode cX6_write 40 = .ok (.invokevirtual 75, 3) := by decide +kernel
theorem dX6_write_43 : decode cX6_write 43 = .ok (.ireturn, 1) := by decide +kernel
theorem dX6_write_44 : decode cX6_write 44 = .ok (.aload_n 0, 1) := by decide +kernel
theorem dX6_write_45 : decode cX6_write 45 = .ok (.getfield 40, 3) := by decide +kernel
theorem dX6_write_48 : decode cX6_write 48 = .ok (.bipush 40, 2) := by decide +kernel
theorem dX6_write_50 : decode cX6_write 50 = .ok (.iload_n 1, 1) := by decide +kernel
theorem dX6_write_51 : decode cX6_write 51 = .ok (.imul, 1) := by decide +kernel
theorem dX6_write_52 : decode cX6_write 52 = .ok (.iload_n 2, 1) := by decide +kernel
theorem dX6_write_53 : decode cX6_write 53 = .ok (.iadd, 1) := by decide +kernel
theorem dX6_write_54 : decode cX6_write 54 = .ok (.aload_n 0, 1) := by decide +kernel
theorem dX6_write_55 : decode cX6_write 55 = .ok (.getfield 34, 3) := by decide +kernel
theorem dX6_write_58 : decode cX6_write 58 = .ok (.iload_n 1, 1) := by decide +kernel
theorem dX6_write_59 : decode cX6_write 59 = .ok (.iaload, 1) := by decide +kernel
theorem dX6_write_60 : decode cX6_write 60 = .ok (.iload_n 3, 1) := by decide +kernel
theorem dX6_write_61 : decode cX6_write 61 = .ok (.invokestatic 335, 3) := by decide +kernel
theorem dX6_write_64 : decode cX6_write 64 = .ok (.iastore, 1) := by decide +kernel
theorem dX6_write_65 : decode cX6_write 65 = .ok (.iconst 1, 1) := by decide +kernel
theorem dX6_write_66 : decode cX6_write 66 = .ok (.ireturn, 1) := by decide +kernel
theorem dX6_copy_0 : decode cX6_copy 0 = .ok (.iload_n 1, 1) := by decide +kernel
theorem dX6_copy_1 : decode cX6_copy 1 = .ok (.invokestatic 331, 3) := by decide +kernel
theorem dX6_copy_4 : decode cX6_copy 4 = .ok (.ifCond .eq 10, 3) := by decide +kernel
theorem dX6_copy_7 : decode cX6_copy 7 = .ok (.iload_n 3, 1) := by decide +kernel
theorem dX6_copy_8 : decode cX6_copy 8 = .ok (.invokestatic 331, 3) := by decide +kernel
theorem dX6_copy_11 : decode cX6_copy 11 = .ok (.ifCond .ne 10, 3) := by decide +kernel
theorem dX6_copy_14 : decode cX6_copy 14 = .ok (.aload_n 0, 1) := by decide +kernel
theorem dX6_copy_15 : decode cX6_copy 15 = .ok (.ldc 46, 2) := by decide +kernel
theorem dX6_copy_17 : decode cX6_copy 17 = .ok (.invokevirtual 75, 3) := by decide +kernel
theorem dX6_copy_20 : decode cX6_copy 20 = .ok (.ireturn, 1) := by decide +kernel
theorem dX6_copy_21 : decode cX6_copy 21 = .ok (.aload_n 0, 1) := by decide +kernel
theorem dX6_copy_22 : decode cX6_copy 22 = .ok (.getfield 34, 3) := by decide +kernel
theorem dX6_copy_25 : decode cX6_copy 25 = .ok (.iload_n 1, 1) := by decide +kernel
theorem dX6_copy_26 : decode cX6_copy 26 = .ok (.iaload, 1) := by decide +kernel
theorem dX6_copy_27 : decode cX6_copy 27 = .ok (.ifCond .eq 12, 3) := by decide +kernel
theorem dX6_copy_30 : decode cX6_copy 30 = .ok (.aload_n 0, 1) := by decide +kernel
theorem dX6_copy_31 : decode cX6_copy 31 = .ok (.getfield 34, 3) := by decide +kernel
theorem dX6_copy_34 : decode cX6_copy 34 = .ok (.iload_n 3, 1) := by decide +kernel
theorem dX6_copy_35 : decode cX6_copy 35 = .ok (.iaload, 1) := by decide +kernel
theorem dX6_copy_36 : decode cX6_copy 36 = .ok (.ifCond .ne 11, 3) := by decide +kernel
theorem dX6_copy_39 : decode cX6_copy 39 = .ok (.aload_n 0, 1) := by decide +kernel
theorem dX6_copy_40 : decode cX6_copy 40 = .ok (.ldc_w 326, 3) := by decide +kernel
theorem dX6_copy_43 : decode cX6_copy 43 = .ok (.invokevirtual 75, 3) := by decide +kernel
theorem dX6_copy_46 : decode cX6_copy 46 = .ok (.ireturn, 1) := by decide +kernel
theorem dX6_copy_47 : decode cX6_copy 47 = .ok (.aload_n 0, 1) := by decide +kernel
theorem dX6_copy_48 : decode cX6_copy 48 = .ok (.getfield 34, 3) := by decide +kernel
theorem dX6_copy_51 : decode cX6_copy 51 = .ok (.iload_n 1, 1) := by decide +kernel
theorem dX6_copy_52 : decode cX6_copy 52 = .ok (.iaload, 1) := by decide +kernel
theorem dX6_copy_53 : decode cX6_copy 53 = .ok (.aload_n 0, 1) := by decide +kernel
theorem dX6_copy_54 : decode cX6_copy 54 = .ok (.getfield 34, 3) := by decide +kernel
theorem dX6_copy_57 : decode cX6_copy 57 = .ok (.iload_n 3, 1) := by decide +kernel
theorem dX6_copy_58 : decode cX6_copy 58 = .ok (.iaload, 1) := by decide +kernel
theorem dX6_copy_59 : decode cX6_copy 59 = .ok (.if_icmp .eq 11, 3) := by decide +kernel
theorem dX6_copy_62 : decode cX6_copy 62 = .ok (.aload_n 0, 1) := by decide +kernel
theorem dX6_copy_63 : decode cX6_copy 63 = .ok (.ldc_w 330, 3) := by decide +kernel
theorem dX6_copy_66 : decode cX6_copy 66 = .ok (.invokevirtual 75, 3) := by decide +kernel
theorem dX6_copy_69 : decode cX6_copy 69 = .ok (.ireturn, 1) := by decide +kernel
theorem dX6_copy_70 : decode cX6_copy 70 = .ok (.iload_n 2, 1) := by decide +kernel
theorem dX6_copy_71 : decode cX6_copy 71 = .ok (.ifCond .lt 40, 3) := by decide +kernel
theorem dX6_copy_74 : decode cX6_copy 74 = .ok (.iload 4, 2) := by decide +kernel
theorem dX6_copy_76 : decode cX6_copy 76 = .ok (.ifCond .lt 35, 3) := by decide +kernel
theorem dX6_copy_79 : decode cX6_copy 79 = .ok (.iload 5, 2) := by decide +kernel
theorem dX6_copy_81 : decode cX6_copy 81 = .ok (.ifCond .lt 30, 3) := by decide +kernel
theorem dX6_copy_84 : decode cX6_copy 84 = .ok (.iload 5, 2) := by decide +kernel
theorem dX6_copy_86 : decode cX6_copy 86 = .ok (.aload_n 0, 1) := by decide +kernel
theorem dX6_copy_87 : decode cX6_copy 87 = .ok (.getfield 37, 3) := by decide +kernel
theorem dX6_copy_90 : decode cX6_copy 90 = .ok (.iload_n 1, 1) := by decide +kernel
theorem dX6_copy_91 : decode cX6_copy 91 = .ok (.iaload, 1) := by decide +kernel
theorem dX6_copy_92 : decode cX6_copy 92 = .ok (.iload_n 2, 1) := by decide +kernel
theorem dX6_copy_93 : decode cX6_copy 93 = .ok (.isub, 1) := by decide +kernel
theorem dX6_copy_94 : decode cX6_copy 94 = .ok (.if_icmp .gt 17, 3) := by decide +kernel
theorem dX6_copy_97 : decode cX6_copy 97 = .ok (.iload 5, 2) := by decide +kernel
theorem dX6_copy_99 : decode cX6_copy 99 = .ok (.aload_n 0, 1) := by decide +kernel
theorem dX6_copy_100 : decode cX6_copy 100 = .ok (.getfield 37, 3) := by decide +kernel
theorem dX6_copy_103 : decode cX6_copy 103 = .ok (.iload_n 3, 1) := by decide +kernel
theorem dX6_copy_104 : decode cX6_copy 104 = .ok (.iaload, 1) := by decide +kernel
theorem dX6_copy_105 : decode cX6_copy 105 = .ok (.iload 4, 2) := by decide +kernel
theorem dX6_copy_107 : decode cX6_copy 107 = .ok (.isub, 1) := by decide +kernel
theorem dX6_copy_108 : decode cX6_copy 108 = .ok (.if_icmp .le 10, 3) := by decide +kernel
theorem dX6_copy_111 : decode cX6_copy 111 = .ok (.aload_n 0, 1) := by decide +kernel
theorem dX6_copy_112 : decode cX6_copy 112 = .ok (.ldc 46, 2) := by decide +kernel
theorem dX6_copy_114 : decode cX6_copy 114 = .ok (.invokevirtual 75, 3) := by decide +kernel
theorem dX6_copy_117 : decode cX6_copy 117 = .ok (.ireturn, 1) := by decide +kernel
theorem dX6_copy_118 : decode cX6_copy 118 = .ok (.iconst 0, 1) := by decide +kernel
theorem dX6_copy_119 : decode cX6_copy 119 = .ok (.istore 6, 2) := by decide +kernel
theorem dX6_copy_121 : decode cX6_copy 121 = .ok (.iload 6, 2) := by decide +kernel
theorem dX6_copy_123 : decode cX6_copy 123 = .ok (.iload 5, 2) := by decide +kernel
theorem dX6_copy_125 : decode cX6_copy 125 = .ok (.if_icmp .ge 30, 3) := by decide +kernel
theorem dX6_copy_128 : decode cX6_copy 128 = .ok (.aload_n 0, 1) := by decide +kernel
theorem dX6_copy_129 : decode cX6_copy 129 = .ok (.getfield 43, 3) := by decide +kernel
theorem dX6_copy_132 : decode cX6_copy 132 = .ok (.iload 6, 2) := by decide +kernel
theorem dX6_copy_134 : decode cX6_copy 134 = .ok (.aload_n 0, 1) := by decide +kernel
theorem dX6_copy_135 : decode cX6_copy 135 = .ok (.getfield 40, 3) := by decide +kernel
theorem dX6_copy_138 : decode cX6_copy 138 = .ok (.bipush 40, 2) := by decide +kernel
theorem dX6_copy_140 : decode cX6_copy 140 = .ok (.iload_n 1, 1) := by decide +kernel
theorem dX6_copy_141 : decode cX6_copy 141 = .ok (.imul, 1) := by decide +kernel
theorem dX6_copy_142 : decode cX6_copy 142 = .ok (.iload_n 2, 1) := by decide +kernel
theorem dX6_copy_143 : decode cX6_copy 143 = .ok (.iadd, 1) := by decide +kernel
theorem dX6_copy_144 : decode cX6_copy 144 = .ok (.iload 6, 2) := by decide +kernel
theorem dX6_copy_146 : decode cX6_copy 146 = .ok (.iadd, 1) := by decide +kernel
theorem dX6_copy_147 : decode cX6_copy 147 = .ok (.iaload, 1) := by decide +kernel
theorem dX6_copy_148 : decode cX6_copy 148 = .ok (.iastore, 1) := by decide +kernel
theorem dX6_copy_149 : decode cX6_copy 149 = .ok (.iinc 6 1, 3) := by decide +kernel
theorem dX6_copy_152 : decode cX6_copy 152 = .ok (.goto (-31), 3) := by decide +kernel
theorem dX6_copy_155 : decode cX6_copy 155 = .ok (.iconst 0, 1) := by decide +kernel
theorem dX6_copy_156 : decode cX6_copy 156 = .ok (.istore 6, 2) := by decide +kernel
theorem dX6_copy_158 : decode cX6_copy 158 = .ok (.iload 6, 2) := by decide +kernel
theorem dX6_copy_160 : decode cX6_copy 160 = .ok (.iload 5, 2) := by decide +kernel
theorem dX6_copy_162 : decode cX6_copy 162 = .ok (.if_icmp .ge 31, 3) := by decide +kernel
theorem dX6_copy_165 : decode cX6_copy 165 = .ok (.aload_n 0, 1) := by decide +kernel
theorem dX6_copy_166 : decode cX6_copy 166 = .ok (.getfield 40, 3) := by decide +kernel
theorem dX6_copy_169 : decode cX6_copy 169 = .ok (.bipush 40, 2) := by decide +kernel
theorem dX6_copy_171 : decode cX6_copy 171 = .ok (.iload_n 3, 1) := by decide +kernel
theorem dX6_copy_172 : decode cX6_copy 172 = .ok (.imul, 1) := by decide +kernel
theorem dX6_copy_173 : decode cX6_copy 173 = .ok (.iload 4, 2) := by decide +kernel
theorem dX6_copy_175 : decode cX6_copy 175 = .ok (.iadd, 1) := by decide +kernel
theorem dX6_copy_176 : decode cX6_copy 176 = .ok (.iload 6, 2) := by decide +kernel
theorem dX6_copy_178 : decode cX6_copy 178 = .ok (.iadd, 1) := by decide +kernel
theorem dX6_copy_179 : decode cX6_copy 179 = .ok (.aload_n 0, 1) := by decide +kernel
theorem dX6_copy_180 : decode cX6_copy 180 = .ok (.getfield 43, 3) := by decide +kernel
theorem dX6_copy_183 : decode cX6_copy 183 = .ok (.iload 6, 2) := by decide +kernel
theorem dX6_copy_185 : decode cX6_copy 185 = .ok (.iaload, 1) := by decide +kernel
theorem dX6_copy_186 : decode cX6_copy 186 = .ok (.iastore, 1) := by decide +kernel
theorem dX6_copy_187 : decode cX6_copy 187 = .ok (.iinc 6 1, 3) := by decide +kernel
theorem dX6_copy_190 : decode cX6_copy 190 = .ok (.goto (-32), 3) := by decide +kernel
theorem dX6_copy_193 : decode cX6_copy 193 = .ok (.iload 5, 2) := by decide +kernel
theorem dX6_copy_195 : decode cX6_copy 195 = .ok (.ireturn, 1) := by decide +kernel
theorem dX6_load_0 : decode cX6_load 0 = .ok (.aload_n 0, 1) := by decide +kernel
theorem dX6_load_1 : decode cX6_load 1 = .ok (.iload_n 1, 1) := by decide +kernel
theorem dX6_load_2 : decode cX6_load 2 = .ok (.invokevirtual 208, 3) := by decide +kernel
theorem dX6_load_5 : decode cX6_load 5 = .ok (.istore_n 2, 1) := by decide +kernel
theorem dX6_load_6 : decode cX6_load 6 = .ok (.iload_n 2, 1) := by decide +kernel
theorem dX6_load_7 : decode cX6_load 7 = .ok (.ifCond .eq 9, 3) := by decide +kernel
theorem dX6_load_10 : decode cX6_load 10 = .ok (.aload_n 0, 1) := by decide +kernel
theorem dX6_load_11 : decode cX6_load 11 = .ok (.iload_n 2, 1) := by decide +kernel
theorem dX6_load_12 : decode cX6_load 12 = .ok (.invokevirtual 75, 3) := by decide +kernel
theorem dX6_load_15 : decode cX6_load 15 = .ok (.ireturn, 1) := by decide +kernel
theorem dX6_load_16 : decode cX6_load 16 = .ok (.iconst 0, 1) := by decide +kernel
theorem dX6_load_17 : decode cX6_load 17 = .ok (.istore_n 3, 1) := by decide +kernel
theorem dX6_load_18 : decode cX6_load 18 = .ok (.iload_n 3, 1) := by decide +kernel
theorem dX6_load_19 : decode cX6_load 19 = .ok (.aload_n 0, 1) := by decide +kernel
theorem dX6_load_20 : decode cX6_load 20 = .ok (.getfield 37, 3) := by decide +kernel
theorem dX6_load_23 : decode cX6_load 23 = .ok (.iload_n 1, 1) := by decide +kernel
theorem dX6_load_24 : decode cX6_load 24 = .ok (.iaload, 1) := by decide +kernel
theorem dX6_load_25 : decode cX6_load 25 = .ok (.if_icmp .ge 51, 3) := by decide +kernel
theorem dX6_load_28 : decode cX6_load 28 = .ok (.iload_n 3, 1) := by decide +kernel
theorem dX6_load_29 : decode cX6_load 29 = .ok (.bipush 8, 2) := by decide +kernel
theorem dX6_load_31 : decode cX6_load 31 = .ok (.if_icmp .ge 45, 3) := by decide +kernel
theorem dX6_load_34 : decode cX6_load 34 = .ok (.aload_n 0, 1) := by decide +kernel
theorem dX6_load_35 : decode cX6_load 35 = .ok (.getfield 40, 3) := by decide +kernel
theorem dX6_load_38 : decode cX6_load 38 = .ok (.bipush 40, 2) := by decide +kernel
theorem dX6_load_40 : decode cX6_load 40 = .ok (.iload_n 1, 1) := by decide +kernel
theorem dX6_load_41 : decode cX6_load 41 = .ok (.imul, 1) := by decide +kernel
theorem dX6_load_42 : decode cX6_load 42 = .ok (.iload_n 3, 1) := by decide +kernel
theorem dX6_load_43 : decode cX6_load 43 = .ok (.iadd, 1) := by decide +kernel
theorem dX6_load_44 : decode cX6_load 44 = .ok (.iaload, 1) := by decide +kernel
theorem dX6_load_45 : decode cX6_load 45 = .ok (.invokestatic 82, 3) := by decide +kernel
theorem dX6_load_48 : decode cX6_load 48 = .ok (.ifCond .eq 28, 3) := by decide +kernel
theorem dX6_load_51 : decode cX6_load 51 = .ok (.aload_n 0, 1) := by decide +kernel
theorem dX6_load_52 : decode cX6_load 52 = .ok (.getfield 7, 3) := by decide +kernel
theorem dX6_load_55 : decode cX6_load 55 = .ok (.iconst 4, 1) := by decide +kernel
theorem dX6_load_56 : decode cX6_load 56 = .ok (.iload_n 3, 1) := by decide +kernel
theorem dX6_load_57 : decode cX6_load 57 = .ok (.iadd, 1) := by decide +kernel
theorem dX6_load_58 : decode cX6_load 58 = .ok (.aload_n 0, 1) := by decide +kernel
theorem dX6_load_59 : decode cX6_load 59 = .ok (.getfield 40, 3) := by decide +kernel
theorem dX6_load_62 : decode cX6_load 62 = .ok (.bipush 40, 2) := by decide +kernel
theorem dX6_load_64 : decode cX6_load 64 = .ok (.iload_n 1, 1) := by decide +kernel
theorem dX6_load_65 : decode cX6_load 65 = .ok (.imul, 1) := by decide +kernel
theorem dX6_load_66 : decode cX6_load 66 = .ok (.iload_n 3, 1) := by decide +kernel
theorem dX6_load_67 : decode cX6_load 67 = .ok (.iadd, 1) := by decide +kernel
theorem dX6_load_68 : decode cX6_load 68 = .ok (.iaload, 1) := by decide +kernel
theorem dX6_load_69 : decode cX6_load 69 = .ok (.iastore, 1) := by decide +kernel
theorem dX6_load_70 : decode cX6_load 70 = .ok (.iinc 3 1, 3) := by decide +kernel
theorem dX6_load_73 : decode cX6_load 73 = .ok (.goto (-55), 3) := by decide +kernel
theorem dX6_load_76 : decode cX6_load 76 = .ok (.iload_n 3, 1) := by decide +kernel
theorem dX6_load_77 : decode cX6_load 77 = .ok (.ireturn, 1) := by decide +kernel
theorem dX6_judge_0 : decode cX6_judge 0 = .ok (.aload_n 0, 1) := by decide +kernel
theorem dX6_judge_1 : decode cX6_judge 1 = .ok (.iload_n 1, 1) := by decide +kernel
theorem dX6_judge_2 : decode cX6_judge 2 = .ok (.invokevirtual 208, 3) := by decide +kernel
theorem dX6_judge_5 : decode cX6_judge 5 = .ok (.istore_n 2, 1) := by decide +kernel
theorem dX6_judge_6 : decode cX6_judge 6 = .ok (.iload_n 2, 1) := by decide +kernel
theorem dX6_judge_7 : decode cX6_judge 7 = .ok (.ifCond .eq 9, 3) := by decide +kernel
theorem dX6_judge_10 : decode cX6_judge 10 = .ok (.aload_n 0, 1) := by decide +kernel
theorem dX6_judge_11 : decode cX6_judge 11 = .ok (.iload_n 2, 1) := by decide +kernel
theorem dX6_judge_12 : decode cX6_judge 12 = .ok (.invokevirtual 75, 3) := by decide +kernel
theorem dX6_judge_15 : decode cX6_judge 15 = .ok (.ireturn, 1) := by decide +kernel
theorem dX6_judge_16 : decode cX6_judge 16 = .ok (.iconst 0, 1) := by decide +kernel
theorem dX6_judge_17 : decode cX6_judge 17 = .ok (.istore_n 3, 1) := by decide +kernel
theorem dX6_judge_18 : decode cX6_judge 18 = .ok (.iload_n 3, 1) := by decide +kernel
theorem dX6_judge_19 : decode cX6_judge 19 = .ok (.aload_n 0, 1) := by decide +kernel
theorem dX6_judge_20 : decode cX6_judge 20 = .ok (.getfield 37, 3) := by decide +kernel
theorem dX6_judge_23 : decode cX6_judge 23 = .ok (.iload_n 1, 1) := by decide +kernel
theorem dX6_judge_24 : decode cX6_judge 24 = .ok (.iaload, 1) := by decide +kernel
theorem dX6_judge_25 : decode cX6_judge 25 = .ok (.if_icmp .ge 42, 3) := by decide +kernel
theorem dX6_judge_28 : decode cX6_judge 28 = .ok (.iload_n 3, 1) := by decide +kernel
theorem dX6_judge_29 : decode cX6_judge 29 = .ok (.bipush 12, 2) := by decide +kernel
theorem dX6_judge_31 : decode cX6_judge 31 = .ok (.if_icmp .ge 26, 3) := by decide +kernel
theorem dX6_judge_34 : decode cX6_judge 34 = .ok (.aload_n 0, 1) := by decide +kernel
theorem dX6_judge_35 : decode cX6_judge 35 = .ok (.getfield 40, 3) := by decide +kernel
theorem dX6_judge_38 : decode cX6_judge 38 = .ok (.bipush 40, 2) := by decide +kernel
theorem dX6_judge_40 : decode cX6_judge 40 = .ok (.iload_n 1, 1) := by decide +kernel
theorem dX6_judge_41 : decode cX6_judge 41 = .ok (.imul, 1) := by decide +kernel
theorem dX6_judge_42 : decode cX6_judge 42 = .ok (.iload_n 3, 1) := by decide +kernel
theorem dX6_judge_43 : decode cX6_judge 43 = .ok (.iadd, 1) := by decide +kernel
theorem dX6_judge_44 : decode cX6_judge 44 = .ok (.iaload, 1) := by decide +kernel
theorem dX6_judge_45 : decode cX6_judge 45 = .ok (.aload_n 0, 1) := by decide +kernel
theorem dX6_judge_46 : decode cX6_judge 46 = .ok (.getfield 7, 3) := by decide +kernel
theorem dX6_judge_49 : decode cX6_judge 49 = .ok (.bipush 12, 2) := by decide +kernel
theorem dX6_judge_51 : decode cX6_judge 51 = .ok (.iload_n 3, 1) := by decide +kernel
theorem dX6_judge_52 : decode cX6_judge 52 = .ok (.iadd, 1) := by decide +kernel
theorem dX6_judge_53 : decode cX6_judge 53 = .ok (.iaload, 1) := by decide +kernel
theorem dX6_judge_54 : decode cX6_judge 54 = .ok (.if_icmp .eq 7, 3) := by decide +kernel
theorem dX6_judge_57 : decode cX6_judge 57 = .ok (.iconst 1, 1) := by decide +kernel
theorem dX6_judge_58 : decode cX6_judge 58 = .ok (.iload_n 3, 1) := by decide +kernel
theorem dX6_judge_59 : decode cX6_judge 59 = .ok (.iadd, 1) := by decide +kernel
theorem dX6_judge_60 : decode cX6_judge 60 = .ok (.ireturn, 1) := by decide +kernel
theorem dX6_judge_61 : decode cX6_judge 61 = .ok (.iinc 3 1, 3) := by decide +kernel
theorem dX6_judge_64 : decode cX6_judge 64 = .ok (.goto (-46), 3) := by decide +kernel
theorem dX6_judge_67 : decode cX6_judge 67 = .ok (.iconst 0, 1) := by decide +kernel
theorem dX6_judge_68 : decode cX6_judge 68 = .ok (.ireturn, 1) := by decide +kernel
theorem dX6_image_0 : decode cX6_image 0 = .ok (.iconst 0, 1) := by decide +kernel
theorem dX6_image_1 : decode cX6_image 1 = .ok (.istore_n 1, 1) := by decide +kernel
theorem dX6_image_2 : decode cX6_image 2 = .ok (.iload_n 1, 1) := by decide +kernel
theorem dX6_image_3 : decode cX6_image 3 = .ok (.bipush 74, 2) := by decide +kernel
theorem dX6_image_5 : decode cX6_image 5 = .ok (.if_icmp .ge 21, 3) := by decide +kernel
theorem dX6_image_8 : decode cX6_image 8 = .ok (.aload_n 0, 1) := by decide +kernel
theorem dX6_image_9 : decode cX6_image 9 = .ok (.getfield 13, 3) := by decide +kernel
theorem dX6_image_12 : decode cX6_image 12 = .ok (.iload_n 1, 1) := by decide +kernel
theorem dX6_image_13 : decode cX6_image 13 = .ok (.aload_n 0, 1) := by decide +kernel
theorem dX6_image_14 : decode cX6_image 14 = .ok (.getfield 7, 3) := by decide +kernel
theorem dX6_image_17 : decode cX6_image 17 = .ok (.iload_n 1, 1) := by decide +kernel
theorem dX6_image_18 : decode cX6_image 18 = .ok (.iaload, 1) := by decide +kernel
theorem dX6_image_19 : decode cX6_image 19 = .ok (.iastore, 1) := by decide +kernel
theorem dX6_image_20 : decode cX6_image 20 = .ok (.iinc 1 1, 3) := by decide +kernel
theorem dX6_image_23 : decode cX6_image 23 = .ok (.goto (-21), 3) := by decide +kernel
theorem dX6_image_26 : decode cX6_image 26 = .ok (.aload_n 0, 1) := by decide +kernel
theorem dX6_image_27 : decode cX6_image 27 = .ok (.iconst 1, 1) := by decide +kernel
theorem dX6_image_28 : decode cX6_image 28 = .ok (.putfield 338, 3) := by decide +kernel
theorem dX6_image_31 : decode cX6_image 31 = .ok (.iconst 1, 1) := by decide +kernel
theorem dX6_image_32 : decode cX6_image 32 = .ok (.ireturn, 1) := by decide +kernel
theorem dX6_undo_0 : decode cX6_undo 0 = .ok (.aload_n 0, 1) := by decide +kernel
theorem dX6_undo_1 : decode cX6_undo 1 = .ok (.getfield 338, 3) := by decide +kernel
theorem dX6_undo_4 : decode cX6_undo 4 = .ok (.ifCond .ne 10, 3) := by decide +kernel
theorem dX6_undo_7 : decode cX6_undo 7 = .ok (.aload_n 0, 1) := by decide +kernel
theorem dX6_undo_8 : decode cX6_undo 8 = .ok (.ldc 169, 2) := by decide +kernel
theorem dX6_undo_10 : decode cX6_undo 10 = .ok (.invokevirtual 75, 3) := by decide +kernel
theorem dX6_undo_13 : decode cX6_undo 13 = .ok (.ireturn, 1) := by decide +kernel
theorem dX6_undo_14 : decode cX6_undo 14 = .ok (.iconst 0, 1) := by decide +kernel
theorem dX6_undo_15 : decode cX6_undo 15 = .ok (.istore_n 1, 1) := by decide +kernel
theorem dX6_undo_16 : decode cX6_undo 16 = .ok (.iload_n 1, 1) := by decide +kernel
theorem dX6_undo_17 : decode cX6_undo 17 = .ok (.bipush 74, 2) := by decide +kernel
theorem dX6_undo_19 : decode cX6_undo 19 = .ok (.if_icmp .ge 21, 3) := by decide +kernel
theorem dX6_undo_22 : decode cX6_undo 22 = .ok (.aload_n 0, 1) := by decide +kernel
theorem dX6_undo_23 : decode cX6_undo 23 = .ok (.getfield 7, 3) := by decide +kernel
theorem dX6_undo_26 : decode cX6_undo 26 = .ok (.iload_n 1, 1) := by decide +kernel
theorem dX6_undo_27 : decode cX6_undo 27 = .ok (.aload_n 0, 1) := by decide +kernel
theorem dX6_undo_28 : decode cX6_undo 28 = .ok (.getfield 13, 3) := by decide +kernel
theorem dX6_undo_31 : decode cX6_undo 31 = .ok (.iload_n 1, 1) := by decide +kernel
theorem dX6_undo_32 : decode cX6_undo 32 = .ok (.iaload, 1) := by decide +kernel
theorem dX6_undo_33 : decode cX6_undo 33 = .ok (.iastore, 1) := by decide +kernel
theorem dX6_undo_34 : decode cX6_undo 34 = .ok (.iinc 1 1, 3) := by decide +kernel
theorem dX6_undo_37 : decode cX6_undo 37 = .ok (.goto (-21), 3) := by decide +kernel
theorem dX6_undo_40 : decode cX6_undo 40 = .ok (.aload_n 0, 1) := by decide +kernel
theorem dX6_undo_41 : decode cX6_undo 41 = .ok (.getfield 7, 3) := by decide +kernel
theorem dX6_undo_44 : decode cX6_undo 44 = .ok (.iconst 0, 1) := by decide +kernel
theorem dX6_undo_45 : decode cX6_undo 45 = .ok (.iaload, 1) := by decide +kernel
theorem dX6_undo_46 : decode cX6_undo 46 = .ok (.ireturn, 1) := by decide +kernel
theorem dX6_tear_0 : decode cX6_tear 0 = .ok (.aload_n 0, 1) := by decide +kernel
theorem dX6_tear_1 : decode cX6_tear 1 = .ok (.getfield 338, 3) := by decide +kernel
theorem dX6_tear_4 : decode cX6_tear 4 = .ok (.ifCond .eq 7, 3) := by decide +kernel
theorem dX6_tear_7 : decode cX6_tear 7 = .ok (.iconst 1, 1) := by decide +kernel
theorem dX6_tear_8 : decode cX6_tear 8 = .ok (.goto 4, 3) := by decide +kernel
theorem dX6_tear_11 : decode cX6_tear 11 = .ok (.iconst 0, 1) := by decide +kernel
theorem dX6_tear_12 : decode cX6_tear 12 = .ok (.istore_n 1, 1) := by decide +kernel
theorem dX6_tear_13 : decode cX6_tear 13 = .ok (.aload_n 0, 1) := by decide +kernel
theorem dX6_tear_14 : decode cX6_tear 14 = .ok (.iconst 0, 1) := by decide +kernel
theorem dX6_tear_15 : decode cX6_tear 15 = .ok (.putfield 338, 3) := by decide +kernel
theorem dX6_tear_18 : decode cX6_tear 18 = .ok (.iload_n 1, 1) := by decide +kernel
theorem dX6_tear_19 : decode cX6_tear 19 = .ok (.ireturn, 1) := by decide +kernel
theorem dX6_heldSpots_0 : decode cX6_heldSpots 0 = .ok (.iconst 0, 1) := by decide +kernel
theorem dX6_heldSpots_1 : decode cX6_heldSpots 1 = .ok (.istore_n 1, 1) := by decide +kernel
theorem dX6_heldSpots_2 : decode cX6_heldSpots 2 = .ok (.iconst 0, 1) := by decide +kernel
theorem dX6_heldSpots_3 : decode cX6_heldSpots 3 = .ok (.istore_n 2, 1) := by decide +kernel
theorem dX6_heldSpots_4 : decode cX6_heldSpots 4 = .ok (.iload_n 2, 1) := by decide +kernel
theorem dX6_heldSpots_5 : decode cX6_heldSpots 5 = .ok (.bipush 10, 2) := by decide +kernel
theorem dX6_heldSpots_7 : decode cX6_heldSpots 7 = .ok (.if_icmp .ge 29, 3) := by decide +kernel
theorem dX6_heldSpots_10 : decode cX6_heldSpots 10 = .ok (.iload_n 1, 1) := by decide +kernel
theorem dX6_heldSpots_11 : decode cX6_heldSpots 11 = .ok (.aload_n 0, 1) := by decide +kernel
theorem dX6_heldSpots_12 : decode cX6_heldSpots 12 = .ok (.getfield 7, 3) := by decide +kernel
theorem dX6_heldSpots_15 : decode cX6_heldSpots 15 = .ok (.bipush 64, 2) := by decide +kernel
theorem dX6_heldSpots_17 : decode cX6_heldSpots 17 = .ok (.iload_n 2, 1) := by decide +kernel
theorem dX6_heldSpots_18 : decode cX6_heldSpots 18 = .ok (.iadd, 1) := by decide +kernel
theorem dX6_heldSpots_19 : decode cX6_heldSpots 19 = .ok (.iaload, 1) := by decide +kernel
theorem dX6_heldSpots_20 : decode cX6_heldSpots 20 = .ok (.ifCond .lt 7, 3) := by decide +kernel
theorem dX6_heldSpots_23 : decode cX6_heldSpots 23 = .ok (.iconst 1, 1) := by decide +kernel
theorem dX6_heldSpots_24 : decode cX6_heldSpots 24 = .ok (.goto 4, 3) := by decide +kernel
theorem dX6_heldSpots_27 : decode cX6_heldSpots 27 = .ok (.iconst 0, 1) := by decide +kernel
theorem dX6_heldSpots_28 : decode cX6_heldSpots 28 = .ok (.iadd, 1) := by decide +kernel
theorem dX6_heldSpots_29 : decode cX6_heldSpots 29 = .ok (.istore_n 1, 1) := by decide +kernel
theorem dX6_heldSpots_30 : decode cX6_heldSpots 30 = .ok (.iinc 2 1, 3) := by decide +kernel
theorem dX6_heldSpots_33 : decode cX6_heldSpots 33 = .ok (.goto (-29), 3) := by decide +kernel
theorem dX6_heldSpots_36 : decode cX6_heldSpots 36 = .ok (.iload_n 1, 1) := by decide +kernel
theorem dX6_heldSpots_37 : decode cX6_heldSpots 37 = .ok (.ireturn, 1) := by decide +kernel
theorem dX6_count_0 : decode cX6_count 0 = .ok (.iload_n 1, 1) := by decide +kernel
theorem dX6_count_1 : decode cX6_count 1 = .ok (.tableswitch 96 0 7 #[47, 54, 61, 69, 74, 79, 84, 91], 47) := by decide +kernel
theorem dX6_count_48 : decode cX6_count 48 = .ok (.aload_n 0, 1) := by decide +kernel
theorem dX6_count_49 : decode cX6_count 49 = .ok (.getfield 7, 3) := by decide +kernel
theorem dX6_count_52 : decode cX6_count 52 = .ok (.iconst 0, 1) := by decide +kernel
theorem dX6_count_53 : decode cX6_count 53 = .ok (.iaload, 1) := by decide +kernel
theorem dX6_count_54 : decode cX6_count 54 = .ok (.ireturn, 1) := by decide +kernel
theorem dX6_count_55 : decode cX6_count 55 = .ok (.aload_n 0, 1) := by decide +kernel
theorem dX6_count_56 : decode cX6_count 56 = .ok (.getfield 7, 3) := by decide +kernel
theorem dX6_count_59 : decode cX6_count 59 = .ok (.iconst 1, 1) := by decide +kernel
theorem dX6_count_60 : decode cX6_count 60 = .ok (.iaload, 1) := by decide +kernel
theorem dX6_count_61 : decode cX6_count 61 = .ok (.ireturn, 1) := by decide +kernel
theorem dX6_count_62 : decode cX6_count 62 = .ok (.aload_n 0, 1) := by decide +kernel
theorem dX6_count_63 : decode cX6_count 63 = .ok (.invokevirtual 144, 3) := by decide +kernel
theorem dX6_count_66 : decode cX6_count 66 = .ok (.invokestatic 190, 3) := by decide +kernel
theorem dX6_count_69 : decode cX6_count 69 = .ok (.ireturn, 1) := by decide +kernel
theorem dX6_count_70 : decode cX6_count 70 = .ok (.aload_n 0, 1) := by decide +kernel
theorem dX6_count_71 : decode cX6_count 71 = .ok (.invokevirtual 147, 3) := by decide +kernel
theorem dX6_count_74 : decode cX6_count 74 = .ok (.ireturn, 1) := by decide +kernel
theorem dX6_count_75 : decode cX6_count 75 = .ok (.aload_n 0, 1) := by decide +kernel
theorem dX6_count_76 : decode cX6_count 76 = .ok (.invokevirtual 153, 3) := by decide +kernel
theorem dX6_count_79 : decode cX6_count 79 = .ok (.ireturn, 1) := by decide +kernel
theorem dX6_count_80 : decode cX6_count 80 = .ok (.aload_n 0, 1) := by decide +kernel
theorem dX6_count_81 : decode cX6_count 81 = .ok (.getfield 222, 3) := by decide +kernel
theorem dX6_count_84 : decode cX6_count 84 = .ok (.ireturn, 1) := by decide +kernel
theorem dX6_count_85 : decode cX6_count 85 = .ok (.aload_n 0, 1) := by decide +kernel
theorem dX6_count_86 : decode cX6_count 86 = .ok (.getfield 7, 3) := by decide +kernel
theorem dX6_count_89 : decode cX6_count 89 = .ok (.iconst 3, 1) := by decide +kernel
theorem dX6_count_90 : decode cX6_count 90 = .ok (.iaload, 1) := by decide +kernel
theorem dX6_count_91 : decode cX6_count 91 = .ok (.ireturn, 1) := by decide +kernel
theorem dX6_count_92 : decode cX6_count 92 = .ok (.aload_n 0, 1) := by decide +kernel
theorem dX6_count_93 : decode cX6_count 93 = .ok (.invokevirtual 341, 3) := by decide +kernel
theorem dX6_count_96 : decode cX6_count 96 = .ok (.ireturn, 1) := by decide +kernel
theorem dX6_count_97 : decode cX6_count 97 = .ok (.aload_n 0, 1) := by decide +kernel
theorem dX6_count_98 : decode cX6_count 98 = .ok (.ldc 46, 2) := by decide +kernel
theorem dX6_count_100 : decode cX6_count 100 = .ok (.invokevirtual 75, 3) := by decide +kernel
theorem dX6_count_103 : decode cX6_count 103 = .ok (.ireturn, 1) := by decide +kernel
theorem dX6_status_0 : decode cX6_status 0 = .ok (.iload_n 1, 1) := by decide +kernel
theorem dX6_status_1 : decode cX6_status 1 = .ok (.i2l, 1) := by decide +kernel
theorem dX6_status_2 : decode cX6_status 2 = .ok (.ldc2_w 344, 3) := by decide +kernel
theorem dX6_status_5 : decode cX6_status 5 = .ok (.ldc2_w 57, 3) := by decide +kernel
theorem dX6_status_8 : decode cX6_status 8 = .ok (.invokestatic 49, 3) := by decide +kernel
theorem dX6_status_11 : decode cX6_status 11 = .ok (.ifCond .ne 10, 3) := by decide +kernel
theorem dX6_status_14 : decode cX6_status 14 = .ok (.aload_n 0, 1) := by decide +kernel
theorem dX6_status_15 : decode cX6_status 15 = .ok (.ldc 46, 2) := by decide +kernel
theorem dX6_status_17 : decode cX6_status 17 = .ok (.invokevirtual 75, 3) := by decide +kernel
theorem dX6_status_20 : decode cX6_status 20 = .ok (.ireturn, 1) := by decide +kernel
theorem dX6_status_21 : decode cX6_status 21 = .ok (.iconst 0, 1) := by decide +kernel
theorem dX6_status_22 : decode cX6_status 22 = .ok (.istore_n 2, 1) := by decide +kernel
theorem dX6_status_23 : decode cX6_status 23 = .ok (.iconst 0, 1) := by decide +kernel
theorem dX6_status_24 : decode cX6_status 24 = .ok (.istore_n 3, 1) := by decide +kernel
theorem dX6_status_25 : decode cX6_status 25 = .ok (.iload_n 3, 1) := by decide +kernel
theorem dX6_status_26 : decode cX6_status 26 = .ok (.bipush 7, 2) := by decide +kernel
