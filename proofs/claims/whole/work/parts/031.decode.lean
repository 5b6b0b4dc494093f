theorem dX5_ahead_21 : decode cX5_ahead 21 = .ok (.invokevirtual 55, 3) := by decide +kernel
theorem dX5_ahead_24 : decode cX5_ahead 24 = .ok (.ireturn, 1) := by decide +kernel
theorem dX5_ahead_25 : decode cX5_ahead 25 = .ok (.aload_n 0, 1) := by decide +kernel
theorem dX5_ahead_26 : decode cX5_ahead 26 = .ok (.invokevirtual 152, 3) := by decide +kernel
theorem dX5_ahead_29 : decode cX5_ahead 29 = .ok (.astore_n 3, 1) := by decide +kernel
theorem dX5_ahead_30 : decode cX5_ahead 30 = .ok (.aload_n 3, 1) := by decide +kernel
theorem dX5_ahead_31 : decode cX5_ahead 31 = .ok (.iload_n 2, 1) := by decide +kernel
theorem dX5_ahead_32 : decode cX5_ahead 32 = .ok (.invokevirtual 156, 3) := by decide +kernel
theorem dX5_ahead_35 : decode cX5_ahead 35 = .ok (.aload_n 3, 1) := by decide +kernel
theorem dX5_ahead_36 : decode cX5_ahead 36 = .ok (.getfield 63, 3) := by decide +kernel
theorem dX5_ahead_39 : decode cX5_ahead 39 = .ok (.iload_n 1, 1) := by decide +kernel
theorem dX5_ahead_40 : decode cX5_ahead 40 = .ok (.iaload, 1) := by decide +kernel
theorem dX5_ahead_41 : decode cX5_ahead 41 = .ok (.ireturn, 1) := by decide +kernel
theorem dX5_belief_0 : decode cX5_belief 0 = .ok (.aload_n 0, 1) := by decide +kernel
theorem dX5_belief_1 : decode cX5_belief 1 = .ok (.iload_n 1, 1) := by decide +kernel
theorem dX5_belief_2 : decode cX5_belief 2 = .ok (.invokevirtual 88, 3) := by decide +kernel
theorem dX5_belief_5 : decode cX5_belief 5 = .ok (.ifCond .ne 22, 3) := by decide +kernel
theorem dX5_belief_8 : decode cX5_belief 8 = .ok (.iload_n 2, 1) := by decide +kernel
theorem dX5_belief_9 : decode cX5_belief 9 = .ok (.iconst 3, 1) := by decide +kernel
theorem dX5_belief_10 : decode cX5_belief 10 = .ok (.if_icmp .eq 8, 3) := by decide +kernel
theorem dX5_belief_13 : decode cX5_belief 13 = .ok (.iload_n 2, 1) := by decide +kernel
theorem dX5_belief_14 : decode cX5_belief 14 = .ok (.iconst 4, 1) := by decide +kernel
theorem dX5_belief_15 : decode cX5_belief 15 = .ok (.if_icmp .ne 12, 3) := by decide +kernel
theorem dX5_belief_18 : decode cX5_belief 18 = .ok (.iload_n 3, 1) := by decide +kernel
theorem dX5_belief_19 : decode cX5_belief 19 = .ok (.bipush 100, 2) := by decide +kernel
theorem dX5_belief_21 : decode cX5_belief 21 = .ok (.invokestatic 50, 3) := by decide +kernel
theorem dX5_belief_24 : decode cX5_belief 24 = .ok (.ifCond .eq 10, 3) := by decide +kernel
theorem dX5_belief_27 : decode cX5_belief 27 = .ok (.aload_n 0, 1) := by decide +kernel
theorem dX5_belief_28 : decode cX5_belief 28 = .ok (.ldc 54, 2) := by decide +kernel
theorem dX5_belief_30 : decode cX5_belief 30 = .ok (.invokevirtual 55, 3) := by decide +kernel
theorem dX5_belief_33 : decode cX5_belief 33 = .ok (.ireturn, 1) := by decide +kernel
theorem dX5_belief_34 : decode cX5_belief 34 = .ok (.aload_n 0, 1) := by decide +kernel
theorem dX5_belief_35 : decode cX5_belief 35 = .ok (.getfield 19, 3) := by decide +kernel
theorem dX5_belief_38 : decode cX5_belief 38 = .ok (.aload_n 0, 1) := by decide +kernel
theorem dX5_belief_39 : decode cX5_belief 39 = .ok (.getfield 12, 3) := by decide +kernel
theorem dX5_belief_42 : decode cX5_belief 42 = .ok (.invokevirtual 159, 3) := by decide +kernel
theorem dX5_belief_45 : decode cX5_belief 45 = .ok (.aload_n 0, 1) := by decide +kernel
theorem dX5_belief_46 : decode cX5_belief 46 = .ok (.getfield 19, 3) := by decide +kernel
theorem dX5_belief_49 : decode cX5_belief 49 = .ok (.iload_n 3, 1) := by decide +kernel
theorem dX5_belief_50 : decode cX5_belief 50 = .ok (.invokevirtual 134, 3) := by decide +kernel
theorem dX5_belief_53 : decode cX5_belief 53 = .ok (.aload_n 0, 1) := by decide +kernel
theorem dX5_belief_54 : decode cX5_belief 54 = .ok (.getfield 19, 3) := by decide +kernel
theorem dX5_belief_57 : decode cX5_belief 57 = .ok (.getfield 92, 3) := by decide +kernel
theorem dX5_belief_60 : decode cX5_belief 60 = .ok (.iload_n 1, 1) := by decide +kernel
theorem dX5_belief_61 : decode cX5_belief 61 = .ok (.aaload, 1) := by decide +kernel
theorem dX5_belief_62 : decode cX5_belief 62 = .ok (.astore 4, 2) := by decide +kernel
theorem dX5_belief_64 : decode cX5_belief 64 = .ok (.iload_n 2, 1) := by decide +kernel
theorem dX5_belief_65 : decode cX5_belief 65 = .ok (.iconst 3, 1) := by decide +kernel
theorem dX5_belief_66 : decode cX5_belief 66 = .ok (.if_icmp .ne 11, 3) := by decide +kernel
theorem dX5_belief_69 : decode cX5_belief 69 = .ok (.aload 4, 2) := by decide +kernel
theorem dX5_belief_71 : decode cX5_belief 71 = .ok (.getfield 108, 3) := by decide +kernel
theorem dX5_belief_74 : decode cX5_belief 74 = .ok (.goto 8, 3) := by decide +kernel
theorem dX5_belief_77 : decode cX5_belief 77 = .ok (.aload 4, 2) := by decide +kernel
theorem dX5_belief_79 : decode cX5_belief 79 = .ok (.getfield 111, 3) := by decide +kernel
theorem dX5_belief_82 : decode cX5_belief 82 = .ok (.ireturn, 1) := by decide +kernel
theorem dX5_when_0 : decode cX5_when 0 = .ok (.aload_n 0, 1) := by decide +kernel
theorem dX5_when_1 : decode cX5_when 1 = .ok (.iload_n 1, 1) := by decide +kernel
theorem dX5_when_2 : decode cX5_when 2 = .ok (.invokevirtual 88, 3) := by decide +kernel
theorem dX5_when_5 : decode cX5_when 5 = .ok (.ifCond .eq 10, 3) := by decide +kernel
theorem dX5_when_8 : decode cX5_when 8 = .ok (.aload_n 0, 1) := by decide +kernel
theorem dX5_when_9 : decode cX5_when 9 = .ok (.ldc 54, 2) := by decide +kernel
theorem dX5_when_11 : decode cX5_when 11 = .ok (.invokevirtual 55, 3) := by decide +kernel
theorem dX5_when_14 : decode cX5_when 14 = .ok (.ireturn, 1) := by decide +kernel
theorem dX5_when_15 : decode cX5_when 15 = .ok (.aload_n 0, 1) := by decide +kernel
theorem dX5_when_16 : decode cX5_when 16 = .ok (.getfield 19, 3) := by decide +kernel
theorem dX5_when_19 : decode cX5_when 19 = .ok (.aload_n 0, 1) := by decide +kernel
theorem dX5_when_20 : decode cX5_when 20 = .ok (.getfield 12, 3) := by decide +kernel
theorem dX5_when_23 : decode cX5_when 23 = .ok (.invokevirtual 159, 3) := by decide +kernel
theorem dX5_when_26 : decode cX5_when 26 = .ok (.iconst 0, 1) := by decide +kernel
theorem dX5_when_27 : decode cX5_when 27 = .ok (.istore_n 2, 1) := by decide +kernel
theorem dX5_when_28 : decode cX5_when 28 = .ok (.iload_n 2, 1) := by decide +kernel
theorem dX5_when_29 : decode cX5_when 29 = .ok (.sipush 200, 3) := by decide +kernel
theorem dX5_when_32 : decode cX5_when 32 = .ok (.if_icmp .gt 34, 3) := by decide +kernel
theorem dX5_when_35 : decode cX5_when 35 = .ok (.aload_n 0, 1) := by decide +kernel
theorem dX5_when_36 : decode cX5_when 36 = .ok (.getfield 19, 3) := by decide +kernel
theorem dX5_when_39 : decode cX5_when 39 = .ok (.getfield 92, 3) := by decide +kernel
theorem dX5_when_42 : decode cX5_when 42 = .ok (.iload_n 1, 1) := by decide +kernel
theorem dX5_when_43 : decode cX5_when 43 = .ok (.aaload, 1) := by decide +kernel
theorem dX5_when_44 : decode cX5_when 44 = .ok (.invokevirtual 163, 3) := by decide +kernel
theorem dX5_when_47 : decode cX5_when 47 = .ok (.ifCond .eq 5, 3) := by decide +kernel
theorem dX5_when_50 : decode cX5_when 50 = .ok (.iload_n 2, 1) := by decide +kernel
theorem dX5_when_51 : decode cX5_when 51 = .ok (.ireturn, 1) := by decide +kernel
theorem dX5_when_52 : decode cX5_when 52 = .ok (.aload_n 0, 1) := by decide +kernel
theorem dX5_when_53 : decode cX5_when 53 = .ok (.getfield 19, 3) := by decide +kernel
theorem dX5_when_56 : decode cX5_when 56 = .ok (.iconst 1, 1) := by decide +kernel
theorem dX5_when_57 : decode cX5_when 57 = .ok (.invokevirtual 134, 3) := by decide +kernel
theorem dX5_when_60 : decode cX5_when 60 = .ok (.iinc 2 1, 3) := by decide +kernel
theorem dX5_when_63 : decode cX5_when 63 = .ok (.goto (-35), 3) := by decide +kernel
theorem dX5_when_66 : decode cX5_when 66 = .ok (.aload_n 0, 1) := by decide +kernel
theorem dX5_when_67 : decode cX5_when 67 = .ok (.ldc 166, 2) := by decide +kernel
theorem dX5_when_69 : decode cX5_when 69 = .ok (.invokevirtual 55, 3) := by decide +kernel
theorem dX5_when_72 : decode cX5_when 72 = .ok (.ireturn, 1) := by decide +kernel
theorem dX5_first_0 : decode cX5_first 0 = .ok (.aload_n 0, 1) := by decide +kernel
theorem dX5_first_1 : decode cX5_first 1 = .ok (.getfield 19, 3) := by decide +kernel
theorem dX5_first_4 : decode cX5_first 4 = .ok (.aload_n 0, 1) := by decide +kernel
theorem dX5_first_5 : decode cX5_first 5 = .ok (.getfield 12, 3) := by decide +kernel
theorem dX5_first_8 : decode cX5_first 8 = .ok (.invokevirtual 159, 3) := by decide +kernel
theorem dX5_first_11 : decode cX5_first 11 = .ok (.iconst 0, 1) := by decide +kernel
theorem dX5_first_12 : decode cX5_first 12 = .ok (.istore_n 1, 1) := by decide +kernel
theorem dX5_first_13 : decode cX5_first 13 = .ok (.iload_n 1, 1) := by decide +kernel
theorem dX5_first_14 : decode cX5_first 14 = .ok (.sipush 200, 3) := by decide +kernel
theorem dX5_first_17 : decode cX5_first 17 = .ok (.if_icmp .gt 34, 3) := by decide +kernel
theorem dX5_first_20 : decode cX5_first 20 = .ok (.aload_n 0, 1) := by decide +kernel
theorem dX5_first_21 : decode cX5_first 21 = .ok (.getfield 19, 3) := by decide +kernel
theorem dX5_first_24 : decode cX5_first 24 = .ok (.invokevirtual 137, 3) := by decide +kernel
theorem dX5_first_27 : decode cX5_first 27 = .ok (.istore_n 2, 1) := by decide +kernel
theorem dX5_first_28 : decode cX5_first 28 = .ok (.iload_n 2, 1) := by decide +kernel
theorem dX5_first_29 : decode cX5_first 29 = .ok (.ifCond .eq 8, 3) := by decide +kernel
theorem dX5_first_32 : decode cX5_first 32 = .ok (.iload_n 2, 1) := by decide +kernel
theorem dX5_first_33 : decode cX5_first 33 = .ok (.invokestatic 167, 3) := by decide +kernel
theorem dX5_first_36 : decode cX5_first 36 = .ok (.ireturn, 1) := by decide +kernel
theorem dX5_first_37 : decode cX5_first 37 = .ok (.aload_n 0, 1) := by decide +kernel
theorem dX5_first_38 : decode cX5_first 38 = .ok (.getfield 19, 3) := by decide +kernel
theorem dX5_first_41 : decode cX5_first 41 = .ok (.iconst 1, 1) := by decide +kernel
theorem dX5_first_42 : decode cX5_first 42 = .ok (.invokevirtual 134, 3) := by decide +kernel
theorem dX5_first_45 : decode cX5_first 45 = .ok (.iinc 1 1, 3) := by decide +kernel
theorem dX5_first_48 : decode cX5_first 48 = .ok (.goto (-35), 3) := by decide +kernel
theorem dX5_first_51 : decode cX5_first 51 = .ok (.aload_n 0, 1) := by decide +kernel
theorem dX5_first_52 : decode cX5_first 52 = .ok (.ldc 166, 2) := by decide +kernel
theorem dX5_first_54 : decode cX5_first 54 = .ok (.invokevirtual 55, 3) := by decide +kernel
theorem dX5_first_57 : decode cX5_first 57 = .ok (.ireturn, 1) := by decide +kernel
theorem dX5_reaches_0 : decode cX5_reaches 0 = .ok (.iload_n 1, 1) := by decide +kernel
theorem dX5_reaches_1 : decode cX5_reaches 1 = .ok (.bipush 11, 2) := by decide +kernel
theorem dX5_reaches_3 : decode cX5_reaches 3 = .ok (.invokestatic 50, 3) := by decide +kernel
theorem dX5_reaches_6 : decode cX5_reaches 6 = .ok (.ifCond .ne 13, 3) := by decide +kernel
theorem dX5_reaches_9 : decode cX5_reaches 9 = .ok (.iload_n 2, 1) := by decide +kernel
theorem dX5_reaches_10 : decode cX5_reaches 10 = .ok (.sipush 9999, 3) := by decide +kernel
theorem dX5_reaches_13 : decode cX5_reaches 13 = .ok (.invokestatic 50, 3) := by decide +kernel
theorem dX5_reaches_16 : decode cX5_reaches 16 = .ok (.ifCond .eq 10, 3) := by decide +kernel
theorem dX5_reaches_19 : decode cX5_reaches 19 = .ok (.aload_n 0, 1) := by decide +kernel
theorem dX5_reaches_20 : decode cX5_reaches 20 = .ok (.ldc 54, 2) := by decide +kernel
theorem dX5_reaches_22 : decode cX5_reaches 22 = .ok (.invokevirtual 55, 3) := by decide +kernel
theorem dX5_reaches_25 : decode cX5_reaches 25 = .ok (.ireturn, 1) := by decide +kernel
theorem dX5_reaches_26 : decode cX5_reaches 26 = .ok (.aload_n 0, 1) := by decide +kernel
theorem dX5_reaches_27 : decode cX5_reaches 27 = .ok (.invokevirtual 152, 3) := by decide +kernel
theorem dX5_reaches_30 : decode cX5_reaches 30 = .ok (.astore_n 3, 1) := by decide +kernel
theorem dX5_reaches_31 : decode cX5_reaches 31 = .ok (.iconst 0, 1) := by decide +kernel
theorem dX5_reaches_32 : decode cX5_reaches 32 = .ok (.istore 4, 2) := by decide +kernel
theorem dX5_reaches_34 : decode cX5_reaches 34 = .ok (.iload 4, 2) := by decide +kernel
theorem dX5_reaches_36 : decode cX5_reaches 36 = .ok (.sipush 200, 3) := by decide +kernel
theorem dX5_reaches_39 : decode cX5_reaches 39 = .ok (.if_icmp .gt 27, 3) := by decide +kernel
theorem dX5_reaches_42 : decode cX5_reaches 42 = .ok (.aload_n 3, 1) := by decide +kernel
theorem dX5_reaches_43 : decode cX5_reaches 43 = .ok (.getfield 63, 3) := by decide +kernel
theorem dX5_reaches_46 : decode cX5_reaches 46 = .ok (.iload_n 1, 1) := by decide +kernel
theorem dX5_reaches_47 : decode cX5_reaches 47 = .ok (.iaload, 1) := by decide +kernel
theorem dX5_reaches_48 : decode cX5_reaches 48 = .ok (.iload_n 2, 1) := by decide +kernel
theorem dX5_reaches_49 : decode cX5_reaches 49 = .ok (.if_icmp .lt 6, 3) := by decide +kernel
theorem dX5_reaches_52 : decode cX5_reaches 52 = .ok (.iload 4, 2) := by decide +kernel
theorem dX5_reaches_54 : decode cX5_reaches 54 = .ok (.ireturn, 1) := by decide +kernel
theorem dX5_reaches_55 : decode cX5_reaches 55 = .ok (.aload_n 3, 1) := by decide +kernel
theorem dX5_reaches_56 : decode cX5_reaches 56 = .ok (.iconst 1, 1) := by decide +kernel
theorem dX5_reaches_57 : decode cX5_reaches 57 = .ok (.invokevirtual 156, 3) := by decide +kernel
theorem dX5_reaches_60 : decode cX5_reaches 60 = .ok (.iinc 4 1, 3) := by decide +kernel
theorem dX5_reaches_63 : decode cX5_reaches 63 = .ok (.goto (-29), 3) := by decide +kernel
theorem dX5_reaches_66 : decode cX5_reaches 66 = .ok (.aload_n 0, 1) := by decide +kernel
theorem dX5_reaches_67 : decode cX5_reaches 67 = .ok (.ldc 166, 2) := by decide +kernel
theorem dX5_reaches_69 : decode cX5_reaches 69 = .ok (.invokevirtual 55, 3) := by decide +kernel
theorem dX5_reaches_72 : decode cX5_reaches 72 = .ok (.ireturn, 1) := by decide +kernel
theorem dX5_range_0 : decode cX5_range 0 = .ok (.iload_n 1, 1) := by decide +kernel
theorem dX5_range_1 : decode cX5_range 1 = .ok (.bipush 11, 2) := by decide +kernel
theorem dX5_range_3 : decode cX5_range 3 = .ok (.invokestatic 50, 3) := by decide +kernel
theorem dX5_range_6 : decode cX5_range 6 = .ok (.ifCond .ne 20, 3) := by decide +kernel
theorem dX5_range_9 : decode cX5_range 9 = .ok (.iload_n 2, 1) := by decide +kernel
theorem dX5_range_10 : decode cX5_range 10 = .ok (.bipush 100, 2) := by decide +kernel
theorem dX5_range_12 : decode cX5_range 12 = .ok (.invokestatic 50, 3) := by decide +kernel
theorem dX5_range_15 : decode cX5_range 15 = .ok (.ifCond .ne 11, 3) := by decide +kernel
theorem dX5_range_18 : decode cX5_range 18 = .ok (.iload_n 3, 1) := by decide +kernel
theorem dX5_range_19 : decode cX5_range 19 = .ok (.iconst 1, 1) := by decide +kernel
theorem dX5_range_20 : decode cX5_range 20 = .ok (.invokestatic 50, 3) := by decide +kernel
theorem dX5_range_23 : decode cX5_range 23 = .ok (.ifCond .eq 10, 3) := by decide +kernel
theorem dX5_range_26 : decode cX5_range 26 = .ok (.aload_n 0, 1) := by decide +kernel
theorem dX5_range_27 : decode cX5_range 27 = .ok (.ldc 54, 2) := by decide +kernel
theorem dX5_range_29 : decode cX5_range 29 = .ok (.invokevirtual 55, 3) := by decide +kernel
theorem dX5_range_32 : decode cX5_range 32 = .ok (.ireturn, 1) := by decide +kernel
theorem dX5_range_33 : decode cX5_range 33 = .ok (.aload_n 0, 1) := by decide +kernel
theorem dX5_range_34 : decode cX5_range 34 = .ok (.invokevirtual 152, 3) := by decide +kernel
theorem dX5_range_37 : decode cX5_range 37 = .ok (.astore 4, 2) := by decide +kernel
theorem dX5_range_39 : decode cX5_range 39 = .ok (.aload 4, 2) := by decide +kernel
theorem dX5_range_41 : decode cX5_range 41 = .ok (.getfield 63, 3) := by decide +kernel
theorem dX5_range_44 : decode cX5_range 44 = .ok (.iload_n 1, 1) := by decide +kernel
theorem dX5_range_45 : decode cX5_range 45 = .ok (.iaload, 1) := by decide +kernel
theorem dX5_range_46 : decode cX5_range 46 = .ok (.istore 5, 2) := by decide +kernel
theorem dX5_range_48 : decode cX5_range 48 = .ok (.iload 5, 2) := by decide +kernel
theorem dX5_range_50 : decode cX5_range 50 = .ok (.istore 6, 2) := by decide +kernel
theorem dX5_range_52 : decode cX5_range 52 = .ok (.iconst 1, 1) := by decide +kernel
theorem dX5_range_53 : decode cX5_range 53 = .ok (.istore 7, 2) := by decide +kernel
theorem dX5_range_55 : decode cX5_range 55 = .ok (.iload 7, 2) := by decide +kernel
theorem dX5_range_57 : decode cX5_range 57 = .ok (.iload_n 2, 1) := by decide +kernel
theorem dX5_range_58 : decode cX5_range 58 = .ok (.if_icmp .gt 43, 3) := by decide +kernel
theorem dX5_range_61 : decode cX5_range 61 = .ok (.aload 4, 2) := by decide +kernel
theorem dX5_range_63 : decode cX5_range 63 = .ok (.iconst 1, 1) := by decide +kernel
theorem dX5_range_64 : decode cX5_range 64 = .ok (.invokevirtual 156, 3) := by decide +kernel
theorem dX5_range_67 : decode cX5_range 67 = .ok (.iload 5, 2) := by decide +kernel
theorem dX5_range_69 : decode cX5_range 69 = .ok (.aload 4, 2) := by decide +kernel
theorem dX5_range_71 : decode cX5_range 71 = .ok (.getfield 63, 3) := by decide +kernel
theorem dX5_range_74 : decode cX5_range 74 = .ok (.iload_n 1, 1) := by decide +kernel
theorem dX5_range_75 : decode cX5_range 75 = .ok (.iaload, 1) := by decide +kernel
theorem dX5_range_76 : decode cX5_range 76 = .ok (.invokestatic 172, 3) := by decide +kernel
theorem dX5_range_79 : decode cX5_range 79 = .ok (.istore 5, 2) := by decide +kernel
theorem dX5_range_81 : decode cX5_range 81 = .ok (.iload 6, 2) := by decide +kernel
theorem dX5_range_83 : decode cX5_range 83 = .ok (.aload 4, 2) := by decide +kernel
theorem dX5_range_85 : decode cX5_range 85 = .ok (.getfield 63, 3) := by decide +kernel
theorem dX5_range_88 : decode cX5_range 88 = .ok (.iload_n 1, 1) := by decide +kernel
theorem dX5_range_89 : decode cX5_range 89 = .ok (.iaload, 1) := by decide +kernel
theorem dX5_range_90 : decode cX5_range 90 = .ok (.invokestatic 177, 3) := by decide +kernel
theorem dX5_range_93 : decode cX5_range 93 = .ok (.istore 6, 2) := by decide +kernel
theorem dX5_range_95 : decode cX5_range 95 = .ok (.iinc 7 1, 3) := by decide +kernel
theorem dX5_range_98 : decode cX5_range 98 = .ok (.goto (-43), 3) := by decide +kernel
theorem dX5_range_101 : decode cX5_range 101 = .ok (.iload_n 3, 1) := by decide +kernel
theorem dX5_range_102 : decode cX5_range 102 = .ok (.ifCond .ne 8, 3) := by decide +kernel
theorem dX5_range_105 : decode cX5_range 105 = .ok (.iload 5, 2) := by decide +kernel
theorem dX5_range_107 : decode cX5_range 107 = .ok (.goto 5, 3) := by decide +kernel
theorem dX5_range_110 : decode cX5_range 110 = .ok (.iload 6, 2) := by decide +kernel
theorem dX5_range_112 : decode cX5_range 112 = .ok (.ireturn, 1) := by decide +kernel
theorem dX5_enough_0 : decode cX5_enough 0 = .ok (.iload_n 1, 1) := by decide +kernel
theorem dX5_enough_1 : decode cX5_enough 1 = .ok (.bipush 80, 2) := by decide +kernel
theorem dX5_enough_3 : decode cX5_enough 3 = .ok (.invokestatic 50, 3) := by decide +kernel
theorem dX5_enough_6 : decode cX5_enough 6 = .ok (.ifCond .eq 10, 3) := by decide +kernel
theorem dX5_enough_9 : decode cX5_enough 9 = .ok (.aload_n 0, 1) := by decide +kernel
theorem dX5_enough_10 : decode cX5_enough 10 = .ok (.ldc 54, 2) := by decide +kernel
theorem dX5_enough_12 : decode cX5_enough 12 = .ok (.invokevirtual 55, 3) := by decide +kernel
theorem dX5_enough_15 : decode cX5_enough 15 = .ok (.ireturn, 1) := by decide +kernel
theorem dX5_enough_16 : decode cX5_enough 16 = .ok (.iconst 0, 1) := by decide +kernel
theorem dX5_enough_17 : decode cX5_enough 17 = .ok (.istore_n 2, 1) := by decide +kernel
theorem dX5_enough_18 : decode cX5_enough 18 = .ok (.bipush 64, 2) := by decide +kernel
theorem dX5_enough_20 : decode cX5_enough 20 = .ok (.istore_n 3, 1) := by decide +kernel
theorem dX5_enough_21 : decode cX5_enough 21 = .ok (.iload_n 3, 1) := by decide +kernel
theorem dX5_enough_22 : decode cX5_enough 22 = .ok (.ifCond .le 39, 3) := by decide +kernel
theorem dX5_enough_25 : decode cX5_enough 25 = .ok (.iload_n 2, 1) := by decide +kernel
theorem dX5_enough_26 : decode cX5_enough 26 = .ok (.iload_n 3, 1) := by decide +kernel
theorem dX5_enough_27 : decode cX5_enough 27 = .ok (.iadd, 1) := by decide +kernel
theorem dX5_enough_28 : decode cX5_enough 28 = .ok (.istore 4, 2) := by decide +kernel
theorem dX5_enough_30 : decode cX5_enough 30 = .ok (.iload 4, 2) := by decide +kernel
theorem dX5_enough_32 : decode cX5_enough 32 = .ok (.iconst 1, 1) := by decide +kernel
theorem dX5_enough_33 : decode cX5_enough 33 = .ok (.isub, 1) := by decide +kernel
theorem dX5_enough_34 : decode cX5_enough 34 = .ok (.bipush 99, 2) := by decide +kernel
theorem dX5_enough_36 : decode cX5_enough 36 = .ok (.if_icmp .gt 18, 3) := by decide +kernel
theorem dX5_enough_39 : decode cX5_enough 39 = .ok (.aload_n 0, 1) := by decide +kernel
theorem dX5_enough_40 : decode cX5_enough 40 = .ok (.iload 4, 2) := by decide +kernel
theorem dX5_enough_42 : decode cX5_enough 42 = .ok (.iconst 1, 1) := by decide +kernel
theorem dX5_enough_43 : decode cX5_enough 43 = .ok (.isub, 1) := by decide +kernel
theorem dX5_enough_44 : decode cX5_enough 44 = .ok (.iload_n 1, 1) := by decide +kernel
theorem dX5_enough_45 : decode cX5_enough 45 = .ok (.invokevirtual 180, 3) := by decide +kernel
theorem dX5_enough_48 : decode cX5_enough 48 = .ok (.ifCond .ne 6, 3) := by decide +kernel
theorem dX5_enough_51 : decode cX5_enough 51 = .ok (.iload 4, 2) := by decide +kernel
theorem dX5_enough_53 : decode cX5_enough 53 = .ok (.istore_n 2, 1) := by decide +kernel
theorem dX5_enough_54 : decode cX5_enough 54 = .ok (.iload_n 3, 1) := by decide +kernel
theorem dX5_enough_55 : decode cX5_enough 55 = .ok (.iconst 2, 1) := by decide +kernel
theorem dX5_enough_56 : decode cX5_enough 56 = .ok (.idiv, 1) := by decide +kernel
theorem dX5_enough_57 : decode cX5_enough 57 = .ok (.istore_n 3, 1) := by decide +kernel
theorem dX5_enough_58 : decode cX5_enough 58 = .ok (.goto (-37), 3) := by decide +kernel
theorem dX5_enough_61 : decode cX5_enough 61 = .ok (.iload_n 2, 1) := by decide +kernel
theorem dX5_enough_62 : decode cX5_enough 62 = .ok (.bipush 99, 2) := by decide +kernel
theorem dX5_enough_64 : decode cX5_enough 64 = .ok (.if_icmp .le 12, 3) := by decide +kernel
theorem dX5_enough_67 : decode cX5_enough 67 = .ok (.aload_n 0, 1) := by decide +kernel
theorem dX5_enough_68 : decode cX5_enough 68 = .ok (.ldc 166, 2) := by decide +kernel
theorem dX5_enough_70 : decode cX5_enough 70 = .ok (.invokevirtual 55, 3) := by decide +kernel
theorem dX5_enough_73 : decode cX5_enough 73 = .ok (.goto 4, 3) := by decide +kernel
theorem dX5_enough_76 : decode cX5_enough 76 = .ok (.iload_n 2, 1) := by decide +kernel
theorem dX5_enough_77 : decode cX5_enough 77 = .ok (.ireturn, 1) := by decide +kernel
theorem dX5_hide_0 : decode cX5_hide 0 = .ok (.iload_n 1, 1) := by decide +kernel
theorem dX5_hide_1 : decode cX5_hide 1 = .ok (.bipush 99, 2) := by decide +kernel
theorem dX5_hide_3 : decode cX5_hide 3 = .ok (.invokestatic 50, 3) := by decide +kernel
theorem dX5_hide_6 : decode cX5_hide 6 = .ok (.ifCond .ne 12, 3) := by decide +kernel
theorem dX5_hide_9 : decode cX5_hide 9 = .ok (.iload_n 2, 1) := by decide +kernel
theorem dX5_hide_10 : decode cX5_hide 10 = .ok (.bipush 60, 2) := by decide +kernel
theorem dX5_hide_12 : decode cX5_hide 12 = .ok (.invokestatic 50, 3) := by decide +kernel
theorem dX5_hide_15 : decode cX5_hide 15 = .ok (.ifCond .eq 10, 3) := by decide +kernel
theorem dX5_hide_18 : decode cX5_hide 18 = .ok (.aload_n 0, 1) := by decide +kernel
theorem dX5_hide_19 : decode cX5_hide 19 = .ok (.ldc 54, 2) := by decide +kernel
theorem dX5_hide_21 : decode cX5_hide 21 = .ok (.invokevirtual 55, 3) := by decide +kernel
theorem dX5_hide_24 : decode cX5_hide 24 = .ok (.ireturn, 1) := by decide +kernel
theorem dX5_hide_25 : decode cX5_hide 25 = .ok (.iconst 0, 1) := by decide +kernel
theorem dX5_hide_26 : decode cX5_hide 26 = .ok (.istore_n 3, 1) := by decide +kernel
theorem dX5_hide_27 : decode cX5_hide 27 = .ok (.bipush 9, 2) := by decide +kernel
theorem dX5_hide_29 : decode cX5_hide 29 = .ok (.istore 4, 2) := by decide +kernel
theorem dX5_hide_31 : decode cX5_hide 31 = .ok (.iconst 0, 1) := by decide +kernel
theorem dX5_hide_32 : decode cX5_hide 32 = .ok (.istore 5, 2) := by decide +kernel
theorem dX5_hide_34 : decode cX5_hide 34 = .ok (.iload 5, 2) := by decide +kernel
theorem dX5_hide_36 : decode cX5_hide 36 = .ok (.bipush 8, 2) := by decide +kernel
theorem dX5_hide_38 : decode cX5_hide 38 = .ok (.if_icmp .ge 68, 3) := by decide +kernel
theorem dX5_hide_41 : decode cX5_hide 41 = .ok (.aload_n 0, 1) := by decide +kernel
theorem dX5_hide_42 : decode cX5_hide 42 = .ok (.getfield 19, 3) := by decide +kernel
theorem dX5_hide_45 : decode cX5_hide 45 = .ok (.aload_n 0, 1) := by decide +kernel
theorem dX5_hide_46 : decode cX5_hide 46 = .ok (.getfield 12, 3) := by decide +kernel
theorem dX5_hide_49 : decode cX5_hide 49 = .ok (.invokevirtual 159, 3) := by decide +kernel
theorem dX5_hide_52 : decode cX5_hide 52 = .ok (.aload_n 0, 1) := by decide +kernel
theorem dX5_hide_53 : decode cX5_hide 53 = .ok (.getfield 19, 3) := by decide +kernel
theorem dX5_hide_56 : decode cX5_hide 56 = .ok (.getfield 59, 3) := by decide +kernel
theorem dX5_hide_59 : decode cX5_hide 59 = .ok (.getfield 68, 3) := by decide +kernel
theorem dX5_hide_62 : decode cX5_hide 62 = .ok (.iload 5, 2) := by decide +kernel
theorem dX5_hide_64 : decode cX5_hide 64 = .ok (.iload_n 1, 1) := by decide +kernel
theorem dX5_hide_65 : decode cX5_hide 65 = .ok (.iastore, 1) := by decide +kernel
theorem dX5_hide_66 : decode cX5_hide 66 = .ok (.aload_n 0, 1) := by decide +kernel
theorem dX5_hide_67 : decode cX5_hide 67 = .ok (.getfield 19, 3) := by decide +kernel
theorem dX5_hide_70 : decode cX5_hide 70 = .ok (.iload_n 2, 1) := by decide +kernel
theorem dX5_hide_71 : decode cX5_hide 71 = .ok (.invokevirtual 134, 3) := by decide +kernel
theorem dX5_hide_74 : decode cX5_hide 74 = .ok (.aload_n 0, 1) := by decide +kernel
theorem dX5_hide_75 : decode cX5_hide 75 = .ok (.getfield 19, 3) := by decide +kernel
theorem dX5_hide_78 : decode cX5_hide 78 = .ok (.invokevirtual 137, 3) := by decide +kernel
theorem dX5_hide_81 : decode cX5_hide 81 = .ok (.invokestatic 183, 3) := by decide +kernel
theorem dX5_hide_84 : decode cX5_hide 84 = .ok (.istore 6, 2) := by decide +kernel
theorem dX5_hide_86 : decode cX5_hide 86 = .ok (.iload 6, 2) := by decide +kernel
theorem dX5_hide_88 : decode cX5_hide 88 = .ok (.iload 4, 2) := by decide +kernel
theorem dX5_hide_90 : decode cX5_hide 90 = .ok (.if_icmp .ge 10, 3) := by decide +kernel
theorem dX5_hide_93 : decode cX5_hide 93 = .ok (.iload 6, 2) := by decide +kernel
theorem dX5_hide_95 : decode cX5_hide 95 = .ok (.istore 4, 2) := by decide +kernel
theorem dX5_hide_97 : decode cX5_hide 97 = .ok (.iload 5, 2) := by decide +kernel
theorem dX5_hide_99 : decode cX5_hide 99 = .ok (.istore_n 3, 1) := by decide +kernel
theorem dX5_hide_100 : decode cX5_hide 100 = .ok (.iinc 5 1, 3) := by decide +kernel
theorem dX5_hide_103 : decode cX5_hide 103 = .ok (.goto (-69), 3) := by decide +kernel
theorem dX5_hide_106 : decode cX5_hide 106 = .ok (.iload_n 3, 1) := by decide +kernel
theorem dX5_hide_107 : decode cX5_hide 107 = .ok (.ireturn, 1) := by decide +kernel
theorem dX5_safe_0 : decode cX5_safe 0 = .ok (.iload_n 1, 1) := by decide +kernel
theorem dX5_safe_1 : decode cX5_safe 1 = .ok (.bipush 7, 2) := by decide +kernel
theorem dX5_safe_3 : decode cX5_safe 3 = .ok (.invokestatic 50, 3) := by decide +kernel
theorem dX5_safe_6 : decode cX5_safe 6 = .ok (.ifCond .ne 12, 3) := by decide +kernel
theorem dX5_safe_9 : decode cX5_safe 9 = .ok (.iload_n 2, 1) := by decide +kernel
theorem dX5_safe_10 : decode cX5_safe 10 = .ok (.bipush 60, 2) := by decide +kernel
theorem dX5_safe_12 : decode cX5_safe 12 = .ok (.invokestatic 50, 3) := by decide +kernel
theorem dX5_safe_15 : decode cX5_safe 15 = .ok (.ifCond .eq 10, 3) := by decide +kernel
theorem dX5_safe_18 : decode cX5_safe 18 = .ok (.aload_n 0, 1) := by decide +kernel
theorem dX5_safe_19 : decode cX5_safe 19 = .ok (.ldc 54, 2) := by decide +kernel
theorem dX5_safe_21 : decode cX5_safe 21 = .ok (.invokevirtual 55, 3) := by decide +kernel
theorem dX5_safe_24 : decode cX5_safe 24 = .ok (.ireturn, 1) := by decide +kernel
theorem dX5_safe_25 : decode cX5_safe 25 = .ok (.aload_n 0, 1) := by decide +kernel
theorem dX5_safe_26 : decode cX5_safe 26 = .ok (.getfield 12, 3) := by decide +kernel
theorem dX5_safe_29 : decode cX5_safe 29 = .ok (.invokevirtual 137, 3) := by decide +kernel
theorem dX5_safe_32 : decode cX5_safe 32 = .ok (.istore_n 3, 1) := by decide +kernel
theorem dX5_safe_33 : decode cX5_safe 33 = .ok (.iconst 0, 1) := by decide +kernel
theorem dX5_safe_34 : decode cX5_safe 34 = .ok (.istore 4, 2) := by decide +kernel
theorem dX5_safe_36 : decode cX5_safe 36 = .ok (.iload 4, 2) := by decide +kernel
theorem dX5_safe_38 : decode cX5_safe 38 = .ok (.bipush 99, 2) := by decide +kernel
theorem dX5_safe_40 : decode cX5_safe 40 = .ok (.if_icmp .gt 49, 3) := by decide +kernel
theorem dX5_safe_43 : decode cX5_safe 43 = .ok (.aload_n 0, 1) := by decide +kernel
theorem dX5_safe_44 : decode cX5_safe 44 = .ok (.getfield 19, 3) := by decide +kernel
theorem dX5_safe_47 : decode cX5_safe 47 = .ok (.aload_n 0, 1) := by decide +kernel
theorem dX5_safe_48 : decode cX5_safe 48 = .ok (.getfield 12, 3) := by decide +kernel
theorem dX5_safe_51 : decode cX5_safe 51 = .ok (.invokevirtual 159, 3) := by decide +kernel
theorem dX5_safe_54 : decode cX5_safe 54 = .ok (.aload_n 0, 1) := by decide +kernel
theorem dX5_safe_55 : decode cX5_safe 55 = .ok (.getfield 19, 3) := by decide +kernel
theorem dX5_safe_58 : decode cX5_safe 58 = .ok (.getfield 59, 3) := by decide +kernel
theorem dX5_safe_61 : decode cX5_safe 61 = .ok (.getfield 68, 3) := by decide +kernel
theorem dX5_safe_64 : decode cX5_safe 64 = .ok (.iload_n 1, 1) := by decide +kernel
theorem dX5_safe_65 : decode cX5_safe 65 = .ok (.iload 4, 2) := by decide +kernel
theorem dX5_safe_67 : decode cX5_safe 67 = .ok (.iastore, 1) := by decide +kernel
theorem dX5_safe_68 : decode cX5_safe 68 = .ok (.aload_n 0, 1) := by decide +kernel
theorem dX5_safe_69 : decode cX5_safe 69 = .ok (.getfield 19, 3) := by decide +kernel
theorem dX5_safe_72 : decode cX5_safe 72 = .ok (.iload_n 2, 1) := by decide +kernel
theorem dX5_safe_73 : decode cX5_safe 73 = .ok (.iload_n 3, 1) := by decide +kernel
theorem dX5_safe_74 : decode cX5_safe 74 = .ok (.invokevirtual 186, 3) := by decide +kernel
theorem dX5_safe_77 : decode cX5_safe 77 = .ok (.ifCond .eq 6, 3) := by decide +kernel
theorem dX5_safe_80 : decode cX5_safe 80 = .ok (.iload 4, 2) := by decide +kernel
theorem dX5_safe_82 : decode cX5_safe 82 = .ok (.ireturn, 1) := by decide +kernel
theorem dX5_safe_83 : decode cX5_safe 83 = .ok (.iinc 4 1, 3) := by decide +kernel
theorem dX5_safe_86 : decode cX5_safe 86 = .ok (.goto (-50), 3) := by decide +kernel
theorem dX5_safe_89 : decode cX5_safe 89 = .ok (.aload_n 0, 1) := by decide +kernel
theorem dX5_safe_90 : decode cX5_safe 90 = .ok (.ldc 166, 2) := by decide +kernel
theorem dX5_safe_92 : decode cX5_safe 92 = .ok (.invokevirtual 55, 3) := by decide +kernel
theorem dX5_safe_95 : decode cX5_safe 95 = .ok (.ireturn, 1) := by decide +kernel
theorem dX5_sleep_0 : decode cX5_sleep 0 = .ok (.iload_n 1, 1) := by decide +kernel
theorem dX5_sleep_1 : decode cX5_sleep 1 = .ok (.bipush 20, 2) := by decide +kernel
theorem dX5_sleep_3 : decode cX5_sleep 3 = .ok (.invokestatic 50, 3) := by decide +kernel
theorem dX5_sleep_6 : decode cX5_sleep 6 = .ok (.ifCond .eq 10, 3) := by decide +kernel
theorem dX5_sleep_9 : decode cX5_sleep 9 = .ok (.aload_n 0, 1) := by decide +kernel
theorem dX5_sleep_10 : decode cX5_sleep 10 = .ok (.ldc 54, 2) := by decide +kernel
theorem dX5_sleep_12 : decode cX5_sleep 12 = .ok (.invokevirtual 55, 3) := by decide +kernel
theorem dX5_sleep_15 : decode cX5_sleep 15 = .ok (.ireturn, 1) := by decide +kernel
theorem dX5_sleep_16 : decode cX5_sleep 16 = .ok (.aload_n 0, 1) := by decide +kernel
theorem dX5_sleep_17 : decode cX5_sleep 17 = .ok (.getfield 12, 3) := by decide +kernel
theorem dX5_sleep_20 : decode cX5_sleep 20 = .ok (.invokevirtual 137, 3) := by decide +kernel
theorem dX5_sleep_23 : decode cX5_sleep 23 = .ok (.istore_n 2, 1) := by decide +kernel
theorem dX5_sleep_24 : decode cX5_sleep 24 = .ok (.iconst (-1), 1) := by decide +kernel
theorem dX5_sleep_25 : decode cX5_sleep 25 = .ok (.istore_n 3, 1) := by decide +kernel
theorem dX5_sleep_26 : decode cX5_sleep 26 = .ok (.aload_n 0, 1) := by decide +kernel
theorem dX5_sleep_27 : decode cX5_sleep 27 = .ok (.getfield 22, 3) := by decide +kernel
theorem dX5_sleep_30 : decode cX5_sleep 30 = .ok (.aload_n 0, 1) := by decide +kernel
theorem dX5_sleep_31 : decode cX5_sleep 31 = .ok (.getfield 12, 3) := by decide +kernel
theorem dX5_sleep_34 : decode cX5_sleep 34 = .ok (.invokevirtual 159, 3) := by decide +kernel
theorem dX5_sleep_37 : decode cX5_sleep 37 = .ok (.iconst 0, 1) := by decide +kernel
theorem dX5_sleep_38 : decode cX5_sleep 38 = .ok (.istore 4, 2) := by decide +kernel
theorem dX5_sleep_40 : decode cX5_sleep 40 = .ok (.iload 4, 2) := by decide +kernel
theorem dX5_sleep_42 : decode cX5_sleep 42 = .ok (.bipush 60, 2) := by decide +kernel
theorem dX5_sleep_44 : decode cX5_sleep 44 = .ok (.if_icmp .gt 53, 3) := by decide +kernel
theorem dX5_sleep_47 : decode cX5_sleep 47 = .ok (.aload_n 0, 1) := by decide +kernel
theorem dX5_sleep_48 : decode cX5_sleep 48 = .ok (.getfield 22, 3) := by decide +kernel
theorem dX5_sleep_51 : decode cX5_sleep 51 = .ok (.invokevirtual 137, 3) := by decide +kernel
theorem dX5_sleep_54 : decode cX5_sleep 54 = .ok (.iload_n 2, 1) := by decide +kernel
theorem dX5_sleep_55 : decode cX5_sleep 55 = .ok (.if_icmp .ne 42, 3) := by decide +kernel
theorem dX5_sleep_58 : decode cX5_sleep 58 = .ok (.aload_n 0, 1) := by decide +kernel
theorem dX5_sleep_59 : decode cX5_sleep 59 = .ok (.getfield 19, 3) := by decide +kernel
theorem dX5_sleep_62 : decode cX5_sleep 62 = .ok (.aload_n 0, 1) := by decide +kernel
theorem dX5_sleep_63 : decode cX5_sleep 63 = .ok (.getfield 22, 3) := by decide +kernel
theorem dX5_sleep_66 : decode cX5_sleep 66 = .ok (.invokevirtual 159, 3) := by decide +kernel
theorem dX5_sleep_69 : decode cX5_sleep 69 = .ok (.aload_n 0, 1) := by decide +kernel
theorem dX5_sleep_70 : decode cX5_sleep 70 = .ok (.getfield 19, 3) := by decide +kernel
theorem dX5_sleep_73 : decode cX5_sleep 73 = .ok (.iload_n 1, 1) := by decide +kernel
theorem dX5_sleep_74 : decode cX5_sleep 74 = .ok (.iload_n 2, 1) := by decide +kernel
theorem dX5_sleep_75 : decode cX5_sleep 75 = .ok (.invokevirtual 186, 3) := by decide +kernel
theorem dX5_sleep_78 : decode cX5_sleep 78 = .ok (.ifCond .eq 6, 3) := by decide +kernel
theorem dX5_sleep_81 : decode cX5_sleep 81 = .ok (.iload 4, 2) := by decide +kernel
theorem dX5_sleep_83 : decode cX5_sleep 83 = .ok (.istore_n 3, 1) := by decide +kernel
theorem dX5_sleep_84 : decode cX5_sleep 84 = .ok (.aload_n 0, 1) := by decide +kernel
theorem dX5_sleep_85 : decode cX5_sleep 85 = .ok (.getfield 22, 3) := by decide +kernel
theorem dX5_sleep_88 : decode cX5_sleep 88 = .ok (.invokevirtual 189, 3) := by decide +kernel
theorem dX5_sleep_91 : decode cX5_sleep 91 = .ok (.iinc 4 1, 3) := by decide +kernel
theorem dX5_sleep_94 : decode cX5_sleep 94 = .ok (.goto (-54), 3) := by decide +kernel
theorem dX5_sleep_97 : decode cX5_sleep 97 = .ok (.iload_n 3, 1) := by decide +kernel
theorem dX5_sleep_98 : decode cX5_sleep 98 = .ok (.ifCond .ge 12, 3) := by decide +kernel
theorem dX5_sleep_101 : decode cX5_sleep 101 = .ok (.aload_n 0, 1) := by decide +kernel
theorem dX5_sleep_102 : decode cX5_sleep 102 = .ok (.ldc 166, 2) := by decide +kernel
theorem dX5_sleep_104 : decode cX5_sleep 104 = .ok (.invokevirtual 55, 3) := by decide +kernel
theorem dX5_sleep_107 : decode cX5_sleep 107 = .ok (.goto 4, 3) := by decide +kernel
theorem dX5_sleep_110 : decode cX5_sleep 110 = .ok (.iload_n 3, 1) := by decide +kernel
theorem dX5_sleep_111 : decode cX5_sleep 111 = .ok (.ireturn, 1) := by decide +kernel
theorem dX5_turns_0 : decode cX5_turns 0 = .ok (.aload_n 0, 1) := by decide +kernel
theorem dX5_turns_1 : decode cX5_turns 1 = .ok (.getfield 12, 3) := by decide +kernel
theorem dX5_turns_4 : decode cX5_turns 4 = .ok (.getfield 59, 3) := by decide +kernel
theorem dX5_turns_7 : decode cX5_turns 7 = .ok (.getfield 68, 3) := by decide +kernel
theorem dX5_turns_10 : decode cX5_turns 10 = .ok (.astore_n 1, 1) := by decide +kernel
theorem dX5_turns_11 : decode cX5_turns 11 = .ok (.iconst 0, 1) := by decide +kernel
theorem dX5_turns_12 : decode cX5_turns 12 = .ok (.istore_n 2, 1) := by decide +kernel
theorem dX5_turns_13 : decode cX5_turns 13 = .ok (.iconst 0, 1) := by decide +kernel
theorem dX5_turns_14 : decode cX5_turns 14 = .ok (.istore_n 3, 1) := by decide +kernel
theorem dX5_turns_15 : decode cX5_turns 15 = .ok (.iload_n 3, 1) := by decide +kernel
theorem dX5_turns_16 : decode cX5_turns 16 = .ok (.bipush 8, 2) := by decide +kernel
theorem dX5_turns_18 : decode cX5_turns 18 = .ok (.if_icmp .ge 29, 3) := by decide +kernel
theorem dX5_turns_21 : decode cX5_turns 21 = .ok (.aload_n 1, 1) := by decide +kernel
theorem dX5_turns_22 : decode cX5_turns 22 = .ok (.iload_n 3, 1) := by decide +kernel
theorem dX5_turns_23 : decode cX5_turns 23 = .ok (.iaload, 1) := by decide +kernel
theorem dX5_turns_24 : decode cX5_turns 24 = .ok (.aload_n 1, 1) := by decide +kernel
theorem dX5_turns_25 : decode cX5_turns 25 = .ok (.iload_n 3, 1) := by decide +kernel
theorem dX5_turns_26 : decode cX5_turns 26 = .ok (.bipush 8, 2) := by decide +kernel
theorem dX5_turns_28 : decode cX5_turns 28 = .ok (.iadd, 1) := by decide +kernel
theorem dX5_turns_29 : decode cX5_turns 29 = .ok (.iconst 1, 1) := by decide +kernel
theorem dX5_turns_30 : decode cX5_turns 30 = .ok (.isub, 1) := by decide +kernel
theorem dX5_turns_31 : decode cX5_turns 31 = .ok (.bipush 8, 2) := by decide +kernel
theorem dX5_turns_33 : decode cX5_turns 33 = .ok (.irem, 1) := by decide +kernel
theorem dX5_turns_34 : decode cX5_turns 34 = .ok (.iaload, 1) := by decide +kernel
theorem dX5_turns_35 : decode cX5_turns 35 = .ok (.if_icmp .eq 6, 3) := by decide +kernel
theorem dX5_turns_38 : decode cX5_turns 38 = .ok (.iinc 2 1, 3) := by decide +kernel
theorem dX5_turns_41 : decode cX5_turns 41 = .ok (.iinc 3 1, 3) := by decide +kernel
theorem dX5_turns_44 : decode cX5_turns 44 = .ok (.goto (-29), 3) := by decide +kernel
theorem dX5_turns_47 : decode cX5_turns 47 = .ok (.iload_n 2, 1) := by decide +kernel
theorem dX5_turns_48 : decode cX5_turns 48 = .ok (.ireturn, 1) := by decide +kernel
theorem dX5_seat_0 : decode cX5_seat 0 = .ok (.aload_n 0, 1) := by decide +kernel
theorem dX5_seat_1 : decode cX5_seat 1 = .ok (.iload_n 1, 1) := by decide +kernel
theorem dX5_seat_2 : decode cX5_seat 2 = .ok (.iload_n 2, 1) := by decide +kernel
theorem dX5_seat_3 : decode cX5_seat 3 = .ok (.invokevirtual 192, 3) := by decide +kernel
theorem dX5_seat_6 : decode cX5_seat 6 = .ok (.ifCond .eq 12, 3) := by decide +kernel
theorem dX5_seat_9 : decode cX5_seat 9 = .ok (.aload_n 0, 1) := by decide +kernel
theorem dX5_seat_10 : decode cX5_seat 10 = .ok (.ldc 54, 2) := by decide +kernel
theorem dX5_seat_12 : decode cX5_seat 12 = .ok (.invokevirtual 55, 3) := by decide +kernel
theorem dX5_seat_15 : decode cX5_seat 15 = .ok (.goto 10, 3) := by decide +kernel
theorem dX5_seat_18 : decode cX5_seat 18 = .ok (.aload_n 0, 1) := by decide +kernel
theorem dX5_seat_19 : decode cX5_seat 19 = .ok (.iload_n 1, 1) := by decide +kernel
theorem dX5_seat_20 : decode cX5_seat 20 = .ok (.iconst 1, 1) := by decide +kernel
theorem dX5_seat_21 : decode cX5_seat 21 = .ok (.iload_n 2, 1) := by decide +kernel
theorem dX5_seat_22 : decode cX5_seat 22 = .ok (.invokevirtual 195, 3) := by decide +kernel
theorem dX5_seat_25 : decode cX5_seat 25 = .ok (.ireturn, 1) := by decide +kernel
theorem dX5_kindFor_0 : decode cX5_kindFor 0 = .ok (.aload_n 0, 1) := by decide +kernel
theorem dX5_kindFor_1 : decode cX5_kindFor 1 = .ok (.iload_n 1, 1) := by decide +kernel
theorem dX5_kindFor_2 : decode cX5_kindFor 2 = .ok (.iload_n 2, 1) := by decide +kernel
theorem dX5_kindFor_3 : decode cX5_kindFor 3 = .ok (.invokevirtual 192, 3) := by decide +kernel
theorem dX5_kindFor_6 : decode cX5_kindFor 6 = .ok (.ifCond .eq 12, 3) := by decide +kernel
theorem dX5_kindFor_9 : decode cX5_kindFor 9 = .ok (.aload_n 0, 1) := by decide +kernel
theorem dX5_kindFor_10 : decode cX5_kindFor 10 = .ok (.ldc 54, 2) := by decide +kernel
theorem dX5_kindFor_12 : decode cX5_kindFor 12 = .ok (.invokevirtual 55, 3) := by decide +kernel
theorem dX5_kindFor_15 : decode cX5_kindFor 15 = .ok (.goto 10, 3) := by decide +kernel
theorem dX5_kindFor_18 : decode cX5_kindFor 18 = .ok (.aload_n 0, 1) := by decide +kernel
theorem dX5_kindFor_19 : decode cX5_kindFor 19 = .ok (.iload_n 1, 1) := by decide +kernel
theorem dX5_kindFor_20 : decode cX5_kindFor 20 = .ok (.iconst 0, 1) := by decide +kernel
theorem dX5_kindFor_21 : decode cX5_kindFor 21 = .ok (.iload_n 2, 1) := by decide +kernel
theorem dX5_kindFor_22 : decode cX5_kindFor 22 = .ok (.invokevirtual 195, 3) := by decide +kernel
theorem dX5_kindFor_25 : decode cX5_kindFor 25 = .ok (.ireturn, 1) := by decide +kernel
theorem dX5_wantFor_0 : decode cX5_wantFor 0 = .ok (.aload_n 0, 1) := by decide +kernel
theorem dX5_wantFor_1 : decode cX5_wantFor 1 = .ok (.iload_n 1, 1) := by decide +kernel
theorem dX5_wantFor_2 : decode cX5_wantFor 2 = .ok (.iload_n 2, 1) := by decide +kernel
theorem dX5_wantFor_3 : decode cX5_wantFor 3 = .ok (.invokevirtual 192, 3) := by decide +kernel
theorem dX5_wantFor_6 : decode cX5_wantFor 6 = .ok (.ifCond .eq 10, 3) := by decide +kernel
theorem dX5_wantFor_9 : decode cX5_wantFor 9 = .ok (.aload_n 0, 1) := by decide +kernel
theorem dX5_wantFor_10 : decode cX5_wantFor 10 = .ok (.ldc 54, 2) := by decide +kernel
theorem dX5_wantFor_12 : decode cX5_wantFor 12 = .ok (.invokevirtual 55, 3) := by decide +kernel
theorem dX5_wantFor_15 : decode cX5_wantFor 15 = .ok (.ireturn, 1) := by decide +kernel
theorem dX5_wantFor_16 : decode cX5_wantFor 16 = .ok (.aload_n 0, 1) := by decide +kernel
theorem dX5_wantFor_17 : decode cX5_wantFor 17 = .ok (.getfield 12, 3) := by decide +kernel
theorem dX5_wantFor_20 : decode cX5_wantFor 20 = .ok (.getfield 92, 3) := by decide +kernel
theorem dX5_wantFor_23 : decode cX5_wantFor 23 = .ok (.iload_n 1, 1) := by decide +kernel
theorem dX5_wantFor_24 : decode cX5_wantFor 24 = .ok (.aaload, 1) := by decide +kernel
theorem dX5_wantFor_25 : decode cX5_wantFor 25 = .ok (.astore_n 3, 1) := by decide +kernel
theorem dX5_wantFor_26 : decode cX5_wantFor 26 = .ok (.aload_n 3, 1) := by decide +kernel
theorem dX5_wantFor_27 : decode cX5_wantFor 27 = .ok (.getfield 111, 3) := by decide +kernel
theorem dX5_wantFor_30 : decode cX5_wantFor 30 = .ok (.sipush 9999, 3) := by decide +kernel
theorem dX5_wantFor_33 : decode cX5_wantFor 33 = .ok (.if_icmp .ne 7, 3) := by decide +kernel
theorem dX5_wantFor_36 : decode cX5_wantFor 36 = .ok (.sipush 999, 3) := by decide +kernel
theorem dX5_wantFor_39 : decode cX5_wantFor 39 = .ok (.ireturn, 1) := by decide +kernel
theorem dX5_wantFor_40 : decode cX5_wantFor 40 = .ok (.aload_n 0, 1) := by decide +kernel
theorem dX5_wantFor_41 : decode cX5_wantFor 41 = .ok (.invokevirtual 152, 3) := by decide +kernel
theorem dX5_wantFor_44 : decode cX5_wantFor 44 = .ok (.astore 4, 2) := by decide +kernel
theorem dX5_wantFor_46 : decode cX5_wantFor 46 = .ok (.sipush 999, 3) := by decide +kernel
theorem dX5_wantFor_49 : decode cX5_wantFor 49 = .ok (.istore 5, 2) := by decide +kernel
theorem dX5_wantFor_51 : decode cX5_wantFor 51 = .ok (.iconst 1, 1) := by decide +kernel
theorem dX5_wantFor_52 : decode cX5_wantFor 52 = .ok (.istore 6, 2) := by decide +kernel
theorem dX5_wantFor_54 : decode cX5_wantFor 54 = .ok (.iload 6, 2) := by decide +kernel
theorem dX5_wantFor_56 : decode cX5_wantFor 56 = .ok (.iload_n 2, 1) := by decide +kernel
theorem dX5_wantFor_57 : decode cX5_wantFor 57 = .ok (.if_icmp .gt 32, 3) := by decide +kernel
theorem dX5_wantFor_60 : decode cX5_wantFor 60 = .ok (.aload 4, 2) := by decide +kernel
theorem dX5_wantFor_62 : decode cX5_wantFor 62 = .ok (.iconst 1, 1) := by decide +kernel
theorem dX5_wantFor_63 : decode cX5_wantFor 63 = .ok (.invokevirtual 156, 3) := by decide +kernel
theorem dX5_wantFor_66 : decode cX5_wantFor 66 = .ok (.iload 5, 2) := by decide +kernel
theorem dX5_wantFor_68 : decode cX5_wantFor 68 = .ok (.aload 4, 2) := by decide +kernel
theorem dX5_wantFor_70 : decode cX5_wantFor 70 = .ok (.getfield 63, 3) := by decide +kernel
theorem dX5_wantFor_73 : decode cX5_wantFor 73 = .ok (.aload_n 3, 1) := by decide +kernel
theorem dX5_wantFor_74 : decode cX5_wantFor 74 = .ok (.getfield 102, 3) := by decide +kernel
theorem dX5_wantFor_77 : decode cX5_wantFor 77 = .ok (.iaload, 1) := by decide +kernel
theorem dX5_wantFor_78 : decode cX5_wantFor 78 = .ok (.invokestatic 172, 3) := by decide +kernel
theorem dX5_wantFor_81 : decode cX5_wantFor 81 = .ok (.istore 5, 2) := by decide +kernel
theorem dX5_wantFor_83 : decode cX5_wantFor 83 = .ok (.iinc 6 1, 3) := by decide +kernel
theorem dX5_wantFor_86 : decode cX5_wantFor 86 = .ok (.goto (-32), 3) := by decide +kernel
theorem dX5_wantFor_89 : decode cX5_wantFor 89 = .ok (.iload 5, 2) := by decide +kernel
theorem dX5_wantFor_91 : decode cX5_wantFor 91 = .ok (.ireturn, 1) := by decide +kernel
theorem dX5_watch_0 : decode cX5_watch 0 = .ok (.iload_n 1, 1) := by decide +kernel
theorem dX5_watch_1 : decode cX5_watch 1 = .ok (.iconst 1, 1) := by decide +kernel
theorem dX5_watch_2 : decode cX5_watch 2 = .ok (.if_icmp .lt 9, 3) := by decide +kernel
theorem dX5_watch_5 : decode cX5_watch 5 = .ok (.iload_n 1, 1) := by decide +kernel
theorem dX5_watch_6 : decode cX5_watch 6 = .ok (.bipush 60, 2) := by decide +kernel
theorem dX5_watch_8 : decode cX5_watch 8 = .ok (.if_icmp .le 10, 3) := by decide +kernel
theorem dX5_watch_11 : decode cX5_watch 11 = .ok (.aload_n 0, 1) := by decide +kernel
theorem dX5_watch_12 : decode cX5_watch 12 = .ok (.ldc 54, 2) := by decide +kernel
theorem dX5_watch_14 : decode cX5_watch 14 = .ok (.invokevirtual 55, 3) := by decide +kernel
theorem dX5_watch_17 : decode cX5_watch 17 = .ok (.ireturn, 1) := by decide +kernel
theorem dX5_watch_18 : decode cX5_watch 18 = .ok (.aload_n 0, 1) := by decide +kernel
theorem dX5_watch_19 : decode cX5_watch 19 = .ok (.iload_n 1, 1) := by decide +kernel
theorem dX5_watch_20 : decode cX5_watch 20 = .ok (.invokevirtual 199, 3) := by decide +kernel
theorem dX5_watch_23 : decode cX5_watch 23 = .ok (.iconst 0, 1) := by decide +kernel
theorem dX5_watch_24 : decode cX5_watch 24 = .ok (.istore_n 2, 1) := by decide +kernel
theorem dX5_watch_25 : decode cX5_watch 25 = .ok (.iconst 1, 1) := by decide +kernel
theorem dX5_watch_26 : decode cX5_watch 26 = .ok (.istore_n 3, 1) := by decide +kernel
theorem dX5_watch_27 : decode cX5_watch 27 = .ok (.iload_n 3, 1) := by decide +kernel
theorem dX5_watch_28 : decode cX5_watch 28 = .ok (.bipush 12, 2) := by decide +kernel
theorem dX5_watch_30 : decode cX5_watch 30 = .ok (.if_icmp .ge 26, 3) := by decide +kernel
theorem dX5_watch_33 : decode cX5_watch 33 = .ok (.aload_n 0, 1) := by decide +kernel
theorem dX5_watch_34 : decode cX5_watch 34 = .ok (.getfield 25, 3) := by decide +kernel
theorem dX5_watch_37 : decode cX5_watch 37 = .ok (.iload_n 3, 1) := by decide +kernel
theorem dX5_watch_38 : decode cX5_watch 38 = .ok (.iaload, 1) := by decide +kernel
theorem dX5_watch_39 : decode cX5_watch 39 = .ok (.aload_n 0, 1) := by decide +kernel
theorem dX5_watch_40 : decode cX5_watch 40 = .ok (.getfield 25, 3) := by decide +kernel
theorem dX5_watch_43 : decode cX5_watch 43 = .ok (.iload_n 2, 1) := by decide +kernel
theorem dX5_watch_44 : decode cX5_watch 44 = .ok (.iaload, 1) := by decide +kernel
theorem dX5_watch_45 : decode cX5_watch 45 = .ok (.if_icmp .le 5, 3) := by decide +kernel
theorem dX5_watch_48 : decode cX5_watch 48 = .ok (.iload_n 3, 1) := by decide +kernel
theorem dX5_watch_49 : decode cX5_watch 49 = .ok (.istore_n 2, 1) := by decide +kernel
theorem dX5_watch_50 : decode cX5_watch 50 = .ok (.iinc 3 1, 3) := by decide +kernel
theorem dX5_watch_53 : decode cX5_watch 53 = .ok (.goto (-26), 3) := by decide +kernel
theorem dX5_watch_56 : decode cX5_watch 56 = .ok (.iload_n 2, 1) := by decide +kernel
theorem dX5_watch_57 : decode cX5_watch 57 = .ok (.ireturn, 1) := by decide +kernel
theorem dX5_fits_0 : decode cX5_fits 0 = .ok (.aload_n 0, 1) := by decide +kernel
theorem dX5_fits_1 : decode cX5_fits 1 = .ok (.iload_n 1, 1) := by decide +kernel
theorem dX5_fits_2 : decode cX5_fits 2 = .ok (.iload_n 2, 1) := by decide +kernel
theorem dX5_fits_3 : decode cX5_fits 3 = .ok (.iload_n 3, 1) := by decide +kernel
theorem dX5_fits_4 : decode cX5_fits 4 = .ok (.invokevirtual 202, 3) := by decide +kernel
theorem dX5_fits_7 : decode cX5_fits 7 = .ok (.istore 4, 2) := by decide +kernel
theorem dX5_fits_9 : decode cX5_fits 9 = .ok (.iload 4, 2) := by decide +kernel
theorem dX5_fits_11 : decode cX5_fits 11 = .ok (.ifCond .eq 10, 3) := by decide +kernel
theorem dX5_fits_14 : decode cX5_fits 14 = .ok (.aload_n 0, 1) := by decide +kernel
theorem dX5_fits_15 : decode cX5_fits 15 = .ok (.iload 4, 2) := by decide +kernel
theorem dX5_fits_17 : decode cX5_fits 17 = .ok (.invokevirtual 55, 3) := by decide +kernel
theorem dX5_fits_20 : decode cX5_fits 20 = .ok (.ireturn, 1) := by decide +kernel
theorem dX5_fits_21 : decode cX5_fits 21 = .ok (.iconst 0, 1) := by decide +kernel
theorem dX5_fits_22 : decode cX5_fits 22 = .ok (.istore 5, 2) := by decide +kernel
theorem dX5_fits_24 : decode cX5_fits 24 = .ok (.iconst 0, 1) := by decide +kernel
theorem dX5_fits_25 : decode cX5_fits 25 = .ok (.istore 6, 2) := by decide +kernel
theorem dX5_fits_27 : decode cX5_fits 27 = .ok (.iload 6, 2) := by decide +kernel
theorem dX5_fits_29 : decode cX5_fits 29 = .ok (.bipush 99, 2) := by decide +kernel
theorem dX5_fits_31 : decode cX5_fits 31 = .ok (.if_icmp .gt 29, 3) := by decide +kernel
theorem dX5_fits_34 : decode cX5_fits 34 = .ok (.aload_n 0, 1) := by decide +kernel
theorem dX5_fits_35 : decode cX5_fits 35 = .ok (.iload 6, 2) := by decide +kernel
theorem dX5_fits_37 : decode cX5_fits 37 = .ok (.aload_n 0, 1) := by decide +kernel
theorem dX5_fits_38 : decode cX5_fits 38 = .ok (.getfield 32, 3) := by decide +kernel
theorem dX5_fits_41 : decode cX5_fits 41 = .ok (.iload_n 1, 1) := by decide +kernel
theorem dX5_fits_42 : decode cX5_fits 42 = .ok (.aaload, 1) := by decide +kernel
theorem dX5_fits_43 : decode cX5_fits 43 = .ok (.iload_n 2, 1) := by decide +kernel
theorem dX5_fits_44 : decode cX5_fits 44 = .ok (.iload_n 3, 1) := by decide +kernel
theorem dX5_fits_45 : decode cX5_fits 45 = .ok (.invokevirtual 205, 3) := by decide +kernel
theorem dX5_fits_48 : decode cX5_fits 48 = .ok (.ifCond .eq 6, 3) := by decide +kernel
theorem dX5_fits_51 : decode cX5_fits 51 = .ok (.iinc 5 1, 3) := by decide +kernel
theorem dX5_fits_54 : decode cX5_fits 54 = .ok (.iinc 6 1, 3) := by decide +kernel
theorem dX5_fits_57 : decode cX5_fits 57 = .ok (.goto (-30), 3) := by decide +kernel
theorem dX5_fits_60 : decode cX5_fits 60 = .ok (.iload 5, 2) := by decide +kernel
theorem dX5_fits_62 : decode cX5_fits 62 = .ok (.ireturn, 1) := by decide +kernel
theorem dX5_opened_0 : decode cX5_opened 0 = .ok (.aload_n 0, 1) := by decide +kernel
theorem dX5_opened_1 : decode cX5_opened 1 = .ok (.iload_n 1, 1) := by decide +kernel
theorem dX5_opened_2 : decode cX5_opened 2 = .ok (.iload_n 2, 1) := by decide +kernel
theorem dX5_opened_3 : decode cX5_opened 3 = .ok (.iload_n 3, 1) := by decide +kernel
theorem dX5_opened_4 : decode cX5_opened 4 = .ok (.invokevirtual 202, 3) := by decide +kernel
theorem dX5_opened_7 : decode cX5_opened 7 = .ok (.istore 4, 2) := by decide +kernel
theorem dX5_opened_9 : decode cX5_opened 9 = .ok (.iload 4, 2) := by decide +kernel
theorem dX5_opened_11 : decode cX5_opened 11 = .ok (.ifCond .eq 10, 3) := by decide +kernel
theorem dX5_opened_14 : decode cX5_opened 14 = .ok (.aload_n 0, 1) := by decide +kernel
theorem dX5_opened_15 : decode cX5_opened 15 = .ok (.iload 4, 2) := by decide +kernel
theorem dX5_opened_17 : decode cX5_opened 17 = .ok (.invokevirtual 55, 3) := by decide +kernel
theorem dX5_opened_20 : decode cX5_opened 20 = .ok (.ireturn, 1) := by decide +kernel
theorem dX5_opened_21 : decode cX5_opened 21 = .ok (.iconst 0, 1) := by decide +kernel
theorem dX5_opened_22 : decode cX5_opened 22 = .ok (.istore 5, 2) := by decide +kernel
theorem dX5_opened_24 : decode cX5_opened 24 = .ok (.iload 5, 2) := by decide +kernel
theorem dX5_opened_26 : decode cX5_opened 26 = .ok (.bipush 99, 2) := by decide +kernel
theorem dX5_opened_28 : decode cX5_opened 28 = .ok (.if_icmp .gt 29, 3) := by decide +kernel
theorem dX5_opened_31 : decode cX5_opened 31 = .ok (.aload_n 0, 1) := by decide +kernel
theorem dX5_opened_32 : decode cX5_opened 32 = .ok (.iload 5, 2) := by decide +kernel
theorem dX5_opened_34 : decode cX5_opened 34 = .ok (.aload_n 0, 1) := by decide +kernel
theorem dX5_opened_35 : decode cX5_opened 35 = .ok (.getfield 32, 3) := by decide +kernel
theorem dX5_opened_38 : decode cX5_opened 38 = .ok (.iload_n 1, 1) := by decide +kernel
theorem dX5_opened_39 : decode cX5_opened 39 = .ok (.aaload, 1) := by decide +kernel
theorem dX5_opened_40 : decode cX5_opened 40 = .ok (.iload_n 2, 1) := by decide +kernel
theorem dX5_opened_41 : decode cX5_opened 41 = .ok (.iload_n 3, 1) := by decide +kernel
theorem dX5_opened_42 : decode cX5_opened 42 = .ok (.invokevirtual 205, 3) := by decide +kernel
theorem dX5_opened_45 : decode cX5_opened 45 = .ok (.ifCond .eq 6, 3) := by decide +kernel
theorem dX5_opened_48 : decode cX5_opened 48 = .ok (.iload 5, 2) := by decide +kernel
theorem dX5_opened_50 : decode cX5_opened 50 = .ok (.ireturn, 1) := by decide +kernel
theorem dX5_opened_51 : decode cX5_opened 51 = .ok (.iinc 5 1, 3) := by decide +kernel
theorem dX5_opened_54 : decode cX5_opened 54 = .ok (.goto (-30), 3) := by decide +kernel
theorem dX5_opened_57 : decode cX5_opened 57 = .ok (.aload_n 0, 1) := by decide +kernel
theorem dX5_opened_58 : decode cX5_opened 58 = .ok (.ldc 166, 2) := by decide +kernel
theorem dX5_opened_60 : decode cX5_opened 60 = .ok (.invokevirtual 55, 3) := by decide +kernel
theorem dX5_opened_63 : decode cX5_opened 63 = .ok (.ireturn, 1) := by decide +kernel
theorem dX5_kinds_0 : decode cX5_kinds 0 = .ok (.aload_n 0, 1) := by decide +kernel
theorem dX5_kinds_1 : decode cX5_kinds 1 = .ok (.iload_n 1, 1) := by decide +kernel
theorem dX5_kinds_2 : decode cX5_kinds 2 = .ok (.invokevirtual 209, 3) := by decide +kernel
theorem dX5_kinds_5 : decode cX5_kinds 5 = .ok (.istore_n 3, 1) := by decide +kernel
theorem dX5_kinds_6 : decode cX5_kinds 6 = .ok (.iload_n 3, 1) := by decide +kernel
theorem dX5_kinds_7 : decode cX5_kinds 7 = .ok (.ifCond .eq 9, 3) := by decide +kernel
theorem dX5_kinds_10 : decode cX5_kinds 10 = .ok (.aload_n 0, 1) := by decide +kernel
theorem dX5_kinds_11 : decode cX5_kinds 11 = .ok (.iload_n 3, 1) := by decide +kernel
theorem dX5_kinds_12 : decode cX5_kinds 12 = .ok (.invokevirtual 55, 3) := by decide +kernel
theorem dX5_kinds_15 : decode cX5_kinds 15 = .ok (.ireturn, 1) := by decide +kernel
theorem dX5_kinds_16 : decode cX5_kinds 16 = .ok (.aload_n 0, 1) := by decide +kernel
theorem dX5_kinds_17 : decode cX5_kinds 17 = .ok (.iload_n 2, 1) := by decide +kernel
theorem dX5_kinds_18 : decode cX5_kinds 18 = .ok (.invokevirtual 88, 3) := by decide +kernel
theorem dX5_kinds_21 : decode cX5_kinds 21 = .ok (.ifCond .eq 10, 3) := by decide +kernel
theorem dX5_kinds_24 : decode cX5_kinds 24 = .ok (.aload_n 0, 1) := by decide +kernel
theorem dX5_kinds_25 : decode cX5_kinds 25 = .ok (.ldc 54, 2) := by decide +kernel
theorem dX5_kinds_27 : decode cX5_kinds 27 = .ok (.invokevirtual 55, 3) := by decide +kernel
theorem dX5_kinds_30 : decode cX5_kinds 30 = .ok (.ireturn, 1) := by decide +kernel
theorem dX5_kinds_31 : decode cX5_kinds 31 = .ok (.iconst 0, 1) := by decide +kernel
theorem dX5_kinds_32 : decode cX5_kinds 32 = .ok (.istore 4, 2) := by decide +kernel
theorem dX5_kinds_34 : decode cX5_kinds 34 = .ok (.iconst 0, 1) := by decide +kernel
theorem dX5_kinds_35 : decode cX5_kinds 35 = .ok (.istore 5, 2) := by decide +kernel
theorem dX5_kinds_37 : decode cX5_kinds 37 = .ok (.iload 5, 2) := by decide +kernel
theorem dX5_kinds_39 : decode cX5_kinds 39 = .ok (.bipush 7, 2) := by decide +kernel
theorem dX5_kinds_41 : decode cX5_kinds 41 = .ok (.if_icmp .ge 34, 3) := by decide +kernel
theorem dX5_kinds_44 : decode cX5_kinds 44 = .ok (.aload_n 0, 1) := by decide +kernel
theorem dX5_kinds_45 : decode cX5_kinds 45 = .ok (.iload 5, 2) := by decide +kernel
theorem dX5_kinds_47 : decode cX5_kinds 47 = .ok (.aload_n 0, 1) := by decide +kernel
theorem dX5_kinds_48 : decode cX5_kinds 48 = .ok (.getfield 32, 3) := by decide +kernel
theorem dX5_kinds_51 : decode cX5_kinds 51 = .ok (.iload_n 1, 1) := by decide +kernel
theorem dX5_kinds_52 : decode cX5_kinds 52 = .ok (.aaload, 1) := by decide +kernel
theorem dX5_kinds_53 : decode cX5_kinds 53 = .ok (.iload_n 2, 1) := by decide +kernel
theorem dX5_kinds_54 : decode cX5_kinds 54 = .ok (.invokevirtual 212, 3) := by decide +kernel
theorem dX5_kinds_57 : decode cX5_kinds 57 = .ok (.ifCond .eq 12, 3) := by decide +kernel
theorem dX5_kinds_60 : decode cX5_kinds 60 = .ok (.iload 4, 2) := by decide +kernel
theorem dX5_kinds_62 : decode cX5_kinds 62 = .ok (.iconst 1, 1) := by decide +kernel
theorem dX5_kinds_63 : decode cX5_kinds 63 = .ok (.iload 5, 2) := by decide +kernel
theorem dX5_kinds_65 : decode cX5_kinds 65 = .ok (.ishl, 1) := by decide +kernel
theorem dX5_kinds_66 : decode cX5_kinds 66 = .ok (.ior, 1) := by decide +kernel
theorem dX5_kinds_67 : decode cX5_kinds 67 = .ok (.istore 4, 2) := by decide +kernel
theorem dX5_kinds_69 : decode cX5_kinds 69 = .ok (.iinc 5 1, 3) := by decide +kernel
theorem dX5_kinds_72 : decode cX5_kinds 72 = .ok (.goto (-35), 3) := by decide +kernel
theorem dX5_kinds_75 : decode cX5_kinds 75 = .ok (.iload 4, 2) := by decide +kernel
theorem dX5_kinds_77 : decode cX5_kinds 77 = .ok (.ireturn, 1) := by decide +kernel
theorem dX5_nights_0 : decode cX5_nights 0 = .ok (.iload_n 1, 1) := by decide +kernel
theorem dX5_nights_1 : decode cX5_nights 1 = .ok (.iconst 1, 1) := by decide +kernel
theorem dX5_nights_2 : decode cX5_nights 2 = .ok (.if_icmp .lt 9, 3) := by decide +kernel
theorem dX5_nights_5 : decode cX5_nights 5 = .ok (.iload_n 1, 1) := by decide +kernel
theorem dX5_nights_6 : decode cX5_nights 6 = .ok (.bipush 20, 2) := by decide +kernel
theorem dX5_nights_8 : decode cX5_nights 8 = .ok (.if_icmp .le 10, 3) := by decide +kernel
theorem dX5_nights_11 : decode cX5_nights 11 = .ok (.aload_n 0, 1) := by decide +kernel
theorem dX5_nights_12 : decode cX5_nights 12 = .ok (.ldc 54, 2) := by decide +kernel
theorem dX5_nights_14 : decode cX5_nights 14 = .ok (.invokevirtual 55, 3) := by decide +kernel
theorem dX5_nights_17 : decode cX5_nights 17 = .ok (.ireturn, 1) := by decide +kernel
theorem dX5_nights_18 : decode cX5_nights 18 = .ok (.aload_n 0, 1) := by decide +kernel
theorem dX5_nights_19 : decode cX5_nights 19 = .ok (.getfield 12, 3) := by decide +kernel
theorem dX5_nights_22 : decode cX5_nights 22 = .ok (.getfield 59, 3) := by decide +kernel
theorem dX5_nights_25 : decode cX5_nights 25 = .ok (.getfield 129, 3) := by decide +kernel
theorem dX5_nights_28 : decode cX5_nights 28 = .ok (.iload_n 1, 1) := by decide +kernel
theorem dX5_nights_29 : decode cX5_nights 29 = .ok (.iadd, 1) := by decide +kernel
theorem dX5_nights_30 : decode cX5_nights 30 = .ok (.ldc 132, 2) := by decide +kernel
theorem dX5_nights_32 : decode cX5_nights 32 = .ok (.if_icmp .le 10, 3) := by decide +kernel
theorem dX5_nights_35 : decode cX5_nights 35 = .ok (.aload_n 0, 1) := by decide +kernel
theorem dX5_nights_36 : decode cX5_nights 36 = .ok (.ldc 133, 2) := by decide +kernel
theorem dX5_nights_38 : decode cX5_nights 38 = .ok (.invokevirtual 55, 3) := by decide +kernel
theorem dX5_nights_41 : decode cX5_nights 41 = .ok (.ireturn, 1) := by decide +kernel
theorem dX5_nights_42 : decode cX5_nights 42 = .ok (.iconst 0, 1) := by decide +kernel
theorem dX5_nights_43 : decode cX5_nights 43 = .ok (.istore_n 2, 1) := by decide +kernel
theorem dX5_nights_44 : decode cX5_nights 44 = .ok (.iload_n 2, 1) := by decide +kernel
theorem dX5_nights_45 : decode cX5_nights 45 = .ok (.iload_n 1, 1) := by decide +kernel
theorem dX5_nights_46 : decode cX5_nights 46 = .ok (.if_icmp .ge 50, 3) := by decide +kernel
theorem dX5_nights_49 : decode cX5_nights 49 = .ok (.aload_n 0, 1) := by decide +kernel
theorem dX5_nights_50 : decode cX5_nights 50 = .ok (.getfield 12, 3) := by decide +kernel
theorem dX5_nights_53 : decode cX5_nights 53 = .ok (.invokevirtual 216, 3) := by decide +kernel
theorem dX5_nights_56 : decode cX5_nights 56 = .ok (.bipush 8, 2) := by decide +kernel
theorem dX5_nights_58 : decode cX5_nights 58 = .ok (.irem, 1) := by decide +kernel
theorem dX5_nights_59 : decode cX5_nights 59 = .ok (.istore_n 3, 1) := by decide +kernel
theorem dX5_nights_60 : decode cX5_nights 60 = .ok (.aload_n 0, 1) := by decide +kernel
theorem dX5_nights_61 : decode cX5_nights 61 = .ok (.getfield 12, 3) := by decide +kernel
theorem dX5_nights_64 : decode cX5_nights 64 = .ok (.getfield 59, 3) := by decide +kernel
theorem dX5_nights_67 : decode cX5_nights 67 = .ok (.getfield 68, 3) := by decide +kernel
theorem dX5_nights_70 : decode cX5_nights 70 = .ok (.iload_n 3, 1) := by decide +kernel
theorem dX5_nights_71 : decode cX5_nights 71 = .ok (.aload_n 0, 1) := by decide +kernel
theorem dX5_nights_72 : decode cX5_nights 72 = .ok (.getfield 12, 3) := by decide +kernel
theorem dX5_nights_75 : decode cX5_nights 75 = .ok (.invokevirtual 216, 3) := by decide +kernel
theorem dX5_nights_78 : decode cX5_nights 78 = .ok (.bipush 40, 2) := by decide +kernel
theorem dX5_nights_80 : decode cX5_nights 80 = .ok (.irem, 1) := by decide +kernel
theorem dX5_nights_81 : decode cX5_nights 81 = .ok (.iastore, 1) := by decide +kernel
theorem dX5_nights_82 : decode cX5_nights 82 = .ok (.aload_n 0, 1) := by decide +kernel
theorem dX5_nights_83 : decode cX5_nights 83 = .ok (.getfield 12, 3) := by decide +kernel
theorem dX5_nights_86 : decode cX5_nights 86 = .ok (.iconst 1, 1) := by decide +kernel
theorem dX5_nights_87 : decode cX5_nights 87 = .ok (.invokevirtual 134, 3) := by decide +kernel
theorem dX5_nights_90 : decode cX5_nights 90 = .ok (.iinc 2 1, 3) := by decide +kernel
theorem dX5_nights_93 : decode cX5_nights 93 = .ok (.goto (-49), 3) := by decide +kernel
theorem dX5_nights_96 : decode cX5_nights 96 = .ok (.aload_n 0, 1) := by decide +kernel
theorem dX5_nights_97 : decode cX5_nights 97 = .ok (.getfield 12, 3) := by decide +kernel
theorem dX5_nights_100 : decode cX5_nights 100 = .ok (.invokevirtual 137, 3) := by decide +kernel
theorem dX5_nights_103 : decode cX5_nights 103 = .ok (.invokestatic 183, 3) := by decide +kernel
theorem dX5_nights_106 : decode cX5_nights 106 = .ok (.ireturn, 1) := by decide +kernel
theorem dX5_odds_0 : decode cX5_odds 0 = .ok (.iload_n 1, 1) := by decide +kernel
theorem dX5_odds_1 : decode cX5_odds 1 = .ok (.bipush 20, 2) := by decide +kernel
theorem dX5_odds_3 : decode cX5_odds 3 = .ok (.invokestatic 50, 3) := by decide +kernel
theorem dX5_odds_6 : decode cX5_odds 6 = .ok (.ifCond .ne 11, 3) := by decide +kernel
theorem dX5_odds_9 : decode cX5_odds 9 = .ok (.iload_n 2, 1) := by decide +kernel
theorem dX5_odds_10 : decode cX5_odds 10 = .ok (.iconst 1, 1) := by decide +kernel
theorem dX5_odds_11 : decode cX5_odds 11 = .ok (.invokestatic 50, 3) := by decide +kernel
theorem dX5_odds_14 : decode cX5_odds 14 = .ok (.ifCond .eq 11, 3) := by decide +kernel
theorem dX5_odds_17 : decode cX5_odds 17 = .ok (.aload_n 0, 1) := by decide +kernel
theorem dX5_odds_18 : decode cX5_odds 18 = .ok (.ldc 54, 2) := by decide +kernel
theorem dX5_odds_20 : decode cX5_odds 20 = .ok (.invokevirtual 55, 3) := by decide +kernel
theorem dX5_odds_23 : decode cX5_odds 23 = .ok (.i2l, 1) := by decide +kernel
theorem dX5_odds_24 : decode cX5_odds 24 = .ok (.lreturn, 1) := by decide +kernel
theorem dX5_odds_25 : decode cX5_odds 25 = .ok (.aload_n 0, 1) := by decide +kernel
theorem dX5_odds_26 : decode cX5_odds 26 = .ok (.getfield 12, 3) := by decide +kernel
theorem dX5_odds_29 : decode cX5_odds 29 = .ok (.getfield 59, 3) := by decide +kernel
theorem dX5_odds_32 : decode cX5_odds 32 = .ok (.invokevirtual 219, 3) := by decide +kernel
theorem dX5_odds_35 : decode cX5_odds 35 = .ok (.istore_n 3, 1) := by decide +kernel
theorem dX5_odds_36 : decode cX5_odds 36 = .ok (.iload_n 3, 1) := by decide +kernel
theorem dX5_odds_37 : decode cX5_odds 37 = .ok (.invokestatic 222, 3) := by decide +kernel
theorem dX5_odds_40 : decode cX5_odds 40 = .ok (.istore 4, 2) := by decide +kernel
theorem dX5_odds_42 : decode cX5_odds 42 = .ok (.iload_n 2, 1) := by decide +kernel
theorem dX5_odds_43 : decode cX5_odds 43 = .ok (.ifCond .ne 10, 3) := by decide +kernel
theorem dX5_odds_46 : decode cX5_odds 46 = .ok (.iload_n 3, 1) := by decide +kernel
theorem dX5_odds_47 : decode cX5_odds 47 = .ok (.iload 4, 2) := by decide +kernel
theorem dX5_odds_49 : decode cX5_odds 49 = .ok (.idiv, 1) := by decide +kernel
theorem dX5_odds_50 : decode cX5_odds 50 = .ok (.goto 8, 3) := by decide +kernel
theorem dX5_odds_53 : decode cX5_odds 53 = .ok (.bipush 8, 2) := by decide +kernel
theorem dX5_odds_55 : decode cX5_odds 55 = .ok (.iload 4, 2) := by decide +kernel
theorem dX5_odds_57 : decode cX5_odds 57 = .ok (.idiv, 1) := by decide +kernel
theorem dX5_odds_58 : decode cX5_odds 58 = .ok (.iload_n 1, 1) := by decide +kernel
theorem dX5_odds_59 : decode cX5_odds 59 = .ok (.invokestatic 225, 3) := by decide +kernel
theorem dX5_odds_62 : decode cX5_odds 62 = .ok (.lreturn, 1) := by decide +kernel
theorem dX5_seed_0 : decode cX5_seed 0 = .ok (.aload_n 0, 1) := by decide +kernel
theorem dX5_seed_1 : decode cX5_seed 1 = .ok (.getfield 12, 3) := by decide +kernel
theorem dX5_seed_4 : decode cX5_seed 4 = .ok (.getfield 229, 3) := by decide +kernel
theorem dX5_seed_7 : decode cX5_seed 7 = .ok (.istore_n 2, 1) := by decide +kernel
theorem dX5_seed_8 : decode cX5_seed 8 = .ok (.aload_n 0, 1) := by decide +kernel
theorem dX5_seed_9 : decode cX5_seed 9 = .ok (.getfield 12, 3) := by decide +kernel
theorem dX5_seed_12 : decode cX5_seed 12 = .ok (.iload_n 1, 1) := by decide +kernel
theorem dX5_seed_13 : decode cX5_seed 13 = .ok (.putfield 229, 3) := by decide +kernel
theorem dX5_seed_16 : decode cX5_seed 16 = .ok (.iload_n 2, 1) := by decide +kernel
theorem dX5_seed_17 : decode cX5_seed 17 = .ok (.ireturn, 1) := by decide +kernel
theorem dX5_feed_0 : decode cX5_feed 0 = .ok (.iload_n 2, 1) := by decide +kernel
theorem dX5_feed_1 : decode cX5_feed 1 = .ok (.iconst 1, 1) := by decide +kernel
theorem dX5_feed_2 : decode cX5_feed 2 = .ok (.if_icmp .lt 8, 3) := by decide +kernel
theorem dX5_feed_5 : decode cX5_feed 5 = .ok (.iload_n 2, 1) := by decide +kernel
theorem dX5_feed_6 : decode cX5_feed 6 = .ok (.iconst 4, 1) := by decide +kernel
theorem dX5_feed_7 : decode cX5_feed 7 = .ok (.if_icmp .le 10, 3) := by decide +kernel
theorem dX5_feed_10 : decode cX5_feed 10 = .ok (.aload_n 0, 1) := by decide +kernel
theorem dX5_feed_11 : decode cX5_feed 11 = .ok (.ldc 54, 2) := by decide +kernel
theorem dX5_feed_13 : decode cX5_feed 13 = .ok (.invokevirtual 55, 3) := by decide +kernel
theorem dX5_feed_16 : decode cX5_feed 16 = .ok (.ireturn, 1) := by decide +kernel
theorem dX5_feed_17 : decode cX5_feed 17 = .ok (.aload_n 0, 1) := by decide +kernel
theorem dX5_feed_18 : decode cX5_feed 18 = .ok (.getfield 39, 3) := by decide +kernel
theorem dX5_feed_21 : decode cX5_feed 21 = .ok (.getfield 232, 3) := by decide +kernel
theorem dX5_feed_24 : decode cX5_feed 24 = .ok (.iload_n 2, 1) := by decide +kernel
theorem dX5_feed_25 : decode cX5_feed 25 = .ok (.iadd, 1) := by decide +kernel
theorem dX5_feed_26 : decode cX5_feed 26 = .ok (.bipush 120, 2) := by decide +kernel
theorem dX5_feed_28 : decode cX5_feed 28 = .ok (.if_icmp .le 10, 3) := by decide +kernel
theorem dX5_feed_31 : decode cX5_feed 31 = .ok (.aload_n 0, 1) := by decide +kernel
theorem dX5_feed_32 : decode cX5_feed 32 = .ok (.ldc 83, 2) := by decide +kernel
theorem dX5_feed_34 : decode cX5_feed 34 = .ok (.invokevirtual 55, 3) := by decide +kernel
theorem dX5_feed_37 : decode cX5_feed 37 = .ok (.ireturn, 1) := by decide +kernel
theorem dX5_feed_38 : decode cX5_feed 38 = .ok (.iload_n 2, 1) := by decide +kernel
theorem dX5_feed_39 : decode cX5_feed 39 = .ok (.iconst 1, 1) := by decide +kernel
theorem dX5_feed_40 : decode cX5_feed 40 = .ok (.isub, 1) := by decide +kernel
theorem dX5_feed_41 : decode cX5_feed 41 = .ok (.istore_n 3, 1) := by decide +kernel
theorem dX5_feed_42 : decode cX5_feed 42 = .ok (.iload_n 3, 1) := by decide +kernel
theorem dX5_feed_43 : decode cX5_feed 43 = .ok (.ifCond .lt 26, 3) := by decide +kernel
theorem dX5_feed_46 : decode cX5_feed 46 = .ok (.aload_n 0, 1) := by decide +kernel
theorem dX5_feed_47 : decode cX5_feed 47 = .ok (.getfield 39, 3) := by decide +kernel
theorem dX5_feed_50 : decode cX5_feed 50 = .ok (.iload_n 1, 1) := by decide +kernel
theorem dX5_feed_51 : decode cX5_feed 51 = .ok (.bipush 8, 2) := by decide +kernel
theorem dX5_feed_53 : decode cX5_feed 53 = .ok (.iload_n 3, 1) := by decide +kernel
theorem dX5_feed_54 : decode cX5_feed 54 = .ok (.imul, 1) := by decide +kernel
theorem dX5_feed_55 : decode cX5_feed 55 = .ok (.iushr, 1) := by decide +kernel
theorem dX5_feed_56 : decode cX5_feed 56 = .ok (.sipush 255, 3) := by decide +kernel
theorem dX5_feed_59 : decode cX5_feed 59 = .ok (.iand, 1) := by decide +kernel
theorem dX5_feed_60 : decode cX5_feed 60 = .ok (.invokevirtual 235, 3) := by decide +kernel
theorem dX5_feed_63 : decode cX5_feed 63 = .ok (.iinc 3 (-1), 3) := by decide +kernel
theorem dX5_feed_66 : decode cX5_feed 66 = .ok (.goto (-24), 3) := by decide +kernel
theorem dX5_feed_69 : decode cX5_feed 69 = .ok (.aload_n 0, 1) := by decide +kernel
theorem dX5_feed_70 : decode cX5_feed 70 = .ok (.getfield 39, 3) := by decide +kernel
theorem dX5_feed_73 : decode cX5_feed 73 = .ok (.getfield 232, 3) := by decide +kernel
theorem dX5_feed_76 : decode cX5_feed 76 = .ok (.ireturn, 1) := by decide +kernel
theorem dX5_wipe_0 : decode cX5_wipe 0 = .ok (.aload_n 0, 1) := by decide +kernel
theorem dX5_wipe_1 : decode cX5_wipe 1 = .ok (.getfield 39, 3) := by decide +kernel
theorem dX5_wipe_4 : decode cX5_wipe 4 = .ok (.getfield 232, 3) := by decide +kernel
theorem dX5_wipe_7 : decode cX5_wipe 7 = .ok (.istore_n 1, 1) := by decide +kernel
theorem dX5_wipe_8 : decode cX5_wipe 8 = .ok (.aload_n 0, 1) := by decide +kernel
theorem dX5_wipe_9 : decode cX5_wipe 9 = .ok (.getfield 39, 3) := by decide +kernel
theorem dX5_wipe_12 : decode cX5_wipe 12 = .ok (.iconst 0, 1) := by decide +kernel
theorem dX5_wipe_13 : decode cX5_wipe 13 = .ok (.putfield 232, 3) := by decide +kernel
theorem dX5_wipe_16 : decode cX5_wipe 16 = .ok (.iload_n 1, 1) := by decide +kernel
theorem dX5_wipe_17 : decode cX5_wipe 17 = .ok (.ireturn, 1) := by decide +kernel
theorem dX5_text_0 : decode cX5_text 0 = .ok (.aload_n 0, 1) := by decide +kernel
theorem dX5_text_1 : decode cX5_text 1 = .ok (.getfield 19, 3) := by decide +kernel
theorem dX5_text_4 : decode cX5_text 4 = .ok (.aload_n 0, 1) := by decide +kernel
theorem dX5_text_5 : decode cX5_text 5 = .ok (.getfield 12, 3) := by decide +kernel
theorem dX5_text_8 : decode cX5_text 8 = .ok (.invokevirtual 159, 3) := by decide +kernel
theorem dX5_text_11 : decode cX5_text 11 = .ok (.aload_n 0, 1) := by decide +kernel
theorem dX5_text_12 : decode cX5_text 12 = .ok (.getfield 39, 3) := by decide +kernel
theorem dX5_text_15 : decode cX5_text 15 = .ok (.aload_n 0, 1) := by decide +kernel
theorem dX5_text_16 : decode cX5_text 16 = .ok (.getfield 19, 3) := by decide +kernel
theorem dX5_text_19 : decode cX5_text 19 = .ok (.invokevirtual 238, 3) := by decide +kernel
theorem dX5_text_22 : decode cX5_text 22 = .ok (.istore_n 1, 1) := by decide +kernel
theorem dX5_text_23 : decode cX5_text 23 = .ok (.aload_n 0, 1) := by decide +kernel
theorem dX5_text_24 : decode cX5_text 24 = .ok (.getfield 39, 3) := by decide +kernel
theorem dX5_text_27 : decode cX5_text 27 = .ok (.iconst 0, 1) := by decide +kernel
theorem dX5_text_28 : decode cX5_text 28 = .ok (.putfield 232, 3) := by decide +kernel
theorem dX5_text_31 : decode cX5_text 31 = .ok (.aload_n 0, 1) := by decide +kernel
theorem dX5_text_32 : decode cX5_text 32 = .ok (.getfield 39, 3) := by decide +kernel
theorem dX5_text_35 : decode cX5_text 35 = .ok (.invokevirtual 242, 3) := by decide +kernel
theorem dX5_text_38 : decode cX5_text 38 = .ok (.ifCond .eq 13, 3) := by decide +kernel
theorem dX5_text_41 : decode cX5_text 41 = .ok (.iconst (-1), 1) := by decide +kernel
theorem dX5_text_42 : decode cX5_text 42 = .ok (.aload_n 0, 1) := by decide +kernel
theorem dX5_text_43 : decode cX5_text 43 = .ok (.getfield 39, 3) := by decide +kernel
theorem dX5_text_46 : decode cX5_text 46 = .ok (.getfield 245, 3) := by decide +kernel
theorem dX5_text_49 : decode cX5_text 49 = .ok (.isub, 1) := by decide +kernel
theorem dX5_text_50 : decode cX5_text 50 = .ok (.ireturn, 1) := by decide +kernel
theorem dX5_text_51 : decode cX5_text 51 = .ok (.aload_n 0, 1) := by decide +kernel
theorem dX5_text_52 : decode cX5_text 52 = .ok (.getfield 12, 3) := by decide +kernel
theorem dX5_text_55 : decode cX5_text 55 = .ok (.aload_n 0, 1) := by decide +kernel
theorem dX5_text_56 : decode cX5_text 56 = .ok (.getfield 19, 3) := by decide +kernel
theorem dX5_text_59 : decode cX5_text 59 = .ok (.invokevirtual 159, 3) := by decide +kernel
theorem dX5_text_62 : decode cX5_text 62 = .ok (.iload_n 1, 1) := by decide +kernel
theorem dX5_text_63 : decode cX5_text 63 = .ok (.ireturn, 1) := by decide +kernel
theorem dX5_hold_0 : decode cX5_hold 0 = .ok (.iload_n 1, 1) := by decide +kernel
theorem dX5_hold_1 : decode cX5_hold 1 = .ok (.bipush 9, 2) := by decide +kernel
theorem dX5_hold_3 : decode cX5_hold 3 = .ok (.invokestatic 50, 3) := by decide +kernel
theorem dX5_hold_6 : decode cX5_hold 6 = .ok (.ifCond .ne 16, 3) := by decide +kernel
theorem dX5_hold_9 : decode cX5_hold 9 = .ok (.iload_n 2, 1) := by decide +kernel
theorem dX5_hold_10 : decode cX5_hold 10 = .ok (.iconst (-1), 1) := by decide +kernel
theorem dX5_hold_11 : decode cX5_hold 11 = .ok (.if_icmp .eq 18, 3) := by decide +kernel
theorem dX5_hold_14 : decode cX5_hold 14 = .ok (.aload_n 0, 1) := by decide +kernel
theorem dX5_hold_15 : decode cX5_hold 15 = .ok (.iload_n 2, 1) := by decide +kernel
theorem dX5_hold_16 : decode cX5_hold 16 = .ok (.invokevirtual 88, 3) := by decide +kernel
theorem dX5_hold_19 : decode cX5_hold 19 = .ok (.ifCond .eq 10, 3) := by decide +kernel
theorem dX5_hold_22 : decode cX5_hold 22 = .ok (.aload_n 0, 1) := by decide +kernel
theorem dX5_hold_23 : decode cX5_hold 23 = .ok (.ldc 54, 2) := by decide +kernel
theorem dX5_hold_25 : decode cX5_hold 25 = .ok (.invokevirtual 55, 3) := by decide +kernel
theorem dX5_hold_28 : decode cX5_hold 28 = .ok (.ireturn, 1) := by decide +kernel
theorem dX5_hold_29 : decode cX5_hold 29 = .ok (.aload_n 0, 1) := by decide +kernel
theorem dX5_hold_30 : decode cX5_hold 30 = .ok (.getfield 12, 3) := by decide +kernel
theorem dX5_hold_33 : decode cX5_hold 33 = .ok (.getfield 248, 3) := by decide +kernel
theorem dX5_hold_36 : decode cX5_hold 36 = .ok (.iload_n 1, 1) := by decide +kernel
theorem dX5_hold_37 : decode cX5_hold 37 = .ok (.iload_n 2, 1) := by decide +kernel
theorem dX5_hold_38 : decode cX5_hold 38 = .ok (.iastore, 1) := by decide +kernel
theorem dX5_hold_39 : decode cX5_hold 39 = .ok (.iconst 1, 1) := by decide +kernel
theorem dX5_hold_40 : decode cX5_hold 40 = .ok (.ireturn, 1) := by decide +kernel
theorem dX5_as_0 : decode cX5_as 0 = .ok (.iload_n 1, 1) := by decide +kernel
theorem dX5_as_1 : decode cX5_as 1 = .ok (.bipush 9, 2) := by decide +kernel
theorem dX5_as_3 : decode cX5_as 3 = .ok (.invokestatic 50, 3) := by decide +kernel
theorem dX5_as_6 : decode cX5_as 6 = .ok (.ifCond .ne 12, 3) := by decide +kernel
theorem dX5_as_9 : decode cX5_as 9 = .ok (.iload_n 2, 1) := by decide +kernel
theorem dX5_as_10 : decode cX5_as 10 = .ok (.bipush 6, 2) := by decide +kernel
theorem dX5_as_12 : decode cX5_as 12 = .ok (.invokestatic 50, 3) := by decide +kernel
theorem dX5_as_15 : decode cX5_as 15 = .ok (.ifCond .eq 10, 3) := by decide +kernel
theorem dX5_as_18 : decode cX5_as 18 = .ok (.aload_n 0, 1) := by decide +kernel
theorem dX5_as_19 : decode cX5_as 19 = .ok (.ldc 54, 2) := by decide +kernel
theorem dX5_as_21 : decode cX5_as 21 = .ok (.invokevirtual 55, 3) := by decide +kernel
theorem dX5_as_24 : decode cX5_as 24 = .ok (.ireturn, 1) := by decide +kernel
theorem dX5_as_25 : decode cX5_as 25 = .ok (.aload_n 0, 1) := by decide +kernel
theorem dX5_as_26 : decode cX5_as 26 = .ok (.getfield 12, 3) := by decide +kernel
theorem dX5_as_29 : decode cX5_as 29 = .ok (.getfield 248, 3) := by decide +kernel
theorem dX5_as_32 : decode cX5_as 32 = .ok (.iload_n 1, 1) := by decide +kernel
theorem dX5_as_33 : decode cX5_as 33 = .ok (.iaload, 1) := by decide +kernel
theorem dX5_as_34 : decode cX5_as 34 = .ok (.istore_n 3, 1) := by decide +kernel
theorem dX5_as_35 : decode cX5_as 35 = .ok (.aload_n 0, 1) := by decide +kernel
theorem dX5_as_36 : decode cX5_as 36 = .ok (.iload_n 3, 1) := by decide +kernel
theorem dX5_as_37 : decode cX5_as 37 = .ok (.invokevirtual 88, 3) := by decide +kernel
theorem dX5_as_40 : decode cX5_as 40 = .ok (.ifCond .eq 10, 3) := by decide +kernel
theorem dX5_as_43 : decode cX5_as 43 = .ok (.aload_n 0, 1) := by decide +kernel
theorem dX5_as_44 : decode cX5_as 44 = .ok (.ldc 251, 2) := by decide +kernel
theorem dX5_as_46 : decode cX5_as 46 = .ok (.invokevirtual 55, 3) := by decide +kernel
theorem dX5_as_49 : decode cX5_as 49 = .ok (.ireturn, 1) := by decide +kernel
theorem dX5_as_50 : decode cX5_as 50 = .ok (.aload_n 0, 1) := by decide +kernel
theorem dX5_as_51 : decode cX5_as 51 = .ok (.getfield 12, 3) := by decide +kernel
theorem dX5_as_54 : decode cX5_as 54 = .ok (.getfield 92, 3) := by decide +kernel
theorem dX5_as_57 : decode cX5_as 57 = .ok (.iload_n 3, 1) := by decide +kernel
theorem dX5_as_58 : decode cX5_as 58 = .ok (.aaload, 1) := by decide +kernel
theorem dX5_as_59 : decode cX5_as 59 = .ok (.iload_n 2, 1) := by decide +kernel
theorem dX5_as_60 : decode cX5_as 60 = .ok (.invokevirtual 252, 3) := by decide +kernel
theorem dX5_as_63 : decode cX5_as 63 = .ok (.ifCond .eq 7, 3) := by decide +kernel
theorem dX5_as_66 : decode cX5_as 66 = .ok (.iload_n 3, 1) := by decide +kernel
theorem dX5_as_67 : decode cX5_as 67 = .ok (.goto 9, 3) := by decide +kernel
theorem dX5_as_70 : decode cX5_as 70 = .ok (.aload_n 0, 1) := by decide +kernel
theorem dX5_as_71 : decode cX5_as 71 = .ok (.ldc 255, 2) := by decide +kernel
theorem dX5_as_73 : decode cX5_as 73 = .ok (.invokevirtual 55, 3) := by decide +kernel
theorem dX5_as_76 : decode cX5_as 76 = .ok (.ireturn, 1) := by decide +kernel
theorem dX5_sheet_0 : decode cX5_sheet 0 = .ok (.iload_n 1, 1) := by decide +kernel
theorem dX5_sheet_1 : decode cX5_sheet 1 = .ok (.iconst 3, 1) := by decide +kernel
theorem dX5_sheet_2 : decode cX5_sheet 2 = .ok (.invokestatic 50, 3) := by decide +kernel
theorem dX5_sheet_5 : decode cX5_sheet 5 = .ok (.ifCond .ne 25, 3) := by decide +kernel
theorem dX5_sheet_8 : decode cX5_sheet 8 = .ok (.iload_n 2, 1) := by decide +kernel
theorem dX5_sheet_9 : decode cX5_sheet 9 = .ok (.ifCond .eq 28, 3) := by decide +kernel
theorem dX5_sheet_12 : decode cX5_sheet 12 = .ok (.iload_n 2, 1) := by decide +kernel
theorem dX5_sheet_13 : decode cX5_sheet 13 = .ok (.bipush 8, 2) := by decide +kernel
theorem dX5_sheet_15 : decode cX5_sheet 15 = .ok (.if_icmp .eq 22, 3) := by decide +kernel
theorem dX5_sheet_18 : decode cX5_sheet 18 = .ok (.iload_n 2, 1) := by decide +kernel
theorem dX5_sheet_19 : decode cX5_sheet 19 = .ok (.bipush 16, 2) := by decide +kernel
theorem dX5_sheet_21 : decode cX5_sheet 21 = .ok (.if_icmp .eq 16, 3) := by decide +kernel
theorem dX5_sheet_24 : decode cX5_sheet 24 = .ok (.iload_n 2, 1) := by decide +kernel
theorem dX5_sheet_25 : decode cX5_sheet 25 = .ok (.bipush 32, 2) := by decide +kernel
theorem dX5_sheet_27 : decode cX5_sheet 27 = .ok (.if_icmp .eq 10, 3) := by decide +kernel
theorem dX5_sheet_30 : decode cX5_sheet 30 = .ok (.aload_n 0, 1) := by decide +kernel
theorem dX5_sheet_31 : decode cX5_sheet 31 = .ok (.ldc 54, 2) := by decide +kernel
theorem dX5_sheet_33 : decode cX5_sheet 33 = .ok (.invokevirtual 55, 3) := by decide +kernel
theorem dX5_sheet_36 : decode cX5_sheet 36 = .ok (.ireturn, 1) := by decide +kernel
theorem dX5_sheet_37 : decode cX5_sheet 37 = .ok (.iload_n 3, 1) := by decide +kernel
theorem dX5_sheet_38 : decode cX5_sheet 38 = .ok (.ifCond .ge 11, 3) := by decide +kernel
theorem dX5_sheet_41 : decode cX5_sheet 41 = .ok (.aload_n 0, 1) := by decide +kernel
theorem dX5_sheet_42 : decode cX5_sheet 42 = .ok (.ldc_w 256, 3) := by decide +kernel
theorem dX5_sheet_45 : decode cX5_sheet 45 = .ok (.invokevirtual 55, 3) := by decide +kernel
theorem dX5_sheet_48 : decode cX5_sheet 48 = .ok (.ireturn, 1) := by decide +kernel
theorem dX5_sheet_49 : decode cX5_sheet 49 = .ok (.iload_n 3, 1) := by decide +kernel
theorem dX5_sheet_50 : decode cX5_sheet 50 = .ok (.bipush 40, 2) := by decide +kernel
theorem dX5_sheet_52 : decode cX5_sheet 52 = .ok (.if_icmp .le 10, 3) := by decide +kernel
theorem dX5_sheet_55 : decode cX5_sheet 55 = .ok (.aload_n 0, 1) := by decide +kernel
theorem dX5_sheet_56 : decode cX5_sheet 56 = .ok (.ldc 54, 2) := by decide +kernel
theorem dX5_sheet_58 : decode cX5_sheet 58 = .ok (.invokevirtual 55, 3) := by decide +kernel
theorem dX5_sheet_61 : decode cX5_sheet 61 = .ok (.ireturn, 1) := by decide +kernel
theorem dX5_sheet_62 : decode cX5_sheet 62 = .ok (.aload_n 0, 1) := by decide +kernel
theorem dX5_sheet_63 : decode cX5_sheet 63 = .ok (.getfield 32, 3) := by decide +kernel
theorem dX5_sheet_66 : decode cX5_sheet 66 = .ok (.iload_n 1, 1) := by decide +kernel
theorem dX5_sheet_67 : decode cX5_sheet 67 = .ok (.aaload, 1) := by decide +kernel
theorem dX5_sheet_68 : decode cX5_sheet 68 = .ok (.iload_n 2, 1) := by decide +kernel
theorem dX5_sheet_69 : decode cX5_sheet 69 = .ok (.iload_n 3, 1) := by decide +kernel
theorem dX5_sheet_70 : decode cX5_sheet 70 = .ok (.invokevirtual 257, 3) := by decide +kernel
theorem dX5_sheet_73 : decode cX5_sheet 73 = .ok (.aload_n 0, 1) := by decide +kernel
theorem dX5_sheet_74 : decode cX5_sheet 74 = .ok (.getfield 32, 3) := by decide +kernel
theorem dX5_sheet_77 : decode cX5_sheet 77 = .ok (.iload_n 1, 1) := by decide +kernel
theorem dX5_sheet_78 : decode cX5_sheet 78 = .ok (.aaload, 1) := by decide +kernel
theorem dX5_sheet_79 : decode cX5_sheet 79 = .ok (.getfield 261, 3) := by decide +kernel
theorem dX5_sheet_82 : decode cX5_sheet 82 = .ok (.ireturn, 1) := by decide +kernel
theorem dX5_write_0 : decode cX5_write 0 = .ok (.aload_n 0, 1) := by decide +kernel
theorem dX5_write_1 : decode cX5_write 1 = .ok (.iload_n 1, 1) := by decide +kernel
theorem dX5_write_2 : decode cX5_write 2 = .ok (.invokevirtual 209, 3) := by decide +kernel
theorem dX5_write_5 : decode cX5_write 5 = .ok (.istore 4, 2) := by decide +kernel
theorem dX5_write_7 : decode cX5_write 7 = .ok (.iload 4, 2) := by decide +kernel
theorem dX5_write_9 : decode cX5_write 9 = .ok (.ifCond .eq 10, 3) := by decide +kernel
theorem dX5_write_12 : decode cX5_write 12 = .ok (.aload_n 0, 1) := by decide +kernel
theorem dX5_write_13 : decode cX5_write 13 = .ok (.iload 4, 2) := by decide +kernel
theorem dX5_write_15 : decode cX5_write 15 = .ok (.invokevirtual 55, 3) := by decide +kernel
theorem dX5_write_18 : decode cX5_write 18 = .ok (.ireturn, 1) := by decide +kernel
theorem dX5_write_19 : decode cX5_write 19 = .ok (.iload_n 2, 1) := by decide +kernel
theorem dX5_write_20 : decode cX5_write 20 = .ok (.aload_n 0, 1) := by decide +kernel
theorem dX5_write_21 : decode cX5_write 21 = .ok (.getfield 32, 3) := by decide +kernel
theorem dX5_write_24 : decode cX5_write 24 = .ok (.iload_n 1, 1) := by decide +kernel
theorem dX5_write_25 : decode cX5_write 25 = .ok (.aaload, 1) := by decide +kernel
theorem dX5_write_26 : decode cX5_write 26 = .ok (.getfield 261, 3) := by decide +kernel
theorem dX5_write_29 : decode cX5_write 29 = .ok (.iconst 1, 1) := by decide +kernel
theorem dX5_write_30 : decode cX5_write 30 = .ok (.isub, 1) := by decide +kernel
theorem dX5_write_31 : decode cX5_write 31 = .ok (.invokestatic 50, 3) := by decide +kernel
theorem dX5_write_34 : decode cX5_write 34 = .ok (.ifCond .eq 10, 3) := by decide +kernel
theorem dX5_write_37 : decode cX5_write 37 = .ok (.aload_n 0, 1) := by decide +kernel
theorem dX5_write_38 : decode cX5_write 38 = .ok (.ldc 54, 2) := by decide +kernel
theorem dX5_write_40 : decode cX5_write 40 = .ok (.invokevirtual 55, 3) := by decide +kernel
theorem dX5_write_43 : decode cX5_write 43 = .ok (.ireturn, 1) := by decide +kernel
theorem dX5_write_44 : decode cX5_write 44 = .ok (.aload_n 0, 1) := by decide +kernel
theorem dX5_write_45 : decode cX5_write 45 = .ok (.getfield 32, 3) := by decide +kernel
theorem dX5_write_48 : decode cX5_write 48 = .ok (.iload_n 1, 1) := by decide +kernel
theorem dX5_write_49 : decode cX5_write 49 = .ok (.aaload, 1) := by decide +kernel
theorem dX5_write_50 : decode cX5_write 50 = .ok (.iload_n 2, 1) := by decide +kernel
theorem dX5_write_51 : decode cX5_write 51 = .ok (.iload_n 3, 1) := by decide +kernel
theorem dX5_write_52 : decode cX5_write 52 = .ok (.invokevirtual 264, 3) := by decide +kernel
theorem dX5_write_55 : decode cX5_write 55 = .ok (.iconst 1, 1) := by decide +kernel
theorem dX5_write_56 : decode cX5_write 56 = .ok (.ireturn, 1) := by decide +kernel
theorem dX5_copy_0 : decode cX5_copy 0 = .ok (.iload_n 1, 1) := by decide +kernel
theorem dX5_copy_1 : decode cX5_copy 1 = .ok (.iconst 3, 1) := by decide +kernel
theorem dX5_copy_2 : decode cX5_copy 2 = .ok (.invokestatic 50, 3) := by decide +kernel
theorem dX5_copy_5 : decode cX5_copy 5 = .ok (.ifCond .ne 11, 3) := by decide +kernel
theorem dX5_copy_8 : decode cX5_copy 8 = .ok (.iload_n 3, 1) := by decide +kernel
theorem dX5_copy_9 : decode cX5_copy 9 = .ok (.iconst 3, 1) := by decide +kernel
theorem dX5_copy_10 : decode cX5_copy 10 = .ok (.invokestatic 50, 3) := by decide +kernel
theorem dX5_copy_13 : decode cX5_copy 13 = .ok (.ifCond .eq 10, 3) := by decide +kernel
theorem dX5_copy_16 : decode cX5_copy 16 = .ok (.aload_n 0, 1) := by decide +kernel
theorem dX5_copy_17 : decode cX5_copy 17 = .ok (.ldc 54, 2) := by decide +kernel
theorem dX5_copy_19 : decode cX5_copy 19 = .ok (.invokevirtual 55, 3) := by decide +kernel
theorem dX5_copy_22 : decode cX5_copy 22 = .ok (.ireturn, 1) := by decide +kernel
theorem dX5_copy_23 : decode cX5_copy 23 = .ok (.aload_n 0, 1) := by decide +kernel
theorem dX5_copy_24 : decode cX5_copy 24 = .ok (.getfield 32, 3) := by decide +kernel
theorem dX5_copy_27 : decode cX5_copy 27 = .ok (.iload_n 1, 1) := by decide +kernel
theorem dX5_copy_28 : decode cX5_copy 28 = .ok (.aaload, 1) := by decide +kernel
theorem dX5_copy_29 : decode cX5_copy 29 = .ok (.astore 6, 2) := by decide +kernel
theorem dX5_copy_31 : decode cX5_copy 31 = .ok (.aload_n 0, 1) := by decide +kernel
theorem dX5_copy_32 : decode cX5_copy 32 = .ok (.getfield 32, 3) := by decide +kernel
theorem dX5_copy_35 : decode cX5_copy 35 = .ok (.iload_n 3, 1) := by decide +kernel
theorem dX5_copy_36 : decode cX5_copy 36 = .ok (.aaload, 1) := by decide +kernel
theorem dX5_copy_37 : decode cX5_copy 37 = .ok (.astore 7, 2) := by decide +kernel
theorem dX5_copy_39 : decode cX5_copy 39 = .ok (.aload 6, 2) := by decide +kernel
theorem dX5_copy_41 : decode cX5_copy 41 = .ok (.invokevirtual 266, 3) := by decide +kernel
theorem dX5_copy_44 : decode cX5_copy 44 = .ok (.ifCond .ne 11, 3) := by decide +kernel
theorem dX5_copy_47 : decode cX5_copy 47 = .ok (.aload 7, 2) := by decide +kernel
theorem dX5_copy_49 : decode cX5_copy 49 = .ok (.invokevirtual 266, 3) := by decide +kernel
theorem dX5_copy_52 : decode cX5_copy 52 = .ok (.ifCond .eq 10, 3) := by decide +kernel
theorem dX5_copy_55 : decode cX5_copy 55 = .ok (.aload_n 0, 1) := by decide +kernel
theorem dX5_copy_56 : decode cX5_copy 56 = .ok (.ldc 251, 2) := by decide +kernel
theorem dX5_copy_58 : decode cX5_copy 58 = .ok (.invokevirtual 55, 3) := by decide +kernel
theorem dX5_copy_61 : decode cX5_copy 61 = .ok (.ireturn, 1) := by decide +kernel
theorem dX5_copy_62 : decode cX5_copy 62 = .ok (.aload 6, 2) := by decide +kernel
theorem dX5_copy_64 : decode cX5_copy 64 = .ok (.getfield 269, 3) := by decide +kernel
theorem dX5_copy_67 : decode cX5_copy 67 = .ok (.aload 7, 2) := by decide +kernel
theorem dX5_copy_69 : decode cX5_copy 69 = .ok (.getfield 269, 3) := by decide +kernel
theorem dX5_copy_72 : decode cX5_copy 72 = .ok (.if_icmp .eq 10, 3) := by decide +kernel
theorem dX5_copy_75 : decode cX5_copy 75 = .ok (.aload_n 0, 1) := by decide +kernel
theorem dX5_copy_76 : decode cX5_copy 76 = .ok (.ldc 255, 2) := by decide +kernel
theorem dX5_copy_78 : decode cX5_copy 78 = .ok (.invokevirtual 55, 3) := by decide +kernel
theorem dX5_copy_81 : decode cX5_copy 81 = .ok (.ireturn, 1) := by decide +kernel
theorem dX5_copy_82 : decode cX5_copy 82 = .ok (.aload 6, 2) := by decide +kernel
theorem dX5_copy_84 : decode cX5_copy 84 = .ok (.iload_n 2, 1) := by decide +kernel
theorem dX5_copy_85 : decode cX5_copy 85 = .ok (.iload 5, 2) := by decide +kernel
theorem dX5_copy_87 : decode cX5_copy 87 = .ok (.invokevirtual 272, 3) := by decide +kernel
theorem dX5_copy_90 : decode cX5_copy 90 = .ok (.ifCond .eq 15, 3) := by decide +kernel
theorem dX5_copy_93 : decode cX5_copy 93 = .ok (.aload 7, 2) := by decide +kernel
theorem dX5_copy_95 : decode cX5_copy 95 = .ok (.iload 4, 2) := by decide +kernel
theorem dX5_copy_97 : decode cX5_copy 97 = .ok (.iload 5, 2) := by decide +kernel
theorem dX5_copy_99 : decode cX5_copy 99 = .ok (.invokevirtual 272, 3) := by decide +kernel
theorem dX5_copy_102 : decode cX5_copy 102 = .ok (.ifCond .ne 10, 3) := by decide +kernel
theorem dX5_copy_105 : decode cX5_copy 105 = .ok (.aload_n 0, 1) := by decide +kernel
theorem dX5_copy_106 : decode cX5_copy 106 = .ok (.ldc 54, 2) := by decide +kernel
theorem dX5_copy_108 : decode cX5_copy 108 = .ok (.invokevirtual 55, 3) := by decide +kernel
theorem dX5_copy_111 : decode cX5_copy 111 = .ok (.ireturn, 1) := by decide +kernel
theorem dX5_copy_112 : decode cX5_copy 112 = .ok (.aload 6, 2) := by decide +kernel
theorem dX5_copy_114 : decode cX5_copy 114 = .ok (.getfield 275, 3) := by decide +kernel
theorem dX5_copy_117 : decode cX5_copy 117 = .ok (.iload_n 2, 1) := by decide +kernel
theorem dX5_copy_118 : decode cX5_copy 118 = .ok (.aload 7, 2) := by decide +kernel
theorem dX5_copy_120 : decode cX5_copy 120 = .ok (.getfield 275, 3) := by decide +kernel
theorem dX5_copy_123 : decode cX5_copy 123 = .ok (.iload 4, 2) := by decide +kernel
theorem dX5_copy_125 : decode cX5_copy 125 = .ok (.iload 5, 2) := by decide +kernel
theorem dX5_copy_127 : decode cX5_copy 127 = .ok (.invokestatic 278, 3) := by decide +kernel
theorem dX5_copy_130 : decode cX5_copy 130 = .ok (.iload 5, 2) := by decide +kernel
theorem dX5_copy_132 : decode cX5_copy 132 = .ok (.ireturn, 1) := by decide +kernel
theorem dX5_load_0 : decode cX5_load 0 = .ok (.aload_n 0, 1) := by decide +kernel
theorem dX5_load_1 : decode cX5_load 1 = .ok (.iload_n 1, 1) := by decide +kernel
theorem dX5_load_2 : decode cX5_load 2 = .ok (.invokevirtual 209, 3) := by decide +kernel
theorem dX5_load_5 : decode cX5_load 5 = .ok (.istore_n 2, 1) := by decide +kernel
theorem dX5_load_6 : decode cX5_load 6 = .ok (.iload_n 2, 1) := by decide +kernel
theorem dX5_load_7 : decode cX5_load 7 = .ok (.ifCond .eq 9, 3) := by decide +kernel
theorem dX5_load_10 : decode cX5_load 10 = .ok (.aload_n 0, 1) := by decide +kernel
theorem dX5_load_11 : decode cX5_load 11 = .ok (.iload_n 2, 1) := by decide +kernel
theorem dX5_load_12 : decode cX5_load 12 = .ok (.invokevirtual 55, 3) := by decide +kernel
theorem dX5_load_15 : decode cX5_load 15 = .ok (.ireturn, 1) := by decide +kernel
theorem dX5_load_16 : decode cX5_load 16 = .ok (.aload_n 0, 1) := by decide +kernel
theorem dX5_load_17 : decode cX5_load 17 = .ok (.getfield 32, 3) := by decide +kernel
theorem dX5_load_20 : decode cX5_load 20 = .ok (.iload_n 1, 1) := by decide +kernel
theorem dX5_load_21 : decode cX5_load 21 = .ok (.aaload, 1) := by decide +kernel
theorem dX5_load_22 : decode cX5_load 22 = .ok (.astore_n 3, 1) := by decide +kernel
theorem dX5_load_23 : decode cX5_load 23 = .ok (.iconst 0, 1) := by decide +kernel
theorem dX5_load_24 : decode cX5_load 24 = .ok (.istore 4, 2) := by decide +kernel
theorem dX5_load_26 : decode cX5_load 26 = .ok (.iload 4, 2) := by decide +kernel
theorem dX5_load_28 : decode cX5_load 28 = .ok (.aload_n 3, 1) := by decide +kernel
theorem dX5_load_29 : decode cX5_load 29 = .ok (.getfield 261, 3) := by decide +kernel
theorem dX5_load_32 : decode cX5_load 32 = .ok (.if_icmp .ge 51, 3) := by decide +kernel
theorem dX5_load_35 : decode cX5_load 35 = .ok (.iload 4, 2) := by decide +kernel
theorem dX5_load_37 : decode cX5_load 37 = .ok (.bipush 8, 2) := by decide +kernel
theorem dX5_load_39 : decode cX5_load 39 = .ok (.if_icmp .ge 44, 3) := by decide +kernel
theorem dX5_load_42 : decode cX5_load 42 = .ok (.aload_n 3, 1) := by decide +kernel
theorem dX5_load_43 : decode cX5_load 43 = .ok (.getfield 275, 3) := by decide +kernel
theorem dX5_load_46 : decode cX5_load 46 = .ok (.iload 4, 2) := by decide +kernel
theorem dX5_load_48 : decode cX5_load 48 = .ok (.iaload, 1) := by decide +kernel
theorem dX5_load_49 : decode cX5_load 49 = .ok (.bipush 99, 2) := by decide +kernel
theorem dX5_load_51 : decode cX5_load 51 = .ok (.invokestatic 50, 3) := by decide +kernel
theorem dX5_load_54 : decode cX5_load 54 = .ok (.ifCond .ne 29, 3) := by decide +kernel
theorem dX5_load_57 : decode cX5_load 57 = .ok (.aload_n 0, 1) := by decide +kernel
theorem dX5_load_58 : decode cX5_load 58 = .ok (.getfield 12, 3) := by decide +kernel
theorem dX5_load_61 : decode cX5_load 61 = .ok (.getfield 59, 3) := by decide +kernel
theorem dX5_load_64 : decode cX5_load 64 = .ok (.getfield 68, 3) := by decide +kernel
theorem dX5_load_67 : decode cX5_load 67 = .ok (.iload 4, 2) := by decide +kernel
theorem dX5_load_69 : decode cX5_load 69 = .ok (.aload_n 3, 1) := by decide +kernel
theorem dX5_load_70 : decode cX5_load 70 = .ok (.getfield 275, 3) := by decide +kernel
theorem dX5_load_73 : decode cX5_load 73 = .ok (.iload 4, 2) := by decide +kernel
theorem dX5_load_75 : decode cX5_load 75 = .ok (.iaload, 1) := by decide +kernel
theorem dX5_load_76 : decode cX5_load 76 = .ok (.iastore, 1) := by decide +kernel
theorem dX5_load_77 : decode cX5_load 77 = .ok (.iinc 4 1, 3) := by decide +kernel
theorem dX5_load_80 : decode cX5_load 80 = .ok (.goto (-54), 3) := by decide +kernel
theorem dX5_load_83 : decode cX5_load 83 = .ok (.iload 4, 2) := by decide +kernel
theorem dX5_load_85 : decode cX5_load 85 = .ok (.ireturn, 1) := by decide +kernel
theorem dX5_judge_0 : decode cX5_judge 0 = .ok (.aload_n 0, 1) := by decide +kernel
theorem dX5_judge_1 : decode cX5_judge 1 = .ok (.iload_n 1, 1) := by decide +kernel
theorem dX5_judge_2 : decode cX5_judge 2 = .ok (.invokevirtual 209, 3) := by decide +kernel
theorem dX5_judge_5 : decode cX5_judge 5 = .ok (.istore_n 2, 1) := by decide +kernel
theorem dX5_judge_6 : decode cX5_judge 6 = .ok (.iload_n 2, 1) := by decide +kernel
theorem dX5_judge_7 : decode cX5_judge 7 = .ok (.ifCond .eq 9, 3) := by decide +kernel
theorem dX5_judge_10 : decode cX5_judge 10 = .ok (.aload_n 0, 1) := by decide +kernel
theorem dX5_judge_11 : decode cX5_judge 11 = .ok (.iload_n 2, 1) := by decide +kernel
theorem dX5_judge_12 : decode cX5_judge 12 = .ok (.invokevirtual 55, 3) := by decide +kernel
theorem dX5_judge_15 : decode cX5_judge 15 = .ok (.ireturn, 1) := by decide +kernel
theorem dX5_judge_16 : decode cX5_judge 16 = .ok (.aload_n 0, 1) := by decide +kernel
theorem dX5_judge_17 : decode cX5_judge 17 = .ok (.getfield 32, 3) := by decide +kernel
theorem dX5_judge_20 : decode cX5_judge 20 = .ok (.iload_n 1, 1) := by decide +kernel
theorem dX5_judge_21 : decode cX5_judge 21 = .ok (.aaload, 1) := by decide +kernel
theorem dX5_judge_22 : decode cX5_judge 22 = .ok (.astore_n 3, 1) := by decide +kernel
theorem dX5_judge_23 : decode cX5_judge 23 = .ok (.iconst 0, 1) := by decide +kernel
theorem dX5_judge_24 : decode cX5_judge 24 = .ok (.istore 4, 2) := by decide +kernel
theorem dX5_judge_26 : decode cX5_judge 26 = .ok (.iload 4, 2) := by decide +kernel
theorem dX5_judge_28 : decode cX5_judge 28 = .ok (.aload_n 3, 1) := by decide +kernel
theorem dX5_judge_29 : decode cX5_judge 29 = .ok (.getfield 261, 3) := by decide +kernel
theorem dX5_judge_32 : decode cX5_judge 32 = .ok (.if_icmp .ge 44, 3) := by decide +kernel
theorem dX5_judge_35 : decode cX5_judge 35 = .ok (.iload 4, 2) := by decide +kernel
theorem dX5_judge_37 : decode cX5_judge 37 = .ok (.bipush 12, 2) := by decide +kernel
theorem dX5_judge_39 : decode cX5_judge 39 = .ok (.if_icmp .ge 26, 3) := by decide +kernel
theorem dX5_judge_42 : decode cX5_judge 42 = .ok (.aload_n 3, 1) := by decide +kernel
theorem dX5_judge_43 : decode cX5_judge 43 = .ok (.getfield 275, 3) := by decide +kernel
theorem dX5_judge_46 : decode cX5_judge 46 = .ok (.iload 4, 2) := by decide +kernel
theorem dX5_judge_48 : decode cX5_judge 48 = .ok (.iaload, 1) := by decide +kernel
theorem dX5_judge_49 : decode cX5_judge 49 = .ok (.aload_n 0, 1) := by decide +kernel
theorem dX5_judge_50 : decode cX5_judge 50 = .ok (.getfield 12, 3) := by decide +kernel
theorem dX5_judge_53 : decode cX5_judge 53 = .ok (.getfield 59, 3) := by decide +kernel
theorem dX5_judge_56 : decode cX5_judge 56 = .ok (.getfield 63, 3) := by decide +kernel
theorem dX5_judge_59 : decode cX5_judge 59 = .ok (.iload 4, 2) := by decide +kernel
theorem dX5_judge_61 : decode cX5_judge 61 = .ok (.iaload, 1) := by decide +kernel
theorem dX5_judge_62 : decode cX5_judge 62 = .ok (.if_icmp .eq 8, 3) := by decide +kernel
theorem dX5_judge_65 : decode cX5_judge 65 = .ok (.iconst 1, 1) := by decide +kernel
theorem dX5_judge_66 : decode cX5_judge 66 = .ok (.iload 4, 2) := by decide +kernel
theorem dX5_judge_68 : decode cX5_judge 68 = .ok (.iadd, 1) := by decide +kernel
theorem dX5_judge_69 : decode cX5_judge 69 = .ok (.ireturn, 1) := by decide +kernel
theorem dX5_judge_70 : decode cX5_judge 70 = .ok (.iinc 4 1, 3) := by decide +kernel
theorem dX5_judge_73 : decode cX5_judge 73 = .ok (.goto (-47), 3) := by decide +kernel
theorem dX5_judge_76 : decode cX5_judge 76 = .ok (.iconst 0, 1) := by decide +kernel
theorem dX5_judge_77 : decode cX5_judge 77 = .ok (.ireturn, 1) := by decide +kernel
theorem dX5_image_0 : decode cX5_image 0 = .ok (.aload_n 0, 1) := by decide +kernel
theorem dX5_image_1 : decode cX5_image 1 = .ok (.getfield 16, 3) := by decide +kernel
theorem dX5_image_4 : decode cX5_image 4 = .ok (.aload_n 0, 1) := by decide +kernel
theorem dX5_image_5 : decode cX5_image 5 = .ok (.getfield 12, 3) := by decide +kernel
theorem dX5_image_8 : decode cX5_image 8 = .ok (.invokevirtual 159, 3) := by decide +kernel
theorem dX5_image_11 : decode cX5_image 11 = .ok (.aload_n 0, 1) := by decide +kernel
theorem dX5_image_12 : decode cX5_image 12 = .ok (.iconst 1, 1) := by decide +kernel
theorem dX5_image_13 : decode cX5_image 13 = .ok (.putfield 46, 3) := by decide +kernel
theorem dX5_image_16 : decode cX5_image 16 = .ok (.iconst 1, 1) := by decide +kernel
theorem dX5_image_17 : decode cX5_image 17 = .ok (.ireturn, 1) := by decide +kernel
theorem dX5_undo_0 : decode cX5_undo 0 = .ok (.aload_n 0, 1) := by decide +kernel
theorem dX5_undo_1 : decode cX5_undo 1 = .ok (.getfield 46, 3) := by decide +kernel
theorem dX5_undo_4 : decode cX5_undo 4 = .ok (.ifCond .ne 10, 3) := by decide +kernel
theorem dX5_undo_7 : decode cX5_undo 7 = .ok (.aload_n 0, 1) := by decide +kernel
theorem dX5_undo_8 : decode cX5_undo 8 = .ok (.ldc 166, 2) := by decide +kernel
theorem dX5_undo_10 : decode cX5_undo 10 = .ok (.invokevirtual 55, 3) := by decide +kernel
theorem dX5_undo_13 : decode cX5_undo 13 = .ok (.ireturn, 1) := by decide +kernel
theorem dX5_undo_14 : decode cX5_undo 14 = .ok (.aload_n 0, 1) := by decide +kernel
theorem dX5_undo_15 : decode cX5_undo 15 = .ok (.getfield 12, 3) := by decide +kernel
theorem dX5_undo_18 : decode cX5_undo 18 = .ok (.aload_n 0, 1) := by decide +kernel
theorem dX5_undo_19 : decode cX5_undo 19 = .ok (.getfield 16, 3) := by decide +kernel
theorem dX5_undo_22 : decode cX5_undo 22 = .ok (.invokevirtual 159, 3) := by decide +kernel
theorem dX5_undo_25 : decode cX5_undo 25 = .ok (.aload_n 0, 1) := by decide +kernel
theorem dX5_undo_26 : decode cX5_undo 26 = .ok (.getfield 12, 3) := by decide +kernel
theorem dX5_undo_29 : decode cX5_undo 29 = .ok (.getfield 59, 3) := by decide +kernel
theorem dX5_undo_32 : decode cX5_undo 32 = .ok (.getfield 129, 3) := by decide +kernel
theorem dX5_undo_35 : decode cX5_undo 35 = .ok (.ireturn, 1) := by decide +kernel
theorem dX5_tear_0 : decode cX5_tear 0 = .ok (.aload_n 0, 1) := by decide +kernel
theorem dX5_tear_1 : decode cX5_tear 1 = .ok (.getfield 46, 3) := by decide +kernel
theorem dX5_tear_4 : decode cX5_tear 4 = .ok (.ifCond .eq 7, 3) := by decide +kernel
theorem dX5_tear_7 : decode cX5_tear 7 = .ok (.iconst 1, 1) := by decide +kernel
theorem dX5_tear_8 : decode cX5_tear 8 = .ok (.goto 4, 3) := by decide +kernel
theorem dX5_tear_11 : decode cX5_tear 11 = .ok (.iconst 0, 1) := by decide +kernel
theorem dX5_tear_12 : decode cX5_tear 12 = .ok (.istore_n 1, 1) := by decide +kernel
theorem dX5_tear_13 : decode cX5_tear 13 = .ok (.aload_n 0, 1) := by decide +kernel
theorem dX5_tear_14 : decode cX5_tear 14 = .ok (.iconst 0, 1) := by decide +kernel
theorem dX5_tear_15 : decode cX5_tear 15 = .ok (.putfield 46, 3) := by decide +kernel
theorem dX5_tear_18 : decode cX5_tear 18 = .ok (.iload_n 1, 1) := by decide +kernel
theorem dX5_tear_19 : decode cX5_tear 19 = .ok (.ireturn, 1) := by decide +kernel
theorem dX5_count_0 : decode cX5_count 0 = .ok (.iload_n 1, 1) := by decide +kernel
theorem dX5_count_1 : decode cX5_count 1 = .ok (.tableswitch 120 0 7 #[47, 58, 66, 77, 88, 96, 104, 112], 47) := by decide +kernel
theorem dX5_count_48 : decode cX5_count 48 = .ok (.aload_n 0, 1) := by decide +kernel
theorem dX5_count_49 : decode cX5_count 49 = .ok (.getfield 12, 3) := by decide +kernel
theorem dX5_count_52 : decode cX5_count 52 = .ok (.getfield 59, 3) := by decide +kernel
theorem dX5_count_55 : decode cX5_count 55 = .ok (.getfield 129, 3) := by decide +kernel
theorem dX5_count_58 : decode cX5_count 58 = .ok (.ireturn, 1) := by decide +kernel
theorem dX5_count_59 : decode cX5_count 59 = .ok (.aload_n 0, 1) := by decide +kernel
theorem dX5_count_60 : decode cX5_count 60 = .ok (.getfield 12, 3) := by decide +kernel
theorem dX5_count_63 : decode cX5_count 63 = .ok (.getfield 284, 3) := by decide +kernel
theorem dX5_count_66 : decode cX5_count 66 = .ok (.ireturn, 1) := by decide +kernel
theorem dX5_count_67 : decode cX5_count 67 = .ok (.aload_n 0, 1) := by decide +kernel
theorem dX5_count_68 : decode cX5_count 68 = .ok (.getfield 12, 3) := by decide +kernel
theorem dX5_count_71 : decode cX5_count 71 = .ok (.invokevirtual 137, 3) := by decide +kernel
theorem dX5_count_74 : decode cX5_count 74 = .ok (.invokestatic 183, 3) := by decide +kernel
theorem dX5_count_77 : decode cX5_count 77 = .ok (.ireturn, 1) := by decide +kernel
theorem dX5_count_78 : decode cX5_count 78 = .ok (.aload_n 0, 1) := by decide +kernel
theorem dX5_count_79 : decode cX5_count 79 = .ok (.getfield 12, 3) := by decide +kernel
theorem dX5_count_82 : decode cX5_count 82 = .ok (.getfield 59, 3) := by decide +kernel
theorem dX5_count_85 : decode cX5_count 85 = .ok (.invokevirtual 140, 3) := by decide +kernel
theorem dX5_count_88 : decode cX5_count 88 = .ok (.ireturn, 1) := by decide +kernel
theorem dX5_count_89 : decode cX5_count 89 = .ok (.aload_n 0, 1) := by decide +kernel
theorem dX5_count_90 : decode cX5_count 90 = .ok (.getfield 12, 3) := by decide +kernel
theorem dX5_count_93 : decode cX5_count 93 = .ok (.invokevirtual 149, 3) := by decide +kernel
theorem dX5_count_96 : decode cX5_count 96 = .ok (.ireturn, 1) := by decide +kernel
theorem dX5_count_97 : decode cX5_count 97 = .ok (.aload_n 0, 1) := by decide +kernel
theorem dX5_count_98 : decode cX5_count 98 = .ok (.getfield 39, 3) := by decide +kernel
theorem dX5_count_101 : decode cX5_count 101 = .ok (.getfield 232, 3) := by decide +kernel
theorem dX5_count_104 : decode cX5_count 104 = .ok (.ireturn, 1) := by decide +kernel
theorem dX5_count_105 : decode cX5_count 105 = .ok (.aload_n 0, 1) := by decide +kernel
theorem dX5_count_106 : decode cX5_count 106 = .ok (.getfield 12, 3) := by decide +kernel
theorem dX5_count_109 : decode cX5_count 109 = .ok (.getfield 229, 3) := by decide +kernel
theorem dX5_count_112 : decode cX5_count 112 = .ok (.ireturn, 1) := by decide +kernel
theorem dX5_count_113 : decode cX5_count 113 = .ok (.aload_n 0, 1) := by decide +kernel
theorem dX5_count_114 : decode cX5_count 114 = .ok (.getfield 12, 3) := by decide +kernel
theorem dX5_count_117 : decode cX5_count 117 = .ok (.invokevirtual 287, 3) := by decide +kernel
theorem dX5_count_120 : decode cX5_count 120 = .ok (.ireturn, 1) := by decide +kernel
theorem dX5_count_121 : decode cX5_count 121 = .ok (.aload_n 0, 1) := by decide +kernel
theorem dX5_count_122 : decode cX5_count 122 = .ok (.ldc 54, 2) := by decide +kernel
theorem dX5_count_124 : decode cX5_count 124 = .ok (.invokevirtual 55, 3) := by decide +kernel
theorem dX5_count_127 : decode cX5_count 127 = .ok (.ireturn, 1) := by decide +kernel
theorem dX5_status_0 : decode cX5_status 0 = .ok (.iload_n 1, 1) := by decide +kernel
theorem dX5_status_1 : decode cX5_status 1 = .ok (.iconst (-1), 1) := by decide +kernel
theorem dX5_status_2 : decode cX5_status 2 = .ok (.if_icmp .ne 11, 3) := by decide +kernel
theorem dX5_status_5 : decode cX5_status 5 = .ok (.aload_n 0, 1) := by decide +kernel
theorem dX5_status_6 : decode cX5_status 6 = .ok (.getfield 43, 3) := by decide +kernel
theorem dX5_status_9 : decode cX5_status 9 = .ok (.invokestatic 290, 3) := by decide +kernel
theorem dX5_status_12 : decode cX5_status 12 = .ok (.ireturn, 1) := by decide +kernel
theorem dX5_status_13 : decode cX5_status 13 = .ok (.iload_n 1, 1) := by decide +kernel
theorem dX5_status_14 : decode cX5_status 14 = .ok (.bipush 6, 2) := by decide +kernel
theorem dX5_status_16 : decode cX5_status 16 = .ok (.invokestatic 50, 3) := by decide +kernel
theorem dX5_status_19 : decode cX5_status 19 = .ok (.ifCond .eq 10, 3) := by decide +kernel
theorem dX5_status_22 : decode cX5_status 22 = .ok (.aload_n 0, 1) := by decide +kernel
theorem dX5_status_23 : decode cX5_status 23 = .ok (.ldc 54, 2) := by decide +kernel
theorem dX5_status_25 : decode cX5_status 25 = .ok (.invokevirtual 55, 3) := by decide +kernel
theorem dX5_status_28 : decode cX5_status 28 = .ok (.ireturn, 1) := by decide +kernel
theorem dX5_status_29 : decode cX5_status 29 = .ok (.aload_n 0, 1) := by decide +kernel
theorem dX5_status_30 : decode cX5_status 30 = .ok (.getfield 43, 3) := by decide +kernel
theorem dX5_status_33 : decode cX5_status 33 = .ok (.iload_n 1, 1) := by decide +kernel
theorem dX5_status_34 : decode cX5_status 34 = .ok (.iaload, 1) := by decide +kernel
theorem dX5_status_35 : decode cX5_status 35 = .ok (.ireturn, 1) := by decide +kernel
theorem dX5_outside_0 : decode cX5_outside 0 = .ok (.iload_n 0, 1) := by decide +kernel
theorem dX5_outside_1 : decode cX5_outside 1 = .ok (.ifCond .lt 8, 3) := by decide +kernel
theorem dX5_outside_4 : decode cX5_outside 4 = .ok (.iload_n 0, 1) := by decide +kernel
theorem dX5_outside_5 : decode cX5_outside 5 = .ok (.iload_n 1, 1) := by decide +kernel
theorem dX5_outside_6 : decode cX5_outside 6 = .ok (.if_icmp .le 7, 3) := by decide +kernel
theorem dX5_outside_9 : decode cX5_outside 9 = .ok (.iconst 1, 1) := by decide +kernel
theorem dX5_outside_10 : decode cX5_outside 10 = .ok (.goto 4, 3) := by decide +kernel
theorem dX5_outside_13 : decode cX5_outside 13 = .ok (.iconst 0, 1) := by decide +kernel
theorem dX5_outside_14 : decode cX5_outside 14 = .ok (.ireturn, 1) := by decide +kernel
theorem dX5_together_0 : decode cX5_together 0 = .ok (.iconst 0, 1) := by decide +kernel
theorem dX5_together_1 : decode cX5_together 1 = .ok (.istore_n 1, 1) := by decide +kernel
theorem dX5_together_2 : decode cX5_together 2 = .ok (.iconst 0, 1) := by decide +kernel
theorem dX5_together_3 : decode cX5_together 3 = .ok (.istore_n 2, 1) := by decide +kernel
theorem dX5_together_4 : decode cX5_together 4 = .ok (.iload_n 2, 1) := by decide +kernel
theorem dX5_together_5 : decode cX5_together 5 = .ok (.aload_n 0, 1) := by decide +kernel
theorem dX5_together_6 : decode cX5_together 6 = .ok (.arraylength, 1) := by decide +kernel
theorem dX5_together_7 : decode cX5_together 7 = .ok (.if_icmp .ge 15, 3) := by decide +kernel
theorem dX5_together_10 : decode cX5_together 10 = .ok (.iload_n 1, 1) := by decide +kernel
theorem dX5_together_11 : decode cX5_together 11 = .ok (.aload_n 0, 1) := by decide +kernel
theorem dX5_together_12 : decode cX5_together 12 = .ok (.iload_n 2, 1) := by decide +kernel
theorem dX5_together_13 : decode cX5_together 13 = .ok (.iaload, 1) := by decide +kernel
theorem dX5_together_14 : decode cX5_together 14 = .ok (.iadd, 1) := by decide +kernel
theorem dX5_together_15 : decode cX5_together 15 = .ok (.istore_n 1, 1) := by decide +kernel
theorem dX5_together_16 : decode cX5_together 16 = .ok (.iinc 2 1, 3) := by decide +kernel
theorem dX5_together_19 : decode cX5_together 19 = .ok (.goto (-15), 3) := by decide +kernel
theorem dX5_together_22 : decode cX5_together 22 = .ok (.iload_n 1, 1) := by decide +kernel
theorem dX5_together_23 : decode cX5_together 23 = .ok (.ireturn, 1) := by decide +kernel
theorem dX5_finding_0 : decode cX5_finding 0 = .ok (.ldc 54, 2) := by decide +kernel
theorem dX5_finding_2 : decode cX5_finding 2 = .ok (.iload_n 1, 1) := by decide +kernel
theorem dX5_finding_3 : decode cX5_finding 3 = .ok (.isub, 1) := by decide +kernel
theorem dX5_finding_4 : decode cX5_finding 4 = .ok (.istore_n 2, 1) := by decide +kernel
theorem dX5_finding_5 : decode cX5_finding 5 = .ok (.iload_n 2, 1) := by decide +kernel
theorem dX5_finding_6 : decode cX5_finding 6 = .ok (.ifCond .lt 19, 3) := by decide +kernel
theorem dX5_finding_9 : decode cX5_finding 9 = .ok (.iload_n 2, 1) := by decide +kernel
theorem dX5_finding_10 : decode cX5_finding 10 = .ok (.bipush 7, 2) := by decide +kernel
theorem dX5_finding_12 : decode cX5_finding 12 = .ok (.if_icmp .ge 13, 3) := by decide +kernel
theorem dX5_finding_15 : decode cX5_finding 15 = .ok (.aload_n 0, 1) := by decide +kernel
theorem dX5_finding_16 : decode cX5_finding 16 = .ok (.getfield 43, 3) := by decide +kernel
theorem dX5_finding_19 : decode cX5_finding 19 = .ok (.iload_n 2, 1) := by decide +kernel
theorem dX5_finding_20 : decode cX5_finding 20 = .ok (.dup2, 1) := by decide +kernel
theorem dX5_finding_21 : decode cX5_finding 21 = .ok (.iaload, 1) := by decide +kernel
theorem dX5_finding_22 : decode cX5_finding 22 = .ok (.iconst 1, 1) := by decide +kernel
theorem dX5_finding_23 : decode cX5_finding 23 = .ok (.iadd, 1) := by decide +kernel
theorem dX5_finding_24 : decode cX5_finding 24 = .ok (.iastore, 1) := by decide +kernel
theorem dX5_finding_25 : decode cX5_finding 25 = .ok (.iload_n 1, 1) := by decide +kernel
theorem dX5_finding_26 : decode cX5_finding 26 = .ok (.ireturn, 1) := by decide +kernel
theorem dX5_noWatcher_0 : decode cX5_noWatcher 0 = .ok (.iload_n 1, 1) := by decide +kernel
theorem dX5_noWatcher_1 : decode cX5_noWatcher 1 = .ok (.aload_n 0, 1) := by decide +kernel
theorem dX5_noWatcher_2 : decode cX5_noWatcher 2 = .ok (.getfield 12, 3) := by decide +kernel
theorem dX5_noWatcher_5 : decode cX5_noWatcher 5 = .ok (.getfield 284, 3) := by decide +kernel
theorem dX5_noWatcher_8 : decode cX5_noWatcher 8 = .ok (.iconst 1, 1) := by decide +kernel
theorem dX5_noWatcher_9 : decode cX5_noWatcher 9 = .ok (.isub, 1) := by decide +kernel
theorem dX5_noWatcher_10 : decode cX5_noWatcher 10 = .ok (.invokestatic 50, 3) := by decide +kernel
theorem dX5_noWatcher_13 : decode cX5_noWatcher 13 = .ok (.ireturn, 1) := by decide +kernel
theorem dX5_noTrial_0 : decode cX5_noTrial 0 = .ok (.aload_n 0, 1) := by decide +kernel
theorem dX5_noTrial_1 : decode cX5_noTrial 1 = .ok (.iload_n 1, 1) := by decide +kernel
theorem dX5_noTrial_2 : decode cX5_noTrial 2 = .ok (.invokevirtual 88, 3) := by decide +kernel
theorem dX5_noTrial_5 : decode cX5_noTrial 5 = .ok (.ifCond .ne 12, 3) := by decide +kernel
theorem dX5_noTrial_8 : decode cX5_noTrial 8 = .ok (.iload_n 2, 1) := by decide +kernel
theorem dX5_noTrial_9 : decode cX5_noTrial 9 = .ok (.bipush 60, 2) := by decide +kernel
theorem dX5_noTrial_11 : decode cX5_noTrial 11 = .ok (.invokestatic 50, 3) := by decide +kernel
theorem dX5_noTrial_14 : decode cX5_noTrial 14 = .ok (.ifCond .eq 7, 3) := by decide +kernel
theorem dX5_noTrial_17 : decode cX5_noTrial 17 = .ok (.iconst 1, 1) := by decide +kernel
theorem dX5_noTrial_18 : decode cX5_noTrial 18 = .ok (.goto 4, 3) := by decide +kernel
theorem dX5_noTrial_21 : decode cX5_noTrial 21 = .ok (.iconst 0, 1) := by decide +kernel
theorem dX5_noTrial_22 : decode cX5_noTrial 22 = .ok (.ireturn, 1) := by decide +kernel
theorem dX5_mostOf_0 : decode cX5_mostOf 0 = .ok (.iload_n 0, 1) := by decide +kernel
theorem dX5_mostOf_1 : decode cX5_mostOf 1 = .ok (.tableswitch 52 0 4 #[35, 38, 41, 45, 48], 35) := by decide +kernel
theorem dX5_mostOf_36 : decode cX5_mostOf 36 = .ok (.bipush 6, 2) := by decide +kernel
theorem dX5_mostOf_38 : decode cX5_mostOf 38 = .ok (.ireturn, 1) := by decide +kernel
theorem dX5_mostOf_39 : decode cX5_mostOf 39 = .ok (.bipush 11, 2) := by decide +kernel
theorem dX5_mostOf_41 : decode cX5_mostOf 41 = .ok (.ireturn, 1) := by decide +kernel
theorem dX5_mostOf_42 : decode cX5_mostOf 42 = .ok (.sipush 999, 3) := by decide +kernel
theorem dX5_mostOf_45 : decode cX5_mostOf 45 = .ok (.ireturn, 1) := by decide +kernel
theorem dX5_mostOf_46 : decode cX5_mostOf 46 = .ok (.bipush 99, 2) := by decide +kernel
theorem dX5_mostOf_48 : decode cX5_mostOf 48 = .ok (.ireturn, 1) := by decide +kernel
theorem dX5_mostOf_49 : decode cX5_mostOf 49 = .ok (.sipush 9999, 3) := by decide +kernel
theorem dX5_mostOf_52 : decode cX5_mostOf 52 = .ok (.ireturn, 1) := by decide +kernel
theorem dX5_mostOf_53 : decode cX5_mostOf 53 = .ok (.iconst (-1), 1) := by decide +kernel
theorem dX5_mostOf_54 : decode cX5_mostOf 54 = .ok (.ireturn, 1) := by decide +kernel
theorem dX5_waterTried_0 : decode cX5_waterTried 0 = .ok (.aload_n 0, 1) := by decide +kernel
theorem dX5_waterTried_1 : decode cX5_waterTried 1 = .ok (.getfield 19, 3) := by decide +kernel
theorem dX5_waterTried_4 : decode cX5_waterTried 4 = .ok (.getfield 59, 3) := by decide +kernel
theorem dX5_waterTried_7 : decode cX5_waterTried 7 = .ok (.aload_n 0, 1) := by decide +kernel
theorem dX5_waterTried_8 : decode cX5_waterTried 8 = .ok (.getfield 12, 3) := by decide +kernel
theorem dX5_waterTried_11 : decode cX5_waterTried 11 = .ok (.getfield 59, 3) := by decide +kernel
theorem dX5_waterTried_14 : decode cX5_waterTried 14 = .ok (.invokevirtual 294, 3) := by decide +kernel
theorem dX5_waterTried_17 : decode cX5_waterTried 17 = .ok (.aload_n 0, 1) := by decide +kernel
theorem dX5_waterTried_18 : decode cX5_waterTried 18 = .ok (.getfield 19, 3) := by decide +kernel
theorem dX5_waterTried_21 : decode cX5_waterTried 21 = .ok (.getfield 59, 3) := by decide +kernel
theorem dX5_waterTried_24 : decode cX5_waterTried 24 = .ok (.areturn, 1) := by decide +kernel
theorem dX5_isEnough_0 : decode cX5_isEnough 0 = .ok (.aload_n 0, 1) := by decide +kernel
theorem dX5_isEnough_1 : decode cX5_isEnough 1 = .ok (.getfield 19, 3) := by decide +kernel
theorem dX5_isEnough_4 : decode cX5_isEnough 4 = .ok (.aload_n 0, 1) := by decide +kernel
theorem dX5_isEnough_5 : decode cX5_isEnough 5 = .ok (.getfield 12, 3) := by decide +kernel
theorem dX5_isEnough_8 : decode cX5_isEnough 8 = .ok (.invokevirtual 159, 3) := by decide +kernel
theorem dX5_isEnough_11 : decode cX5_isEnough 11 = .ok (.aload_n 0, 1) := by decide +kernel
theorem dX5_isEnough_12 : decode cX5_isEnough 12 = .ok (.getfield 19, 3) := by decide +kernel
theorem dX5_isEnough_15 : decode cX5_isEnough 15 = .ok (.getfield 59, 3) := by decide +kernel
theorem dX5_isEnough_18 : decode cX5_isEnough 18 = .ok (.iload_n 1, 1) := by decide +kernel
theorem dX5_isEnough_19 : decode cX5_isEnough 19 = .ok (.invokevirtual 75, 3) := by decide +kernel
theorem dX5_isEnough_22 : decode cX5_isEnough 22 = .ok (.aload_n 0, 1) := by decide +kernel
theorem dX5_isEnough_23 : decode cX5_isEnough 23 = .ok (.getfield 19, 3) := by decide +kernel
theorem dX5_isEnough_26 : decode cX5_isEnough 26 = .ok (.getfield 59, 3) := by decide +kernel
theorem dX5_isEnough_29 : decode cX5_isEnough 29 = .ok (.iload_n 2, 1) := by decide +kernel
theorem dX5_isEnough_30 : decode cX5_isEnough 30 = .ok (.invokevirtual 156, 3) := by decide +kernel
theorem dX5_isEnough_33 : decode cX5_isEnough 33 = .ok (.aload_n 0, 1) := by decide +kernel
theorem dX5_isEnough_34 : decode cX5_isEnough 34 = .ok (.getfield 19, 3) := by decide +kernel
theorem dX5_isEnough_37 : decode cX5_isEnough 37 = .ok (.invokevirtual 146, 3) := by decide +kernel
theorem dX5_isEnough_40 : decode cX5_isEnough 40 = .ok (.ifCond .ne 7, 3) := by decide +kernel
theorem dX5_isEnough_43 : decode cX5_isEnough 43 = .ok (.iconst 1, 1) := by decide +kernel
theorem dX5_isEnough_44 : decode cX5_isEnough 44 = .ok (.goto 4, 3) := by decide +kernel
theorem dX5_isEnough_47 : decode cX5_isEnough 47 = .ok (.iconst 0, 1) := by decide +kernel
theorem dX5_isEnough_48 : decode cX5_isEnough 48 = .ok (.ireturn, 1) := by decide +kernel
theorem dX5_mostBelieving_0 : decode cX5_mostBelieving 0 = .ok (.iconst 0, 1) := by decide +kernel
theorem dX5_mostBelieving_1 : decode cX5_mostBelieving 1 = .ok (.istore 4, 2) := by decide +kernel
theorem dX5_mostBelieving_3 : decode cX5_mostBelieving 3 = .ok (.iconst (-1), 1) := by decide +kernel
theorem dX5_mostBelieving_4 : decode cX5_mostBelieving 4 = .ok (.istore 5, 2) := by decide +kernel
theorem dX5_mostBelieving_6 : decode cX5_mostBelieving 6 = .ok (.iconst 0, 1) := by decide +kernel
theorem dX5_mostBelieving_7 : decode cX5_mostBelieving 7 = .ok (.istore 6, 2) := by decide +kernel
theorem dX5_mostBelieving_9 : decode cX5_mostBelieving 9 = .ok (.iload 6, 2) := by decide +kernel
theorem dX5_mostBelieving_11 : decode cX5_mostBelieving 11 = .ok (.iload_n 2, 1) := by decide +kernel
theorem dX5_mostBelieving_12 : decode cX5_mostBelieving 12 = .ok (.invokestatic 123, 3) := by decide +kernel
theorem dX5_mostBelieving_15 : decode cX5_mostBelieving 15 = .ok (.if_icmp .gt 73, 3) := by decide +kernel
theorem dX5_mostBelieving_18 : decode cX5_mostBelieving 18 = .ok (.aload_n 0, 1) := by decide +kernel
theorem dX5_mostBelieving_19 : decode cX5_mostBelieving 19 = .ok (.getfield 19, 3) := by decide +kernel
theorem dX5_mostBelieving_22 : decode cX5_mostBelieving 22 = .ok (.aload_n 0, 1) := by decide +kernel
theorem dX5_mostBelieving_23 : decode cX5_mostBelieving 23 = .ok (.getfield 12, 3) := by decide +kernel
theorem dX5_mostBelieving_26 : decode cX5_mostBelieving 26 = .ok (.invokevirtual 159, 3) := by decide +kernel
theorem dX5_mostBelieving_29 : decode cX5_mostBelieving 29 = .ok (.aload_n 0, 1) := by decide +kernel
theorem dX5_mostBelieving_30 : decode cX5_mostBelieving 30 = .ok (.getfield 19, 3) := by decide +kernel
theorem dX5_mostBelieving_33 : decode cX5_mostBelieving 33 = .ok (.getfield 92, 3) := by decide +kernel
theorem dX5_mostBelieving_36 : decode cX5_mostBelieving 36 = .ok (.iload_n 1, 1) := by decide +kernel
theorem dX5_mostBelieving_37 : decode cX5_mostBelieving 37 = .ok (.aaload, 1) := by decide +kernel
theorem dX5_mostBelieving_38 : decode cX5_mostBelieving 38 = .ok (.iload_n 2, 1) := by decide +kernel
theorem dX5_mostBelieving_39 : decode cX5_mostBelieving 39 = .ok (.iload 6, 2) := by decide +kernel
theorem dX5_mostBelieving_41 : decode cX5_mostBelieving 41 = .ok (.invokevirtual 126, 3) := by decide +kernel
theorem dX5_mostBelieving_44 : decode cX5_mostBelieving 44 = .ok (.pop, 1) := by decide +kernel
theorem dX5_mostBelieving_45 : decode cX5_mostBelieving 45 = .ok (.aload_n 0, 1) := by decide +kernel
theorem dX5_mostBelieving_46 : decode cX5_mostBelieving 46 = .ok (.getfield 19, 3) := by decide +kernel
theorem dX5_mostBelieving_49 : decode cX5_mostBelieving 49 = .ok (.iload_n 3, 1) := by decide +kernel
theorem dX5_mostBelieving_50 : decode cX5_mostBelieving 50 = .ok (.invokevirtual 134, 3) := by decide +kernel
theorem dX5_mostBelieving_53 : decode cX5_mostBelieving 53 = .ok (.aload_n 0, 1) := by decide +kernel
theorem dX5_mostBelieving_54 : decode cX5_mostBelieving 54 = .ok (.getfield 19, 3) := by decide +kernel
theorem dX5_mostBelieving_57 : decode cX5_mostBelieving 57 = .ok (.getfield 92, 3) := by decide +kernel
theorem dX5_mostBelieving_60 : decode cX5_mostBelieving 60 = .ok (.iload_n 1, 1) := by decide +kernel
theorem dX5_mostBelieving_61 : decode cX5_mostBelieving 61 = .ok (.aaload, 1) := by decide +kernel
theorem dX5_mostBelieving_62 : decode cX5_mostBelieving 62 = .ok (.getfield 108, 3) := by decide +kernel
theorem dX5_mostBelieving_65 : decode cX5_mostBelieving 65 = .ok (.istore 7, 2) := by decide +kernel
theorem dX5_mostBelieving_67 : decode cX5_mostBelieving 67 = .ok (.iload 7, 2) := by decide +kernel
theorem dX5_mostBelieving_69 : decode cX5_mostBelieving 69 = .ok (.iload 5, 2) := by decide +kernel
theorem dX5_mostBelieving_71 : decode cX5_mostBelieving 71 = .ok (.if_icmp .le 11, 3) := by decide +kernel
theorem dX5_mostBelieving_74 : decode cX5_mostBelieving 74 = .ok (.iload 7, 2) := by decide +kernel
theorem dX5_mostBelieving_76 : decode cX5_mostBelieving 76 = .ok (.istore 5, 2) := by decide +kernel
theorem dX5_mostBelieving_78 : decode cX5_mostBelieving 78 = .ok (.iload 6, 2) := by decide +kernel
theorem dX5_mostBelieving_80 : decode cX5_mostBelieving 80 = .ok (.istore 4, 2) := by decide +kernel
theorem dX5_mostBelieving_82 : decode cX5_mostBelieving 82 = .ok (.iinc 6 1, 3) := by decide +kernel
theorem dX5_mostBelieving_85 : decode cX5_mostBelieving 85 = .ok (.goto (-76), 3) := by decide +kernel
theorem dX5_mostBelieving_88 : decode cX5_mostBelieving 88 = .ok (.iload 4, 2) := by decide +kernel
theorem dX5_mostBelieving_90 : decode cX5_mostBelieving 90 = .ok (.ireturn, 1) := by decide +kernel
theorem dX5_stir_0 : decode cX5_stir 0 = .ok (.iconst 0, 1) := by decide +kernel
theorem dX5_stir_1 : decode cX5_stir 1 = .ok (.istore_n 2, 1) := by decide +kernel
theorem dX5_stir_2 : decode cX5_stir 2 = .ok (.iload_n 2, 1) := by decide +kernel
theorem dX5_stir_3 : decode cX5_stir 3 = .ok (.bipush 12, 2) := by decide +kernel
theorem dX5_stir_5 : decode cX5_stir 5 = .ok (.if_icmp .ge 16, 3) := by decide +kernel
theorem dX5_stir_8 : decode cX5_stir 8 = .ok (.aload_n 0, 1) := by decide +kernel
theorem dX5_stir_9 : decode cX5_stir 9 = .ok (.getfield 25, 3) := by decide +kernel
theorem dX5_stir_12 : decode cX5_stir 12 = .ok (.iload_n 2, 1) := by decide +kernel
theorem dX5_stir_13 : decode cX5_stir 13 = .ok (.iconst 0, 1) := by decide +kernel
theorem dX5_stir_14 : decode cX5_stir 14 = .ok (.iastore, 1) := by decide +kernel
theorem dX5_stir_15 : decode cX5_stir 15 = .ok (.iinc 2 1, 3) := by decide +kernel
theorem dX5_stir_18 : decode cX5_stir 18 = .ok (.goto (-16), 3) := by decide +kernel
theorem dX5_stir_21 : decode cX5_stir 21 = .ok (.aload_n 0, 1) := by decide +kernel
theorem dX5_stir_22 : decode cX5_stir 22 = .ok (.invokevirtual 152, 3) := by decide +kernel
theorem dX5_stir_25 : decode cX5_stir 25 = .ok (.astore_n 2, 1) := by decide +kernel
theorem dX5_stir_26 : decode cX5_stir 26 = .ok (.iconst 1, 1) := by decide +kernel
theorem dX5_stir_27 : decode cX5_stir 27 = .ok (.istore_n 3, 1) := by decide +kernel
theorem dX5_stir_28 : decode cX5_stir 28 = .ok (.iload_n 3, 1) := by decide +kernel
theorem dX5_stir_29 : decode cX5_stir 29 = .ok (.iload_n 1, 1) := by decide +kernel
theorem dX5_stir_30 : decode cX5_stir 30 = .ok (.if_icmp .gt 58, 3) := by decide +kernel
theorem dX5_stir_33 : decode cX5_stir 33 = .ok (.aload_n 2, 1) := by decide +kernel
theorem dX5_stir_34 : decode cX5_stir 34 = .ok (.iconst 1, 1) := by decide +kernel
theorem dX5_stir_35 : decode cX5_stir 35 = .ok (.invokevirtual 156, 3) := by decide +kernel
theorem dX5_stir_38 : decode cX5_stir 38 = .ok (.iconst 0, 1) := by decide +kernel
theorem dX5_stir_39 : decode cX5_stir 39 = .ok (.istore 4, 2) := by decide +kernel
theorem dX5_stir_41 : decode cX5_stir 41 = .ok (.iload 4, 2) := by decide +kernel
theorem dX5_stir_43 : decode cX5_stir 43 = .ok (.bipush 12, 2) := by decide +kernel
theorem dX5_stir_45 : decode cX5_stir 45 = .ok (.if_icmp .ge 37, 3) := by decide +kernel
theorem dX5_stir_48 : decode cX5_stir 48 = .ok (.aload_n 0, 1) := by decide +kernel
theorem dX5_stir_49 : decode cX5_stir 49 = .ok (.getfield 25, 3) := by decide +kernel
theorem dX5_stir_52 : decode cX5_stir 52 = .ok (.iload 4, 2) := by decide +kernel
theorem dX5_stir_54 : decode cX5_stir 54 = .ok (.dup2, 1) := by decide +kernel
theorem dX5_stir_55 : decode cX5_stir 55 = .ok (.iaload, 1) := by decide +kernel
theorem dX5_stir_56 : decode cX5_stir 56 = .ok (.aload_n 2, 1) := by decide +kernel
theorem dX5_stir_57 : decode cX5_stir 57 = .ok (.getfield 63, 3) := by decide +kernel
theorem dX5_stir_60 : decode cX5_stir 60 = .ok (.iload 4, 2) := by decide +kernel
theorem dX5_stir_62 : decode cX5_stir 62 = .ok (.iaload, 1) := by decide +kernel
theorem dX5_stir_63 : decode cX5_stir 63 = .ok (.aload_n 2, 1) := by decide +kernel
theorem dX5_stir_64 : decode cX5_stir 64 = .ok (.getfield 297, 3) := by decide +kernel
theorem dX5_stir_67 : decode cX5_stir 67 = .ok (.iload 4, 2) := by decide +kernel
theorem dX5_stir_69 : decode cX5_stir 69 = .ok (.iaload, 1) := by decide +kernel
theorem dX5_stir_70 : decode cX5_stir 70 = .ok (.isub, 1) := by decide +kernel
theorem dX5_stir_71 : decode cX5_stir 71 = .ok (.invokestatic 300, 3) := by decide +kernel
theorem dX5_stir_74 : decode cX5_stir 74 = .ok (.iadd, 1) := by decide +kernel
theorem dX5_stir_75 : decode cX5_stir 75 = .ok (.iastore, 1) := by decide +kernel
theorem dX5_stir_76 : decode cX5_stir 76 = .ok (.iinc 4 1, 3) := by decide +kernel
theorem dX5_stir_79 : decode cX5_stir 79 = .ok (.goto (-38), 3) := by decide +kernel
theorem dX5_stir_82 : decode cX5_stir 82 = .ok (.iinc 3 1, 3) := by decide +kernel
theorem dX5_stir_85 : decode cX5_stir 85 = .ok (.goto (-57), 3) := by decide +kernel
theorem dX5_stir_88 : decode cX5_stir 88 = .ok (.return_, 1) := by decide +kernel
theorem dX5_sheetTrouble_0 : decode cX5_sheetTrouble 0 = .ok (.iload_n 1, 1) := by decide +kernel
theorem dX5_sheetTrouble_1 : decode cX5_sheetTrouble 1 = .ok (.iconst 3, 1) := by decide +kernel
theorem dX5_sheetTrouble_2 : decode cX5_sheetTrouble 2 = .ok (.invokestatic 50, 3) := by decide +kernel
theorem dX5_sheetTrouble_5 : decode cX5_sheetTrouble 5 = .ok (.ifCond .eq 6, 3) := by decide +kernel
theorem dX5_sheetTrouble_8 : decode cX5_sheetTrouble 8 = .ok (.ldc 54, 2) := by decide +kernel
theorem dX5_sheetTrouble_10 : decode cX5_sheetTrouble 10 = .ok (.ireturn, 1) := by decide +kernel
theorem dX5_sheetTrouble_11 : decode cX5_sheetTrouble 11 = .ok (.aload_n 0, 1) := by decide +kernel
theorem dX5_sheetTrouble_12 : decode cX5_sheetTrouble 12 = .ok (.getfield 32, 3) := by decide +kernel
theorem dX5_sheetTrouble_15 : decode cX5_sheetTrouble 15 = .ok (.iload_n 1, 1) := by decide +kernel
theorem dX5_sheetTrouble_16 : decode cX5_sheetTrouble 16 = .ok (.aaload, 1) := by decide +kernel
theorem dX5_sheetTrouble_17 : decode cX5_sheetTrouble 17 = .ok (.invokevirtual 266, 3) := by decide +kernel
theorem dX5_sheetTrouble_20 : decode cX5_sheetTrouble 20 = .ok (.ifCond .eq 8, 3) := by decide +kernel
theorem dX5_sheetTrouble_23 : decode cX5_sheetTrouble 23 = .ok (.ldc 251, 2) := by decide +kernel
theorem dX5_sheetTrouble_25 : decode cX5_sheetTrouble 25 = .ok (.goto 4, 3) := by decide +kernel
theorem dX5_sheetTrouble_28 : decode cX5_sheetTrouble 28 = .ok (.iconst 0, 1) := by decide +kernel
theorem dX5_sheetTrouble_29 : decode cX5_sheetTrouble 29 = .ok (.ireturn, 1) := by decide +kernel
theorem dX5_fittingTrouble_0 : decode cX5_fittingTrouble 0 = .ok (.aload_n 0, 1) := by decide +kernel
theorem dX5_fittingTrouble_1 : decode cX5_fittingTrouble 1 = .ok (.iload_n 1, 1) := by decide +kernel
theorem dX5_fittingTrouble_2 : decode cX5_fittingTrouble 2 = .ok (.invokevirtual 209, 3) := by decide +kernel
theorem dX5_fittingTrouble_5 : decode cX5_fittingTrouble 5 = .ok (.istore 4, 2) := by decide +kernel
theorem dX5_fittingTrouble_7 : decode cX5_fittingTrouble 7 = .ok (.iload 4, 2) := by decide +kernel
theorem dX5_fittingTrouble_9 : decode cX5_fittingTrouble 9 = .ok (.ifCond .eq 6, 3) := by decide +kernel
theorem dX5_fittingTrouble_12 : decode cX5_fittingTrouble 12 = .ok (.iload 4, 2) := by decide +kernel
theorem dX5_fittingTrouble_14 : decode cX5_fittingTrouble 14 = .ok (.ireturn, 1) := by decide +kernel
theorem dX5_fittingTrouble_15 : decode cX5_fittingTrouble 15 = .ok (.iload_n 2, 1) := by decide +kernel
theorem dX5_fittingTrouble_16 : decode cX5_fittingTrouble 16 = .ok (.bipush 7, 2) := by decide +kernel
theorem dX5_fittingTrouble_18 : decode cX5_fittingTrouble 18 = .ok (.invokestatic 50, 3) := by decide +kernel
theorem dX5_fittingTrouble_21 : decode cX5_fittingTrouble 21 = .ok (.ifCond .ne 12, 3) := by decide +kernel
theorem dX5_fittingTrouble_24 : decode cX5_fittingTrouble 24 = .ok (.iload_n 3, 1) := by decide +kernel
theorem dX5_fittingTrouble_25 : decode cX5_fittingTrouble 25 = .ok (.bipush 11, 2) := by decide +kernel
theorem dX5_fittingTrouble_27 : decode cX5_fittingTrouble 27 = .ok (.invokestatic 50, 3) := by decide +kernel
theorem dX5_fittingTrouble_30 : decode cX5_fittingTrouble 30 = .ok (.ifCond .eq 8, 3) := by decide +kernel
theorem dX5_fittingTrouble_33 : decode cX5_fittingTrouble 33 = .ok (.ldc 54, 2) := by decide +kernel
theorem dX5_fittingTrouble_35 : decode cX5_fittingTrouble 35 = .ok (.goto 4, 3) := by decide +kernel
theorem dX5_fittingTrouble_38 : decode cX5_fittingTrouble 38 = .ok (.iconst 0, 1) := by decide +kernel
theorem dX5_fittingTrouble_39 : decode cX5_fittingTrouble 39 = .ok (.ireturn, 1) := by decide +kernel
theorem dX5_couldBeOpened_0 : decode cX5_couldBeOpened 0 = .ok (.aload_n 0, 1) := by decide +kernel
theorem dX5_couldBeOpened_1 : decode cX5_couldBeOpened 1 = .ok (.invokevirtual 152, 3) := by decide +kernel
theorem dX5_couldBeOpened_4 : decode cX5_couldBeOpened 4 = .ok (.astore 5, 2) := by decide +kernel
theorem dX5_couldBeOpened_6 : decode cX5_couldBeOpened 6 = .ok (.aload 5, 2) := by decide +kernel
theorem dX5_couldBeOpened_8 : decode cX5_couldBeOpened 8 = .ok (.getfield 68, 3) := by decide +kernel
theorem dX5_couldBeOpened_11 : decode cX5_couldBeOpened 11 = .ok (.iload_n 3, 1) := by decide +kernel
theorem dX5_couldBeOpened_12 : decode cX5_couldBeOpened 12 = .ok (.iload_n 1, 1) := by decide +kernel
theorem dX5_couldBeOpened_13 : decode cX5_couldBeOpened 13 = .ok (.iastore, 1) := by decide +kernel
theorem dX5_couldBeOpened_14 : decode cX5_couldBeOpened 14 = .ok (.iconst 0, 1) := by decide +kernel
theorem dX5_couldBeOpened_15 : decode cX5_couldBeOpened 15 = .ok (.istore 6, 2) := by decide +kernel
theorem dX5_couldBeOpened_17 : decode cX5_couldBeOpened 17 = .ok (.iload 6, 2) := by decide +kernel
theorem dX5_couldBeOpened_19 : decode cX5_couldBeOpened 19 = .ok (.aload_n 2, 1) := by decide +kernel
theorem dX5_couldBeOpened_20 : decode cX5_couldBeOpened 20 = .ok (.getfield 261, 3) := by decide +kernel
theorem dX5_couldBeOpened_23 : decode cX5_couldBeOpened 23 = .ok (.if_icmp .ge 34, 3) := by decide +kernel
theorem dX5_couldBeOpened_26 : decode cX5_couldBeOpened 26 = .ok (.aload_n 2, 1) := by decide +kernel
theorem dX5_couldBeOpened_27 : decode cX5_couldBeOpened 27 = .ok (.iload 6, 2) := by decide +kernel
theorem dX5_couldBeOpened_29 : decode cX5_couldBeOpened 29 = .ok (.aload 5, 2) := by decide +kernel
theorem dX5_couldBeOpened_31 : decode cX5_couldBeOpened 31 = .ok (.getfield 63, 3) := by decide +kernel
theorem dX5_couldBeOpened_34 : decode cX5_couldBeOpened 34 = .ok (.iload 4, 2) := by decide +kernel
theorem dX5_couldBeOpened_36 : decode cX5_couldBeOpened 36 = .ok (.iaload, 1) := by decide +kernel
theorem dX5_couldBeOpened_37 : decode cX5_couldBeOpened 37 = .ok (.invokevirtual 303, 3) := by decide +kernel
theorem dX5_couldBeOpened_40 : decode cX5_couldBeOpened 40 = .ok (.ifCond .ne 5, 3) := by decide +kernel
theorem dX5_couldBeOpened_43 : decode cX5_couldBeOpened 43 = .ok (.iconst 0, 1) := by decide +kernel
theorem dX5_couldBeOpened_44 : decode cX5_couldBeOpened 44 = .ok (.ireturn, 1) := by decide +kernel
theorem dX5_couldBeOpened_45 : decode cX5_couldBeOpened 45 = .ok (.aload 5, 2) := by decide +kernel
theorem dX5_couldBeOpened_47 : decode cX5_couldBeOpened 47 = .ok (.iconst 1, 1) := by decide +kernel
theorem dX5_couldBeOpened_48 : decode cX5_couldBeOpened 48 = .ok (.invokevirtual 156, 3) := by decide +kernel
theorem dX5_couldBeOpened_51 : decode cX5_couldBeOpened 51 = .ok (.iinc 6 1, 3) := by decide +kernel
theorem dX5_couldBeOpened_54 : decode cX5_couldBeOpened 54 = .ok (.goto (-37), 3) := by decide +kernel
theorem dX5_couldBeOpened_57 : decode cX5_couldBeOpened 57 = .ok (.iconst 1, 1) := by decide +kernel
theorem dX5_couldBeOpened_58 : decode cX5_couldBeOpened 58 = .ok (.ireturn, 1) := by decide +kernel
theorem dX5_couldBeOfKind_0 : decode cX5_couldBeOfKind 0 = .ok (.aload_n 0, 1) := by decide +kernel
theorem dX5_couldBeOfKind_1 : decode cX5_couldBeOfKind 1 = .ok (.getfield 19, 3) := by decide +kernel
theorem dX5_couldBeOfKind_4 : decode cX5_couldBeOfKind 4 = .ok (.aload_n 0, 1) := by decide +kernel
theorem dX5_couldBeOfKind_5 : decode cX5_couldBeOfKind 5 = .ok (.getfield 12, 3) := by decide +kernel
theorem dX5_couldBeOfKind_8 : decode cX5_couldBeOfKind 8 = .ok (.invokevirtual 159, 3) := by decide +kernel
theorem dX5_couldBeOfKind_11 : decode cX5_couldBeOfKind 11 = .ok (.aload_n 0, 1) := by decide +kernel
theorem dX5_couldBeOfKind_12 : decode cX5_couldBeOfKind 12 = .ok (.getfield 19, 3) := by decide +kernel
theorem dX5_couldBeOfKind_15 : decode cX5_couldBeOfKind 15 = .ok (.getfield 92, 3) := by decide +kernel
theorem dX5_couldBeOfKind_18 : decode cX5_couldBeOfKind 18 = .ok (.iload_n 3, 1) := by decide +kernel
theorem dX5_couldBeOfKind_19 : decode cX5_couldBeOfKind 19 = .ok (.aaload, 1) := by decide +kernel
theorem dX5_couldBeOfKind_20 : decode cX5_couldBeOfKind 20 = .ok (.iload_n 1, 1) := by decide +kernel
theorem dX5_couldBeOfKind_21 : decode cX5_couldBeOfKind 21 = .ok (.putfield 96, 3) := by decide +kernel
theorem dX5_couldBeOfKind_24 : decode cX5_couldBeOfKind 24 = .ok (.iconst 0, 1) := by decide +kernel
theorem dX5_couldBeOfKind_25 : decode cX5_couldBeOfKind 25 = .ok (.istore 4, 2) := by decide +kernel
theorem dX5_couldBeOfKind_27 : decode cX5_couldBeOfKind 27 = .ok (.iload 4, 2) := by decide +kernel
theorem dX5_couldBeOfKind_29 : decode cX5_couldBeOfKind 29 = .ok (.aload_n 2, 1) := by decide +kernel
theorem dX5_couldBeOfKind_30 : decode cX5_couldBeOfKind 30 = .ok (.getfield 261, 3) := by decide +kernel
theorem dX5_couldBeOfKind_33 : decode cX5_couldBeOfKind 33 = .ok (.if_icmp .ge 40, 3) := by decide +kernel
theorem dX5_couldBeOfKind_36 : decode cX5_couldBeOfKind 36 = .ok (.aload_n 2, 1) := by decide +kernel
theorem dX5_couldBeOfKind_37 : decode cX5_couldBeOfKind 37 = .ok (.iload 4, 2) := by decide +kernel
theorem dX5_couldBeOfKind_39 : decode cX5_couldBeOfKind 39 = .ok (.aload_n 0, 1) := by decide +kernel
theorem dX5_couldBeOfKind_40 : decode cX5_couldBeOfKind 40 = .ok (.getfield 19, 3) := by decide +kernel
theorem dX5_couldBeOfKind_43 : decode cX5_couldBeOfKind 43 = .ok (.getfield 92, 3) := by decide +kernel
theorem dX5_couldBeOfKind_46 : decode cX5_couldBeOfKind 46 = .ok (.iload_n 3, 1) := by decide +kernel
theorem dX5_couldBeOfKind_47 : decode cX5_couldBeOfKind 47 = .ok (.aaload, 1) := by decide +kernel
theorem dX5_couldBeOfKind_48 : decode cX5_couldBeOfKind 48 = .ok (.getfield 108, 3) := by decide +kernel
theorem dX5_couldBeOfKind_51 : decode cX5_couldBeOfKind 51 = .ok (.invokevirtual 303, 3) := by decide +kernel
theorem dX5_couldBeOfKind_54 : decode cX5_couldBeOfKind 54 = .ok (.ifCond .ne 5, 3) := by decide +kernel
theorem dX5_couldBeOfKind_57 : decode cX5_couldBeOfKind 57 = .ok (.iconst 0, 1) := by decide +kernel
theorem dX5_couldBeOfKind_58 : decode cX5_couldBeOfKind 58 = .ok (.ireturn, 1) := by decide +kernel
theorem dX5_couldBeOfKind_59 : decode cX5_couldBeOfKind 59 = .ok (.aload_n 0, 1) := by decide +kernel
theorem dX5_couldBeOfKind_60 : decode cX5_couldBeOfKind 60 = .ok (.getfield 19, 3) := by decide +kernel
theorem dX5_couldBeOfKind_63 : decode cX5_couldBeOfKind 63 = .ok (.iconst 1, 1) := by decide +kernel
theorem dX5_couldBeOfKind_64 : decode cX5_couldBeOfKind 64 = .ok (.invokevirtual 134, 3) := by decide +kernel
theorem dX5_couldBeOfKind_67 : decode cX5_couldBeOfKind 67 = .ok (.iinc 4 1, 3) := by decide +kernel
theorem dX5_couldBeOfKind_70 : decode cX5_couldBeOfKind 70 = .ok (.goto (-43), 3) := by decide +kernel
theorem dX5_couldBeOfKind_73 : decode cX5_couldBeOfKind 73 = .ok (.iconst 1, 1) := by decide +kernel
theorem dX5_couldBeOfKind_74 : decode cX5_couldBeOfKind 74 = .ok (.ireturn, 1) := by decide +kernel
theorem dX5_commonDivisor_0 : decode cX5_commonDivisor 0 = .ok (.iconst 1, 1) := by decide +kernel
theorem dX5_commonDivisor_1 : decode cX5_commonDivisor 1 = .ok (.istore_n 1, 1) := by decide +kernel
theorem dX5_commonDivisor_2 : decode cX5_commonDivisor 2 = .ok (.iconst 2, 1) := by decide +kernel
theorem dX5_commonDivisor_3 : decode cX5_commonDivisor 3 = .ok (.istore_n 2, 1) := by decide +kernel
theorem dX5_commonDivisor_4 : decode cX5_commonDivisor 4 = .ok (.iload_n 2, 1) := by decide +kernel
theorem dX5_commonDivisor_5 : decode cX5_commonDivisor 5 = .ok (.bipush 8, 2) := by decide +kernel
theorem dX5_commonDivisor_7 : decode cX5_commonDivisor 7 = .ok (.if_icmp .gt 18, 3) := by decide +kernel
theorem dX5_commonDivisor_10 : decode cX5_commonDivisor 10 = .ok (.iload_n 0, 1) := by decide +kernel
theorem dX5_commonDivisor_11 : decode cX5_commonDivisor 11 = .ok (.iload_n 2, 1) := by decide +kernel
theorem dX5_commonDivisor_12 : decode cX5_commonDivisor 12 = .ok (.irem, 1) := by decide +kernel
theorem dX5_commonDivisor_13 : decode cX5_commonDivisor 13 = .ok (.ifCond .ne 5, 3) := by decide +kernel
theorem dX5_commonDivisor_16 : decode cX5_commonDivisor 16 = .ok (.iload_n 2, 1) := by decide +kernel
theorem dX5_commonDivisor_17 : decode cX5_commonDivisor 17 = .ok (.istore_n 1, 1) := by decide +kernel
theorem dX5_commonDivisor_18 : decode cX5_commonDivisor 18 = .ok (.iload_n 2, 1) := by decide +kernel
theorem dX5_commonDivisor_19 : decode cX5_commonDivisor 19 = .ok (.iconst 2, 1) := by decide +kernel
theorem dX5_commonDivisor_20 : decode cX5_commonDivisor 20 = .ok (.imul, 1) := by decide +kernel
theorem dX5_commonDivisor_21 : decode cX5_commonDivisor 21 = .ok (.istore_n 2, 1) := by decide +kernel
theorem dX5_commonDivisor_22 : decode cX5_commonDivisor 22 = .ok (.goto (-18), 3) := by decide +kernel
theorem dX5_commonDivisor_25 : decode cX5_commonDivisor 25 = .ok (.iload_n 1, 1) := by decide +kernel
theorem dX5_commonDivisor_26 : decode cX5_commonDivisor 26 = .ok (.ireturn, 1) := by decide +kernel
theorem dX5_power_0 : decode cX5_power 0 = .ok (.lconst 1, 1) := by decide +kernel
theorem dX5_power_1 : decode cX5_power 1 = .ok (.lstore_n 2, 1) := by decide +kernel
theorem dX5_power_2 : decode cX5_power 2 = .ok (.iconst 0, 1) := by decide +kernel
theorem dX5_power_3 : decode cX5_power 3 = .ok (.istore 4, 2) := by decide +kernel
theorem dX5_power_5 : decode cX5_power 5 = .ok (.iload 4, 2) := by decide +kernel
theorem dX5_power_7 : decode cX5_power 7 = .ok (.iload_n 1, 1) := by decide +kernel
theorem dX5_power_8 : decode cX5_power 8 = .ok (.if_icmp .ge 14, 3) := by decide +kernel
theorem dX5_power_11 : decode cX5_power 11 = .ok (.lload_n 2, 1) := by decide +kernel
theorem dX5_power_12 : decode cX5_power 12 = .ok (.iload_n 0, 1) := by decide +kernel
theorem dX5_power_13 : decode cX5_power 13 = .ok (.i2l, 1) := by decide +kernel
theorem dX5_power_14 : decode cX5_power 14 = .ok (.lmul, 1) := by decide +kernel
theorem dX5_power_15 : decode cX5_power 15 = .ok (.lstore_n 2, 1) := by decide +kernel
theorem dX5_power_16 : decode cX5_power 16 = .ok (.iinc 4 1, 3) := by decide +kernel
theorem dX5_power_19 : decode cX5_power 19 = .ok (.goto (-14), 3) := by decide +kernel
theorem dX5_power_22 : decode cX5_power 22 = .ok (.lload_n 2, 1) := by decide +kernel
theorem dX5_power_23 : decode cX5_power 23 = .ok (.lreturn, 1) := by decide +kernel
theorem dX6_init_0 : decode cX6_init 0 = .ok (.aload_n 0, 1) := by decide +kernel
theorem dX6_init_1 : decode cX6_init 1 = .ok (.invokespecial 1, 3) := by decide +kernel
theorem dX6_init_4 : decode cX6_init 4 = .ok (.aload_n 0, 1) := by decide +kernel
