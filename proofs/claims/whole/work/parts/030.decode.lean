theorem dX0_init_0 : decode cX0_init 0 = .ok (.aload_n 0, 1) := by decide +kernel
theorem dX0_init_1 : decode cX0_init 1 = .ok (.invokespecial 3, 3) := by decide +kernel
theorem dX0_init_4 : decode cX0_init 4 = .ok (.aload_n 0, 1) := by decide +kernel
theorem dX0_init_5 : decode cX0_init 5 = .ok (.bipush 120, 2) := by decide +kernel
theorem dX0_init_7 : decode cX0_init 7 = .ok (.newarray .int, 2) := by decide +kernel
theorem dX0_init_9 : decode cX0_init 9 = .ok (.putfield 9, 3) := by decide +kernel
theorem dX0_init_12 : decode cX0_init 12 = .ok (.aload_n 0, 1) := by decide +kernel
theorem dX0_init_13 : decode cX0_init 13 = .ok (.iconst 0, 1) := by decide +kernel
theorem dX0_init_14 : decode cX0_init 14 = .ok (.putfield 15, 3) := by decide +kernel
theorem dX0_init_17 : decode cX0_init 17 = .ok (.aload_n 0, 1) := by decide +kernel
theorem dX0_init_18 : decode cX0_init 18 = .ok (.iconst (-1), 1) := by decide +kernel
theorem dX0_init_19 : decode cX0_init 19 = .ok (.putfield 19, 3) := by decide +kernel
theorem dX0_init_22 : decode cX0_init 22 = .ok (.aload_n 0, 1) := by decide +kernel
theorem dX0_init_23 : decode cX0_init 23 = .ok (.iconst 0, 1) := by decide +kernel
theorem dX0_init_24 : decode cX0_init 24 = .ok (.putfield 22, 3) := by decide +kernel
theorem dX0_init_27 : decode cX0_init 27 = .ok (.aload_n 0, 1) := by decide +kernel
theorem dX0_init_28 : decode cX0_init 28 = .ok (.iconst 0, 1) := by decide +kernel
theorem dX0_init_29 : decode cX0_init 29 = .ok (.putfield 25, 3) := by decide +kernel
theorem dX0_init_32 : decode cX0_init 32 = .ok (.aload_n 0, 1) := by decide +kernel
theorem dX0_init_33 : decode cX0_init 33 = .ok (.iconst 0, 1) := by decide +kernel
theorem dX0_init_34 : decode cX0_init 34 = .ok (.putfield 28, 3) := by decide +kernel
theorem dX0_init_37 : decode cX0_init 37 = .ok (.return_, 1) := by decide +kernel
theorem dX0_put_0 : decode cX0_put 0 = .ok (.aload_n 0, 1) := by decide +kernel
theorem dX0_put_1 : decode cX0_put 1 = .ok (.getfield 9, 3) := by decide +kernel
theorem dX0_put_4 : decode cX0_put 4 = .ok (.aload_n 0, 1) := by decide +kernel
theorem dX0_put_5 : decode cX0_put 5 = .ok (.getfield 15, 3) := by decide +kernel
theorem dX0_put_8 : decode cX0_put 8 = .ok (.iload_n 1, 1) := by decide +kernel
theorem dX0_put_9 : decode cX0_put 9 = .ok (.iastore, 1) := by decide +kernel
theorem dX0_put_10 : decode cX0_put 10 = .ok (.aload_n 0, 1) := by decide +kernel
theorem dX0_put_11 : decode cX0_put 11 = .ok (.dup, 1) := by decide +kernel
theorem dX0_put_12 : decode cX0_put 12 = .ok (.getfield 15, 3) := by decide +kernel
theorem dX0_put_15 : decode cX0_put 15 = .ok (.iconst 1, 1) := by decide +kernel
theorem dX0_put_16 : decode cX0_put 16 = .ok (.iadd, 1) := by decide +kernel
theorem dX0_put_17 : decode cX0_put 17 = .ok (.putfield 15, 3) := by decide +kernel
theorem dX0_put_20 : decode cX0_put 20 = .ok (.return_, 1) := by decide +kernel
theorem dX0_hasFault_0 : decode cX0_hasFault 0 = .ok (.aload_n 0, 1) := by decide +kernel
theorem dX0_hasFault_1 : decode cX0_hasFault 1 = .ok (.getfield 19, 3) := by decide +kernel
theorem dX0_hasFault_4 : decode cX0_hasFault 4 = .ok (.iconst (-1), 1) := by decide +kernel
theorem dX0_hasFault_5 : decode cX0_hasFault 5 = .ok (.if_icmp .eq 7, 3) := by decide +kernel
theorem dX0_hasFault_8 : decode cX0_hasFault 8 = .ok (.iconst 1, 1) := by decide +kernel
theorem dX0_hasFault_9 : decode cX0_hasFault 9 = .ok (.goto 4, 3) := by decide +kernel
theorem dX0_hasFault_12 : decode cX0_hasFault 12 = .ok (.iconst 0, 1) := by decide +kernel
theorem dX0_hasFault_13 : decode cX0_hasFault 13 = .ok (.ireturn, 1) := by decide +kernel
theorem dX0_read_0 : decode cX0_read 0 = .ok (.aload_n 0, 1) := by decide +kernel
theorem dX0_read_1 : decode cX0_read 1 = .ok (.iconst (-1), 1) := by decide +kernel
theorem dX0_read_2 : decode cX0_read 2 = .ok (.putfield 19, 3) := by decide +kernel
theorem dX0_read_5 : decode cX0_read 5 = .ok (.aload_n 0, 1) := by decide +kernel
theorem dX0_read_6 : decode cX0_read 6 = .ok (.iconst 0, 1) := by decide +kernel
theorem dX0_read_7 : decode cX0_read 7 = .ok (.putfield 28, 3) := by decide +kernel
theorem dX0_read_10 : decode cX0_read 10 = .ok (.aload_n 0, 1) := by decide +kernel
theorem dX0_read_11 : decode cX0_read 11 = .ok (.invokevirtual 31, 3) := by decide +kernel
theorem dX0_read_14 : decode cX0_read 14 = .ok (.iconst 1, 1) := by decide +kernel
theorem dX0_read_15 : decode cX0_read 15 = .ok (.istore_n 2, 1) := by decide +kernel
theorem dX0_read_16 : decode cX0_read 16 = .ok (.iload_n 2, 1) := by decide +kernel
theorem dX0_read_17 : decode cX0_read 17 = .ok (.bipush 120, 2) := by decide +kernel
theorem dX0_read_19 : decode cX0_read 19 = .ok (.if_icmp .gt 48, 3) := by decide +kernel
theorem dX0_read_22 : decode cX0_read 22 = .ok (.aload_n 0, 1) := by decide +kernel
theorem dX0_read_23 : decode cX0_read 23 = .ok (.aload_n 1, 1) := by decide +kernel
theorem dX0_read_24 : decode cX0_read 24 = .ok (.invokevirtual 34, 3) := by decide +kernel
theorem dX0_read_27 : decode cX0_read 27 = .ok (.aload_n 0, 1) := by decide +kernel
theorem dX0_read_28 : decode cX0_read 28 = .ok (.invokevirtual 38, 3) := by decide +kernel
theorem dX0_read_31 : decode cX0_read 31 = .ok (.ifCond .ne 10, 3) := by decide +kernel
theorem dX0_read_34 : decode cX0_read 34 = .ok (.aload_n 0, 1) := by decide +kernel
theorem dX0_read_35 : decode cX0_read 35 = .ok (.getfield 22, 3) := by decide +kernel
theorem dX0_read_38 : decode cX0_read 38 = .ok (.ifCond .ne 5, 3) := by decide +kernel
theorem dX0_read_41 : decode cX0_read 41 = .ok (.iload_n 2, 1) := by decide +kernel
theorem dX0_read_42 : decode cX0_read 42 = .ok (.ireturn, 1) := by decide +kernel
theorem dX0_read_43 : decode cX0_read 43 = .ok (.aload_n 0, 1) := by decide +kernel
theorem dX0_read_44 : decode cX0_read 44 = .ok (.getfield 22, 3) := by decide +kernel
theorem dX0_read_47 : decode cX0_read 47 = .ok (.iconst 3, 1) := by decide +kernel
theorem dX0_read_48 : decode cX0_read 48 = .ok (.if_icmp .eq 9, 3) := by decide +kernel
theorem dX0_read_51 : decode cX0_read 51 = .ok (.aload_n 0, 1) := by decide +kernel
theorem dX0_read_52 : decode cX0_read 52 = .ok (.invokevirtual 42, 3) := by decide +kernel
theorem dX0_read_55 : decode cX0_read 55 = .ok (.iload_n 2, 1) := by decide +kernel
theorem dX0_read_56 : decode cX0_read 56 = .ok (.ireturn, 1) := by decide +kernel
theorem dX0_read_57 : decode cX0_read 57 = .ok (.aload_n 0, 1) := by decide +kernel
theorem dX0_read_58 : decode cX0_read 58 = .ok (.invokevirtual 31, 3) := by decide +kernel
theorem dX0_read_61 : decode cX0_read 61 = .ok (.iinc 2 1, 3) := by decide +kernel
theorem dX0_read_64 : decode cX0_read 64 = .ok (.goto (-48), 3) := by decide +kernel
theorem dX0_read_67 : decode cX0_read 67 = .ok (.bipush 120, 2) := by decide +kernel
theorem dX0_read_69 : decode cX0_read 69 = .ok (.ireturn, 1) := by decide +kernel
theorem dX0_readItem_0 : decode cX0_readItem 0 = .ok (.aload_n 0, 1) := by decide +kernel
theorem dX0_readItem_1 : decode cX0_readItem 1 = .ok (.invokevirtual 45, 3) := by decide +kernel
theorem dX0_readItem_4 : decode cX0_readItem 4 = .ok (.istore_n 2, 1) := by decide +kernel
theorem dX0_readItem_5 : decode cX0_readItem 5 = .ok (.iload_n 2, 1) := by decide +kernel
theorem dX0_readItem_6 : decode cX0_readItem 6 = .ok (.iconst (-1), 1) := by decide +kernel
theorem dX0_readItem_7 : decode cX0_readItem 7 = .ok (.if_icmp .eq 12, 3) := by decide +kernel
theorem dX0_readItem_10 : decode cX0_readItem 10 = .ok (.aload_n 0, 1) := by decide +kernel
theorem dX0_readItem_11 : decode cX0_readItem 11 = .ok (.iload_n 2, 1) := by decide +kernel
theorem dX0_readItem_12 : decode cX0_readItem 12 = .ok (.aload_n 1, 1) := by decide +kernel
theorem dX0_readItem_13 : decode cX0_readItem 13 = .ok (.invokevirtual 49, 3) := by decide +kernel
theorem dX0_readItem_16 : decode cX0_readItem 16 = .ok (.goto 78, 3) := by decide +kernel
theorem dX0_readItem_19 : decode cX0_readItem 19 = .ok (.aload_n 0, 1) := by decide +kernel
theorem dX0_readItem_20 : decode cX0_readItem 20 = .ok (.ldc 53, 2) := by decide +kernel
theorem dX0_readItem_22 : decode cX0_readItem 22 = .ok (.invokevirtual 55, 3) := by decide +kernel
theorem dX0_readItem_25 : decode cX0_readItem 25 = .ok (.ifCond .eq 20, 3) := by decide +kernel
theorem dX0_readItem_28 : decode cX0_readItem 28 = .ok (.aload_n 0, 1) := by decide +kernel
theorem dX0_readItem_29 : decode cX0_readItem 29 = .ok (.aload_n 1, 1) := by decide +kernel
theorem dX0_readItem_30 : decode cX0_readItem 30 = .ok (.getfield 59, 3) := by decide +kernel
theorem dX0_readItem_33 : decode cX0_readItem 33 = .ok (.getfield 65, 3) := by decide +kernel
theorem dX0_readItem_36 : decode cX0_readItem 36 = .ok (.sipush 9999, 3) := by decide +kernel
theorem dX0_readItem_39 : decode cX0_readItem 39 = .ok (.invokevirtual 70, 3) := by decide +kernel
theorem dX0_readItem_42 : decode cX0_readItem 42 = .ok (.goto 52, 3) := by decide +kernel
theorem dX0_readItem_45 : decode cX0_readItem 45 = .ok (.aload_n 0, 1) := by decide +kernel
theorem dX0_readItem_46 : decode cX0_readItem 46 = .ok (.ldc 74, 2) := by decide +kernel
theorem dX0_readItem_48 : decode cX0_readItem 48 = .ok (.invokevirtual 55, 3) := by decide +kernel
theorem dX0_readItem_51 : decode cX0_readItem 51 = .ok (.ifCond .eq 19, 3) := by decide +kernel
theorem dX0_readItem_54 : decode cX0_readItem 54 = .ok (.aload_n 0, 1) := by decide +kernel
theorem dX0_readItem_55 : decode cX0_readItem 55 = .ok (.aload_n 1, 1) := by decide +kernel
theorem dX0_readItem_56 : decode cX0_readItem 56 = .ok (.getfield 59, 3) := by decide +kernel
theorem dX0_readItem_59 : decode cX0_readItem 59 = .ok (.getfield 76, 3) := by decide +kernel
theorem dX0_readItem_62 : decode cX0_readItem 62 = .ok (.bipush 99, 2) := by decide +kernel
theorem dX0_readItem_64 : decode cX0_readItem 64 = .ok (.invokevirtual 70, 3) := by decide +kernel
theorem dX0_readItem_67 : decode cX0_readItem 67 = .ok (.goto 27, 3) := by decide +kernel
theorem dX0_readItem_70 : decode cX0_readItem 70 = .ok (.aload_n 0, 1) := by decide +kernel
theorem dX0_readItem_71 : decode cX0_readItem 71 = .ok (.ldc 79, 2) := by decide +kernel
theorem dX0_readItem_73 : decode cX0_readItem 73 = .ok (.invokevirtual 55, 3) := by decide +kernel
theorem dX0_readItem_76 : decode cX0_readItem 76 = .ok (.ifCond .eq 14, 3) := by decide +kernel
theorem dX0_readItem_79 : decode cX0_readItem 79 = .ok (.aload_n 0, 1) := by decide +kernel
theorem dX0_readItem_80 : decode cX0_readItem 80 = .ok (.aload_n 1, 1) := by decide +kernel
theorem dX0_readItem_81 : decode cX0_readItem 81 = .ok (.getfield 59, 3) := by decide +kernel
theorem dX0_readItem_84 : decode cX0_readItem 84 = .ok (.invokevirtual 81, 3) := by decide +kernel
theorem dX0_readItem_87 : decode cX0_readItem 87 = .ok (.goto 7, 3) := by decide +kernel
theorem dX0_readItem_90 : decode cX0_readItem 90 = .ok (.aload_n 0, 1) := by decide +kernel
theorem dX0_readItem_91 : decode cX0_readItem 91 = .ok (.invokevirtual 42, 3) := by decide +kernel
theorem dX0_readItem_94 : decode cX0_readItem 94 = .ok (.return_, 1) := by decide +kernel
theorem dX0_readWatcher_0 : decode cX0_readWatcher 0 = .ok (.aload_n 2, 1) := by decide +kernel
theorem dX0_readWatcher_1 : decode cX0_readWatcher 1 = .ok (.invokevirtual 85, 3) := by decide +kernel
theorem dX0_readWatcher_4 : decode cX0_readWatcher 4 = .ok (.ifCond .eq 8, 3) := by decide +kernel
theorem dX0_readWatcher_7 : decode cX0_readWatcher 7 = .ok (.aload_n 0, 1) := by decide +kernel
theorem dX0_readWatcher_8 : decode cX0_readWatcher 8 = .ok (.invokevirtual 42, 3) := by decide +kernel
theorem dX0_readWatcher_11 : decode cX0_readWatcher 11 = .ok (.return_, 1) := by decide +kernel
theorem dX0_readWatcher_12 : decode cX0_readWatcher 12 = .ok (.aload_n 0, 1) := by decide +kernel
theorem dX0_readWatcher_13 : decode cX0_readWatcher 13 = .ok (.invokevirtual 31, 3) := by decide +kernel
theorem dX0_readWatcher_16 : decode cX0_readWatcher 16 = .ok (.aload_n 2, 1) := by decide +kernel
theorem dX0_readWatcher_17 : decode cX0_readWatcher 17 = .ok (.getfield 88, 3) := by decide +kernel
theorem dX0_readWatcher_20 : decode cX0_readWatcher 20 = .ok (.aload_n 2, 1) := by decide +kernel
theorem dX0_readWatcher_21 : decode cX0_readWatcher 21 = .ok (.iload_n 1, 1) := by decide +kernel
theorem dX0_readWatcher_22 : decode cX0_readWatcher 22 = .ok (.iconst 0, 1) := by decide +kernel
theorem dX0_readWatcher_23 : decode cX0_readWatcher 23 = .ok (.invokevirtual 92, 3) := by decide +kernel
theorem dX0_readWatcher_26 : decode cX0_readWatcher 26 = .ok (.aaload, 1) := by decide +kernel
theorem dX0_readWatcher_27 : decode cX0_readWatcher 27 = .ok (.astore_n 3, 1) := by decide +kernel
theorem dX0_readWatcher_28 : decode cX0_readWatcher 28 = .ok (.aload_n 0, 1) := by decide +kernel
theorem dX0_readWatcher_29 : decode cX0_readWatcher 29 = .ok (.ldc 96, 2) := by decide +kernel
theorem dX0_readWatcher_31 : decode cX0_readWatcher 31 = .ok (.invokevirtual 55, 3) := by decide +kernel
theorem dX0_readWatcher_34 : decode cX0_readWatcher 34 = .ok (.ifCond .eq 13, 3) := by decide +kernel
theorem dX0_readWatcher_37 : decode cX0_readWatcher 37 = .ok (.aload_n 3, 1) := by decide +kernel
theorem dX0_readWatcher_38 : decode cX0_readWatcher 38 = .ok (.aload_n 0, 1) := by decide +kernel
theorem dX0_readWatcher_39 : decode cX0_readWatcher 39 = .ok (.bipush 11, 2) := by decide +kernel
theorem dX0_readWatcher_41 : decode cX0_readWatcher 41 = .ok (.invokevirtual 98, 3) := by decide +kernel
theorem dX0_readWatcher_44 : decode cX0_readWatcher 44 = .ok (.putfield 102, 3) := by decide +kernel
theorem dX0_readWatcher_47 : decode cX0_readWatcher 47 = .ok (.aload_n 0, 1) := by decide +kernel
theorem dX0_readWatcher_48 : decode cX0_readWatcher 48 = .ok (.invokevirtual 38, 3) := by decide +kernel
theorem dX0_readWatcher_51 : decode cX0_readWatcher 51 = .ok (.ifCond .ne 23, 3) := by decide +kernel
theorem dX0_readWatcher_54 : decode cX0_readWatcher 54 = .ok (.aload_n 0, 1) := by decide +kernel
theorem dX0_readWatcher_55 : decode cX0_readWatcher 55 = .ok (.ldc 107, 2) := by decide +kernel
theorem dX0_readWatcher_57 : decode cX0_readWatcher 57 = .ok (.invokevirtual 55, 3) := by decide +kernel
theorem dX0_readWatcher_60 : decode cX0_readWatcher 60 = .ok (.ifCond .eq 14, 3) := by decide +kernel
theorem dX0_readWatcher_63 : decode cX0_readWatcher 63 = .ok (.aload_n 3, 1) := by decide +kernel
theorem dX0_readWatcher_64 : decode cX0_readWatcher 64 = .ok (.aload_n 0, 1) := by decide +kernel
theorem dX0_readWatcher_65 : decode cX0_readWatcher 65 = .ok (.sipush 999, 3) := by decide +kernel
theorem dX0_readWatcher_68 : decode cX0_readWatcher 68 = .ok (.invokevirtual 98, 3) := by decide +kernel
theorem dX0_readWatcher_71 : decode cX0_readWatcher 71 = .ok (.putfield 109, 3) := by decide +kernel
theorem dX0_readWatcher_74 : decode cX0_readWatcher 74 = .ok (.aload_n 0, 1) := by decide +kernel
theorem dX0_readWatcher_75 : decode cX0_readWatcher 75 = .ok (.invokevirtual 38, 3) := by decide +kernel
theorem dX0_readWatcher_78 : decode cX0_readWatcher 78 = .ok (.ifCond .ne 22, 3) := by decide +kernel
theorem dX0_readWatcher_81 : decode cX0_readWatcher 81 = .ok (.aload_n 0, 1) := by decide +kernel
theorem dX0_readWatcher_82 : decode cX0_readWatcher 82 = .ok (.ldc 112, 2) := by decide +kernel
theorem dX0_readWatcher_84 : decode cX0_readWatcher 84 = .ok (.invokevirtual 55, 3) := by decide +kernel
theorem dX0_readWatcher_87 : decode cX0_readWatcher 87 = .ok (.ifCond .eq 13, 3) := by decide +kernel
theorem dX0_readWatcher_90 : decode cX0_readWatcher 90 = .ok (.aload_n 3, 1) := by decide +kernel
theorem dX0_readWatcher_91 : decode cX0_readWatcher 91 = .ok (.aload_n 0, 1) := by decide +kernel
theorem dX0_readWatcher_92 : decode cX0_readWatcher 92 = .ok (.bipush 99, 2) := by decide +kernel
theorem dX0_readWatcher_94 : decode cX0_readWatcher 94 = .ok (.invokevirtual 98, 3) := by decide +kernel
theorem dX0_readWatcher_97 : decode cX0_readWatcher 97 = .ok (.putfield 114, 3) := by decide +kernel
theorem dX0_readWatcher_100 : decode cX0_readWatcher 100 = .ok (.return_, 1) := by decide +kernel
theorem dX0_readInto_0 : decode cX0_readInto 0 = .ok (.aload_n 0, 1) := by decide +kernel
theorem dX0_readInto_1 : decode cX0_readInto 1 = .ok (.aload_n 1, 1) := by decide +kernel
theorem dX0_readInto_2 : decode cX0_readInto 2 = .ok (.arraylength, 1) := by decide +kernel
theorem dX0_readInto_3 : decode cX0_readInto 3 = .ok (.iconst 1, 1) := by decide +kernel
theorem dX0_readInto_4 : decode cX0_readInto 4 = .ok (.isub, 1) := by decide +kernel
theorem dX0_readInto_5 : decode cX0_readInto 5 = .ok (.invokevirtual 98, 3) := by decide +kernel
theorem dX0_readInto_8 : decode cX0_readInto 8 = .ok (.istore_n 3, 1) := by decide +kernel
theorem dX0_readInto_9 : decode cX0_readInto 9 = .ok (.aload_n 0, 1) := by decide +kernel
theorem dX0_readInto_10 : decode cX0_readInto 10 = .ok (.invokevirtual 38, 3) := by decide +kernel
theorem dX0_readInto_13 : decode cX0_readInto 13 = .ok (.ifCond .eq 4, 3) := by decide +kernel
theorem dX0_readInto_16 : decode cX0_readInto 16 = .ok (.return_, 1) := by decide +kernel
theorem dX0_readInto_17 : decode cX0_readInto 17 = .ok (.aload_n 0, 1) := by decide +kernel
theorem dX0_readInto_18 : decode cX0_readInto 18 = .ok (.iload_n 2, 1) := by decide +kernel
theorem dX0_readInto_19 : decode cX0_readInto 19 = .ok (.invokevirtual 98, 3) := by decide +kernel
theorem dX0_readInto_22 : decode cX0_readInto 22 = .ok (.istore 4, 2) := by decide +kernel
theorem dX0_readInto_24 : decode cX0_readInto 24 = .ok (.aload_n 0, 1) := by decide +kernel
theorem dX0_readInto_25 : decode cX0_readInto 25 = .ok (.invokevirtual 38, 3) := by decide +kernel
theorem dX0_readInto_28 : decode cX0_readInto 28 = .ok (.ifCond .ne 8, 3) := by decide +kernel
theorem dX0_readInto_31 : decode cX0_readInto 31 = .ok (.aload_n 1, 1) := by decide +kernel
theorem dX0_readInto_32 : decode cX0_readInto 32 = .ok (.iload_n 3, 1) := by decide +kernel
theorem dX0_readInto_33 : decode cX0_readInto 33 = .ok (.iload 4, 2) := by decide +kernel
theorem dX0_readInto_35 : decode cX0_readInto 35 = .ok (.iastore, 1) := by decide +kernel
theorem dX0_readInto_36 : decode cX0_readInto 36 = .ok (.return_, 1) := by decide +kernel
theorem dX0_readSteady_0 : decode cX0_readSteady 0 = .ok (.aload_n 0, 1) := by decide +kernel
theorem dX0_readSteady_1 : decode cX0_readSteady 1 = .ok (.bipush 99, 2) := by decide +kernel
theorem dX0_readSteady_3 : decode cX0_readSteady 3 = .ok (.invokevirtual 98, 3) := by decide +kernel
theorem dX0_readSteady_6 : decode cX0_readSteady 6 = .ok (.istore_n 2, 1) := by decide +kernel
theorem dX0_readSteady_7 : decode cX0_readSteady 7 = .ok (.aload_n 0, 1) := by decide +kernel
theorem dX0_readSteady_8 : decode cX0_readSteady 8 = .ok (.invokevirtual 38, 3) := by decide +kernel
theorem dX0_readSteady_11 : decode cX0_readSteady 11 = .ok (.ifCond .ne 8, 3) := by decide +kernel
theorem dX0_readSteady_14 : decode cX0_readSteady 14 = .ok (.aload_n 1, 1) := by decide +kernel
theorem dX0_readSteady_15 : decode cX0_readSteady 15 = .ok (.iload_n 2, 1) := by decide +kernel
theorem dX0_readSteady_16 : decode cX0_readSteady 16 = .ok (.invokevirtual 117, 3) := by decide +kernel
theorem dX0_readSteady_19 : decode cX0_readSteady 19 = .ok (.return_, 1) := by decide +kernel
theorem dX0_kindNamed_0 : decode cX0_kindNamed 0 = .ok (.iconst 0, 1) := by decide +kernel
theorem dX0_kindNamed_1 : decode cX0_kindNamed 1 = .ok (.istore_n 1, 1) := by decide +kernel
theorem dX0_kindNamed_2 : decode cX0_kindNamed 2 = .ok (.iload_n 1, 1) := by decide +kernel
theorem dX0_kindNamed_3 : decode cX0_kindNamed 3 = .ok (.bipush 7, 2) := by decide +kernel
theorem dX0_kindNamed_5 : decode cX0_kindNamed 5 = .ok (.if_icmp .ge 22, 3) := by decide +kernel
theorem dX0_kindNamed_8 : decode cX0_kindNamed 8 = .ok (.aload_n 0, 1) := by decide +kernel
theorem dX0_kindNamed_9 : decode cX0_kindNamed 9 = .ok (.iload_n 1, 1) := by decide +kernel
theorem dX0_kindNamed_10 : decode cX0_kindNamed 10 = .ok (.invokestatic 121, 3) := by decide +kernel
theorem dX0_kindNamed_13 : decode cX0_kindNamed 13 = .ok (.invokevirtual 125, 3) := by decide +kernel
theorem dX0_kindNamed_16 : decode cX0_kindNamed 16 = .ok (.ifCond .eq 5, 3) := by decide +kernel
theorem dX0_kindNamed_19 : decode cX0_kindNamed 19 = .ok (.iload_n 1, 1) := by decide +kernel
theorem dX0_kindNamed_20 : decode cX0_kindNamed 20 = .ok (.ireturn, 1) := by decide +kernel
theorem dX0_kindNamed_21 : decode cX0_kindNamed 21 = .ok (.iinc 1 1, 3) := by decide +kernel
theorem dX0_kindNamed_24 : decode cX0_kindNamed 24 = .ok (.goto (-22), 3) := by decide +kernel
theorem dX0_kindNamed_27 : decode cX0_kindNamed 27 = .ok (.iconst (-1), 1) := by decide +kernel
theorem dX0_kindNamed_28 : decode cX0_kindNamed 28 = .ok (.ireturn, 1) := by decide +kernel
theorem dX0_nameOf_0 : decode cX0_nameOf 0 = .ok (.iload_n 0, 1) := by decide +kernel
theorem dX0_nameOf_1 : decode cX0_nameOf 1 = .ok (.tableswitch 57 1 6 #[39, 42, 45, 48, 51, 54], 39) := by decide +kernel
theorem dX0_nameOf_40 : decode cX0_nameOf 40 = .ok (.ldc 128, 2) := by decide +kernel
theorem dX0_nameOf_42 : decode cX0_nameOf 42 = .ok (.areturn, 1) := by decide +kernel
theorem dX0_nameOf_43 : decode cX0_nameOf 43 = .ok (.ldc 130, 2) := by decide +kernel
theorem dX0_nameOf_45 : decode cX0_nameOf 45 = .ok (.areturn, 1) := by decide +kernel
theorem dX0_nameOf_46 : decode cX0_nameOf 46 = .ok (.ldc 132, 2) := by decide +kernel
theorem dX0_nameOf_48 : decode cX0_nameOf 48 = .ok (.areturn, 1) := by decide +kernel
theorem dX0_nameOf_49 : decode cX0_nameOf 49 = .ok (.ldc 134, 2) := by decide +kernel
theorem dX0_nameOf_51 : decode cX0_nameOf 51 = .ok (.areturn, 1) := by decide +kernel
theorem dX0_nameOf_52 : decode cX0_nameOf 52 = .ok (.ldc 136, 2) := by decide +kernel
theorem dX0_nameOf_54 : decode cX0_nameOf 54 = .ok (.areturn, 1) := by decide +kernel
theorem dX0_nameOf_55 : decode cX0_nameOf 55 = .ok (.ldc 138, 2) := by decide +kernel
theorem dX0_nameOf_57 : decode cX0_nameOf 57 = .ok (.areturn, 1) := by decide +kernel
theorem dX0_nameOf_58 : decode cX0_nameOf 58 = .ok (.ldc 140, 2) := by decide +kernel
theorem dX0_nameOf_60 : decode cX0_nameOf 60 = .ok (.areturn, 1) := by decide +kernel
theorem dX0_isWord_0 : decode cX0_isWord 0 = .ok (.aload_n 0, 1) := by decide +kernel
theorem dX0_isWord_1 : decode cX0_isWord 1 = .ok (.getfield 22, 3) := by decide +kernel
theorem dX0_isWord_4 : decode cX0_isWord 4 = .ok (.iconst 1, 1) := by decide +kernel
theorem dX0_isWord_5 : decode cX0_isWord 5 = .ok (.if_icmp .ne 19, 3) := by decide +kernel
theorem dX0_isWord_8 : decode cX0_isWord 8 = .ok (.aload_n 0, 1) := by decide +kernel
theorem dX0_isWord_9 : decode cX0_isWord 9 = .ok (.getfield 28, 3) := by decide +kernel
theorem dX0_isWord_12 : decode cX0_isWord 12 = .ok (.aload_n 0, 1) := by decide +kernel
theorem dX0_isWord_13 : decode cX0_isWord 13 = .ok (.getfield 25, 3) := by decide +kernel
theorem dX0_isWord_16 : decode cX0_isWord 16 = .ok (.isub, 1) := by decide +kernel
theorem dX0_isWord_17 : decode cX0_isWord 17 = .ok (.aload_n 1, 1) := by decide +kernel
theorem dX0_isWord_18 : decode cX0_isWord 18 = .ok (.invokevirtual 142, 3) := by decide +kernel
theorem dX0_isWord_21 : decode cX0_isWord 21 = .ok (.if_icmp .eq 5, 3) := by decide +kernel
theorem dX0_isWord_24 : decode cX0_isWord 24 = .ok (.iconst 0, 1) := by decide +kernel
theorem dX0_isWord_25 : decode cX0_isWord 25 = .ok (.ireturn, 1) := by decide +kernel
theorem dX0_isWord_26 : decode cX0_isWord 26 = .ok (.iconst 0, 1) := by decide +kernel
theorem dX0_isWord_27 : decode cX0_isWord 27 = .ok (.istore_n 2, 1) := by decide +kernel
theorem dX0_isWord_28 : decode cX0_isWord 28 = .ok (.iload_n 2, 1) := by decide +kernel
theorem dX0_isWord_29 : decode cX0_isWord 29 = .ok (.aload_n 1, 1) := by decide +kernel
theorem dX0_isWord_30 : decode cX0_isWord 30 = .ok (.invokevirtual 142, 3) := by decide +kernel
theorem dX0_isWord_33 : decode cX0_isWord 33 = .ok (.if_icmp .ge 30, 3) := by decide +kernel
theorem dX0_isWord_36 : decode cX0_isWord 36 = .ok (.aload_n 0, 1) := by decide +kernel
theorem dX0_isWord_37 : decode cX0_isWord 37 = .ok (.getfield 9, 3) := by decide +kernel
theorem dX0_isWord_40 : decode cX0_isWord 40 = .ok (.aload_n 0, 1) := by decide +kernel
theorem dX0_isWord_41 : decode cX0_isWord 41 = .ok (.getfield 25, 3) := by decide +kernel
theorem dX0_isWord_44 : decode cX0_isWord 44 = .ok (.iload_n 2, 1) := by decide +kernel
theorem dX0_isWord_45 : decode cX0_isWord 45 = .ok (.iadd, 1) := by decide +kernel
theorem dX0_isWord_46 : decode cX0_isWord 46 = .ok (.iaload, 1) := by decide +kernel
theorem dX0_isWord_47 : decode cX0_isWord 47 = .ok (.aload_n 1, 1) := by decide +kernel
theorem dX0_isWord_48 : decode cX0_isWord 48 = .ok (.iload_n 2, 1) := by decide +kernel
theorem dX0_isWord_49 : decode cX0_isWord 49 = .ok (.invokevirtual 146, 3) := by decide +kernel
theorem dX0_isWord_52 : decode cX0_isWord 52 = .ok (.if_icmp .eq 5, 3) := by decide +kernel
theorem dX0_isWord_55 : decode cX0_isWord 55 = .ok (.iconst 0, 1) := by decide +kernel
theorem dX0_isWord_56 : decode cX0_isWord 56 = .ok (.ireturn, 1) := by decide +kernel
theorem dX0_isWord_57 : decode cX0_isWord 57 = .ok (.iinc 2 1, 3) := by decide +kernel
theorem dX0_isWord_60 : decode cX0_isWord 60 = .ok (.goto (-32), 3) := by decide +kernel
theorem dX0_isWord_63 : decode cX0_isWord 63 = .ok (.iconst 1, 1) := by decide +kernel
theorem dX0_isWord_64 : decode cX0_isWord 64 = .ok (.ireturn, 1) := by decide +kernel
theorem dX0_takes_0 : decode cX0_takes 0 = .ok (.aload_n 0, 1) := by decide +kernel
theorem dX0_takes_1 : decode cX0_takes 1 = .ok (.aload_n 1, 1) := by decide +kernel
theorem dX0_takes_2 : decode cX0_takes 2 = .ok (.invokevirtual 125, 3) := by decide +kernel
theorem dX0_takes_5 : decode cX0_takes 5 = .ok (.istore_n 2, 1) := by decide +kernel
theorem dX0_takes_6 : decode cX0_takes 6 = .ok (.iload_n 2, 1) := by decide +kernel
theorem dX0_takes_7 : decode cX0_takes 7 = .ok (.ifCond .eq 7, 3) := by decide +kernel
theorem dX0_takes_10 : decode cX0_takes 10 = .ok (.aload_n 0, 1) := by decide +kernel
theorem dX0_takes_11 : decode cX0_takes 11 = .ok (.invokevirtual 31, 3) := by decide +kernel
theorem dX0_takes_14 : decode cX0_takes 14 = .ok (.iload_n 2, 1) := by decide +kernel
theorem dX0_takes_15 : decode cX0_takes 15 = .ok (.ireturn, 1) := by decide +kernel
theorem dX0_takeNumber_0 : decode cX0_takeNumber 0 = .ok (.aload_n 0, 1) := by decide +kernel
theorem dX0_takeNumber_1 : decode cX0_takeNumber 1 = .ok (.getfield 22, 3) := by decide +kernel
theorem dX0_takeNumber_4 : decode cX0_takeNumber 4 = .ok (.iconst 2, 1) := by decide +kernel
theorem dX0_takeNumber_5 : decode cX0_takeNumber 5 = .ok (.if_icmp .ne 10, 3) := by decide +kernel
theorem dX0_takeNumber_8 : decode cX0_takeNumber 8 = .ok (.aload_n 0, 1) := by decide +kernel
theorem dX0_takeNumber_9 : decode cX0_takeNumber 9 = .ok (.invokevirtual 150, 3) := by decide +kernel
theorem dX0_takeNumber_12 : decode cX0_takeNumber 12 = .ok (.goto 6, 3) := by decide +kernel
theorem dX0_takeNumber_15 : decode cX0_takeNumber 15 = .ok (.sipush 10000, 3) := by decide +kernel
theorem dX0_takeNumber_18 : decode cX0_takeNumber 18 = .ok (.istore_n 2, 1) := by decide +kernel
theorem dX0_takeNumber_19 : decode cX0_takeNumber 19 = .ok (.iload_n 2, 1) := by decide +kernel
theorem dX0_takeNumber_20 : decode cX0_takeNumber 20 = .ok (.iload_n 1, 1) := by decide +kernel
theorem dX0_takeNumber_21 : decode cX0_takeNumber 21 = .ok (.if_icmp .le 9, 3) := by decide +kernel
theorem dX0_takeNumber_24 : decode cX0_takeNumber 24 = .ok (.aload_n 0, 1) := by decide +kernel
theorem dX0_takeNumber_25 : decode cX0_takeNumber 25 = .ok (.invokevirtual 42, 3) := by decide +kernel
theorem dX0_takeNumber_28 : decode cX0_takeNumber 28 = .ok (.iconst 0, 1) := by decide +kernel
theorem dX0_takeNumber_29 : decode cX0_takeNumber 29 = .ok (.ireturn, 1) := by decide +kernel
theorem dX0_takeNumber_30 : decode cX0_takeNumber 30 = .ok (.aload_n 0, 1) := by decide +kernel
theorem dX0_takeNumber_31 : decode cX0_takeNumber 31 = .ok (.invokevirtual 31, 3) := by decide +kernel
theorem dX0_takeNumber_34 : decode cX0_takeNumber 34 = .ok (.iload_n 2, 1) := by decide +kernel
theorem dX0_takeNumber_35 : decode cX0_takeNumber 35 = .ok (.ireturn, 1) := by decide +kernel
theorem dX0_numberHere_0 : decode cX0_numberHere 0 = .ok (.iconst 0, 1) := by decide +kernel
theorem dX0_numberHere_1 : decode cX0_numberHere 1 = .ok (.istore_n 1, 1) := by decide +kernel
theorem dX0_numberHere_2 : decode cX0_numberHere 2 = .ok (.aload_n 0, 1) := by decide +kernel
theorem dX0_numberHere_3 : decode cX0_numberHere 3 = .ok (.getfield 25, 3) := by decide +kernel
theorem dX0_numberHere_6 : decode cX0_numberHere 6 = .ok (.istore_n 2, 1) := by decide +kernel
theorem dX0_numberHere_7 : decode cX0_numberHere 7 = .ok (.iload_n 2, 1) := by decide +kernel
theorem dX0_numberHere_8 : decode cX0_numberHere 8 = .ok (.aload_n 0, 1) := by decide +kernel
theorem dX0_numberHere_9 : decode cX0_numberHere 9 = .ok (.getfield 28, 3) := by decide +kernel
theorem dX0_numberHere_12 : decode cX0_numberHere 12 = .ok (.if_icmp .ge 30, 3) := by decide +kernel
theorem dX0_numberHere_15 : decode cX0_numberHere 15 = .ok (.sipush 10000, 3) := by decide +kernel
theorem dX0_numberHere_18 : decode cX0_numberHere 18 = .ok (.bipush 10, 2) := by decide +kernel
theorem dX0_numberHere_20 : decode cX0_numberHere 20 = .ok (.iload_n 1, 1) := by decide +kernel
theorem dX0_numberHere_21 : decode cX0_numberHere 21 = .ok (.imul, 1) := by decide +kernel
theorem dX0_numberHere_22 : decode cX0_numberHere 22 = .ok (.aload_n 0, 1) := by decide +kernel
theorem dX0_numberHere_23 : decode cX0_numberHere 23 = .ok (.getfield 9, 3) := by decide +kernel
theorem dX0_numberHere_26 : decode cX0_numberHere 26 = .ok (.iload_n 2, 1) := by decide +kernel
theorem dX0_numberHere_27 : decode cX0_numberHere 27 = .ok (.iaload, 1) := by decide +kernel
theorem dX0_numberHere_28 : decode cX0_numberHere 28 = .ok (.iadd, 1) := by decide +kernel
theorem dX0_numberHere_29 : decode cX0_numberHere 29 = .ok (.bipush 48, 2) := by decide +kernel
theorem dX0_numberHere_31 : decode cX0_numberHere 31 = .ok (.isub, 1) := by decide +kernel
theorem dX0_numberHere_32 : decode cX0_numberHere 32 = .ok (.invokestatic 153, 3) := by decide +kernel
theorem dX0_numberHere_35 : decode cX0_numberHere 35 = .ok (.istore_n 1, 1) := by decide +kernel
theorem dX0_numberHere_36 : decode cX0_numberHere 36 = .ok (.iinc 2 1, 3) := by decide +kernel
theorem dX0_numberHere_39 : decode cX0_numberHere 39 = .ok (.goto (-32), 3) := by decide +kernel
theorem dX0_numberHere_42 : decode cX0_numberHere 42 = .ok (.iload_n 1, 1) := by decide +kernel
theorem dX0_numberHere_43 : decode cX0_numberHere 43 = .ok (.ireturn, 1) := by decide +kernel
theorem dX0_faultHere_0 : decode cX0_faultHere 0 = .ok (.aload_n 0, 1) := by decide +kernel
theorem dX0_faultHere_1 : decode cX0_faultHere 1 = .ok (.aload_n 0, 1) := by decide +kernel
theorem dX0_faultHere_2 : decode cX0_faultHere 2 = .ok (.getfield 25, 3) := by decide +kernel
theorem dX0_faultHere_5 : decode cX0_faultHere 5 = .ok (.putfield 19, 3) := by decide +kernel
theorem dX0_faultHere_8 : decode cX0_faultHere 8 = .ok (.return_, 1) := by decide +kernel
theorem dX0_advance_0 : decode cX0_advance 0 = .ok (.aload_n 0, 1) := by decide +kernel
theorem dX0_advance_1 : decode cX0_advance 1 = .ok (.aload_n 0, 1) := by decide +kernel
theorem dX0_advance_2 : decode cX0_advance 2 = .ok (.getfield 28, 3) := by decide +kernel
theorem dX0_advance_5 : decode cX0_advance 5 = .ok (.putfield 25, 3) := by decide +kernel
theorem dX0_advance_8 : decode cX0_advance 8 = .ok (.aload_n 0, 1) := by decide +kernel
theorem dX0_advance_9 : decode cX0_advance 9 = .ok (.getfield 25, 3) := by decide +kernel
theorem dX0_advance_12 : decode cX0_advance 12 = .ok (.aload_n 0, 1) := by decide +kernel
theorem dX0_advance_13 : decode cX0_advance 13 = .ok (.getfield 15, 3) := by decide +kernel
theorem dX0_advance_16 : decode cX0_advance 16 = .ok (.if_icmp .ge 30, 3) := by decide +kernel
theorem dX0_advance_19 : decode cX0_advance 19 = .ok (.aload_n 0, 1) := by decide +kernel
theorem dX0_advance_20 : decode cX0_advance 20 = .ok (.getfield 9, 3) := by decide +kernel
theorem dX0_advance_23 : decode cX0_advance 23 = .ok (.aload_n 0, 1) := by decide +kernel
theorem dX0_advance_24 : decode cX0_advance 24 = .ok (.getfield 25, 3) := by decide +kernel
theorem dX0_advance_27 : decode cX0_advance 27 = .ok (.iaload, 1) := by decide +kernel
theorem dX0_advance_28 : decode cX0_advance 28 = .ok (.bipush 32, 2) := by decide +kernel
theorem dX0_advance_30 : decode cX0_advance 30 = .ok (.if_icmp .ne 16, 3) := by decide +kernel
theorem dX0_advance_33 : decode cX0_advance 33 = .ok (.aload_n 0, 1) := by decide +kernel
theorem dX0_advance_34 : decode cX0_advance 34 = .ok (.dup, 1) := by decide +kernel
theorem dX0_advance_35 : decode cX0_advance 35 = .ok (.getfield 25, 3) := by decide +kernel
theorem dX0_advance_38 : decode cX0_advance 38 = .ok (.iconst 1, 1) := by decide +kernel
theorem dX0_advance_39 : decode cX0_advance 39 = .ok (.iadd, 1) := by decide +kernel
theorem dX0_advance_40 : decode cX0_advance 40 = .ok (.putfield 25, 3) := by decide +kernel
theorem dX0_advance_43 : decode cX0_advance 43 = .ok (.goto (-35), 3) := by decide +kernel
theorem dX0_advance_46 : decode cX0_advance 46 = .ok (.aload_n 0, 1) := by decide +kernel
theorem dX0_advance_47 : decode cX0_advance 47 = .ok (.aload_n 0, 1) := by decide +kernel
theorem dX0_advance_48 : decode cX0_advance 48 = .ok (.getfield 25, 3) := by decide +kernel
theorem dX0_advance_51 : decode cX0_advance 51 = .ok (.putfield 28, 3) := by decide +kernel
theorem dX0_advance_54 : decode cX0_advance 54 = .ok (.aload_n 0, 1) := by decide +kernel
theorem dX0_advance_55 : decode cX0_advance 55 = .ok (.getfield 25, 3) := by decide +kernel
theorem dX0_advance_58 : decode cX0_advance 58 = .ok (.aload_n 0, 1) := by decide +kernel
theorem dX0_advance_59 : decode cX0_advance 59 = .ok (.getfield 15, 3) := by decide +kernel
theorem dX0_advance_62 : decode cX0_advance 62 = .ok (.if_icmp .lt 9, 3) := by decide +kernel
theorem dX0_advance_65 : decode cX0_advance 65 = .ok (.aload_n 0, 1) := by decide +kernel
theorem dX0_advance_66 : decode cX0_advance 66 = .ok (.iconst 0, 1) := by decide +kernel
theorem dX0_advance_67 : decode cX0_advance 67 = .ok (.putfield 22, 3) := by decide +kernel
theorem dX0_advance_70 : decode cX0_advance 70 = .ok (.return_, 1) := by decide +kernel
theorem dX0_advance_71 : decode cX0_advance 71 = .ok (.aload_n 0, 1) := by decide +kernel
theorem dX0_advance_72 : decode cX0_advance 72 = .ok (.aload_n 0, 1) := by decide +kernel
theorem dX0_advance_73 : decode cX0_advance 73 = .ok (.getfield 9, 3) := by decide +kernel
theorem dX0_advance_76 : decode cX0_advance 76 = .ok (.aload_n 0, 1) := by decide +kernel
theorem dX0_advance_77 : decode cX0_advance 77 = .ok (.getfield 25, 3) := by decide +kernel
theorem dX0_advance_80 : decode cX0_advance 80 = .ok (.iaload, 1) := by decide +kernel
theorem dX0_advance_81 : decode cX0_advance 81 = .ok (.invokestatic 158, 3) := by decide +kernel
theorem dX0_advance_84 : decode cX0_advance 84 = .ok (.putfield 22, 3) := by decide +kernel
theorem dX0_advance_87 : decode cX0_advance 87 = .ok (.aload_n 0, 1) := by decide +kernel
theorem dX0_advance_88 : decode cX0_advance 88 = .ok (.dup, 1) := by decide +kernel
theorem dX0_advance_89 : decode cX0_advance 89 = .ok (.getfield 28, 3) := by decide +kernel
theorem dX0_advance_92 : decode cX0_advance 92 = .ok (.iconst 1, 1) := by decide +kernel
theorem dX0_advance_93 : decode cX0_advance 93 = .ok (.iadd, 1) := by decide +kernel
theorem dX0_advance_94 : decode cX0_advance 94 = .ok (.putfield 28, 3) := by decide +kernel
theorem dX0_advance_97 : decode cX0_advance 97 = .ok (.aload_n 0, 1) := by decide +kernel
theorem dX0_advance_98 : decode cX0_advance 98 = .ok (.getfield 28, 3) := by decide +kernel
theorem dX0_advance_101 : decode cX0_advance 101 = .ok (.aload_n 0, 1) := by decide +kernel
theorem dX0_advance_102 : decode cX0_advance 102 = .ok (.getfield 15, 3) := by decide +kernel
theorem dX0_advance_105 : decode cX0_advance 105 = .ok (.if_icmp .ge 51, 3) := by decide +kernel
theorem dX0_advance_108 : decode cX0_advance 108 = .ok (.aload_n 0, 1) := by decide +kernel
theorem dX0_advance_109 : decode cX0_advance 109 = .ok (.getfield 22, 3) := by decide +kernel
theorem dX0_advance_112 : decode cX0_advance 112 = .ok (.iconst 1, 1) := by decide +kernel
theorem dX0_advance_113 : decode cX0_advance 113 = .ok (.if_icmp .eq 11, 3) := by decide +kernel
theorem dX0_advance_116 : decode cX0_advance 116 = .ok (.aload_n 0, 1) := by decide +kernel
theorem dX0_advance_117 : decode cX0_advance 117 = .ok (.getfield 22, 3) := by decide +kernel
theorem dX0_advance_120 : decode cX0_advance 120 = .ok (.iconst 2, 1) := by decide +kernel
theorem dX0_advance_121 : decode cX0_advance 121 = .ok (.if_icmp .ne 35, 3) := by decide +kernel
theorem dX0_advance_124 : decode cX0_advance 124 = .ok (.aload_n 0, 1) := by decide +kernel
theorem dX0_advance_125 : decode cX0_advance 125 = .ok (.getfield 9, 3) := by decide +kernel
theorem dX0_advance_128 : decode cX0_advance 128 = .ok (.aload_n 0, 1) := by decide +kernel
theorem dX0_advance_129 : decode cX0_advance 129 = .ok (.getfield 28, 3) := by decide +kernel
theorem dX0_advance_132 : decode cX0_advance 132 = .ok (.iaload, 1) := by decide +kernel
theorem dX0_advance_133 : decode cX0_advance 133 = .ok (.invokestatic 158, 3) := by decide +kernel
theorem dX0_advance_136 : decode cX0_advance 136 = .ok (.aload_n 0, 1) := by decide +kernel
theorem dX0_advance_137 : decode cX0_advance 137 = .ok (.getfield 22, 3) := by decide +kernel
theorem dX0_advance_140 : decode cX0_advance 140 = .ok (.if_icmp .ne 16, 3) := by decide +kernel
theorem dX0_advance_143 : decode cX0_advance 143 = .ok (.aload_n 0, 1) := by decide +kernel
theorem dX0_advance_144 : decode cX0_advance 144 = .ok (.dup, 1) := by decide +kernel
theorem dX0_advance_145 : decode cX0_advance 145 = .ok (.getfield 28, 3) := by decide +kernel
theorem dX0_advance_148 : decode cX0_advance 148 = .ok (.iconst 1, 1) := by decide +kernel
theorem dX0_advance_149 : decode cX0_advance 149 = .ok (.iadd, 1) := by decide +kernel
theorem dX0_advance_150 : decode cX0_advance 150 = .ok (.putfield 28, 3) := by decide +kernel
theorem dX0_advance_153 : decode cX0_advance 153 = .ok (.goto (-56), 3) := by decide +kernel
theorem dX0_advance_156 : decode cX0_advance 156 = .ok (.return_, 1) := by decide +kernel
theorem dX0_tokenOf_0 : decode cX0_tokenOf 0 = .ok (.iload_n 0, 1) := by decide +kernel
theorem dX0_tokenOf_1 : decode cX0_tokenOf 1 = .ok (.bipush 97, 2) := by decide +kernel
theorem dX0_tokenOf_3 : decode cX0_tokenOf 3 = .ok (.if_icmp .lt 11, 3) := by decide +kernel
theorem dX0_tokenOf_6 : decode cX0_tokenOf 6 = .ok (.iload_n 0, 1) := by decide +kernel
theorem dX0_tokenOf_7 : decode cX0_tokenOf 7 = .ok (.bipush 122, 2) := by decide +kernel
theorem dX0_tokenOf_9 : decode cX0_tokenOf 9 = .ok (.if_icmp .gt 5, 3) := by decide +kernel
theorem dX0_tokenOf_12 : decode cX0_tokenOf 12 = .ok (.iconst 1, 1) := by decide +kernel
theorem dX0_tokenOf_13 : decode cX0_tokenOf 13 = .ok (.ireturn, 1) := by decide +kernel
theorem dX0_tokenOf_14 : decode cX0_tokenOf 14 = .ok (.iload_n 0, 1) := by decide +kernel
theorem dX0_tokenOf_15 : decode cX0_tokenOf 15 = .ok (.bipush 48, 2) := by decide +kernel
theorem dX0_tokenOf_17 : decode cX0_tokenOf 17 = .ok (.if_icmp .lt 11, 3) := by decide +kernel
theorem dX0_tokenOf_20 : decode cX0_tokenOf 20 = .ok (.iload_n 0, 1) := by decide +kernel
theorem dX0_tokenOf_21 : decode cX0_tokenOf 21 = .ok (.bipush 57, 2) := by decide +kernel
theorem dX0_tokenOf_23 : decode cX0_tokenOf 23 = .ok (.if_icmp .gt 5, 3) := by decide +kernel
theorem dX0_tokenOf_26 : decode cX0_tokenOf 26 = .ok (.iconst 2, 1) := by decide +kernel
theorem dX0_tokenOf_27 : decode cX0_tokenOf 27 = .ok (.ireturn, 1) := by decide +kernel
theorem dX0_tokenOf_28 : decode cX0_tokenOf 28 = .ok (.iload_n 0, 1) := by decide +kernel
theorem dX0_tokenOf_29 : decode cX0_tokenOf 29 = .ok (.bipush 59, 2) := by decide +kernel
theorem dX0_tokenOf_31 : decode cX0_tokenOf 31 = .ok (.if_icmp .ne 7, 3) := by decide +kernel
theorem dX0_tokenOf_34 : decode cX0_tokenOf 34 = .ok (.iconst 3, 1) := by decide +kernel
theorem dX0_tokenOf_35 : decode cX0_tokenOf 35 = .ok (.goto 4, 3) := by decide +kernel
theorem dX0_tokenOf_38 : decode cX0_tokenOf 38 = .ok (.iconst 4, 1) := by decide +kernel
theorem dX0_tokenOf_39 : decode cX0_tokenOf 39 = .ok (.ireturn, 1) := by decide +kernel
theorem dX1_init_0 : decode cX1_init 0 = .ok (.aload_n 0, 1) := by decide +kernel
theorem dX1_init_1 : decode cX1_init 1 = .ok (.invokespecial 3, 3) := by decide +kernel
theorem dX1_init_4 : decode cX1_init 4 = .ok (.aload_n 0, 1) := by decide +kernel
theorem dX1_init_5 : decode cX1_init 5 = .ok (.bipush 40, 2) := by decide +kernel
theorem dX1_init_7 : decode cX1_init 7 = .ok (.newarray .int, 2) := by decide +kernel
theorem dX1_init_9 : decode cX1_init 9 = .ok (.putfield 9, 3) := by decide +kernel
theorem dX1_init_12 : decode cX1_init 12 = .ok (.aload_n 0, 1) := by decide +kernel
theorem dX1_init_13 : decode cX1_init 13 = .ok (.iconst 0, 1) := by decide +kernel
theorem dX1_init_14 : decode cX1_init 14 = .ok (.putfield 15, 3) := by decide +kernel
theorem dX1_init_17 : decode cX1_init 17 = .ok (.aload_n 0, 1) := by decide +kernel
theorem dX1_init_18 : decode cX1_init 18 = .ok (.iconst 0, 1) := by decide +kernel
theorem dX1_init_19 : decode cX1_init 19 = .ok (.putfield 19, 3) := by decide +kernel
theorem dX1_init_22 : decode cX1_init 22 = .ok (.return_, 1) := by decide +kernel
theorem dX1_isMissing_0 : decode cX1_isMissing 0 = .ok (.aload_n 0, 1) := by decide +kernel
theorem dX1_isMissing_1 : decode cX1_isMissing 1 = .ok (.getfield 15, 3) := by decide +kernel
theorem dX1_isMissing_4 : decode cX1_isMissing 4 = .ok (.ifCond .ne 7, 3) := by decide +kernel
theorem dX1_isMissing_7 : decode cX1_isMissing 7 = .ok (.iconst 1, 1) := by decide +kernel
theorem dX1_isMissing_8 : decode cX1_isMissing 8 = .ok (.goto 4, 3) := by decide +kernel
theorem dX1_isMissing_11 : decode cX1_isMissing 11 = .ok (.iconst 0, 1) := by decide +kernel
theorem dX1_isMissing_12 : decode cX1_isMissing 12 = .ok (.ireturn, 1) := by decide +kernel
theorem dX1_lay_0 : decode cX1_lay 0 = .ok (.aload_n 0, 1) := by decide +kernel
theorem dX1_lay_1 : decode cX1_lay 1 = .ok (.iload_n 1, 1) := by decide +kernel
theorem dX1_lay_2 : decode cX1_lay 2 = .ok (.putfield 15, 3) := by decide +kernel
theorem dX1_lay_5 : decode cX1_lay 5 = .ok (.aload_n 0, 1) := by decide +kernel
theorem dX1_lay_6 : decode cX1_lay 6 = .ok (.iload_n 1, 1) := by decide +kernel
theorem dX1_lay_7 : decode cX1_lay 7 = .ok (.ifCond .ne 7, 3) := by decide +kernel
theorem dX1_lay_10 : decode cX1_lay 10 = .ok (.iconst 0, 1) := by decide +kernel
theorem dX1_lay_11 : decode cX1_lay 11 = .ok (.goto 4, 3) := by decide +kernel
theorem dX1_lay_14 : decode cX1_lay 14 = .ok (.iload_n 2, 1) := by decide +kernel
theorem dX1_lay_15 : decode cX1_lay 15 = .ok (.putfield 19, 3) := by decide +kernel
theorem dX1_lay_18 : decode cX1_lay 18 = .ok (.iconst 0, 1) := by decide +kernel
theorem dX1_lay_19 : decode cX1_lay 19 = .ok (.istore_n 3, 1) := by decide +kernel
theorem dX1_lay_20 : decode cX1_lay 20 = .ok (.iload_n 3, 1) := by decide +kernel
theorem dX1_lay_21 : decode cX1_lay 21 = .ok (.bipush 40, 2) := by decide +kernel
theorem dX1_lay_23 : decode cX1_lay 23 = .ok (.if_icmp .ge 16, 3) := by decide +kernel
theorem dX1_lay_26 : decode cX1_lay 26 = .ok (.aload_n 0, 1) := by decide +kernel
theorem dX1_lay_27 : decode cX1_lay 27 = .ok (.getfield 9, 3) := by decide +kernel
theorem dX1_lay_30 : decode cX1_lay 30 = .ok (.iload_n 3, 1) := by decide +kernel
theorem dX1_lay_31 : decode cX1_lay 31 = .ok (.iconst 0, 1) := by decide +kernel
theorem dX1_lay_32 : decode cX1_lay 32 = .ok (.iastore, 1) := by decide +kernel
theorem dX1_lay_33 : decode cX1_lay 33 = .ok (.iinc 3 1, 3) := by decide +kernel
theorem dX1_lay_36 : decode cX1_lay 36 = .ok (.goto (-16), 3) := by decide +kernel
theorem dX1_lay_39 : decode cX1_lay 39 = .ok (.return_, 1) := by decide +kernel
theorem dX1_put_0 : decode cX1_put 0 = .ok (.aload_n 0, 1) := by decide +kernel
theorem dX1_put_1 : decode cX1_put 1 = .ok (.getfield 15, 3) := by decide +kernel
theorem dX1_put_4 : decode cX1_put 4 = .ok (.lookupswitch 50 #[(8, 28), (16, 39)], 28) := by decide +kernel
theorem dX1_put_32 : decode cX1_put 32 = .ok (.aload_n 0, 1) := by decide +kernel
theorem dX1_put_33 : decode cX1_put 33 = .ok (.getfield 9, 3) := by decide +kernel
theorem dX1_put_36 : decode cX1_put 36 = .ok (.iload_n 1, 1) := by decide +kernel
theorem dX1_put_37 : decode cX1_put 37 = .ok (.iload_n 2, 1) := by decide +kernel
theorem dX1_put_38 : decode cX1_put 38 = .ok (.i2b, 1) := by decide +kernel
theorem dX1_put_39 : decode cX1_put 39 = .ok (.iastore, 1) := by decide +kernel
theorem dX1_put_40 : decode cX1_put 40 = .ok (.goto 21, 3) := by decide +kernel
theorem dX1_put_43 : decode cX1_put 43 = .ok (.aload_n 0, 1) := by decide +kernel
theorem dX1_put_44 : decode cX1_put 44 = .ok (.getfield 9, 3) := by decide +kernel
theorem dX1_put_47 : decode cX1_put 47 = .ok (.iload_n 1, 1) := by decide +kernel
theorem dX1_put_48 : decode cX1_put 48 = .ok (.iload_n 2, 1) := by decide +kernel
theorem dX1_put_49 : decode cX1_put 49 = .ok (.i2s, 1) := by decide +kernel
theorem dX1_put_50 : decode cX1_put 50 = .ok (.iastore, 1) := by decide +kernel
theorem dX1_put_51 : decode cX1_put 51 = .ok (.goto 10, 3) := by decide +kernel
theorem dX1_put_54 : decode cX1_put 54 = .ok (.aload_n 0, 1) := by decide +kernel
theorem dX1_put_55 : decode cX1_put 55 = .ok (.getfield 9, 3) := by decide +kernel
theorem dX1_put_58 : decode cX1_put 58 = .ok (.iload_n 1, 1) := by decide +kernel
theorem dX1_put_59 : decode cX1_put 59 = .ok (.iload_n 2, 1) := by decide +kernel
theorem dX1_put_60 : decode cX1_put 60 = .ok (.iastore, 1) := by decide +kernel
theorem dX1_put_61 : decode cX1_put 61 = .ok (.return_, 1) := by decide +kernel
theorem dX1_has_0 : decode cX1_has 0 = .ok (.iload_n 1, 1) := by decide +kernel
theorem dX1_has_1 : decode cX1_has 1 = .ok (.ifCond .lt 29, 3) := by decide +kernel
theorem dX1_has_4 : decode cX1_has 4 = .ok (.iload_n 2, 1) := by decide +kernel
theorem dX1_has_5 : decode cX1_has 5 = .ok (.ifCond .lt 25, 3) := by decide +kernel
theorem dX1_has_8 : decode cX1_has 8 = .ok (.iload_n 2, 1) := by decide +kernel
theorem dX1_has_9 : decode cX1_has 9 = .ok (.aload_n 0, 1) := by decide +kernel
theorem dX1_has_10 : decode cX1_has 10 = .ok (.getfield 19, 3) := by decide +kernel
theorem dX1_has_13 : decode cX1_has 13 = .ok (.if_icmp .gt 17, 3) := by decide +kernel
theorem dX1_has_16 : decode cX1_has 16 = .ok (.iload_n 1, 1) := by decide +kernel
theorem dX1_has_17 : decode cX1_has 17 = .ok (.aload_n 0, 1) := by decide +kernel
theorem dX1_has_18 : decode cX1_has 18 = .ok (.getfield 19, 3) := by decide +kernel
theorem dX1_has_21 : decode cX1_has 21 = .ok (.iload_n 2, 1) := by decide +kernel
theorem dX1_has_22 : decode cX1_has 22 = .ok (.isub, 1) := by decide +kernel
theorem dX1_has_23 : decode cX1_has 23 = .ok (.if_icmp .gt 7, 3) := by decide +kernel
theorem dX1_has_26 : decode cX1_has 26 = .ok (.iconst 1, 1) := by decide +kernel
theorem dX1_has_27 : decode cX1_has 27 = .ok (.goto 4, 3) := by decide +kernel
theorem dX1_has_30 : decode cX1_has 30 = .ok (.iconst 0, 1) := by decide +kernel
theorem dX1_has_31 : decode cX1_has 31 = .ok (.ireturn, 1) := by decide +kernel
theorem dX1_allows_0 : decode cX1_allows 0 = .ok (.aload_n 0, 1) := by decide +kernel
theorem dX1_allows_1 : decode cX1_allows 1 = .ok (.getfield 9, 3) := by decide +kernel
theorem dX1_allows_4 : decode cX1_allows 4 = .ok (.iload_n 1, 1) := by decide +kernel
theorem dX1_allows_5 : decode cX1_allows 5 = .ok (.iaload, 1) := by decide +kernel
theorem dX1_allows_6 : decode cX1_allows 6 = .ok (.iconst (-1), 1) := by decide +kernel
theorem dX1_allows_7 : decode cX1_allows 7 = .ok (.if_icmp .eq 13, 3) := by decide +kernel
theorem dX1_allows_10 : decode cX1_allows 10 = .ok (.aload_n 0, 1) := by decide +kernel
theorem dX1_allows_11 : decode cX1_allows 11 = .ok (.getfield 9, 3) := by decide +kernel
theorem dX1_allows_14 : decode cX1_allows 14 = .ok (.iload_n 1, 1) := by decide +kernel
theorem dX1_allows_15 : decode cX1_allows 15 = .ok (.iaload, 1) := by decide +kernel
theorem dX1_allows_16 : decode cX1_allows 16 = .ok (.iload_n 2, 1) := by decide +kernel
theorem dX1_allows_17 : decode cX1_allows 17 = .ok (.if_icmp .ne 7, 3) := by decide +kernel
theorem dX1_allows_20 : decode cX1_allows 20 = .ok (.iconst 1, 1) := by decide +kernel
theorem dX1_allows_21 : decode cX1_allows 21 = .ok (.goto 4, 3) := by decide +kernel
theorem dX1_allows_24 : decode cX1_allows 24 = .ok (.iconst 0, 1) := by decide +kernel
theorem dX1_allows_25 : decode cX1_allows 25 = .ok (.ireturn, 1) := by decide +kernel
theorem dX2_init_0 : decode cX2_init 0 = .ok (.aload_n 0, 1) := by decide +kernel
theorem dX2_init_1 : decode cX2_init 1 = .ok (.invokespecial 3, 3) := by decide +kernel
theorem dX2_init_4 : decode cX2_init 4 = .ok (.aload_n 0, 1) := by decide +kernel
theorem dX2_init_5 : decode cX2_init 5 = .ok (.new 9, 3) := by decide +kernel
theorem dX2_init_8 : decode cX2_init 8 = .ok (.dup, 1) := by decide +kernel
theorem dX2_init_9 : decode cX2_init 9 = .ok (.invokespecial 11, 3) := by decide +kernel
theorem dX2_init_12 : decode cX2_init 12 = .ok (.putfield 12, 3) := by decide +kernel
theorem dX2_init_15 : decode cX2_init 15 = .ok (.aload_n 0, 1) := by decide +kernel
theorem dX2_init_16 : decode cX2_init 16 = .ok (.bipush 8, 2) := by decide +kernel
theorem dX2_init_18 : decode cX2_init 18 = .ok (.anewarray 18, 3) := by decide +kernel
theorem dX2_init_21 : decode cX2_init 21 = .ok (.putfield 20, 3) := by decide +kernel
theorem dX2_init_24 : decode cX2_init 24 = .ok (.aload_n 0, 1) := by decide +kernel
theorem dX2_init_25 : decode cX2_init 25 = .ok (.bipush 10, 2) := by decide +kernel
theorem dX2_init_27 : decode cX2_init 27 = .ok (.newarray .int, 2) := by decide +kernel
theorem dX2_init_29 : decode cX2_init 29 = .ok (.putfield 24, 3) := by decide +kernel
theorem dX2_init_32 : decode cX2_init 32 = .ok (.aload_n 0, 1) := by decide +kernel
theorem dX2_init_33 : decode cX2_init 33 = .ok (.iconst 0, 1) := by decide +kernel
theorem dX2_init_34 : decode cX2_init 34 = .ok (.putfield 28, 3) := by decide +kernel
theorem dX2_init_37 : decode cX2_init 37 = .ok (.aload_n 0, 1) := by decide +kernel
theorem dX2_init_38 : decode cX2_init 38 = .ok (.iconst 1, 1) := by decide +kernel
theorem dX2_init_39 : decode cX2_init 39 = .ok (.putfield 32, 3) := by decide +kernel
theorem dX2_init_42 : decode cX2_init 42 = .ok (.iconst 0, 1) := by decide +kernel
theorem dX2_init_43 : decode cX2_init 43 = .ok (.istore_n 1, 1) := by decide +kernel
theorem dX2_init_44 : decode cX2_init 44 = .ok (.iload_n 1, 1) := by decide +kernel
theorem dX2_init_45 : decode cX2_init 45 = .ok (.bipush 8, 2) := by decide +kernel
theorem dX2_init_47 : decode cX2_init 47 = .ok (.if_icmp .ge 22, 3) := by decide +kernel
theorem dX2_init_50 : decode cX2_init 50 = .ok (.aload_n 0, 1) := by decide +kernel
theorem dX2_init_51 : decode cX2_init 51 = .ok (.getfield 20, 3) := by decide +kernel
theorem dX2_init_54 : decode cX2_init 54 = .ok (.iload_n 1, 1) := by decide +kernel
theorem dX2_init_55 : decode cX2_init 55 = .ok (.new 18, 3) := by decide +kernel
theorem dX2_init_58 : decode cX2_init 58 = .ok (.dup, 1) := by decide +kernel
theorem dX2_init_59 : decode cX2_init 59 = .ok (.invokespecial 35, 3) := by decide +kernel
theorem dX2_init_62 : decode cX2_init 62 = .ok (.aastore, 1) := by decide +kernel
theorem dX2_init_63 : decode cX2_init 63 = .ok (.iinc 1 1, 3) := by decide +kernel
theorem dX2_init_66 : decode cX2_init 66 = .ok (.goto (-22), 3) := by decide +kernel
theorem dX2_init_69 : decode cX2_init 69 = .ok (.iconst 0, 1) := by decide +kernel
theorem dX2_init_70 : decode cX2_init 70 = .ok (.istore_n 1, 1) := by decide +kernel
theorem dX2_init_71 : decode cX2_init 71 = .ok (.iload_n 1, 1) := by decide +kernel
theorem dX2_init_72 : decode cX2_init 72 = .ok (.bipush 10, 2) := by decide +kernel
theorem dX2_init_74 : decode cX2_init 74 = .ok (.if_icmp .ge 16, 3) := by decide +kernel
theorem dX2_init_77 : decode cX2_init 77 = .ok (.aload_n 0, 1) := by decide +kernel
theorem dX2_init_78 : decode cX2_init 78 = .ok (.getfield 24, 3) := by decide +kernel
theorem dX2_init_81 : decode cX2_init 81 = .ok (.iload_n 1, 1) := by decide +kernel
theorem dX2_init_82 : decode cX2_init 82 = .ok (.iconst (-1), 1) := by decide +kernel
theorem dX2_init_83 : decode cX2_init 83 = .ok (.iastore, 1) := by decide +kernel
theorem dX2_init_84 : decode cX2_init 84 = .ok (.iinc 1 1, 3) := by decide +kernel
theorem dX2_init_87 : decode cX2_init 87 = .ok (.goto (-16), 3) := by decide +kernel
theorem dX2_init_90 : decode cX2_init 90 = .ok (.return_, 1) := by decide +kernel
theorem dX2_become_0 : decode cX2_become 0 = .ok (.aload_n 0, 1) := by decide +kernel
theorem dX2_become_1 : decode cX2_become 1 = .ok (.getfield 12, 3) := by decide +kernel
theorem dX2_become_4 : decode cX2_become 4 = .ok (.aload_n 1, 1) := by decide +kernel
theorem dX2_become_5 : decode cX2_become 5 = .ok (.getfield 12, 3) := by decide +kernel
theorem dX2_become_8 : decode cX2_become 8 = .ok (.invokevirtual 36, 3) := by decide +kernel
theorem dX2_become_11 : decode cX2_become 11 = .ok (.iconst 0, 1) := by decide +kernel
theorem dX2_become_12 : decode cX2_become 12 = .ok (.istore_n 2, 1) := by decide +kernel
theorem dX2_become_13 : decode cX2_become 13 = .ok (.iload_n 2, 1) := by decide +kernel
theorem dX2_become_14 : decode cX2_become 14 = .ok (.aload_n 1, 1) := by decide +kernel
theorem dX2_become_15 : decode cX2_become 15 = .ok (.getfield 28, 3) := by decide +kernel
theorem dX2_become_18 : decode cX2_become 18 = .ok (.if_icmp .ge 24, 3) := by decide +kernel
theorem dX2_become_21 : decode cX2_become 21 = .ok (.aload_n 0, 1) := by decide +kernel
theorem dX2_become_22 : decode cX2_become 22 = .ok (.getfield 20, 3) := by decide +kernel
theorem dX2_become_25 : decode cX2_become 25 = .ok (.iload_n 2, 1) := by decide +kernel
theorem dX2_become_26 : decode cX2_become 26 = .ok (.aaload, 1) := by decide +kernel
theorem dX2_become_27 : decode cX2_become 27 = .ok (.aload_n 1, 1) := by decide +kernel
theorem dX2_become_28 : decode cX2_become 28 = .ok (.getfield 20, 3) := by decide +kernel
theorem dX2_become_31 : decode cX2_become 31 = .ok (.iload_n 2, 1) := by decide +kernel
theorem dX2_become_32 : decode cX2_become 32 = .ok (.aaload, 1) := by decide +kernel
theorem dX2_become_33 : decode cX2_become 33 = .ok (.invokevirtual 40, 3) := by decide +kernel
theorem dX2_become_36 : decode cX2_become 36 = .ok (.iinc 2 1, 3) := by decide +kernel
theorem dX2_become_39 : decode cX2_become 39 = .ok (.goto (-26), 3) := by decide +kernel
theorem dX2_become_42 : decode cX2_become 42 = .ok (.aload_n 1, 1) := by decide +kernel
theorem dX2_become_43 : decode cX2_become 43 = .ok (.getfield 24, 3) := by decide +kernel
theorem dX2_become_46 : decode cX2_become 46 = .ok (.iconst 0, 1) := by decide +kernel
theorem dX2_become_47 : decode cX2_become 47 = .ok (.aload_n 0, 1) := by decide +kernel
theorem dX2_become_48 : decode cX2_become 48 = .ok (.getfield 24, 3) := by decide +kernel
theorem dX2_become_51 : decode cX2_become 51 = .ok (.iconst 0, 1) := by decide +kernel
theorem dX2_become_52 : decode cX2_become 52 = .ok (.bipush 10, 2) := by decide +kernel
theorem dX2_become_54 : decode cX2_become 54 = .ok (.invokestatic 43, 3) := by decide +kernel
theorem dX2_become_57 : decode cX2_become 57 = .ok (.aload_n 0, 1) := by decide +kernel
theorem dX2_become_58 : decode cX2_become 58 = .ok (.aload_n 1, 1) := by decide +kernel
theorem dX2_become_59 : decode cX2_become 59 = .ok (.getfield 28, 3) := by decide +kernel
theorem dX2_become_62 : decode cX2_become 62 = .ok (.putfield 28, 3) := by decide +kernel
theorem dX2_become_65 : decode cX2_become 65 = .ok (.aload_n 0, 1) := by decide +kernel
theorem dX2_become_66 : decode cX2_become 66 = .ok (.aload_n 1, 1) := by decide +kernel
theorem dX2_become_67 : decode cX2_become 67 = .ok (.getfield 32, 3) := by decide +kernel
theorem dX2_become_70 : decode cX2_become 70 = .ok (.putfield 32, 3) := by decide +kernel
theorem dX2_become_73 : decode cX2_become 73 = .ok (.return_, 1) := by decide +kernel
theorem dX2_isFull_0 : decode cX2_isFull 0 = .ok (.aload_n 0, 1) := by decide +kernel
theorem dX2_isFull_1 : decode cX2_isFull 1 = .ok (.getfield 28, 3) := by decide +kernel
theorem dX2_isFull_4 : decode cX2_isFull 4 = .ok (.bipush 8, 2) := by decide +kernel
theorem dX2_isFull_6 : decode cX2_isFull 6 = .ok (.if_icmp .lt 7, 3) := by decide +kernel
theorem dX2_isFull_9 : decode cX2_isFull 9 = .ok (.iconst 1, 1) := by decide +kernel
theorem dX2_isFull_10 : decode cX2_isFull 10 = .ok (.goto 4, 3) := by decide +kernel
theorem dX2_isFull_13 : decode cX2_isFull 13 = .ok (.iconst 0, 1) := by decide +kernel
theorem dX2_isFull_14 : decode cX2_isFull 14 = .ok (.ireturn, 1) := by decide +kernel
theorem dX2_settle_0 : decode cX2_settle 0 = .ok (.aload_n 0, 1) := by decide +kernel
theorem dX2_settle_1 : decode cX2_settle 1 = .ok (.getfield 28, 3) := by decide +kernel
theorem dX2_settle_4 : decode cX2_settle 4 = .ok (.istore_n 3, 1) := by decide +kernel
theorem dX2_settle_5 : decode cX2_settle 5 = .ok (.aload_n 0, 1) := by decide +kernel
theorem dX2_settle_6 : decode cX2_settle 6 = .ok (.getfield 20, 3) := by decide +kernel
theorem dX2_settle_9 : decode cX2_settle 9 = .ok (.iload_n 3, 1) := by decide +kernel
theorem dX2_settle_10 : decode cX2_settle 10 = .ok (.aaload, 1) := by decide +kernel
theorem dX2_settle_11 : decode cX2_settle 11 = .ok (.iload_n 1, 1) := by decide +kernel
theorem dX2_settle_12 : decode cX2_settle 12 = .ok (.iload_n 2, 1) := by decide +kernel
theorem dX2_settle_13 : decode cX2_settle 13 = .ok (.invokevirtual 49, 3) := by decide +kernel
theorem dX2_settle_16 : decode cX2_settle 16 = .ok (.aload_n 0, 1) := by decide +kernel
theorem dX2_settle_17 : decode cX2_settle 17 = .ok (.dup, 1) := by decide +kernel
theorem dX2_settle_18 : decode cX2_settle 18 = .ok (.getfield 28, 3) := by decide +kernel
theorem dX2_settle_21 : decode cX2_settle 21 = .ok (.iconst 1, 1) := by decide +kernel
theorem dX2_settle_22 : decode cX2_settle 22 = .ok (.iadd, 1) := by decide +kernel
theorem dX2_settle_23 : decode cX2_settle 23 = .ok (.putfield 28, 3) := by decide +kernel
theorem dX2_settle_26 : decode cX2_settle 26 = .ok (.iload_n 3, 1) := by decide +kernel
theorem dX2_settle_27 : decode cX2_settle 27 = .ok (.ireturn, 1) := by decide +kernel
theorem dX2_pass_0 : decode cX2_pass 0 = .ok (.iconst 0, 1) := by decide +kernel
theorem dX2_pass_1 : decode cX2_pass 1 = .ok (.istore_n 2, 1) := by decide +kernel
theorem dX2_pass_2 : decode cX2_pass 2 = .ok (.iload_n 2, 1) := by decide +kernel
theorem dX2_pass_3 : decode cX2_pass 3 = .ok (.iload_n 1, 1) := by decide +kernel
theorem dX2_pass_4 : decode cX2_pass 4 = .ok (.if_icmp .ge 21, 3) := by decide +kernel
theorem dX2_pass_7 : decode cX2_pass 7 = .ok (.aload_n 0, 1) := by decide +kernel
theorem dX2_pass_8 : decode cX2_pass 8 = .ok (.getfield 12, 3) := by decide +kernel
theorem dX2_pass_11 : decode cX2_pass 11 = .ok (.iconst 1, 1) := by decide +kernel
theorem dX2_pass_12 : decode cX2_pass 12 = .ok (.invokevirtual 53, 3) := by decide +kernel
theorem dX2_pass_15 : decode cX2_pass 15 = .ok (.aload_n 0, 1) := by decide +kernel
theorem dX2_pass_16 : decode cX2_pass 16 = .ok (.invokevirtual 57, 3) := by decide +kernel
theorem dX2_pass_19 : decode cX2_pass 19 = .ok (.iinc 2 1, 3) := by decide +kernel
theorem dX2_pass_22 : decode cX2_pass 22 = .ok (.goto (-20), 3) := by decide +kernel
theorem dX2_pass_25 : decode cX2_pass 25 = .ok (.return_, 1) := by decide +kernel
theorem dX2_passShut_0 : decode cX2_passShut 0 = .ok (.aload_n 0, 1) := by decide +kernel
theorem dX2_passShut_1 : decode cX2_passShut 1 = .ok (.getfield 12, 3) := by decide +kernel
theorem dX2_passShut_4 : decode cX2_passShut 4 = .ok (.iconst 0, 1) := by decide +kernel
theorem dX2_passShut_5 : decode cX2_passShut 5 = .ok (.invokevirtual 60, 3) := by decide +kernel
theorem dX2_passShut_8 : decode cX2_passShut 8 = .ok (.aload_n 0, 1) := by decide +kernel
theorem dX2_passShut_9 : decode cX2_passShut 9 = .ok (.invokevirtual 57, 3) := by decide +kernel
theorem dX2_passShut_12 : decode cX2_passShut 12 = .ok (.return_, 1) := by decide +kernel
theorem dX2_liveAll_0 : decode cX2_liveAll 0 = .ok (.iconst 0, 1) := by decide +kernel
theorem dX2_liveAll_1 : decode cX2_liveAll 1 = .ok (.istore_n 1, 1) := by decide +kernel
theorem dX2_liveAll_2 : decode cX2_liveAll 2 = .ok (.iload_n 1, 1) := by decide +kernel
theorem dX2_liveAll_3 : decode cX2_liveAll 3 = .ok (.aload_n 0, 1) := by decide +kernel
theorem dX2_liveAll_4 : decode cX2_liveAll 4 = .ok (.getfield 28, 3) := by decide +kernel
theorem dX2_liveAll_7 : decode cX2_liveAll 7 = .ok (.if_icmp .ge 44, 3) := by decide +kernel
theorem dX2_liveAll_10 : decode cX2_liveAll 10 = .ok (.aload_n 0, 1) := by decide +kernel
theorem dX2_liveAll_11 : decode cX2_liveAll 11 = .ok (.getfield 20, 3) := by decide +kernel
theorem dX2_liveAll_14 : decode cX2_liveAll 14 = .ok (.iload_n 1, 1) := by decide +kernel
theorem dX2_liveAll_15 : decode cX2_liveAll 15 = .ok (.aaload, 1) := by decide +kernel
theorem dX2_liveAll_16 : decode cX2_liveAll 16 = .ok (.astore_n 2, 1) := by decide +kernel
theorem dX2_liveAll_17 : decode cX2_liveAll 17 = .ok (.aload_n 2, 1) := by decide +kernel
theorem dX2_liveAll_18 : decode cX2_liveAll 18 = .ok (.aload_n 0, 1) := by decide +kernel
theorem dX2_liveAll_19 : decode cX2_liveAll 19 = .ok (.getfield 12, 3) := by decide +kernel
theorem dX2_liveAll_22 : decode cX2_liveAll 22 = .ok (.getfield 63, 3) := by decide +kernel
theorem dX2_liveAll_25 : decode cX2_liveAll 25 = .ok (.aload_n 2, 1) := by decide +kernel
theorem dX2_liveAll_26 : decode cX2_liveAll 26 = .ok (.getfield 66, 3) := by decide +kernel
theorem dX2_liveAll_29 : decode cX2_liveAll 29 = .ok (.iaload, 1) := by decide +kernel
theorem dX2_liveAll_30 : decode cX2_liveAll 30 = .ok (.aload_n 0, 1) := by decide +kernel
theorem dX2_liveAll_31 : decode cX2_liveAll 31 = .ok (.getfield 12, 3) := by decide +kernel
theorem dX2_liveAll_34 : decode cX2_liveAll 34 = .ok (.getfield 69, 3) := by decide +kernel
theorem dX2_liveAll_37 : decode cX2_liveAll 37 = .ok (.aload_n 2, 1) := by decide +kernel
theorem dX2_liveAll_38 : decode cX2_liveAll 38 = .ok (.getfield 66, 3) := by decide +kernel
theorem dX2_liveAll_41 : decode cX2_liveAll 41 = .ok (.iaload, 1) := by decide +kernel
theorem dX2_liveAll_42 : decode cX2_liveAll 42 = .ok (.invokevirtual 72, 3) := by decide +kernel
theorem dX2_liveAll_45 : decode cX2_liveAll 45 = .ok (.iinc 1 1, 3) := by decide +kernel
theorem dX2_liveAll_48 : decode cX2_liveAll 48 = .ok (.goto (-46), 3) := by decide +kernel
theorem dX2_liveAll_51 : decode cX2_liveAll 51 = .ok (.return_, 1) := by decide +kernel
theorem dX2_staysHidden_0 : decode cX2_staysHidden 0 = .ok (.iconst 0, 1) := by decide +kernel
theorem dX2_staysHidden_1 : decode cX2_staysHidden 1 = .ok (.istore_n 3, 1) := by decide +kernel
theorem dX2_staysHidden_2 : decode cX2_staysHidden 2 = .ok (.iload_n 3, 1) := by decide +kernel
theorem dX2_staysHidden_3 : decode cX2_staysHidden 3 = .ok (.iload_n 1, 1) := by decide +kernel
theorem dX2_staysHidden_4 : decode cX2_staysHidden 4 = .ok (.if_icmp .ge 24, 3) := by decide +kernel
theorem dX2_staysHidden_7 : decode cX2_staysHidden 7 = .ok (.aload_n 0, 1) := by decide +kernel
theorem dX2_staysHidden_8 : decode cX2_staysHidden 8 = .ok (.iconst 1, 1) := by decide +kernel
theorem dX2_staysHidden_9 : decode cX2_staysHidden 9 = .ok (.invokevirtual 75, 3) := by decide +kernel
theorem dX2_staysHidden_12 : decode cX2_staysHidden 12 = .ok (.aload_n 0, 1) := by decide +kernel
theorem dX2_staysHidden_13 : decode cX2_staysHidden 13 = .ok (.invokevirtual 78, 3) := by decide +kernel
theorem dX2_staysHidden_16 : decode cX2_staysHidden 16 = .ok (.iload_n 2, 1) := by decide +kernel
theorem dX2_staysHidden_17 : decode cX2_staysHidden 17 = .ok (.if_icmp .eq 5, 3) := by decide +kernel
theorem dX2_staysHidden_20 : decode cX2_staysHidden 20 = .ok (.iconst 0, 1) := by decide +kernel
theorem dX2_staysHidden_21 : decode cX2_staysHidden 21 = .ok (.ireturn, 1) := by decide +kernel
theorem dX2_staysHidden_22 : decode cX2_staysHidden 22 = .ok (.iinc 3 1, 3) := by decide +kernel
theorem dX2_staysHidden_25 : decode cX2_staysHidden 25 = .ok (.goto (-23), 3) := by decide +kernel
theorem dX2_staysHidden_28 : decode cX2_staysHidden 28 = .ok (.iconst 1, 1) := by decide +kernel
theorem dX2_staysHidden_29 : decode cX2_staysHidden 29 = .ok (.ireturn, 1) := by decide +kernel
theorem dX2_knowing_0 : decode cX2_knowing 0 = .ok (.iconst 0, 1) := by decide +kernel
theorem dX2_knowing_1 : decode cX2_knowing 1 = .ok (.istore_n 1, 1) := by decide +kernel
theorem dX2_knowing_2 : decode cX2_knowing 2 = .ok (.iconst 0, 1) := by decide +kernel
theorem dX2_knowing_3 : decode cX2_knowing 3 = .ok (.istore_n 2, 1) := by decide +kernel
theorem dX2_knowing_4 : decode cX2_knowing 4 = .ok (.iload_n 2, 1) := by decide +kernel
theorem dX2_knowing_5 : decode cX2_knowing 5 = .ok (.aload_n 0, 1) := by decide +kernel
theorem dX2_knowing_6 : decode cX2_knowing 6 = .ok (.getfield 28, 3) := by decide +kernel
theorem dX2_knowing_9 : decode cX2_knowing 9 = .ok (.if_icmp .ge 27, 3) := by decide +kernel
theorem dX2_knowing_12 : decode cX2_knowing 12 = .ok (.aload_n 0, 1) := by decide +kernel
theorem dX2_knowing_13 : decode cX2_knowing 13 = .ok (.getfield 20, 3) := by decide +kernel
theorem dX2_knowing_16 : decode cX2_knowing 16 = .ok (.iload_n 2, 1) := by decide +kernel
theorem dX2_knowing_17 : decode cX2_knowing 17 = .ok (.aaload, 1) := by decide +kernel
theorem dX2_knowing_18 : decode cX2_knowing 18 = .ok (.invokevirtual 82, 3) := by decide +kernel
theorem dX2_knowing_21 : decode cX2_knowing 21 = .ok (.ifCond .eq 9, 3) := by decide +kernel
theorem dX2_knowing_24 : decode cX2_knowing 24 = .ok (.iload_n 1, 1) := by decide +kernel
theorem dX2_knowing_25 : decode cX2_knowing 25 = .ok (.iconst 1, 1) := by decide +kernel
theorem dX2_knowing_26 : decode cX2_knowing 26 = .ok (.iload_n 2, 1) := by decide +kernel
theorem dX2_knowing_27 : decode cX2_knowing 27 = .ok (.ishl, 1) := by decide +kernel
theorem dX2_knowing_28 : decode cX2_knowing 28 = .ok (.ior, 1) := by decide +kernel
theorem dX2_knowing_29 : decode cX2_knowing 29 = .ok (.istore_n 1, 1) := by decide +kernel
theorem dX2_knowing_30 : decode cX2_knowing 30 = .ok (.iinc 2 1, 3) := by decide +kernel
theorem dX2_knowing_33 : decode cX2_knowing 33 = .ok (.goto (-29), 3) := by decide +kernel
theorem dX2_knowing_36 : decode cX2_knowing 36 = .ok (.iload_n 1, 1) := by decide +kernel
theorem dX2_knowing_37 : decode cX2_knowing 37 = .ok (.ireturn, 1) := by decide +kernel
theorem dX2_lacking_0 : decode cX2_lacking 0 = .ok (.iconst 0, 1) := by decide +kernel
theorem dX2_lacking_1 : decode cX2_lacking 1 = .ok (.istore_n 1, 1) := by decide +kernel
theorem dX2_lacking_2 : decode cX2_lacking 2 = .ok (.iconst 0, 1) := by decide +kernel
theorem dX2_lacking_3 : decode cX2_lacking 3 = .ok (.istore_n 2, 1) := by decide +kernel
theorem dX2_lacking_4 : decode cX2_lacking 4 = .ok (.iload_n 2, 1) := by decide +kernel
theorem dX2_lacking_5 : decode cX2_lacking 5 = .ok (.aload_n 0, 1) := by decide +kernel
theorem dX2_lacking_6 : decode cX2_lacking 6 = .ok (.getfield 28, 3) := by decide +kernel
theorem dX2_lacking_9 : decode cX2_lacking 9 = .ok (.if_icmp .ge 44, 3) := by decide +kernel
theorem dX2_lacking_12 : decode cX2_lacking 12 = .ok (.aload_n 0, 1) := by decide +kernel
theorem dX2_lacking_13 : decode cX2_lacking 13 = .ok (.getfield 20, 3) := by decide +kernel
theorem dX2_lacking_16 : decode cX2_lacking 16 = .ok (.iload_n 2, 1) := by decide +kernel
theorem dX2_lacking_17 : decode cX2_lacking 17 = .ok (.aaload, 1) := by decide +kernel
theorem dX2_lacking_18 : decode cX2_lacking 18 = .ok (.aload_n 0, 1) := by decide +kernel
theorem dX2_lacking_19 : decode cX2_lacking 19 = .ok (.getfield 12, 3) := by decide +kernel
theorem dX2_lacking_22 : decode cX2_lacking 22 = .ok (.getfield 69, 3) := by decide +kernel
theorem dX2_lacking_25 : decode cX2_lacking 25 = .ok (.aload_n 0, 1) := by decide +kernel
theorem dX2_lacking_26 : decode cX2_lacking 26 = .ok (.getfield 20, 3) := by decide +kernel
theorem dX2_lacking_29 : decode cX2_lacking 29 = .ok (.iload_n 2, 1) := by decide +kernel
theorem dX2_lacking_30 : decode cX2_lacking 30 = .ok (.aaload, 1) := by decide +kernel
theorem dX2_lacking_31 : decode cX2_lacking 31 = .ok (.getfield 66, 3) := by decide +kernel
theorem dX2_lacking_34 : decode cX2_lacking 34 = .ok (.iaload, 1) := by decide +kernel
theorem dX2_lacking_35 : decode cX2_lacking 35 = .ok (.invokevirtual 86, 3) := by decide +kernel
theorem dX2_lacking_38 : decode cX2_lacking 38 = .ok (.ifCond .eq 9, 3) := by decide +kernel
theorem dX2_lacking_41 : decode cX2_lacking 41 = .ok (.iload_n 1, 1) := by decide +kernel
theorem dX2_lacking_42 : decode cX2_lacking 42 = .ok (.iconst 1, 1) := by decide +kernel
theorem dX2_lacking_43 : decode cX2_lacking 43 = .ok (.iload_n 2, 1) := by decide +kernel
theorem dX2_lacking_44 : decode cX2_lacking 44 = .ok (.ishl, 1) := by decide +kernel
theorem dX2_lacking_45 : decode cX2_lacking 45 = .ok (.ior, 1) := by decide +kernel
theorem dX2_lacking_46 : decode cX2_lacking 46 = .ok (.istore_n 1, 1) := by decide +kernel
theorem dX2_lacking_47 : decode cX2_lacking 47 = .ok (.iinc 2 1, 3) := by decide +kernel
theorem dX2_lacking_50 : decode cX2_lacking 50 = .ok (.goto (-46), 3) := by decide +kernel
theorem dX2_lacking_53 : decode cX2_lacking 53 = .ok (.iload_n 1, 1) := by decide +kernel
theorem dX2_lacking_54 : decode cX2_lacking 54 = .ok (.ireturn, 1) := by decide +kernel
theorem dX2_beliefsTogether_0 : decode cX2_beliefsTogether 0 = .ok (.iconst 0, 1) := by decide +kernel
theorem dX2_beliefsTogether_1 : decode cX2_beliefsTogether 1 = .ok (.istore_n 1, 1) := by decide +kernel
theorem dX2_beliefsTogether_2 : decode cX2_beliefsTogether 2 = .ok (.iconst 0, 1) := by decide +kernel
theorem dX2_beliefsTogether_3 : decode cX2_beliefsTogether 3 = .ok (.istore_n 2, 1) := by decide +kernel
theorem dX2_beliefsTogether_4 : decode cX2_beliefsTogether 4 = .ok (.iload_n 2, 1) := by decide +kernel
theorem dX2_beliefsTogether_5 : decode cX2_beliefsTogether 5 = .ok (.aload_n 0, 1) := by decide +kernel
theorem dX2_beliefsTogether_6 : decode cX2_beliefsTogether 6 = .ok (.getfield 28, 3) := by decide +kernel
theorem dX2_beliefsTogether_9 : decode cX2_beliefsTogether 9 = .ok (.if_icmp .ge 21, 3) := by decide +kernel
theorem dX2_beliefsTogether_12 : decode cX2_beliefsTogether 12 = .ok (.iload_n 1, 1) := by decide +kernel
theorem dX2_beliefsTogether_13 : decode cX2_beliefsTogether 13 = .ok (.aload_n 0, 1) := by decide +kernel
theorem dX2_beliefsTogether_14 : decode cX2_beliefsTogether 14 = .ok (.getfield 20, 3) := by decide +kernel
theorem dX2_beliefsTogether_17 : decode cX2_beliefsTogether 17 = .ok (.iload_n 2, 1) := by decide +kernel
theorem dX2_beliefsTogether_18 : decode cX2_beliefsTogether 18 = .ok (.aaload, 1) := by decide +kernel
theorem dX2_beliefsTogether_19 : decode cX2_beliefsTogether 19 = .ok (.getfield 90, 3) := by decide +kernel
theorem dX2_beliefsTogether_22 : decode cX2_beliefsTogether 22 = .ok (.iadd, 1) := by decide +kernel
theorem dX2_beliefsTogether_23 : decode cX2_beliefsTogether 23 = .ok (.istore_n 1, 1) := by decide +kernel
theorem dX2_beliefsTogether_24 : decode cX2_beliefsTogether 24 = .ok (.iinc 2 1, 3) := by decide +kernel
theorem dX2_beliefsTogether_27 : decode cX2_beliefsTogether 27 = .ok (.goto (-23), 3) := by decide +kernel
theorem dX2_beliefsTogether_30 : decode cX2_beliefsTogether 30 = .ok (.iload_n 1, 1) := by decide +kernel
theorem dX2_beliefsTogether_31 : decode cX2_beliefsTogether 31 = .ok (.ireturn, 1) := by decide +kernel
theorem dX2_spotsHolding_0 : decode cX2_spotsHolding 0 = .ok (.iconst 0, 1) := by decide +kernel
theorem dX2_spotsHolding_1 : decode cX2_spotsHolding 1 = .ok (.istore_n 1, 1) := by decide +kernel
theorem dX2_spotsHolding_2 : decode cX2_spotsHolding 2 = .ok (.iconst 0, 1) := by decide +kernel
theorem dX2_spotsHolding_3 : decode cX2_spotsHolding 3 = .ok (.istore_n 2, 1) := by decide +kernel
theorem dX2_spotsHolding_4 : decode cX2_spotsHolding 4 = .ok (.iload_n 2, 1) := by decide +kernel
theorem dX2_spotsHolding_5 : decode cX2_spotsHolding 5 = .ok (.bipush 10, 2) := by decide +kernel
theorem dX2_spotsHolding_7 : decode cX2_spotsHolding 7 = .ok (.if_icmp .ge 22, 3) := by decide +kernel
theorem dX2_spotsHolding_10 : decode cX2_spotsHolding 10 = .ok (.aload_n 0, 1) := by decide +kernel
theorem dX2_spotsHolding_11 : decode cX2_spotsHolding 11 = .ok (.getfield 24, 3) := by decide +kernel
theorem dX2_spotsHolding_14 : decode cX2_spotsHolding 14 = .ok (.iload_n 2, 1) := by decide +kernel
theorem dX2_spotsHolding_15 : decode cX2_spotsHolding 15 = .ok (.iaload, 1) := by decide +kernel
theorem dX2_spotsHolding_16 : decode cX2_spotsHolding 16 = .ok (.iconst (-1), 1) := by decide +kernel
theorem dX2_spotsHolding_17 : decode cX2_spotsHolding 17 = .ok (.if_icmp .eq 6, 3) := by decide +kernel
theorem dX2_spotsHolding_20 : decode cX2_spotsHolding 20 = .ok (.iinc 1 1, 3) := by decide +kernel
theorem dX2_spotsHolding_23 : decode cX2_spotsHolding 23 = .ok (.iinc 2 1, 3) := by decide +kernel
theorem dX2_spotsHolding_26 : decode cX2_spotsHolding 26 = .ok (.goto (-22), 3) := by decide +kernel
theorem dX2_spotsHolding_29 : decode cX2_spotsHolding 29 = .ok (.iload_n 1, 1) := by decide +kernel
theorem dX2_spotsHolding_30 : decode cX2_spotsHolding 30 = .ok (.ireturn, 1) := by decide +kernel
theorem dX2_draw_0 : decode cX2_draw 0 = .ok (.aload_n 0, 1) := by decide +kernel
theorem dX2_draw_1 : decode cX2_draw 1 = .ok (.aload_n 0, 1) := by decide +kernel
theorem dX2_draw_2 : decode cX2_draw 2 = .ok (.getfield 32, 3) := by decide +kernel
theorem dX2_draw_5 : decode cX2_draw 5 = .ok (.ldc 93, 2) := by decide +kernel
theorem dX2_draw_7 : decode cX2_draw 7 = .ok (.imul, 1) := by decide +kernel
theorem dX2_draw_8 : decode cX2_draw 8 = .ok (.sipush 12345, 3) := by decide +kernel
theorem dX2_draw_11 : decode cX2_draw 11 = .ok (.iadd, 1) := by decide +kernel
theorem dX2_draw_12 : decode cX2_draw 12 = .ok (.putfield 32, 3) := by decide +kernel
theorem dX2_draw_15 : decode cX2_draw 15 = .ok (.aload_n 0, 1) := by decide +kernel
theorem dX2_draw_16 : decode cX2_draw 16 = .ok (.getfield 32, 3) := by decide +kernel
theorem dX2_draw_19 : decode cX2_draw 19 = .ok (.bipush 8, 2) := by decide +kernel
theorem dX2_draw_21 : decode cX2_draw 21 = .ok (.iushr, 1) := by decide +kernel
theorem dX2_draw_22 : decode cX2_draw 22 = .ok (.ireturn, 1) := by decide +kernel
theorem dX3_init_0 : decode cX3_init 0 = .ok (.aload_n 0, 1) := by decide +kernel
theorem dX3_init_1 : decode cX3_init 1 = .ok (.invokespecial 5, 3) := by decide +kernel
theorem dX3_init_4 : decode cX3_init 4 = .ok (.return_, 1) := by decide +kernel
theorem dX3_begin_0 : decode cX3_begin 0 = .ok (.aload_n 0, 1) := by decide +kernel
theorem dX3_begin_1 : decode cX3_begin 1 = .ok (.iload_n 1, 1) := by decide +kernel
theorem dX3_begin_2 : decode cX3_begin 2 = .ok (.putfield 11, 3) := by decide +kernel
theorem dX3_begin_5 : decode cX3_begin 5 = .ok (.aload_n 0, 1) := by decide +kernel
theorem dX3_begin_6 : decode cX3_begin 6 = .ok (.iload_n 2, 1) := by decide +kernel
theorem dX3_begin_7 : decode cX3_begin 7 = .ok (.putfield 15, 3) := by decide +kernel
theorem dX3_begin_10 : decode cX3_begin 10 = .ok (.aload_n 0, 1) := by decide +kernel
theorem dX3_begin_11 : decode cX3_begin 11 = .ok (.iconst 5, 1) := by decide +kernel
theorem dX3_begin_12 : decode cX3_begin 12 = .ok (.putfield 18, 3) := by decide +kernel
theorem dX3_begin_15 : decode cX3_begin 15 = .ok (.aload_n 0, 1) := by decide +kernel
theorem dX3_begin_16 : decode cX3_begin 16 = .ok (.bipush 50, 2) := by decide +kernel
theorem dX3_begin_18 : decode cX3_begin 18 = .ok (.putfield 21, 3) := by decide +kernel
theorem dX3_begin_21 : decode cX3_begin 21 = .ok (.aload_n 0, 1) := by decide +kernel
theorem dX3_begin_22 : decode cX3_begin 22 = .ok (.iconst 0, 1) := by decide +kernel
theorem dX3_begin_23 : decode cX3_begin 23 = .ok (.putfield 24, 3) := by decide +kernel
theorem dX3_begin_26 : decode cX3_begin 26 = .ok (.return_, 1) := by decide +kernel
theorem dX3_become_0 : decode cX3_become 0 = .ok (.aload_n 0, 1) := by decide +kernel
theorem dX3_become_1 : decode cX3_become 1 = .ok (.aload_n 1, 1) := by decide +kernel
theorem dX3_become_2 : decode cX3_become 2 = .ok (.getfield 11, 3) := by decide +kernel
theorem dX3_become_5 : decode cX3_become 5 = .ok (.putfield 11, 3) := by decide +kernel
theorem dX3_become_8 : decode cX3_become 8 = .ok (.aload_n 0, 1) := by decide +kernel
theorem dX3_become_9 : decode cX3_become 9 = .ok (.aload_n 1, 1) := by decide +kernel
theorem dX3_become_10 : decode cX3_become 10 = .ok (.getfield 15, 3) := by decide +kernel
theorem dX3_become_13 : decode cX3_become 13 = .ok (.putfield 15, 3) := by decide +kernel
theorem dX3_become_16 : decode cX3_become 16 = .ok (.aload_n 0, 1) := by decide +kernel
theorem dX3_become_17 : decode cX3_become 17 = .ok (.aload_n 1, 1) := by decide +kernel
theorem dX3_become_18 : decode cX3_become 18 = .ok (.getfield 18, 3) := by decide +kernel
theorem dX3_become_21 : decode cX3_become 21 = .ok (.putfield 18, 3) := by decide +kernel
theorem dX3_become_24 : decode cX3_become 24 = .ok (.aload_n 0, 1) := by decide +kernel
theorem dX3_become_25 : decode cX3_become 25 = .ok (.aload_n 1, 1) := by decide +kernel
theorem dX3_become_26 : decode cX3_become 26 = .ok (.getfield 21, 3) := by decide +kernel
theorem dX3_become_29 : decode cX3_become 29 = .ok (.putfield 21, 3) := by decide +kernel
theorem dX3_become_32 : decode cX3_become 32 = .ok (.aload_n 0, 1) := by decide +kernel
theorem dX3_become_33 : decode cX3_become 33 = .ok (.aload_n 1, 1) := by decide +kernel
theorem dX3_become_34 : decode cX3_become 34 = .ok (.getfield 24, 3) := by decide +kernel
theorem dX3_become_37 : decode cX3_become 37 = .ok (.putfield 24, 3) := by decide +kernel
theorem dX3_become_40 : decode cX3_become 40 = .ok (.return_, 1) := by decide +kernel
theorem dX3_set_0 : decode cX3_set 0 = .ok (.iload_n 1, 1) := by decide +kernel
theorem dX3_set_1 : decode cX3_set 1 = .ok (.tableswitch 79 0 3 #[31, 43, 55, 67], 31) := by decide +kernel
theorem dX3_set_32 : decode cX3_set 32 = .ok (.aload_n 0, 1) := by decide +kernel
theorem dX3_set_33 : decode cX3_set 33 = .ok (.getfield 11, 3) := by decide +kernel
theorem dX3_set_36 : decode cX3_set 36 = .ok (.istore_n 3, 1) := by decide +kernel
theorem dX3_set_37 : decode cX3_set 37 = .ok (.aload_n 0, 1) := by decide +kernel
theorem dX3_set_38 : decode cX3_set 38 = .ok (.iload_n 2, 1) := by decide +kernel
theorem dX3_set_39 : decode cX3_set 39 = .ok (.putfield 11, 3) := by decide +kernel
theorem dX3_set_42 : decode cX3_set 42 = .ok (.iload_n 3, 1) := by decide +kernel
theorem dX3_set_43 : decode cX3_set 43 = .ok (.ireturn, 1) := by decide +kernel
theorem dX3_set_44 : decode cX3_set 44 = .ok (.aload_n 0, 1) := by decide +kernel
theorem dX3_set_45 : decode cX3_set 45 = .ok (.getfield 15, 3) := by decide +kernel
theorem dX3_set_48 : decode cX3_set 48 = .ok (.istore_n 3, 1) := by decide +kernel
theorem dX3_set_49 : decode cX3_set 49 = .ok (.aload_n 0, 1) := by decide +kernel
theorem dX3_set_50 : decode cX3_set 50 = .ok (.iload_n 2, 1) := by decide +kernel
theorem dX3_set_51 : decode cX3_set 51 = .ok (.putfield 15, 3) := by decide +kernel
theorem dX3_set_54 : decode cX3_set 54 = .ok (.iload_n 3, 1) := by decide +kernel
theorem dX3_set_55 : decode cX3_set 55 = .ok (.ireturn, 1) := by decide +kernel
theorem dX3_set_56 : decode cX3_set 56 = .ok (.aload_n 0, 1) := by decide +kernel
theorem dX3_set_57 : decode cX3_set 57 = .ok (.getfield 18, 3) := by decide +kernel
theorem dX3_set_60 : decode cX3_set 60 = .ok (.istore_n 3, 1) := by decide +kernel
theorem dX3_set_61 : decode cX3_set 61 = .ok (.aload_n 0, 1) := by decide +kernel
theorem dX3_set_62 : decode cX3_set 62 = .ok (.iload_n 2, 1) := by decide +kernel
theorem dX3_set_63 : decode cX3_set 63 = .ok (.putfield 18, 3) := by decide +kernel
theorem dX3_set_66 : decode cX3_set 66 = .ok (.iload_n 3, 1) := by decide +kernel
theorem dX3_set_67 : decode cX3_set 67 = .ok (.ireturn, 1) := by decide +kernel
theorem dX3_set_68 : decode cX3_set 68 = .ok (.aload_n 0, 1) := by decide +kernel
theorem dX3_set_69 : decode cX3_set 69 = .ok (.getfield 21, 3) := by decide +kernel
theorem dX3_set_72 : decode cX3_set 72 = .ok (.istore_n 3, 1) := by decide +kernel
theorem dX3_set_73 : decode cX3_set 73 = .ok (.aload_n 0, 1) := by decide +kernel
theorem dX3_set_74 : decode cX3_set 74 = .ok (.iload_n 2, 1) := by decide +kernel
theorem dX3_set_75 : decode cX3_set 75 = .ok (.putfield 21, 3) := by decide +kernel
theorem dX3_set_78 : decode cX3_set 78 = .ok (.iload_n 3, 1) := by decide +kernel
theorem dX3_set_79 : decode cX3_set 79 = .ok (.ireturn, 1) := by decide +kernel
theorem dX3_set_80 : decode cX3_set 80 = .ok (.aload_n 0, 1) := by decide +kernel
theorem dX3_set_81 : decode cX3_set 81 = .ok (.getfield 24, 3) := by decide +kernel
theorem dX3_set_84 : decode cX3_set 84 = .ok (.istore_n 3, 1) := by decide +kernel
theorem dX3_set_85 : decode cX3_set 85 = .ok (.aload_n 0, 1) := by decide +kernel
theorem dX3_set_86 : decode cX3_set 86 = .ok (.iload_n 2, 1) := by decide +kernel
theorem dX3_set_87 : decode cX3_set 87 = .ok (.putfield 24, 3) := by decide +kernel
theorem dX3_set_90 : decode cX3_set 90 = .ok (.iload_n 3, 1) := by decide +kernel
theorem dX3_set_91 : decode cX3_set 91 = .ok (.ireturn, 1) := by decide +kernel
theorem dX3_knows_0 : decode cX3_knows 0 = .ok (.aload_n 0, 1) := by decide +kernel
theorem dX3_knows_1 : decode cX3_knows 1 = .ok (.getfield 21, 3) := by decide +kernel
theorem dX3_knows_4 : decode cX3_knows 4 = .ok (.ifCond .ne 7, 3) := by decide +kernel
theorem dX3_knows_7 : decode cX3_knows 7 = .ok (.iconst 1, 1) := by decide +kernel
theorem dX3_knows_8 : decode cX3_knows 8 = .ok (.goto 4, 3) := by decide +kernel
theorem dX3_knows_11 : decode cX3_knows 11 = .ok (.iconst 0, 1) := by decide +kernel
theorem dX3_knows_12 : decode cX3_knows 12 = .ok (.ireturn, 1) := by decide +kernel
theorem dX3_lacks_0 : decode cX3_lacks 0 = .ok (.iload_n 1, 1) := by decide +kernel
theorem dX3_lacks_1 : decode cX3_lacks 1 = .ok (.aload_n 0, 1) := by decide +kernel
theorem dX3_lacks_2 : decode cX3_lacks 2 = .ok (.getfield 18, 3) := by decide +kernel
theorem dX3_lacks_5 : decode cX3_lacks 5 = .ok (.if_icmp .ge 7, 3) := by decide +kernel
theorem dX3_lacks_8 : decode cX3_lacks 8 = .ok (.iconst 1, 1) := by decide +kernel
theorem dX3_lacks_9 : decode cX3_lacks 9 = .ok (.goto 4, 3) := by decide +kernel
theorem dX3_lacks_12 : decode cX3_lacks 12 = .ok (.iconst 0, 1) := by decide +kernel
theorem dX3_lacks_13 : decode cX3_lacks 13 = .ok (.ireturn, 1) := by decide +kernel
theorem dX3_live_0 : decode cX3_live 0 = .ok (.aload_n 0, 1) := by decide +kernel
theorem dX3_live_1 : decode cX3_live 1 = .ok (.invokevirtual 27, 3) := by decide +kernel
theorem dX3_live_4 : decode cX3_live 4 = .ok (.ifCond .ne 62, 3) := by decide +kernel
theorem dX3_live_7 : decode cX3_live 7 = .ok (.iload_n 2, 1) := by decide +kernel
theorem dX3_live_8 : decode cX3_live 8 = .ok (.iload_n 1, 1) := by decide +kernel
theorem dX3_live_9 : decode cX3_live 9 = .ok (.isub, 1) := by decide +kernel
theorem dX3_live_10 : decode cX3_live 10 = .ok (.invokestatic 31, 3) := by decide +kernel
theorem dX3_live_13 : decode cX3_live 13 = .ok (.aload_n 0, 1) := by decide +kernel
theorem dX3_live_14 : decode cX3_live 14 = .ok (.invokevirtual 37, 3) := by decide +kernel
theorem dX3_live_17 : decode cX3_live 17 = .ok (.if_icmp .le 23, 3) := by decide +kernel
theorem dX3_live_20 : decode cX3_live 20 = .ok (.aload_n 0, 1) := by decide +kernel
theorem dX3_live_21 : decode cX3_live 21 = .ok (.iconst 0, 1) := by decide +kernel
theorem dX3_live_22 : decode cX3_live 22 = .ok (.aload_n 0, 1) := by decide +kernel
theorem dX3_live_23 : decode cX3_live 23 = .ok (.getfield 21, 3) := by decide +kernel
theorem dX3_live_26 : decode cX3_live 26 = .ok (.aload_n 0, 1) := by decide +kernel
theorem dX3_live_27 : decode cX3_live 27 = .ok (.invokevirtual 41, 3) := by decide +kernel
theorem dX3_live_30 : decode cX3_live 30 = .ok (.isub, 1) := by decide +kernel
theorem dX3_live_31 : decode cX3_live 31 = .ok (.invokestatic 44, 3) := by decide +kernel
theorem dX3_live_34 : decode cX3_live 34 = .ok (.putfield 21, 3) := by decide +kernel
theorem dX3_live_37 : decode cX3_live 37 = .ok (.goto 29, 3) := by decide +kernel
theorem dX3_live_40 : decode cX3_live 40 = .ok (.aload_n 0, 1) := by decide +kernel
theorem dX3_live_41 : decode cX3_live 41 = .ok (.iload_n 2, 1) := by decide +kernel
theorem dX3_live_42 : decode cX3_live 42 = .ok (.invokevirtual 48, 3) := by decide +kernel
theorem dX3_live_45 : decode cX3_live 45 = .ok (.ifCond .ne 21, 3) := by decide +kernel
theorem dX3_live_48 : decode cX3_live 48 = .ok (.aload_n 0, 1) := by decide +kernel
theorem dX3_live_49 : decode cX3_live 49 = .ok (.bipush 99, 2) := by decide +kernel
theorem dX3_live_51 : decode cX3_live 51 = .ok (.aload_n 0, 1) := by decide +kernel
theorem dX3_live_52 : decode cX3_live 52 = .ok (.getfield 21, 3) := by decide +kernel
theorem dX3_live_55 : decode cX3_live 55 = .ok (.aload_n 0, 1) := by decide +kernel
theorem dX3_live_56 : decode cX3_live 56 = .ok (.invokevirtual 52, 3) := by decide +kernel
theorem dX3_live_59 : decode cX3_live 59 = .ok (.iadd, 1) := by decide +kernel
theorem dX3_live_60 : decode cX3_live 60 = .ok (.invokestatic 55, 3) := by decide +kernel
theorem dX3_live_63 : decode cX3_live 63 = .ok (.putfield 21, 3) := by decide +kernel
theorem dX3_live_66 : decode cX3_live 66 = .ok (.aload_n 0, 1) := by decide +kernel
theorem dX3_live_67 : decode cX3_live 67 = .ok (.iload_n 2, 1) := by decide +kernel
theorem dX3_live_68 : decode cX3_live 68 = .ok (.invokevirtual 48, 3) := by decide +kernel
theorem dX3_live_71 : decode cX3_live 71 = .ok (.ifCond .eq 19, 3) := by decide +kernel
theorem dX3_live_74 : decode cX3_live 74 = .ok (.aload_n 0, 1) := by decide +kernel
theorem dX3_live_75 : decode cX3_live 75 = .ok (.sipush 9999, 3) := by decide +kernel
theorem dX3_live_78 : decode cX3_live 78 = .ok (.aload_n 0, 1) := by decide +kernel
theorem dX3_live_79 : decode cX3_live 79 = .ok (.getfield 24, 3) := by decide +kernel
theorem dX3_live_82 : decode cX3_live 82 = .ok (.iconst 1, 1) := by decide +kernel
theorem dX3_live_83 : decode cX3_live 83 = .ok (.iadd, 1) := by decide +kernel
theorem dX3_live_84 : decode cX3_live 84 = .ok (.invokestatic 55, 3) := by decide +kernel
theorem dX3_live_87 : decode cX3_live 87 = .ok (.putfield 24, 3) := by decide +kernel
theorem dX3_live_90 : decode cX3_live 90 = .ok (.return_, 1) := by decide +kernel
theorem dX3_bears_0 : decode cX3_bears 0 = .ok (.aload_n 0, 1) := by decide +kernel
theorem dX3_bears_1 : decode cX3_bears 1 = .ok (.getfield 11, 3) := by decide +kernel
theorem dX3_bears_4 : decode cX3_bears 4 = .ok (.tableswitch 74 1 6 #[40, 52, 54, 56, 71, 45], 40) := by decide +kernel
theorem dX3_bears_44 : decode cX3_bears 44 = .ok (.aload_n 0, 1) := by decide +kernel
theorem dX3_bears_45 : decode cX3_bears 45 = .ok (.invokevirtual 58, 3) := by decide +kernel
theorem dX3_bears_48 : decode cX3_bears 48 = .ok (.ireturn, 1) := by decide +kernel
theorem dX3_bears_49 : decode cX3_bears 49 = .ok (.iconst 2, 1) := by decide +kernel
theorem dX3_bears_50 : decode cX3_bears 50 = .ok (.aload_n 0, 1) := by decide +kernel
theorem dX3_bears_51 : decode cX3_bears 51 = .ok (.invokevirtual 58, 3) := by decide +kernel
theorem dX3_bears_54 : decode cX3_bears 54 = .ok (.imul, 1) := by decide +kernel
theorem dX3_bears_55 : decode cX3_bears 55 = .ok (.ireturn, 1) := by decide +kernel
theorem dX3_bears_56 : decode cX3_bears 56 = .ok (.iconst 3, 1) := by decide +kernel
theorem dX3_bears_57 : decode cX3_bears 57 = .ok (.ireturn, 1) := by decide +kernel
theorem dX3_bears_58 : decode cX3_bears 58 = .ok (.iconst 2, 1) := by decide +kernel
theorem dX3_bears_59 : decode cX3_bears 59 = .ok (.ireturn, 1) := by decide +kernel
theorem dX3_bears_60 : decode cX3_bears 60 = .ok (.aload_n 0, 1) := by decide +kernel
theorem dX3_bears_61 : decode cX3_bears 61 = .ok (.getfield 21, 3) := by decide +kernel
theorem dX3_bears_64 : decode cX3_bears 64 = .ok (.bipush 20, 2) := by decide +kernel
theorem dX3_bears_66 : decode cX3_bears 66 = .ok (.if_icmp .ge 7, 3) := by decide +kernel
theorem dX3_bears_69 : decode cX3_bears 69 = .ok (.iconst 1, 1) := by decide +kernel
theorem dX3_bears_70 : decode cX3_bears 70 = .ok (.goto 4, 3) := by decide +kernel
theorem dX3_bears_73 : decode cX3_bears 73 = .ok (.iconst 2, 1) := by decide +kernel
theorem dX3_bears_74 : decode cX3_bears 74 = .ok (.ireturn, 1) := by decide +kernel
theorem dX3_bears_75 : decode cX3_bears 75 = .ok (.bipush 20, 2) := by decide +kernel
theorem dX3_bears_77 : decode cX3_bears 77 = .ok (.ireturn, 1) := by decide +kernel
theorem dX3_bears_78 : decode cX3_bears 78 = .ok (.iconst 5, 1) := by decide +kernel
theorem dX3_bears_79 : decode cX3_bears 79 = .ok (.ireturn, 1) := by decide +kernel
theorem dX3_millBears_0 : decode cX3_millBears 0 = .ok (.iconst 5, 1) := by decide +kernel
theorem dX3_millBears_1 : decode cX3_millBears 1 = .ok (.aload_n 0, 1) := by decide +kernel
theorem dX3_millBears_2 : decode cX3_millBears 2 = .ok (.getfield 18, 3) := by decide +kernel
theorem dX3_millBears_5 : decode cX3_millBears 5 = .ok (.bipush 10, 2) := by decide +kernel
theorem dX3_millBears_7 : decode cX3_millBears 7 = .ok (.idiv, 1) := by decide +kernel
theorem dX3_millBears_8 : decode cX3_millBears 8 = .ok (.iadd, 1) := by decide +kernel
theorem dX3_millBears_9 : decode cX3_millBears 9 = .ok (.ireturn, 1) := by decide +kernel
theorem dX3_doubts_0 : decode cX3_doubts 0 = .ok (.aload_n 0, 1) := by decide +kernel
theorem dX3_doubts_1 : decode cX3_doubts 1 = .ok (.getfield 11, 3) := by decide +kernel
theorem dX3_doubts_4 : decode cX3_doubts 4 = .ok (.tableswitch 55 1 6 #[40, 44, 47, 50, 53, 42], 40) := by decide +kernel
theorem dX3_doubts_44 : decode cX3_doubts 44 = .ok (.iconst 5, 1) := by decide +kernel
theorem dX3_doubts_45 : decode cX3_doubts 45 = .ok (.ireturn, 1) := by decide +kernel
theorem dX3_doubts_46 : decode cX3_doubts 46 = .ok (.iconst 1, 1) := by decide +kernel
theorem dX3_doubts_47 : decode cX3_doubts 47 = .ok (.ireturn, 1) := by decide +kernel
theorem dX3_doubts_48 : decode cX3_doubts 48 = .ok (.bipush 20, 2) := by decide +kernel
theorem dX3_doubts_50 : decode cX3_doubts 50 = .ok (.ireturn, 1) := by decide +kernel
theorem dX3_doubts_51 : decode cX3_doubts 51 = .ok (.bipush 25, 2) := by decide +kernel
theorem dX3_doubts_53 : decode cX3_doubts 53 = .ok (.ireturn, 1) := by decide +kernel
theorem dX3_doubts_54 : decode cX3_doubts 54 = .ok (.bipush 50, 2) := by decide +kernel
theorem dX3_doubts_56 : decode cX3_doubts 56 = .ok (.ireturn, 1) := by decide +kernel
theorem dX3_doubts_57 : decode cX3_doubts 57 = .ok (.iconst 0, 1) := by decide +kernel
theorem dX3_doubts_58 : decode cX3_doubts 58 = .ok (.ireturn, 1) := by decide +kernel
theorem dX3_doubts_59 : decode cX3_doubts 59 = .ok (.bipush 10, 2) := by decide +kernel
theorem dX3_doubts_61 : decode cX3_doubts 61 = .ok (.ireturn, 1) := by decide +kernel
theorem dX3_trusts_0 : decode cX3_trusts 0 = .ok (.aload_n 0, 1) := by decide +kernel
theorem dX3_trusts_1 : decode cX3_trusts 1 = .ok (.getfield 11, 3) := by decide +kernel
theorem dX3_trusts_4 : decode cX3_trusts 4 = .ok (.tableswitch 50 1 6 #[40, 50, 44, 46, 48, 42], 40) := by decide +kernel
theorem dX3_trusts_44 : decode cX3_trusts 44 = .ok (.iconst 2, 1) := by decide +kernel
theorem dX3_trusts_45 : decode cX3_trusts 45 = .ok (.ireturn, 1) := by decide +kernel
theorem dX3_trusts_46 : decode cX3_trusts 46 = .ok (.iconst 2, 1) := by decide +kernel
theorem dX3_trusts_47 : decode cX3_trusts 47 = .ok (.ireturn, 1) := by decide +kernel
theorem dX3_trusts_48 : decode cX3_trusts 48 = .ok (.iconst 0, 1) := by decide +kernel
theorem dX3_trusts_49 : decode cX3_trusts 49 = .ok (.ireturn, 1) := by decide +kernel
theorem dX3_trusts_50 : decode cX3_trusts 50 = .ok (.iconst 0, 1) := by decide +kernel
theorem dX3_trusts_51 : decode cX3_trusts 51 = .ok (.ireturn, 1) := by decide +kernel
theorem dX3_trusts_52 : decode cX3_trusts 52 = .ok (.iconst 3, 1) := by decide +kernel
theorem dX3_trusts_53 : decode cX3_trusts 53 = .ok (.ireturn, 1) := by decide +kernel
theorem dX3_trusts_54 : decode cX3_trusts 54 = .ok (.iconst 1, 1) := by decide +kernel
theorem dX3_trusts_55 : decode cX3_trusts 55 = .ok (.ireturn, 1) := by decide +kernel
theorem dX3_isUnder_0 : decode cX3_isUnder 0 = .ok (.aload_n 0, 1) := by decide +kernel
theorem dX3_isUnder_1 : decode cX3_isUnder 1 = .ok (.getfield 11, 3) := by decide +kernel
theorem dX3_isUnder_4 : decode cX3_isUnder 4 = .ok (.istore_n 2, 1) := by decide +kernel
theorem dX3_isUnder_5 : decode cX3_isUnder 5 = .ok (.iconst 0, 1) := by decide +kernel
theorem dX3_isUnder_6 : decode cX3_isUnder 6 = .ok (.istore_n 3, 1) := by decide +kernel
theorem dX3_isUnder_7 : decode cX3_isUnder 7 = .ok (.iload_n 3, 1) := by decide +kernel
theorem dX3_isUnder_8 : decode cX3_isUnder 8 = .ok (.bipush 7, 2) := by decide +kernel
theorem dX3_isUnder_10 : decode cX3_isUnder 10 = .ok (.if_icmp .ge 23, 3) := by decide +kernel
theorem dX3_isUnder_13 : decode cX3_isUnder 13 = .ok (.iload_n 2, 1) := by decide +kernel
theorem dX3_isUnder_14 : decode cX3_isUnder 14 = .ok (.iload_n 1, 1) := by decide +kernel
theorem dX3_isUnder_15 : decode cX3_isUnder 15 = .ok (.if_icmp .eq 18, 3) := by decide +kernel
theorem dX3_isUnder_18 : decode cX3_isUnder 18 = .ok (.iload_n 2, 1) := by decide +kernel
theorem dX3_isUnder_19 : decode cX3_isUnder 19 = .ok (.ifCond .eq 14, 3) := by decide +kernel
theorem dX3_isUnder_22 : decode cX3_isUnder 22 = .ok (.iload_n 2, 1) := by decide +kernel
theorem dX3_isUnder_23 : decode cX3_isUnder 23 = .ok (.invokestatic 61, 3) := by decide +kernel
theorem dX3_isUnder_26 : decode cX3_isUnder 26 = .ok (.istore_n 2, 1) := by decide +kernel
theorem dX3_isUnder_27 : decode cX3_isUnder 27 = .ok (.iinc 3 1, 3) := by decide +kernel
theorem dX3_isUnder_30 : decode cX3_isUnder 30 = .ok (.goto (-23), 3) := by decide +kernel
theorem dX3_isUnder_33 : decode cX3_isUnder 33 = .ok (.iload_n 2, 1) := by decide +kernel
theorem dX3_isUnder_34 : decode cX3_isUnder 34 = .ok (.iload_n 1, 1) := by decide +kernel
theorem dX3_isUnder_35 : decode cX3_isUnder 35 = .ok (.if_icmp .ne 7, 3) := by decide +kernel
theorem dX3_isUnder_38 : decode cX3_isUnder 38 = .ok (.iconst 1, 1) := by decide +kernel
theorem dX3_isUnder_39 : decode cX3_isUnder 39 = .ok (.goto 4, 3) := by decide +kernel
theorem dX3_isUnder_42 : decode cX3_isUnder 42 = .ok (.iconst 0, 1) := by decide +kernel
theorem dX3_isUnder_43 : decode cX3_isUnder 43 = .ok (.ireturn, 1) := by decide +kernel
theorem dX3_kindAbove_0 : decode cX3_kindAbove 0 = .ok (.iload_n 0, 1) := by decide +kernel
theorem dX3_kindAbove_1 : decode cX3_kindAbove 1 = .ok (.tableswitch 37 3 6 #[31, 33, 37, 35], 31) := by decide +kernel
theorem dX3_kindAbove_32 : decode cX3_kindAbove 32 = .ok (.iconst 2, 1) := by decide +kernel
theorem dX3_kindAbove_33 : decode cX3_kindAbove 33 = .ok (.ireturn, 1) := by decide +kernel
theorem dX3_kindAbove_34 : decode cX3_kindAbove 34 = .ok (.iconst 3, 1) := by decide +kernel
theorem dX3_kindAbove_35 : decode cX3_kindAbove 35 = .ok (.ireturn, 1) := by decide +kernel
theorem dX3_kindAbove_36 : decode cX3_kindAbove 36 = .ok (.iconst 1, 1) := by decide +kernel
theorem dX3_kindAbove_37 : decode cX3_kindAbove 37 = .ok (.ireturn, 1) := by decide +kernel
theorem dX3_kindAbove_38 : decode cX3_kindAbove 38 = .ok (.iconst 0, 1) := by decide +kernel
theorem dX3_kindAbove_39 : decode cX3_kindAbove 39 = .ok (.ireturn, 1) := by decide +kernel
theorem dX4_init_0 : decode cX4_init 0 = .ok (.aload_n 0, 1) := by decide +kernel
theorem dX4_init_1 : decode cX4_init 1 = .ok (.invokespecial 3, 3) := by decide +kernel
theorem dX4_init_4 : decode cX4_init 4 = .ok (.aload_n 0, 1) := by decide +kernel
theorem dX4_init_5 : decode cX4_init 5 = .ok (.bipush 12, 2) := by decide +kernel
theorem dX4_init_7 : decode cX4_init 7 = .ok (.newarray .int, 2) := by decide +kernel
theorem dX4_init_9 : decode cX4_init 9 = .ok (.putfield 9, 3) := by decide +kernel
theorem dX4_init_12 : decode cX4_init 12 = .ok (.aload_n 0, 1) := by decide +kernel
theorem dX4_init_13 : decode cX4_init 13 = .ok (.bipush 12, 2) := by decide +kernel
theorem dX4_init_15 : decode cX4_init 15 = .ok (.newarray .int, 2) := by decide +kernel
theorem dX4_init_17 : decode cX4_init 17 = .ok (.putfield 15, 3) := by decide +kernel
theorem dX4_init_20 : decode cX4_init 20 = .ok (.aload_n 0, 1) := by decide +kernel
theorem dX4_init_21 : decode cX4_init 21 = .ok (.bipush 8, 2) := by decide +kernel
theorem dX4_init_23 : decode cX4_init 23 = .ok (.newarray .int, 2) := by decide +kernel
theorem dX4_init_25 : decode cX4_init 25 = .ok (.putfield 18, 3) := by decide +kernel
theorem dX4_init_28 : decode cX4_init 28 = .ok (.aload_n 0, 1) := by decide +kernel
theorem dX4_init_29 : decode cX4_init 29 = .ok (.iconst 0, 1) := by decide +kernel
theorem dX4_init_30 : decode cX4_init 30 = .ok (.putfield 21, 3) := by decide +kernel
theorem dX4_init_33 : decode cX4_init 33 = .ok (.aload_n 0, 1) := by decide +kernel
theorem dX4_init_34 : decode cX4_init 34 = .ok (.iconst 0, 1) := by decide +kernel
theorem dX4_init_35 : decode cX4_init 35 = .ok (.putfield 25, 3) := by decide +kernel
theorem dX4_init_38 : decode cX4_init 38 = .ok (.iconst 0, 1) := by decide +kernel
theorem dX4_init_39 : decode cX4_init 39 = .ok (.istore_n 1, 1) := by decide +kernel
theorem dX4_init_40 : decode cX4_init 40 = .ok (.iload_n 1, 1) := by decide +kernel
theorem dX4_init_41 : decode cX4_init 41 = .ok (.bipush 8, 2) := by decide +kernel
theorem dX4_init_43 : decode cX4_init 43 = .ok (.if_icmp .ge 17, 3) := by decide +kernel
theorem dX4_init_46 : decode cX4_init 46 = .ok (.aload_n 0, 1) := by decide +kernel
theorem dX4_init_47 : decode cX4_init 47 = .ok (.getfield 18, 3) := by decide +kernel
theorem dX4_init_50 : decode cX4_init 50 = .ok (.iload_n 1, 1) := by decide +kernel
theorem dX4_init_51 : decode cX4_init 51 = .ok (.bipush 10, 2) := by decide +kernel
theorem dX4_init_53 : decode cX4_init 53 = .ok (.iastore, 1) := by decide +kernel
theorem dX4_init_54 : decode cX4_init 54 = .ok (.iinc 1 1, 3) := by decide +kernel
theorem dX4_init_57 : decode cX4_init 57 = .ok (.goto (-17), 3) := by decide +kernel
theorem dX4_init_60 : decode cX4_init 60 = .ok (.return_, 1) := by decide +kernel
theorem dX4_become_0 : decode cX4_become 0 = .ok (.aload_n 1, 1) := by decide +kernel
theorem dX4_become_1 : decode cX4_become 1 = .ok (.getfield 9, 3) := by decide +kernel
theorem dX4_become_4 : decode cX4_become 4 = .ok (.iconst 0, 1) := by decide +kernel
theorem dX4_become_5 : decode cX4_become 5 = .ok (.aload_n 0, 1) := by decide +kernel
theorem dX4_become_6 : decode cX4_become 6 = .ok (.getfield 9, 3) := by decide +kernel
theorem dX4_become_9 : decode cX4_become 9 = .ok (.iconst 0, 1) := by decide +kernel
theorem dX4_become_10 : decode cX4_become 10 = .ok (.bipush 12, 2) := by decide +kernel
theorem dX4_become_12 : decode cX4_become 12 = .ok (.invokestatic 28, 3) := by decide +kernel
theorem dX4_become_15 : decode cX4_become 15 = .ok (.aload_n 1, 1) := by decide +kernel
theorem dX4_become_16 : decode cX4_become 16 = .ok (.getfield 18, 3) := by decide +kernel
theorem dX4_become_19 : decode cX4_become 19 = .ok (.iconst 0, 1) := by decide +kernel
theorem dX4_become_20 : decode cX4_become 20 = .ok (.aload_n 0, 1) := by decide +kernel
theorem dX4_become_21 : decode cX4_become 21 = .ok (.getfield 18, 3) := by decide +kernel
theorem dX4_become_24 : decode cX4_become 24 = .ok (.iconst 0, 1) := by decide +kernel
theorem dX4_become_25 : decode cX4_become 25 = .ok (.bipush 8, 2) := by decide +kernel
theorem dX4_become_27 : decode cX4_become 27 = .ok (.invokestatic 28, 3) := by decide +kernel
theorem dX4_become_30 : decode cX4_become 30 = .ok (.aload_n 0, 1) := by decide +kernel
theorem dX4_become_31 : decode cX4_become 31 = .ok (.aload_n 1, 1) := by decide +kernel
theorem dX4_become_32 : decode cX4_become 32 = .ok (.getfield 21, 3) := by decide +kernel
theorem dX4_become_35 : decode cX4_become 35 = .ok (.putfield 21, 3) := by decide +kernel
theorem dX4_become_38 : decode cX4_become 38 = .ok (.aload_n 0, 1) := by decide +kernel
theorem dX4_become_39 : decode cX4_become 39 = .ok (.aload_n 1, 1) := by decide +kernel
theorem dX4_become_40 : decode cX4_become 40 = .ok (.getfield 25, 3) := by decide +kernel
theorem dX4_become_43 : decode cX4_become 43 = .ok (.putfield 25, 3) := by decide +kernel
theorem dX4_become_46 : decode cX4_become 46 = .ok (.return_, 1) := by decide +kernel
theorem dX4_openAll_0 : decode cX4_openAll 0 = .ok (.iconst 0, 1) := by decide +kernel
theorem dX4_openAll_1 : decode cX4_openAll 1 = .ok (.istore_n 2, 1) := by decide +kernel
theorem dX4_openAll_2 : decode cX4_openAll 2 = .ok (.iload_n 2, 1) := by decide +kernel
theorem dX4_openAll_3 : decode cX4_openAll 3 = .ok (.bipush 8, 2) := by decide +kernel
theorem dX4_openAll_5 : decode cX4_openAll 5 = .ok (.if_icmp .ge 16, 3) := by decide +kernel
theorem dX4_openAll_8 : decode cX4_openAll 8 = .ok (.aload_n 0, 1) := by decide +kernel
theorem dX4_openAll_9 : decode cX4_openAll 9 = .ok (.getfield 18, 3) := by decide +kernel
theorem dX4_openAll_12 : decode cX4_openAll 12 = .ok (.iload_n 2, 1) := by decide +kernel
theorem dX4_openAll_13 : decode cX4_openAll 13 = .ok (.iload_n 1, 1) := by decide +kernel
theorem dX4_openAll_14 : decode cX4_openAll 14 = .ok (.iastore, 1) := by decide +kernel
theorem dX4_openAll_15 : decode cX4_openAll 15 = .ok (.iinc 2 1, 3) := by decide +kernel
theorem dX4_openAll_18 : decode cX4_openAll 18 = .ok (.goto (-16), 3) := by decide +kernel
theorem dX4_openAll_21 : decode cX4_openAll 21 = .ok (.return_, 1) := by decide +kernel
theorem dX4_run_0 : decode cX4_run 0 = .ok (.iconst 0, 1) := by decide +kernel
theorem dX4_run_1 : decode cX4_run 1 = .ok (.istore_n 2, 1) := by decide +kernel
theorem dX4_run_2 : decode cX4_run 2 = .ok (.iload_n 2, 1) := by decide +kernel
theorem dX4_run_3 : decode cX4_run 3 = .ok (.iload_n 1, 1) := by decide +kernel
theorem dX4_run_4 : decode cX4_run 4 = .ok (.if_icmp .ge 25, 3) := by decide +kernel
theorem dX4_run_7 : decode cX4_run 7 = .ok (.aload_n 0, 1) := by decide +kernel
theorem dX4_run_8 : decode cX4_run 8 = .ok (.aload_n 0, 1) := by decide +kernel
theorem dX4_run_9 : decode cX4_run 9 = .ok (.getfield 18, 3) := by decide +kernel
theorem dX4_run_12 : decode cX4_run 12 = .ok (.aload_n 0, 1) := by decide +kernel
theorem dX4_run_13 : decode cX4_run 13 = .ok (.getfield 25, 3) := by decide +kernel
theorem dX4_run_16 : decode cX4_run 16 = .ok (.bipush 8, 2) := by decide +kernel
theorem dX4_run_18 : decode cX4_run 18 = .ok (.irem, 1) := by decide +kernel
theorem dX4_run_19 : decode cX4_run 19 = .ok (.iaload, 1) := by decide +kernel
theorem dX4_run_20 : decode cX4_run 20 = .ok (.invokevirtual 34, 3) := by decide +kernel
theorem dX4_run_23 : decode cX4_run 23 = .ok (.iinc 2 1, 3) := by decide +kernel
theorem dX4_run_26 : decode cX4_run 26 = .ok (.goto (-24), 3) := by decide +kernel
theorem dX4_run_29 : decode cX4_run 29 = .ok (.return_, 1) := by decide +kernel
theorem dX4_flow_0 : decode cX4_flow 0 = .ok (.aload_n 0, 1) := by decide +kernel
theorem dX4_flow_1 : decode cX4_flow 1 = .ok (.getfield 9, 3) := by decide +kernel
theorem dX4_flow_4 : decode cX4_flow 4 = .ok (.iconst 0, 1) := by decide +kernel
theorem dX4_flow_5 : decode cX4_flow 5 = .ok (.aload_n 0, 1) := by decide +kernel
theorem dX4_flow_6 : decode cX4_flow 6 = .ok (.getfield 15, 3) := by decide +kernel
theorem dX4_flow_9 : decode cX4_flow 9 = .ok (.iconst 0, 1) := by decide +kernel
theorem dX4_flow_10 : decode cX4_flow 10 = .ok (.bipush 12, 2) := by decide +kernel
theorem dX4_flow_12 : decode cX4_flow 12 = .ok (.invokestatic 28, 3) := by decide +kernel
theorem dX4_flow_15 : decode cX4_flow 15 = .ok (.aload_n 0, 1) := by decide +kernel
theorem dX4_flow_16 : decode cX4_flow 16 = .ok (.ldc 38, 2) := by decide +kernel
theorem dX4_flow_18 : decode cX4_flow 18 = .ok (.aload_n 0, 1) := by decide +kernel
theorem dX4_flow_19 : decode cX4_flow 19 = .ok (.getfield 21, 3) := by decide +kernel
theorem dX4_flow_22 : decode cX4_flow 22 = .ok (.aload_n 0, 1) := by decide +kernel
theorem dX4_flow_23 : decode cX4_flow 23 = .ok (.getfield 15, 3) := by decide +kernel
theorem dX4_flow_26 : decode cX4_flow 26 = .ok (.bipush 11, 2) := by decide +kernel
theorem dX4_flow_28 : decode cX4_flow 28 = .ok (.iaload, 1) := by decide +kernel
theorem dX4_flow_29 : decode cX4_flow 29 = .ok (.iconst 2, 1) := by decide +kernel
theorem dX4_flow_30 : decode cX4_flow 30 = .ok (.idiv, 1) := by decide +kernel
theorem dX4_flow_31 : decode cX4_flow 31 = .ok (.iadd, 1) := by decide +kernel
theorem dX4_flow_32 : decode cX4_flow 32 = .ok (.invokestatic 39, 3) := by decide +kernel
theorem dX4_flow_35 : decode cX4_flow 35 = .ok (.putfield 21, 3) := by decide +kernel
theorem dX4_flow_38 : decode cX4_flow 38 = .ok (.iconst 0, 1) := by decide +kernel
theorem dX4_flow_39 : decode cX4_flow 39 = .ok (.istore_n 2, 1) := by decide +kernel
theorem dX4_flow_40 : decode cX4_flow 40 = .ok (.iload_n 2, 1) := by decide +kernel
theorem dX4_flow_41 : decode cX4_flow 41 = .ok (.bipush 12, 2) := by decide +kernel
theorem dX4_flow_43 : decode cX4_flow 43 = .ok (.if_icmp .ge 57, 3) := by decide +kernel
theorem dX4_flow_46 : decode cX4_flow 46 = .ok (.iload_n 2, 1) := by decide +kernel
theorem dX4_flow_47 : decode cX4_flow 47 = .ok (.ifCond .ne 7, 3) := by decide +kernel
theorem dX4_flow_50 : decode cX4_flow 50 = .ok (.iload_n 1, 1) := by decide +kernel
theorem dX4_flow_51 : decode cX4_flow 51 = .ok (.goto 13, 3) := by decide +kernel
theorem dX4_flow_54 : decode cX4_flow 54 = .ok (.aload_n 0, 1) := by decide +kernel
theorem dX4_flow_55 : decode cX4_flow 55 = .ok (.getfield 15, 3) := by decide +kernel
theorem dX4_flow_58 : decode cX4_flow 58 = .ok (.iload_n 2, 1) := by decide +kernel
theorem dX4_flow_59 : decode cX4_flow 59 = .ok (.iconst 1, 1) := by decide +kernel
theorem dX4_flow_60 : decode cX4_flow 60 = .ok (.isub, 1) := by decide +kernel
theorem dX4_flow_61 : decode cX4_flow 61 = .ok (.iaload, 1) := by decide +kernel
theorem dX4_flow_62 : decode cX4_flow 62 = .ok (.iconst 2, 1) := by decide +kernel
theorem dX4_flow_63 : decode cX4_flow 63 = .ok (.idiv, 1) := by decide +kernel
theorem dX4_flow_64 : decode cX4_flow 64 = .ok (.istore_n 3, 1) := by decide +kernel
theorem dX4_flow_65 : decode cX4_flow 65 = .ok (.aload_n 0, 1) := by decide +kernel
theorem dX4_flow_66 : decode cX4_flow 66 = .ok (.getfield 9, 3) := by decide +kernel
theorem dX4_flow_69 : decode cX4_flow 69 = .ok (.iload_n 2, 1) := by decide +kernel
theorem dX4_flow_70 : decode cX4_flow 70 = .ok (.sipush 9999, 3) := by decide +kernel
theorem dX4_flow_73 : decode cX4_flow 73 = .ok (.aload_n 0, 1) := by decide +kernel
theorem dX4_flow_74 : decode cX4_flow 74 = .ok (.getfield 15, 3) := by decide +kernel
theorem dX4_flow_77 : decode cX4_flow 77 = .ok (.iload_n 2, 1) := by decide +kernel
theorem dX4_flow_78 : decode cX4_flow 78 = .ok (.iaload, 1) := by decide +kernel
theorem dX4_flow_79 : decode cX4_flow 79 = .ok (.aload_n 0, 1) := by decide +kernel
theorem dX4_flow_80 : decode cX4_flow 80 = .ok (.getfield 15, 3) := by decide +kernel
theorem dX4_flow_83 : decode cX4_flow 83 = .ok (.iload_n 2, 1) := by decide +kernel
theorem dX4_flow_84 : decode cX4_flow 84 = .ok (.iaload, 1) := by decide +kernel
theorem dX4_flow_85 : decode cX4_flow 85 = .ok (.iconst 2, 1) := by decide +kernel
theorem dX4_flow_86 : decode cX4_flow 86 = .ok (.idiv, 1) := by decide +kernel
theorem dX4_flow_87 : decode cX4_flow 87 = .ok (.isub, 1) := by decide +kernel
theorem dX4_flow_88 : decode cX4_flow 88 = .ok (.iload_n 3, 1) := by decide +kernel
theorem dX4_flow_89 : decode cX4_flow 89 = .ok (.iadd, 1) := by decide +kernel
theorem dX4_flow_90 : decode cX4_flow 90 = .ok (.invokestatic 39, 3) := by decide +kernel
theorem dX4_flow_93 : decode cX4_flow 93 = .ok (.iastore, 1) := by decide +kernel
theorem dX4_flow_94 : decode cX4_flow 94 = .ok (.iinc 2 1, 3) := by decide +kernel
theorem dX4_flow_97 : decode cX4_flow 97 = .ok (.goto (-57), 3) := by decide +kernel
theorem dX4_flow_100 : decode cX4_flow 100 = .ok (.aload_n 0, 1) := by decide +kernel
theorem dX4_flow_101 : decode cX4_flow 101 = .ok (.ldc 45, 2) := by decide +kernel
theorem dX4_flow_103 : decode cX4_flow 103 = .ok (.aload_n 0, 1) := by decide +kernel
theorem dX4_flow_104 : decode cX4_flow 104 = .ok (.getfield 25, 3) := by decide +kernel
theorem dX4_flow_107 : decode cX4_flow 107 = .ok (.iconst 1, 1) := by decide +kernel
theorem dX4_flow_108 : decode cX4_flow 108 = .ok (.iadd, 1) := by decide +kernel
theorem dX4_flow_109 : decode cX4_flow 109 = .ok (.invokestatic 39, 3) := by decide +kernel
theorem dX4_flow_112 : decode cX4_flow 112 = .ok (.putfield 25, 3) := by decide +kernel
theorem dX4_flow_115 : decode cX4_flow 115 = .ok (.return_, 1) := by decide +kernel
theorem dX4_levelsTogether_0 : decode cX4_levelsTogether 0 = .ok (.aload_n 0, 1) := by decide +kernel
theorem dX4_levelsTogether_1 : decode cX4_levelsTogether 1 = .ok (.getfield 9, 3) := by decide +kernel
theorem dX4_levelsTogether_4 : decode cX4_levelsTogether 4 = .ok (.invokestatic 46, 3) := by decide +kernel
theorem dX4_levelsTogether_7 : decode cX4_levelsTogether 7 = .ok (.ireturn, 1) := by decide +kernel
theorem dX4_openingsTogether_0 : decode cX4_openingsTogether 0 = .ok (.aload_n 0, 1) := by decide +kernel
theorem dX4_openingsTogether_1 : decode cX4_openingsTogether 1 = .ok (.getfield 18, 3) := by decide +kernel
theorem dX4_openingsTogether_4 : decode cX4_openingsTogether 4 = .ok (.invokestatic 46, 3) := by decide +kernel
theorem dX4_openingsTogether_7 : decode cX4_openingsTogether 7 = .ok (.ireturn, 1) := by decide +kernel
theorem dX4_hoursOpen_0 : decode cX4_hoursOpen 0 = .ok (.iconst 0, 1) := by decide +kernel
theorem dX4_hoursOpen_1 : decode cX4_hoursOpen 1 = .ok (.istore_n 1, 1) := by decide +kernel
theorem dX4_hoursOpen_2 : decode cX4_hoursOpen 2 = .ok (.iconst 0, 1) := by decide +kernel
theorem dX4_hoursOpen_3 : decode cX4_hoursOpen 3 = .ok (.istore_n 2, 1) := by decide +kernel
theorem dX4_hoursOpen_4 : decode cX4_hoursOpen 4 = .ok (.iload_n 2, 1) := by decide +kernel
theorem dX4_hoursOpen_5 : decode cX4_hoursOpen 5 = .ok (.bipush 8, 2) := by decide +kernel
theorem dX4_hoursOpen_7 : decode cX4_hoursOpen 7 = .ok (.if_icmp .ge 21, 3) := by decide +kernel
theorem dX4_hoursOpen_10 : decode cX4_hoursOpen 10 = .ok (.aload_n 0, 1) := by decide +kernel
theorem dX4_hoursOpen_11 : decode cX4_hoursOpen 11 = .ok (.getfield 18, 3) := by decide +kernel
theorem dX4_hoursOpen_14 : decode cX4_hoursOpen 14 = .ok (.iload_n 2, 1) := by decide +kernel
theorem dX4_hoursOpen_15 : decode cX4_hoursOpen 15 = .ok (.iaload, 1) := by decide +kernel
theorem dX4_hoursOpen_16 : decode cX4_hoursOpen 16 = .ok (.ifCond .eq 6, 3) := by decide +kernel
theorem dX4_hoursOpen_19 : decode cX4_hoursOpen 19 = .ok (.iinc 1 1, 3) := by decide +kernel
theorem dX4_hoursOpen_22 : decode cX4_hoursOpen 22 = .ok (.iinc 2 1, 3) := by decide +kernel
theorem dX4_hoursOpen_25 : decode cX4_hoursOpen 25 = .ok (.goto (-21), 3) := by decide +kernel
theorem dX4_hoursOpen_28 : decode cX4_hoursOpen 28 = .ok (.iload_n 1, 1) := by decide +kernel
theorem dX4_hoursOpen_29 : decode cX4_hoursOpen 29 = .ok (.ireturn, 1) := by decide +kernel
theorem dX5_init_0 : decode cX5_init 0 = .ok (.aload_n 0, 1) := by decide +kernel
theorem dX5_init_1 : decode cX5_init 1 = .ok (.invokespecial 3, 3) := by decide +kernel
theorem dX5_init_4 : decode cX5_init 4 = .ok (.aload_n 0, 1) := by decide +kernel
theorem dX5_init_5 : decode cX5_init 5 = .ok (.new 9, 3) := by decide +kernel
theorem dX5_init_8 : decode cX5_init 8 = .ok (.dup, 1) := by decide +kernel
theorem dX5_init_9 : decode cX5_init 9 = .ok (.invokespecial 11, 3) := by decide +kernel
theorem dX5_init_12 : decode cX5_init 12 = .ok (.putfield 12, 3) := by decide +kernel
theorem dX5_init_15 : decode cX5_init 15 = .ok (.aload_n 0, 1) := by decide +kernel
theorem dX5_init_16 : decode cX5_init 16 = .ok (.new 9, 3) := by decide +kernel
theorem dX5_init_19 : decode cX5_init 19 = .ok (.dup, 1) := by decide +kernel
theorem dX5_init_20 : decode cX5_init 20 = .ok (.invokespecial 11, 3) := by decide +kernel
theorem dX5_init_23 : decode cX5_init 23 = .ok (.putfield 16, 3) := by decide +kernel
theorem dX5_init_26 : decode cX5_init 26 = .ok (.aload_n 0, 1) := by decide +kernel
theorem dX5_init_27 : decode cX5_init 27 = .ok (.new 9, 3) := by decide +kernel
theorem dX5_init_30 : decode cX5_init 30 = .ok (.dup, 1) := by decide +kernel
theorem dX5_init_31 : decode cX5_init 31 = .ok (.invokespecial 11, 3) := by decide +kernel
theorem dX5_init_34 : decode cX5_init 34 = .ok (.putfield 19, 3) := by decide +kernel
theorem dX5_init_37 : decode cX5_init 37 = .ok (.aload_n 0, 1) := by decide +kernel
theorem dX5_init_38 : decode cX5_init 38 = .ok (.new 9, 3) := by decide +kernel
theorem dX5_init_41 : decode cX5_init 41 = .ok (.dup, 1) := by decide +kernel
theorem dX5_init_42 : decode cX5_init 42 = .ok (.invokespecial 11, 3) := by decide +kernel
theorem dX5_init_45 : decode cX5_init 45 = .ok (.putfield 22, 3) := by decide +kernel
theorem dX5_init_48 : decode cX5_init 48 = .ok (.aload_n 0, 1) := by decide +kernel
theorem dX5_init_49 : decode cX5_init 49 = .ok (.bipush 12, 2) := by decide +kernel
theorem dX5_init_51 : decode cX5_init 51 = .ok (.newarray .int, 2) := by decide +kernel
theorem dX5_init_53 : decode cX5_init 53 = .ok (.putfield 25, 3) := by decide +kernel
theorem dX5_init_56 : decode cX5_init 56 = .ok (.aload_n 0, 1) := by decide +kernel
theorem dX5_init_57 : decode cX5_init 57 = .ok (.iconst 4, 1) := by decide +kernel
theorem dX5_init_58 : decode cX5_init 58 = .ok (.anewarray 29, 3) := by decide +kernel
theorem dX5_init_61 : decode cX5_init 61 = .ok (.dup, 1) := by decide +kernel
theorem dX5_init_62 : decode cX5_init 62 = .ok (.iconst 0, 1) := by decide +kernel
theorem dX5_init_63 : decode cX5_init 63 = .ok (.new 29, 3) := by decide +kernel
theorem dX5_init_66 : decode cX5_init 66 = .ok (.dup, 1) := by decide +kernel
theorem dX5_init_67 : decode cX5_init 67 = .ok (.invokespecial 31, 3) := by decide +kernel
theorem dX5_init_70 : decode cX5_init 70 = .ok (.aastore, 1) := by decide +kernel
theorem dX5_init_71 : decode cX5_init 71 = .ok (.dup, 1) := by decide +kernel
theorem dX5_init_72 : decode cX5_init 72 = .ok (.iconst 1, 1) := by decide +kernel
theorem dX5_init_73 : decode cX5_init 73 = .ok (.new 29, 3) := by decide +kernel
theorem dX5_init_76 : decode cX5_init 76 = .ok (.dup, 1) := by decide +kernel
theorem dX5_init_77 : decode cX5_init 77 = .ok (.invokespecial 31, 3) := by decide +kernel
theorem dX5_init_80 : decode cX5_init 80 = .ok (.aastore, 1) := by decide +kernel
theorem dX5_init_81 : decode cX5_init 81 = .ok (.dup, 1) := by decide +kernel
theorem dX5_init_82 : decode cX5_init 82 = .ok (.iconst 2, 1) := by decide +kernel
theorem dX5_init_83 : decode cX5_init 83 = .ok (.new 29, 3) := by decide +kernel
theorem dX5_init_86 : decode cX5_init 86 = .ok (.dup, 1) := by decide +kernel
theorem dX5_init_87 : decode cX5_init 87 = .ok (.invokespecial 31, 3) := by decide +kernel
theorem dX5_init_90 : decode cX5_init 90 = .ok (.aastore, 1) := by decide +kernel
theorem dX5_init_91 : decode cX5_init 91 = .ok (.dup, 1) := by decide +kernel
theorem dX5_init_92 : decode cX5_init 92 = .ok (.iconst 3, 1) := by decide +kernel
theorem dX5_init_93 : decode cX5_init 93 = .ok (.new 29, 3) := by decide +kernel
theorem dX5_init_96 : decode cX5_init 96 = .ok (.dup, 1) := by decide +kernel
theorem dX5_init_97 : decode cX5_init 97 = .ok (.invokespecial 31, 3) := by decide +kernel
theorem dX5_init_100 : decode cX5_init 100 = .ok (.aastore, 1) := by decide +kernel
theorem dX5_init_101 : decode cX5_init 101 = .ok (.putfield 32, 3) := by decide +kernel
theorem dX5_init_104 : decode cX5_init 104 = .ok (.aload_n 0, 1) := by decide +kernel
theorem dX5_init_105 : decode cX5_init 105 = .ok (.new 36, 3) := by decide +kernel
theorem dX5_init_108 : decode cX5_init 108 = .ok (.dup, 1) := by decide +kernel
theorem dX5_init_109 : decode cX5_init 109 = .ok (.invokespecial 38, 3) := by decide +kernel
theorem dX5_init_112 : decode cX5_init 112 = .ok (.putfield 39, 3) := by decide +kernel
theorem dX5_init_115 : decode cX5_init 115 = .ok (.aload_n 0, 1) := by decide +kernel
theorem dX5_init_116 : decode cX5_init 116 = .ok (.bipush 7, 2) := by decide +kernel
theorem dX5_init_118 : decode cX5_init 118 = .ok (.newarray .int, 2) := by decide +kernel
theorem dX5_init_120 : decode cX5_init 120 = .ok (.putfield 43, 3) := by decide +kernel
theorem dX5_init_123 : decode cX5_init 123 = .ok (.aload_n 0, 1) := by decide +kernel
theorem dX5_init_124 : decode cX5_init 124 = .ok (.iconst 0, 1) := by decide +kernel
theorem dX5_init_125 : decode cX5_init 125 = .ok (.putfield 46, 3) := by decide +kernel
theorem dX5_init_128 : decode cX5_init 128 = .ok (.return_, 1) := by decide +kernel
theorem dX5_level_0 : decode cX5_level 0 = .ok (.iload_n 1, 1) := by decide +kernel
theorem dX5_level_1 : decode cX5_level 1 = .ok (.bipush 11, 2) := by decide +kernel
theorem dX5_level_3 : decode cX5_level 3 = .ok (.invokestatic 50, 3) := by decide +kernel
theorem dX5_level_6 : decode cX5_level 6 = .ok (.ifCond .ne 13, 3) := by decide +kernel
theorem dX5_level_9 : decode cX5_level 9 = .ok (.iload_n 2, 1) := by decide +kernel
theorem dX5_level_10 : decode cX5_level 10 = .ok (.sipush 9999, 3) := by decide +kernel
theorem dX5_level_13 : decode cX5_level 13 = .ok (.invokestatic 50, 3) := by decide +kernel
theorem dX5_level_16 : decode cX5_level 16 = .ok (.ifCond .eq 10, 3) := by decide +kernel
theorem dX5_level_19 : decode cX5_level 19 = .ok (.aload_n 0, 1) := by decide +kernel
theorem dX5_level_20 : decode cX5_level 20 = .ok (.ldc 54, 2) := by decide +kernel
theorem dX5_level_22 : decode cX5_level 22 = .ok (.invokevirtual 55, 3) := by decide +kernel
theorem dX5_level_25 : decode cX5_level 25 = .ok (.ireturn, 1) := by decide +kernel
theorem dX5_level_26 : decode cX5_level 26 = .ok (.aload_n 0, 1) := by decide +kernel
theorem dX5_level_27 : decode cX5_level 27 = .ok (.getfield 12, 3) := by decide +kernel
theorem dX5_level_30 : decode cX5_level 30 = .ok (.getfield 59, 3) := by decide +kernel
theorem dX5_level_33 : decode cX5_level 33 = .ok (.getfield 63, 3) := by decide +kernel
theorem dX5_level_36 : decode cX5_level 36 = .ok (.iload_n 1, 1) := by decide +kernel
theorem dX5_level_37 : decode cX5_level 37 = .ok (.iaload, 1) := by decide +kernel
theorem dX5_level_38 : decode cX5_level 38 = .ok (.istore_n 3, 1) := by decide +kernel
theorem dX5_level_39 : decode cX5_level 39 = .ok (.aload_n 0, 1) := by decide +kernel
theorem dX5_level_40 : decode cX5_level 40 = .ok (.getfield 12, 3) := by decide +kernel
theorem dX5_level_43 : decode cX5_level 43 = .ok (.getfield 59, 3) := by decide +kernel
theorem dX5_level_46 : decode cX5_level 46 = .ok (.getfield 63, 3) := by decide +kernel
theorem dX5_level_49 : decode cX5_level 49 = .ok (.iload_n 1, 1) := by decide +kernel
theorem dX5_level_50 : decode cX5_level 50 = .ok (.iload_n 2, 1) := by decide +kernel
theorem dX5_level_51 : decode cX5_level 51 = .ok (.iastore, 1) := by decide +kernel
theorem dX5_level_52 : decode cX5_level 52 = .ok (.iload_n 3, 1) := by decide +kernel
theorem dX5_level_53 : decode cX5_level 53 = .ok (.ireturn, 1) := by decide +kernel
theorem dX5_stands_0 : decode cX5_stands 0 = .ok (.iload_n 1, 1) := by decide +kernel
theorem dX5_stands_1 : decode cX5_stands 1 = .ok (.bipush 11, 2) := by decide +kernel
theorem dX5_stands_3 : decode cX5_stands 3 = .ok (.invokestatic 50, 3) := by decide +kernel
theorem dX5_stands_6 : decode cX5_stands 6 = .ok (.ifCond .eq 10, 3) := by decide +kernel
theorem dX5_stands_9 : decode cX5_stands 9 = .ok (.aload_n 0, 1) := by decide +kernel
theorem dX5_stands_10 : decode cX5_stands 10 = .ok (.ldc 54, 2) := by decide +kernel
theorem dX5_stands_12 : decode cX5_stands 12 = .ok (.invokevirtual 55, 3) := by decide +kernel
theorem dX5_stands_15 : decode cX5_stands 15 = .ok (.ireturn, 1) := by decide +kernel
theorem dX5_stands_16 : decode cX5_stands 16 = .ok (.aload_n 0, 1) := by decide +kernel
theorem dX5_stands_17 : decode cX5_stands 17 = .ok (.getfield 12, 3) := by decide +kernel
theorem dX5_stands_20 : decode cX5_stands 20 = .ok (.getfield 59, 3) := by decide +kernel
theorem dX5_stands_23 : decode cX5_stands 23 = .ok (.getfield 63, 3) := by decide +kernel
theorem dX5_stands_26 : decode cX5_stands 26 = .ok (.iload_n 1, 1) := by decide +kernel
theorem dX5_stands_27 : decode cX5_stands 27 = .ok (.iaload, 1) := by decide +kernel
theorem dX5_stands_28 : decode cX5_stands 28 = .ok (.ireturn, 1) := by decide +kernel
theorem dX5_plan_0 : decode cX5_plan 0 = .ok (.iload_n 1, 1) := by decide +kernel
theorem dX5_plan_1 : decode cX5_plan 1 = .ok (.bipush 7, 2) := by decide +kernel
theorem dX5_plan_3 : decode cX5_plan 3 = .ok (.invokestatic 50, 3) := by decide +kernel
theorem dX5_plan_6 : decode cX5_plan 6 = .ok (.ifCond .ne 12, 3) := by decide +kernel
theorem dX5_plan_9 : decode cX5_plan 9 = .ok (.iload_n 2, 1) := by decide +kernel
theorem dX5_plan_10 : decode cX5_plan 10 = .ok (.bipush 99, 2) := by decide +kernel
theorem dX5_plan_12 : decode cX5_plan 12 = .ok (.invokestatic 50, 3) := by decide +kernel
theorem dX5_plan_15 : decode cX5_plan 15 = .ok (.ifCond .eq 10, 3) := by decide +kernel
theorem dX5_plan_18 : decode cX5_plan 18 = .ok (.aload_n 0, 1) := by decide +kernel
theorem dX5_plan_19 : decode cX5_plan 19 = .ok (.ldc 54, 2) := by decide +kernel
theorem dX5_plan_21 : decode cX5_plan 21 = .ok (.invokevirtual 55, 3) := by decide +kernel
theorem dX5_plan_24 : decode cX5_plan 24 = .ok (.ireturn, 1) := by decide +kernel
theorem dX5_plan_25 : decode cX5_plan 25 = .ok (.aload_n 0, 1) := by decide +kernel
theorem dX5_plan_26 : decode cX5_plan 26 = .ok (.getfield 12, 3) := by decide +kernel
theorem dX5_plan_29 : decode cX5_plan 29 = .ok (.getfield 59, 3) := by decide +kernel
theorem dX5_plan_32 : decode cX5_plan 32 = .ok (.getfield 68, 3) := by decide +kernel
theorem dX5_plan_35 : decode cX5_plan 35 = .ok (.iload_n 1, 1) := by decide +kernel
theorem dX5_plan_36 : decode cX5_plan 36 = .ok (.iaload, 1) := by decide +kernel
theorem dX5_plan_37 : decode cX5_plan 37 = .ok (.istore_n 3, 1) := by decide +kernel
theorem dX5_plan_38 : decode cX5_plan 38 = .ok (.aload_n 0, 1) := by decide +kernel
theorem dX5_plan_39 : decode cX5_plan 39 = .ok (.getfield 12, 3) := by decide +kernel
theorem dX5_plan_42 : decode cX5_plan 42 = .ok (.getfield 59, 3) := by decide +kernel
theorem dX5_plan_45 : decode cX5_plan 45 = .ok (.getfield 68, 3) := by decide +kernel
theorem dX5_plan_48 : decode cX5_plan 48 = .ok (.iload_n 1, 1) := by decide +kernel
theorem dX5_plan_49 : decode cX5_plan 49 = .ok (.iload_n 2, 1) := by decide +kernel
theorem dX5_plan_50 : decode cX5_plan 50 = .ok (.iastore, 1) := by decide +kernel
theorem dX5_plan_51 : decode cX5_plan 51 = .ok (.iload_n 3, 1) := by decide +kernel
theorem dX5_plan_52 : decode cX5_plan 52 = .ok (.ireturn, 1) := by decide +kernel
theorem dX5_opening_0 : decode cX5_opening 0 = .ok (.iload_n 1, 1) := by decide +kernel
theorem dX5_opening_1 : decode cX5_opening 1 = .ok (.bipush 7, 2) := by decide +kernel
theorem dX5_opening_3 : decode cX5_opening 3 = .ok (.invokestatic 50, 3) := by decide +kernel
theorem dX5_opening_6 : decode cX5_opening 6 = .ok (.ifCond .eq 10, 3) := by decide +kernel
theorem dX5_opening_9 : decode cX5_opening 9 = .ok (.aload_n 0, 1) := by decide +kernel
theorem dX5_opening_10 : decode cX5_opening 10 = .ok (.ldc 54, 2) := by decide +kernel
theorem dX5_opening_12 : decode cX5_opening 12 = .ok (.invokevirtual 55, 3) := by decide +kernel
theorem dX5_opening_15 : decode cX5_opening 15 = .ok (.ireturn, 1) := by decide +kernel
theorem dX5_opening_16 : decode cX5_opening 16 = .ok (.aload_n 0, 1) := by decide +kernel
theorem dX5_opening_17 : decode cX5_opening 17 = .ok (.getfield 12, 3) := by decide +kernel
theorem dX5_opening_20 : decode cX5_opening 20 = .ok (.getfield 59, 3) := by decide +kernel
theorem dX5_opening_23 : decode cX5_opening 23 = .ok (.getfield 68, 3) := by decide +kernel
theorem dX5_opening_26 : decode cX5_opening 26 = .ok (.iload_n 1, 1) := by decide +kernel
theorem dX5_opening_27 : decode cX5_opening 27 = .ok (.iaload, 1) := by decide +kernel
theorem dX5_opening_28 : decode cX5_opening 28 = .ok (.ireturn, 1) := by decide +kernel
theorem dX5_steady_0 : decode cX5_steady 0 = .ok (.iload_n 1, 1) := by decide +kernel
theorem dX5_steady_1 : decode cX5_steady 1 = .ok (.bipush 99, 2) := by decide +kernel
theorem dX5_steady_3 : decode cX5_steady 3 = .ok (.invokestatic 50, 3) := by decide +kernel
theorem dX5_steady_6 : decode cX5_steady 6 = .ok (.ifCond .eq 10, 3) := by decide +kernel
theorem dX5_steady_9 : decode cX5_steady 9 = .ok (.aload_n 0, 1) := by decide +kernel
theorem dX5_steady_10 : decode cX5_steady 10 = .ok (.ldc 54, 2) := by decide +kernel
theorem dX5_steady_12 : decode cX5_steady 12 = .ok (.invokevirtual 55, 3) := by decide +kernel
theorem dX5_steady_15 : decode cX5_steady 15 = .ok (.ireturn, 1) := by decide +kernel
theorem dX5_steady_16 : decode cX5_steady 16 = .ok (.aload_n 0, 1) := by decide +kernel
theorem dX5_steady_17 : decode cX5_steady 17 = .ok (.getfield 12, 3) := by decide +kernel
theorem dX5_steady_20 : decode cX5_steady 20 = .ok (.getfield 59, 3) := by decide +kernel
theorem dX5_steady_23 : decode cX5_steady 23 = .ok (.invokevirtual 71, 3) := by decide +kernel
theorem dX5_steady_26 : decode cX5_steady 26 = .ok (.istore_n 2, 1) := by decide +kernel
theorem dX5_steady_27 : decode cX5_steady 27 = .ok (.aload_n 0, 1) := by decide +kernel
theorem dX5_steady_28 : decode cX5_steady 28 = .ok (.getfield 12, 3) := by decide +kernel
theorem dX5_steady_31 : decode cX5_steady 31 = .ok (.getfield 59, 3) := by decide +kernel
theorem dX5_steady_34 : decode cX5_steady 34 = .ok (.iload_n 1, 1) := by decide +kernel
theorem dX5_steady_35 : decode cX5_steady 35 = .ok (.invokevirtual 75, 3) := by decide +kernel
theorem dX5_steady_38 : decode cX5_steady 38 = .ok (.iload_n 2, 1) := by decide +kernel
theorem dX5_steady_39 : decode cX5_steady 39 = .ok (.ireturn, 1) := by decide +kernel
theorem dX5_watcher_0 : decode cX5_watcher 0 = .ok (.iload_n 1, 1) := by decide +kernel
theorem dX5_watcher_1 : decode cX5_watcher 1 = .ok (.bipush 6, 2) := by decide +kernel
theorem dX5_watcher_3 : decode cX5_watcher 3 = .ok (.invokestatic 50, 3) := by decide +kernel
theorem dX5_watcher_6 : decode cX5_watcher 6 = .ok (.ifCond .ne 12, 3) := by decide +kernel
theorem dX5_watcher_9 : decode cX5_watcher 9 = .ok (.iload_n 2, 1) := by decide +kernel
theorem dX5_watcher_10 : decode cX5_watcher 10 = .ok (.bipush 11, 2) := by decide +kernel
theorem dX5_watcher_12 : decode cX5_watcher 12 = .ok (.invokestatic 50, 3) := by decide +kernel
theorem dX5_watcher_15 : decode cX5_watcher 15 = .ok (.ifCond .eq 10, 3) := by decide +kernel
theorem dX5_watcher_18 : decode cX5_watcher 18 = .ok (.aload_n 0, 1) := by decide +kernel
theorem dX5_watcher_19 : decode cX5_watcher 19 = .ok (.ldc 54, 2) := by decide +kernel
theorem dX5_watcher_21 : decode cX5_watcher 21 = .ok (.invokevirtual 55, 3) := by decide +kernel
theorem dX5_watcher_24 : decode cX5_watcher 24 = .ok (.ireturn, 1) := by decide +kernel
theorem dX5_watcher_25 : decode cX5_watcher 25 = .ok (.aload_n 0, 1) := by decide +kernel
theorem dX5_watcher_26 : decode cX5_watcher 26 = .ok (.getfield 12, 3) := by decide +kernel
theorem dX5_watcher_29 : decode cX5_watcher 29 = .ok (.invokevirtual 79, 3) := by decide +kernel
theorem dX5_watcher_32 : decode cX5_watcher 32 = .ok (.ifCond .eq 10, 3) := by decide +kernel
theorem dX5_watcher_35 : decode cX5_watcher 35 = .ok (.aload_n 0, 1) := by decide +kernel
theorem dX5_watcher_36 : decode cX5_watcher 36 = .ok (.ldc 83, 2) := by decide +kernel
theorem dX5_watcher_38 : decode cX5_watcher 38 = .ok (.invokevirtual 55, 3) := by decide +kernel
theorem dX5_watcher_41 : decode cX5_watcher 41 = .ok (.ireturn, 1) := by decide +kernel
theorem dX5_watcher_42 : decode cX5_watcher 42 = .ok (.aload_n 0, 1) := by decide +kernel
theorem dX5_watcher_43 : decode cX5_watcher 43 = .ok (.getfield 12, 3) := by decide +kernel
theorem dX5_watcher_46 : decode cX5_watcher 46 = .ok (.iload_n 1, 1) := by decide +kernel
theorem dX5_watcher_47 : decode cX5_watcher 47 = .ok (.iload_n 2, 1) := by decide +kernel
theorem dX5_watcher_48 : decode cX5_watcher 48 = .ok (.invokevirtual 84, 3) := by decide +kernel
theorem dX5_watcher_51 : decode cX5_watcher 51 = .ok (.ireturn, 1) := by decide +kernel
theorem dX5_of_0 : decode cX5_of 0 = .ok (.aload_n 0, 1) := by decide +kernel
theorem dX5_of_1 : decode cX5_of 1 = .ok (.iload_n 1, 1) := by decide +kernel
theorem dX5_of_2 : decode cX5_of 2 = .ok (.invokevirtual 88, 3) := by decide +kernel
theorem dX5_of_5 : decode cX5_of 5 = .ok (.ifCond .eq 10, 3) := by decide +kernel
theorem dX5_of_8 : decode cX5_of 8 = .ok (.aload_n 0, 1) := by decide +kernel
theorem dX5_of_9 : decode cX5_of 9 = .ok (.ldc 54, 2) := by decide +kernel
theorem dX5_of_11 : decode cX5_of 11 = .ok (.invokevirtual 55, 3) := by decide +kernel
theorem dX5_of_14 : decode cX5_of 14 = .ok (.ireturn, 1) := by decide +kernel
theorem dX5_of_15 : decode cX5_of 15 = .ok (.aload_n 0, 1) := by decide +kernel
theorem dX5_of_16 : decode cX5_of 16 = .ok (.getfield 12, 3) := by decide +kernel
theorem dX5_of_19 : decode cX5_of 19 = .ok (.getfield 92, 3) := by decide +kernel
theorem dX5_of_22 : decode cX5_of 22 = .ok (.iload_n 1, 1) := by decide +kernel
theorem dX5_of_23 : decode cX5_of 23 = .ok (.aaload, 1) := by decide +kernel
theorem dX5_of_24 : decode cX5_of 24 = .ok (.astore_n 3, 1) := by decide +kernel
theorem dX5_of_25 : decode cX5_of 25 = .ok (.iload_n 2, 1) := by decide +kernel
theorem dX5_of_26 : decode cX5_of 26 = .ok (.tableswitch 86 0 7 #[46, 51, 56, 61, 66, 71, 76, 81], 46) := by decide +kernel
theorem dX5_of_72 : decode cX5_of 72 = .ok (.aload_n 3, 1) := by decide +kernel
theorem dX5_of_73 : decode cX5_of 73 = .ok (.getfield 96, 3) := by decide +kernel
theorem dX5_of_76 : decode cX5_of 76 = .ok (.ireturn, 1) := by decide +kernel
theorem dX5_of_77 : decode cX5_of 77 = .ok (.aload_n 3, 1) := by decide +kernel
theorem dX5_of_78 : decode cX5_of 78 = .ok (.getfield 102, 3) := by decide +kernel
theorem dX5_of_81 : decode cX5_of 81 = .ok (.ireturn, 1) := by decide +kernel
theorem dX5_of_82 : decode cX5_of 82 = .ok (.aload_n 3, 1) := by decide +kernel
theorem dX5_of_83 : decode cX5_of 83 = .ok (.getfield 105, 3) := by decide +kernel
theorem dX5_of_86 : decode cX5_of 86 = .ok (.ireturn, 1) := by decide +kernel
theorem dX5_of_87 : decode cX5_of 87 = .ok (.aload_n 3, 1) := by decide +kernel
theorem dX5_of_88 : decode cX5_of 88 = .ok (.getfield 108, 3) := by decide +kernel
theorem dX5_of_91 : decode cX5_of 91 = .ok (.ireturn, 1) := by decide +kernel
theorem dX5_of_92 : decode cX5_of 92 = .ok (.aload_n 3, 1) := by decide +kernel
theorem dX5_of_93 : decode cX5_of 93 = .ok (.getfield 111, 3) := by decide +kernel
theorem dX5_of_96 : decode cX5_of 96 = .ok (.ireturn, 1) := by decide +kernel
theorem dX5_of_97 : decode cX5_of 97 = .ok (.aload_n 3, 1) := by decide +kernel
theorem dX5_of_98 : decode cX5_of 98 = .ok (.invokevirtual 114, 3) := by decide +kernel
theorem dX5_of_101 : decode cX5_of 101 = .ok (.ireturn, 1) := by decide +kernel
theorem dX5_of_102 : decode cX5_of 102 = .ok (.aload_n 3, 1) := by decide +kernel
theorem dX5_of_103 : decode cX5_of 103 = .ok (.invokevirtual 117, 3) := by decide +kernel
theorem dX5_of_106 : decode cX5_of 106 = .ok (.ireturn, 1) := by decide +kernel
theorem dX5_of_107 : decode cX5_of 107 = .ok (.aload_n 3, 1) := by decide +kernel
theorem dX5_of_108 : decode cX5_of 108 = .ok (.invokevirtual 120, 3) := by decide +kernel
theorem dX5_of_111 : decode cX5_of 111 = .ok (.ireturn, 1) := by decide +kernel
theorem dX5_of_112 : decode cX5_of 112 = .ok (.aload_n 0, 1) := by decide +kernel
theorem dX5_of_113 : decode cX5_of 113 = .ok (.ldc 54, 2) := by decide +kernel
theorem dX5_of_115 : decode cX5_of 115 = .ok (.invokevirtual 55, 3) := by decide +kernel
theorem dX5_of_118 : decode cX5_of 118 = .ok (.ireturn, 1) := by decide +kernel
theorem dX5_change_0 : decode cX5_change 0 = .ok (.aload_n 0, 1) := by decide +kernel
theorem dX5_change_1 : decode cX5_change 1 = .ok (.iload_n 1, 1) := by decide +kernel
theorem dX5_change_2 : decode cX5_change 2 = .ok (.invokevirtual 88, 3) := by decide +kernel
theorem dX5_change_5 : decode cX5_change 5 = .ok (.ifCond .ne 14, 3) := by decide +kernel
theorem dX5_change_8 : decode cX5_change 8 = .ok (.iload_n 3, 1) := by decide +kernel
theorem dX5_change_9 : decode cX5_change 9 = .ok (.iload_n 2, 1) := by decide +kernel
theorem dX5_change_10 : decode cX5_change 10 = .ok (.invokestatic 123, 3) := by decide +kernel
theorem dX5_change_13 : decode cX5_change 13 = .ok (.invokestatic 50, 3) := by decide +kernel
theorem dX5_change_16 : decode cX5_change 16 = .ok (.ifCond .eq 10, 3) := by decide +kernel
theorem dX5_change_19 : decode cX5_change 19 = .ok (.aload_n 0, 1) := by decide +kernel
theorem dX5_change_20 : decode cX5_change 20 = .ok (.ldc 54, 2) := by decide +kernel
theorem dX5_change_22 : decode cX5_change 22 = .ok (.invokevirtual 55, 3) := by decide +kernel
theorem dX5_change_25 : decode cX5_change 25 = .ok (.ireturn, 1) := by decide +kernel
theorem dX5_change_26 : decode cX5_change 26 = .ok (.aload_n 0, 1) := by decide +kernel
theorem dX5_change_27 : decode cX5_change 27 = .ok (.getfield 12, 3) := by decide +kernel
theorem dX5_change_30 : decode cX5_change 30 = .ok (.getfield 92, 3) := by decide +kernel
theorem dX5_change_33 : decode cX5_change 33 = .ok (.iload_n 1, 1) := by decide +kernel
theorem dX5_change_34 : decode cX5_change 34 = .ok (.aaload, 1) := by decide +kernel
theorem dX5_change_35 : decode cX5_change 35 = .ok (.iload_n 2, 1) := by decide +kernel
theorem dX5_change_36 : decode cX5_change 36 = .ok (.iload_n 3, 1) := by decide +kernel
theorem dX5_change_37 : decode cX5_change 37 = .ok (.invokevirtual 126, 3) := by decide +kernel
theorem dX5_change_40 : decode cX5_change 40 = .ok (.ireturn, 1) := by decide +kernel
theorem dX5_go_0 : decode cX5_go 0 = .ok (.iload_n 1, 1) := by decide +kernel
theorem dX5_go_1 : decode cX5_go 1 = .ok (.iconst 1, 1) := by decide +kernel
theorem dX5_go_2 : decode cX5_go 2 = .ok (.if_icmp .lt 9, 3) := by decide +kernel
theorem dX5_go_5 : decode cX5_go 5 = .ok (.iload_n 1, 1) := by decide +kernel
theorem dX5_go_6 : decode cX5_go 6 = .ok (.bipush 80, 2) := by decide +kernel
theorem dX5_go_8 : decode cX5_go 8 = .ok (.if_icmp .le 10, 3) := by decide +kernel
theorem dX5_go_11 : decode cX5_go 11 = .ok (.aload_n 0, 1) := by decide +kernel
theorem dX5_go_12 : decode cX5_go 12 = .ok (.ldc 54, 2) := by decide +kernel
theorem dX5_go_14 : decode cX5_go 14 = .ok (.invokevirtual 55, 3) := by decide +kernel
theorem dX5_go_17 : decode cX5_go 17 = .ok (.ireturn, 1) := by decide +kernel
theorem dX5_go_18 : decode cX5_go 18 = .ok (.aload_n 0, 1) := by decide +kernel
theorem dX5_go_19 : decode cX5_go 19 = .ok (.getfield 12, 3) := by decide +kernel
theorem dX5_go_22 : decode cX5_go 22 = .ok (.getfield 59, 3) := by decide +kernel
theorem dX5_go_25 : decode cX5_go 25 = .ok (.getfield 129, 3) := by decide +kernel
theorem dX5_go_28 : decode cX5_go 28 = .ok (.iload_n 1, 1) := by decide +kernel
theorem dX5_go_29 : decode cX5_go 29 = .ok (.iadd, 1) := by decide +kernel
theorem dX5_go_30 : decode cX5_go 30 = .ok (.ldc 132, 2) := by decide +kernel
theorem dX5_go_32 : decode cX5_go 32 = .ok (.if_icmp .le 10, 3) := by decide +kernel
theorem dX5_go_35 : decode cX5_go 35 = .ok (.aload_n 0, 1) := by decide +kernel
theorem dX5_go_36 : decode cX5_go 36 = .ok (.ldc 133, 2) := by decide +kernel
theorem dX5_go_38 : decode cX5_go 38 = .ok (.invokevirtual 55, 3) := by decide +kernel
theorem dX5_go_41 : decode cX5_go 41 = .ok (.ireturn, 1) := by decide +kernel
theorem dX5_go_42 : decode cX5_go 42 = .ok (.aload_n 0, 1) := by decide +kernel
theorem dX5_go_43 : decode cX5_go 43 = .ok (.getfield 12, 3) := by decide +kernel
theorem dX5_go_46 : decode cX5_go 46 = .ok (.iload_n 1, 1) := by decide +kernel
theorem dX5_go_47 : decode cX5_go 47 = .ok (.invokevirtual 134, 3) := by decide +kernel
theorem dX5_go_50 : decode cX5_go 50 = .ok (.aload_n 0, 1) := by decide +kernel
theorem dX5_go_51 : decode cX5_go 51 = .ok (.getfield 12, 3) := by decide +kernel
theorem dX5_go_54 : decode cX5_go 54 = .ok (.invokevirtual 137, 3) := by decide +kernel
theorem dX5_go_57 : decode cX5_go 57 = .ok (.ireturn, 1) := by decide +kernel
theorem dX5_now_0 : decode cX5_now 0 = .ok (.iload_n 1, 1) := by decide +kernel
theorem dX5_now_1 : decode cX5_now 1 = .ok (.tableswitch 111 0 6 #[43, 54, 65, 76, 84, 92, 100], 43) := by decide +kernel
theorem dX5_now_44 : decode cX5_now 44 = .ok (.aload_n 0, 1) := by decide +kernel
theorem dX5_now_45 : decode cX5_now 45 = .ok (.getfield 12, 3) := by decide +kernel
theorem dX5_now_48 : decode cX5_now 48 = .ok (.getfield 59, 3) := by decide +kernel
theorem dX5_now_51 : decode cX5_now 51 = .ok (.getfield 129, 3) := by decide +kernel
theorem dX5_now_54 : decode cX5_now 54 = .ok (.ireturn, 1) := by decide +kernel
theorem dX5_now_55 : decode cX5_now 55 = .ok (.aload_n 0, 1) := by decide +kernel
theorem dX5_now_56 : decode cX5_now 56 = .ok (.getfield 12, 3) := by decide +kernel
theorem dX5_now_59 : decode cX5_now 59 = .ok (.getfield 59, 3) := by decide +kernel
theorem dX5_now_62 : decode cX5_now 62 = .ok (.invokevirtual 140, 3) := by decide +kernel
theorem dX5_now_65 : decode cX5_now 65 = .ok (.ireturn, 1) := by decide +kernel
theorem dX5_now_66 : decode cX5_now 66 = .ok (.aload_n 0, 1) := by decide +kernel
theorem dX5_now_67 : decode cX5_now 67 = .ok (.getfield 12, 3) := by decide +kernel
theorem dX5_now_70 : decode cX5_now 70 = .ok (.getfield 59, 3) := by decide +kernel
theorem dX5_now_73 : decode cX5_now 73 = .ok (.getfield 143, 3) := by decide +kernel
theorem dX5_now_76 : decode cX5_now 76 = .ok (.ireturn, 1) := by decide +kernel
theorem dX5_now_77 : decode cX5_now 77 = .ok (.aload_n 0, 1) := by decide +kernel
theorem dX5_now_78 : decode cX5_now 78 = .ok (.getfield 12, 3) := by decide +kernel
theorem dX5_now_81 : decode cX5_now 81 = .ok (.invokevirtual 137, 3) := by decide +kernel
theorem dX5_now_84 : decode cX5_now 84 = .ok (.ireturn, 1) := by decide +kernel
theorem dX5_now_85 : decode cX5_now 85 = .ok (.aload_n 0, 1) := by decide +kernel
theorem dX5_now_86 : decode cX5_now 86 = .ok (.getfield 12, 3) := by decide +kernel
theorem dX5_now_89 : decode cX5_now 89 = .ok (.invokevirtual 146, 3) := by decide +kernel
theorem dX5_now_92 : decode cX5_now 92 = .ok (.ireturn, 1) := by decide +kernel
theorem dX5_now_93 : decode cX5_now 93 = .ok (.aload_n 0, 1) := by decide +kernel
theorem dX5_now_94 : decode cX5_now 94 = .ok (.getfield 12, 3) := by decide +kernel
theorem dX5_now_97 : decode cX5_now 97 = .ok (.invokevirtual 149, 3) := by decide +kernel
theorem dX5_now_100 : decode cX5_now 100 = .ok (.ireturn, 1) := by decide +kernel
theorem dX5_now_101 : decode cX5_now 101 = .ok (.aload_n 0, 1) := by decide +kernel
theorem dX5_now_102 : decode cX5_now 102 = .ok (.getfield 12, 3) := by decide +kernel
theorem dX5_now_105 : decode cX5_now 105 = .ok (.getfield 59, 3) := by decide +kernel
theorem dX5_now_108 : decode cX5_now 108 = .ok (.invokevirtual 71, 3) := by decide +kernel
theorem dX5_now_111 : decode cX5_now 111 = .ok (.ireturn, 1) := by decide +kernel
theorem dX5_now_112 : decode cX5_now 112 = .ok (.aload_n 0, 1) := by decide +kernel
theorem dX5_now_113 : decode cX5_now 113 = .ok (.ldc 54, 2) := by decide +kernel
theorem dX5_now_115 : decode cX5_now 115 = .ok (.invokevirtual 55, 3) := by decide +kernel
theorem dX5_now_118 : decode cX5_now 118 = .ok (.ireturn, 1) := by decide +kernel
theorem dX5_ahead_0 : decode cX5_ahead 0 = .ok (.iload_n 1, 1) := by decide +kernel
theorem dX5_ahead_1 : decode cX5_ahead 1 = .ok (.bipush 11, 2) := by decide +kernel
theorem dX5_ahead_3 : decode cX5_ahead 3 = .ok (.invokestatic 50, 3) := by decide +kernel
theorem dX5_ahead_6 : decode cX5_ahead 6 = .ok (.ifCond .ne 12, 3) := by decide +kernel
theorem dX5_ahead_9 : decode cX5_ahead 9 = .ok (.iload_n 2, 1) := by decide +kernel
theorem dX5_ahead_10 : decode cX5_ahead 10 = .ok (.bipush 100, 2) := by decide +kernel
theorem dX5_ahead_12 : decode cX5_ahead 12 = .ok (.invokestatic 50, 3) := by decide +kernel
theorem dX5_ahead_15 : decode cX5_ahead 15 = .ok (.ifCond .eq 10, 3) := by decide +kernel
theorem dX5_ahead_18 : decode cX5_ahead 18 = .ok (.aload_n 0, 1) := by decide +kernel
theorem dX5_ahead_19 : decode cX5_ahead 19 = .ok (.ldc 54, 2) := by decide +kernel
