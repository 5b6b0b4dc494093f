theorem dX6_init_5 : decode cX6_init 5 = .ok (.bipush 74, 2) := by decide +kernel
theorem dX6_init_7 : decode cX6_init 7 = .ok (.newarray .int, 2) := by decide +kernel
theorem dX6_init_9 : decode cX6_init 9 = .ok (.putfield 7, 3) := by decide +kernel
theorem dX6_init_12 : decode cX6_init 12 = .ok (.aload_n 0, 1) := by decide +kernel
theorem dX6_init_13 : decode cX6_init 13 = .ok (.bipush 74, 2) := by decide +kernel
theorem dX6_init_15 : decode cX6_init 15 = .ok (.newarray .int, 2) := by decide +kernel
theorem dX6_init_17 : decode cX6_init 17 = .ok (.putfield 13, 3) := by decide +kernel
theorem dX6_init_20 : decode cX6_init 20 = .ok (.aload_n 0, 1) := by decide +kernel
theorem dX6_init_21 : decode cX6_init 21 = .ok (.bipush 74, 2) := by decide +kernel
theorem dX6_init_23 : decode cX6_init 23 = .ok (.newarray .int, 2) := by decide +kernel
theorem dX6_init_25 : decode cX6_init 25 = .ok (.putfield 16, 3) := by decide +kernel
theorem dX6_init_28 : decode cX6_init 28 = .ok (.aload_n 0, 1) := by decide +kernel
theorem dX6_init_29 : decode cX6_init 29 = .ok (.bipush 74, 2) := by decide +kernel
theorem dX6_init_31 : decode cX6_init 31 = .ok (.newarray .int, 2) := by decide +kernel
theorem dX6_init_33 : decode cX6_init 33 = .ok (.putfield 19, 3) := by decide +kernel
theorem dX6_init_36 : decode cX6_init 36 = .ok (.aload_n 0, 1) := by decide +kernel
theorem dX6_init_37 : decode cX6_init 37 = .ok (.bipush 7, 2) := by decide +kernel
theorem dX6_init_39 : decode cX6_init 39 = .ok (.newarray .int, 2) := by decide +kernel
theorem dX6_init_41 : decode cX6_init 41 = .ok (.putfield 22, 3) := by decide +kernel
theorem dX6_init_44 : decode cX6_init 44 = .ok (.aload_n 0, 1) := by decide +kernel
theorem dX6_init_45 : decode cX6_init 45 = .ok (.bipush 12, 2) := by decide +kernel
theorem dX6_init_47 : decode cX6_init 47 = .ok (.newarray .int, 2) := by decide +kernel
theorem dX6_init_49 : decode cX6_init 49 = .ok (.putfield 25, 3) := by decide +kernel
theorem dX6_init_52 : decode cX6_init 52 = .ok (.aload_n 0, 1) := by decide +kernel
theorem dX6_init_53 : decode cX6_init 53 = .ok (.bipush 12, 2) := by decide +kernel
theorem dX6_init_55 : decode cX6_init 55 = .ok (.newarray .int, 2) := by decide +kernel
theorem dX6_init_57 : decode cX6_init 57 = .ok (.putfield 28, 3) := by decide +kernel
theorem dX6_init_60 : decode cX6_init 60 = .ok (.aload_n 0, 1) := by decide +kernel
theorem dX6_init_61 : decode cX6_init 61 = .ok (.bipush 120, 2) := by decide +kernel
theorem dX6_init_63 : decode cX6_init 63 = .ok (.newarray .int, 2) := by decide +kernel
theorem dX6_init_65 : decode cX6_init 65 = .ok (.putfield 31, 3) := by decide +kernel
theorem dX6_init_68 : decode cX6_init 68 = .ok (.aload_n 0, 1) := by decide +kernel
theorem dX6_init_69 : decode cX6_init 69 = .ok (.iconst 4, 1) := by decide +kernel
theorem dX6_init_70 : decode cX6_init 70 = .ok (.newarray .int, 2) := by decide +kernel
theorem dX6_init_72 : decode cX6_init 72 = .ok (.putfield 34, 3) := by decide +kernel
theorem dX6_init_75 : decode cX6_init 75 = .ok (.aload_n 0, 1) := by decide +kernel
theorem dX6_init_76 : decode cX6_init 76 = .ok (.iconst 4, 1) := by decide +kernel
theorem dX6_init_77 : decode cX6_init 77 = .ok (.newarray .int, 2) := by decide +kernel
theorem dX6_init_79 : decode cX6_init 79 = .ok (.putfield 37, 3) := by decide +kernel
theorem dX6_init_82 : decode cX6_init 82 = .ok (.aload_n 0, 1) := by decide +kernel
theorem dX6_init_83 : decode cX6_init 83 = .ok (.sipush 160, 3) := by decide +kernel
theorem dX6_init_86 : decode cX6_init 86 = .ok (.newarray .int, 2) := by decide +kernel
theorem dX6_init_88 : decode cX6_init 88 = .ok (.putfield 40, 3) := by decide +kernel
theorem dX6_init_91 : decode cX6_init 91 = .ok (.aload_n 0, 1) := by decide +kernel
theorem dX6_init_92 : decode cX6_init 92 = .ok (.bipush 40, 2) := by decide +kernel
theorem dX6_init_94 : decode cX6_init 94 = .ok (.newarray .int, 2) := by decide +kernel
theorem dX6_init_96 : decode cX6_init 96 = .ok (.putfield 43, 3) := by decide +kernel
theorem dX6_init_99 : decode cX6_init 99 = .ok (.aload_n 0, 1) := by decide +kernel
theorem dX6_init_100 : decode cX6_init 100 = .ok (.getfield 7, 3) := by decide +kernel
theorem dX6_init_103 : decode cX6_init 103 = .ok (.iconst 3, 1) := by decide +kernel
theorem dX6_init_104 : decode cX6_init 104 = .ok (.iconst 1, 1) := by decide +kernel
theorem dX6_init_105 : decode cX6_init 105 = .ok (.iastore, 1) := by decide +kernel
theorem dX6_init_106 : decode cX6_init 106 = .ok (.iconst 0, 1) := by decide +kernel
theorem dX6_init_107 : decode cX6_init 107 = .ok (.istore_n 1, 1) := by decide +kernel
theorem dX6_init_108 : decode cX6_init 108 = .ok (.iload_n 1, 1) := by decide +kernel
theorem dX6_init_109 : decode cX6_init 109 = .ok (.bipush 8, 2) := by decide +kernel
theorem dX6_init_111 : decode cX6_init 111 = .ok (.if_icmp .ge 19, 3) := by decide +kernel
theorem dX6_init_114 : decode cX6_init 114 = .ok (.aload_n 0, 1) := by decide +kernel
theorem dX6_init_115 : decode cX6_init 115 = .ok (.getfield 7, 3) := by decide +kernel
theorem dX6_init_118 : decode cX6_init 118 = .ok (.iconst 4, 1) := by decide +kernel
theorem dX6_init_119 : decode cX6_init 119 = .ok (.iload_n 1, 1) := by decide +kernel
theorem dX6_init_120 : decode cX6_init 120 = .ok (.iadd, 1) := by decide +kernel
theorem dX6_init_121 : decode cX6_init 121 = .ok (.bipush 10, 2) := by decide +kernel
theorem dX6_init_123 : decode cX6_init 123 = .ok (.iastore, 1) := by decide +kernel
theorem dX6_init_124 : decode cX6_init 124 = .ok (.iinc 1 1, 3) := by decide +kernel
theorem dX6_init_127 : decode cX6_init 127 = .ok (.goto (-19), 3) := by decide +kernel
theorem dX6_init_130 : decode cX6_init 130 = .ok (.iconst 0, 1) := by decide +kernel
theorem dX6_init_131 : decode cX6_init 131 = .ok (.istore_n 1, 1) := by decide +kernel
theorem dX6_init_132 : decode cX6_init 132 = .ok (.iload_n 1, 1) := by decide +kernel
theorem dX6_init_133 : decode cX6_init 133 = .ok (.bipush 10, 2) := by decide +kernel
theorem dX6_init_135 : decode cX6_init 135 = .ok (.if_icmp .ge 19, 3) := by decide +kernel
theorem dX6_init_138 : decode cX6_init 138 = .ok (.aload_n 0, 1) := by decide +kernel
theorem dX6_init_139 : decode cX6_init 139 = .ok (.getfield 7, 3) := by decide +kernel
theorem dX6_init_142 : decode cX6_init 142 = .ok (.bipush 64, 2) := by decide +kernel
theorem dX6_init_144 : decode cX6_init 144 = .ok (.iload_n 1, 1) := by decide +kernel
theorem dX6_init_145 : decode cX6_init 145 = .ok (.iadd, 1) := by decide +kernel
theorem dX6_init_146 : decode cX6_init 146 = .ok (.iconst (-1), 1) := by decide +kernel
theorem dX6_init_147 : decode cX6_init 147 = .ok (.iastore, 1) := by decide +kernel
theorem dX6_init_148 : decode cX6_init 148 = .ok (.iinc 1 1, 3) := by decide +kernel
theorem dX6_init_151 : decode cX6_init 151 = .ok (.goto (-19), 3) := by decide +kernel
theorem dX6_init_154 : decode cX6_init 154 = .ok (.return_, 1) := by decide +kernel
theorem dX6_in_0 : decode cX6_in 0 = .ok (.lload_n 0, 1) := by decide +kernel
theorem dX6_in_1 : decode cX6_in 1 = .ok (.lload_n 2, 1) := by decide +kernel
theorem dX6_in_2 : decode cX6_in 2 = .ok (.lcmp, 1) := by decide +kernel
theorem dX6_in_3 : decode cX6_in 3 = .ok (.ifCond .lt 14, 3) := by decide +kernel
theorem dX6_in_6 : decode cX6_in 6 = .ok (.lload_n 0, 1) := by decide +kernel
theorem dX6_in_7 : decode cX6_in 7 = .ok (.lload 4, 2) := by decide +kernel
theorem dX6_in_9 : decode cX6_in 9 = .ok (.lcmp, 1) := by decide +kernel
theorem dX6_in_10 : decode cX6_in 10 = .ok (.ifCond .gt 7, 3) := by decide +kernel
theorem dX6_in_13 : decode cX6_in 13 = .ok (.iconst 1, 1) := by decide +kernel
theorem dX6_in_14 : decode cX6_in 14 = .ok (.goto 4, 3) := by decide +kernel
theorem dX6_in_17 : decode cX6_in 17 = .ok (.iconst 0, 1) := by decide +kernel
theorem dX6_in_18 : decode cX6_in 18 = .ok (.ireturn, 1) := by decide +kernel
theorem dX6_finds_0 : decode cX6_finds 0 = .ok (.aload_n 0, 1) := by decide +kernel
theorem dX6_finds_1 : decode cX6_finds 1 = .ok (.getfield 22, 3) := by decide +kernel
theorem dX6_finds_4 : decode cX6_finds 4 = .ok (.ldc 46, 2) := by decide +kernel
theorem dX6_finds_6 : decode cX6_finds 6 = .ok (.iload_n 1, 1) := by decide +kernel
theorem dX6_finds_7 : decode cX6_finds 7 = .ok (.isub, 1) := by decide +kernel
theorem dX6_finds_8 : decode cX6_finds 8 = .ok (.dup2, 1) := by decide +kernel
theorem dX6_finds_9 : decode cX6_finds 9 = .ok (.iaload, 1) := by decide +kernel
theorem dX6_finds_10 : decode cX6_finds 10 = .ok (.iconst 1, 1) := by decide +kernel
theorem dX6_finds_11 : decode cX6_finds 11 = .ok (.iadd, 1) := by decide +kernel
theorem dX6_finds_12 : decode cX6_finds 12 = .ok (.iastore, 1) := by decide +kernel
theorem dX6_finds_13 : decode cX6_finds 13 = .ok (.iload_n 1, 1) := by decide +kernel
theorem dX6_finds_14 : decode cX6_finds 14 = .ok (.ireturn, 1) := by decide +kernel
theorem dX6_saves_0 : decode cX6_saves 0 = .ok (.iconst 0, 1) := by decide +kernel
theorem dX6_saves_1 : decode cX6_saves 1 = .ok (.istore_n 1, 1) := by decide +kernel
theorem dX6_saves_2 : decode cX6_saves 2 = .ok (.iload_n 1, 1) := by decide +kernel
theorem dX6_saves_3 : decode cX6_saves 3 = .ok (.bipush 74, 2) := by decide +kernel
theorem dX6_saves_5 : decode cX6_saves 5 = .ok (.if_icmp .ge 21, 3) := by decide +kernel
theorem dX6_saves_8 : decode cX6_saves 8 = .ok (.aload_n 0, 1) := by decide +kernel
theorem dX6_saves_9 : decode cX6_saves 9 = .ok (.getfield 16, 3) := by decide +kernel
theorem dX6_saves_12 : decode cX6_saves 12 = .ok (.iload_n 1, 1) := by decide +kernel
theorem dX6_saves_13 : decode cX6_saves 13 = .ok (.aload_n 0, 1) := by decide +kernel
theorem dX6_saves_14 : decode cX6_saves 14 = .ok (.getfield 7, 3) := by decide +kernel
theorem dX6_saves_17 : decode cX6_saves 17 = .ok (.iload_n 1, 1) := by decide +kernel
theorem dX6_saves_18 : decode cX6_saves 18 = .ok (.iaload, 1) := by decide +kernel
theorem dX6_saves_19 : decode cX6_saves 19 = .ok (.iastore, 1) := by decide +kernel
theorem dX6_saves_20 : decode cX6_saves 20 = .ok (.iinc 1 1, 3) := by decide +kernel
theorem dX6_saves_23 : decode cX6_saves 23 = .ok (.goto (-21), 3) := by decide +kernel
theorem dX6_saves_26 : decode cX6_saves 26 = .ok (.return_, 1) := by decide +kernel
theorem dX6_putsBack_0 : decode cX6_putsBack 0 = .ok (.iconst 0, 1) := by decide +kernel
theorem dX6_putsBack_1 : decode cX6_putsBack 1 = .ok (.istore_n 1, 1) := by decide +kernel
theorem dX6_putsBack_2 : decode cX6_putsBack 2 = .ok (.iload_n 1, 1) := by decide +kernel
theorem dX6_putsBack_3 : decode cX6_putsBack 3 = .ok (.bipush 74, 2) := by decide +kernel
theorem dX6_putsBack_5 : decode cX6_putsBack 5 = .ok (.if_icmp .ge 21, 3) := by decide +kernel
theorem dX6_putsBack_8 : decode cX6_putsBack 8 = .ok (.aload_n 0, 1) := by decide +kernel
theorem dX6_putsBack_9 : decode cX6_putsBack 9 = .ok (.getfield 7, 3) := by decide +kernel
theorem dX6_putsBack_12 : decode cX6_putsBack 12 = .ok (.iload_n 1, 1) := by decide +kernel
theorem dX6_putsBack_13 : decode cX6_putsBack 13 = .ok (.aload_n 0, 1) := by decide +kernel
theorem dX6_putsBack_14 : decode cX6_putsBack 14 = .ok (.getfield 16, 3) := by decide +kernel
theorem dX6_putsBack_17 : decode cX6_putsBack 17 = .ok (.iload_n 1, 1) := by decide +kernel
theorem dX6_putsBack_18 : decode cX6_putsBack 18 = .ok (.iaload, 1) := by decide +kernel
theorem dX6_putsBack_19 : decode cX6_putsBack 19 = .ok (.iastore, 1) := by decide +kernel
theorem dX6_putsBack_20 : decode cX6_putsBack 20 = .ok (.iinc 1 1, 3) := by decide +kernel
theorem dX6_putsBack_23 : decode cX6_putsBack 23 = .ok (.goto (-21), 3) := by decide +kernel
theorem dX6_putsBack_26 : decode cX6_putsBack 26 = .ok (.return_, 1) := by decide +kernel
theorem dX6_laysAside_0 : decode cX6_laysAside 0 = .ok (.iconst 0, 1) := by decide +kernel
theorem dX6_laysAside_1 : decode cX6_laysAside 1 = .ok (.istore_n 1, 1) := by decide +kernel
theorem dX6_laysAside_2 : decode cX6_laysAside 2 = .ok (.iload_n 1, 1) := by decide +kernel
theorem dX6_laysAside_3 : decode cX6_laysAside 3 = .ok (.bipush 74, 2) := by decide +kernel
theorem dX6_laysAside_5 : decode cX6_laysAside 5 = .ok (.if_icmp .ge 21, 3) := by decide +kernel
theorem dX6_laysAside_8 : decode cX6_laysAside 8 = .ok (.aload_n 0, 1) := by decide +kernel
theorem dX6_laysAside_9 : decode cX6_laysAside 9 = .ok (.getfield 19, 3) := by decide +kernel
theorem dX6_laysAside_12 : decode cX6_laysAside 12 = .ok (.iload_n 1, 1) := by decide +kernel
theorem dX6_laysAside_13 : decode cX6_laysAside 13 = .ok (.aload_n 0, 1) := by decide +kernel
theorem dX6_laysAside_14 : decode cX6_laysAside 14 = .ok (.getfield 7, 3) := by decide +kernel
theorem dX6_laysAside_17 : decode cX6_laysAside 17 = .ok (.iload_n 1, 1) := by decide +kernel
theorem dX6_laysAside_18 : decode cX6_laysAside 18 = .ok (.iaload, 1) := by decide +kernel
theorem dX6_laysAside_19 : decode cX6_laysAside 19 = .ok (.iastore, 1) := by decide +kernel
theorem dX6_laysAside_20 : decode cX6_laysAside 20 = .ok (.iinc 1 1, 3) := by decide +kernel
theorem dX6_laysAside_23 : decode cX6_laysAside 23 = .ok (.goto (-21), 3) := by decide +kernel
theorem dX6_laysAside_26 : decode cX6_laysAside 26 = .ok (.return_, 1) := by decide +kernel
theorem dX6_takesBack_0 : decode cX6_takesBack 0 = .ok (.iconst 0, 1) := by decide +kernel
theorem dX6_takesBack_1 : decode cX6_takesBack 1 = .ok (.istore_n 2, 1) := by decide +kernel
theorem dX6_takesBack_2 : decode cX6_takesBack 2 = .ok (.iload_n 2, 1) := by decide +kernel
theorem dX6_takesBack_3 : decode cX6_takesBack 3 = .ok (.bipush 74, 2) := by decide +kernel
theorem dX6_takesBack_5 : decode cX6_takesBack 5 = .ok (.if_icmp .ge 21, 3) := by decide +kernel
theorem dX6_takesBack_8 : decode cX6_takesBack 8 = .ok (.aload_n 0, 1) := by decide +kernel
theorem dX6_takesBack_9 : decode cX6_takesBack 9 = .ok (.getfield 7, 3) := by decide +kernel
theorem dX6_takesBack_12 : decode cX6_takesBack 12 = .ok (.iload_n 2, 1) := by decide +kernel
theorem dX6_takesBack_13 : decode cX6_takesBack 13 = .ok (.aload_n 0, 1) := by decide +kernel
theorem dX6_takesBack_14 : decode cX6_takesBack 14 = .ok (.getfield 19, 3) := by decide +kernel
theorem dX6_takesBack_17 : decode cX6_takesBack 17 = .ok (.iload_n 2, 1) := by decide +kernel
theorem dX6_takesBack_18 : decode cX6_takesBack 18 = .ok (.iaload, 1) := by decide +kernel
theorem dX6_takesBack_19 : decode cX6_takesBack 19 = .ok (.iastore, 1) := by decide +kernel
theorem dX6_takesBack_20 : decode cX6_takesBack 20 = .ok (.iinc 2 1, 3) := by decide +kernel
theorem dX6_takesBack_23 : decode cX6_takesBack 23 = .ok (.goto (-21), 3) := by decide +kernel
theorem dX6_takesBack_26 : decode cX6_takesBack 26 = .ok (.iload_n 1, 1) := by decide +kernel
theorem dX6_takesBack_27 : decode cX6_takesBack 27 = .ok (.ireturn, 1) := by decide +kernel
theorem dX6_becomes_0 : decode cX6_becomes 0 = .ok (.aload_n 0, 1) := by decide +kernel
theorem dX6_becomes_1 : decode cX6_becomes 1 = .ok (.getfield 7, 3) := by decide +kernel
theorem dX6_becomes_4 : decode cX6_becomes 4 = .ok (.iload_n 1, 1) := by decide +kernel
theorem dX6_becomes_5 : decode cX6_becomes 5 = .ok (.iaload, 1) := by decide +kernel
theorem dX6_becomes_6 : decode cX6_becomes 6 = .ok (.istore_n 3, 1) := by decide +kernel
theorem dX6_becomes_7 : decode cX6_becomes 7 = .ok (.aload_n 0, 1) := by decide +kernel
theorem dX6_becomes_8 : decode cX6_becomes 8 = .ok (.getfield 7, 3) := by decide +kernel
theorem dX6_becomes_11 : decode cX6_becomes 11 = .ok (.iload_n 1, 1) := by decide +kernel
theorem dX6_becomes_12 : decode cX6_becomes 12 = .ok (.iload_n 2, 1) := by decide +kernel
theorem dX6_becomes_13 : decode cX6_becomes 13 = .ok (.iastore, 1) := by decide +kernel
theorem dX6_becomes_14 : decode cX6_becomes 14 = .ok (.iload_n 3, 1) := by decide +kernel
theorem dX6_becomes_15 : decode cX6_becomes 15 = .ok (.ireturn, 1) := by decide +kernel
theorem dX6_isCell_0 : decode cX6_isCell 0 = .ok (.iload_n 0, 1) := by decide +kernel
theorem dX6_isCell_1 : decode cX6_isCell 1 = .ok (.i2l, 1) := by decide +kernel
theorem dX6_isCell_2 : decode cX6_isCell 2 = .ok (.lconst 0, 1) := by decide +kernel
theorem dX6_isCell_3 : decode cX6_isCell 3 = .ok (.ldc2_w 47, 3) := by decide +kernel
theorem dX6_isCell_6 : decode cX6_isCell 6 = .ok (.invokestatic 49, 3) := by decide +kernel
theorem dX6_isCell_9 : decode cX6_isCell 9 = .ok (.ireturn, 1) := by decide +kernel
theorem dX6_isHour_0 : decode cX6_isHour 0 = .ok (.iload_n 0, 1) := by decide +kernel
theorem dX6_isHour_1 : decode cX6_isHour 1 = .ok (.i2l, 1) := by decide +kernel
theorem dX6_isHour_2 : decode cX6_isHour 2 = .ok (.lconst 0, 1) := by decide +kernel
theorem dX6_isHour_3 : decode cX6_isHour 3 = .ok (.ldc2_w 53, 3) := by decide +kernel
theorem dX6_isHour_6 : decode cX6_isHour 6 = .ok (.invokestatic 49, 3) := by decide +kernel
theorem dX6_isHour_9 : decode cX6_isHour 9 = .ok (.ireturn, 1) := by decide +kernel
theorem dX6_isOpening_0 : decode cX6_isOpening 0 = .ok (.iload_n 0, 1) := by decide +kernel
theorem dX6_isOpening_1 : decode cX6_isOpening 1 = .ok (.i2l, 1) := by decide +kernel
theorem dX6_isOpening_2 : decode cX6_isOpening 2 = .ok (.lconst 0, 1) := by decide +kernel
theorem dX6_isOpening_3 : decode cX6_isOpening 3 = .ok (.ldc2_w 55, 3) := by decide +kernel
theorem dX6_isOpening_6 : decode cX6_isOpening 6 = .ok (.invokestatic 49, 3) := by decide +kernel
theorem dX6_isOpening_9 : decode cX6_isOpening 9 = .ok (.ireturn, 1) := by decide +kernel
theorem dX6_isWatcher_0 : decode cX6_isWatcher 0 = .ok (.iload_n 1, 1) := by decide +kernel
theorem dX6_isWatcher_1 : decode cX6_isWatcher 1 = .ok (.i2l, 1) := by decide +kernel
theorem dX6_isWatcher_2 : decode cX6_isWatcher 2 = .ok (.lconst 0, 1) := by decide +kernel
theorem dX6_isWatcher_3 : decode cX6_isWatcher 3 = .ok (.aload_n 0, 1) := by decide +kernel
theorem dX6_isWatcher_4 : decode cX6_isWatcher 4 = .ok (.getfield 7, 3) := by decide +kernel
theorem dX6_isWatcher_7 : decode cX6_isWatcher 7 = .ok (.iconst 1, 1) := by decide +kernel
theorem dX6_isWatcher_8 : decode cX6_isWatcher 8 = .ok (.iaload, 1) := by decide +kernel
theorem dX6_isWatcher_9 : decode cX6_isWatcher 9 = .ok (.iconst 1, 1) := by decide +kernel
theorem dX6_isWatcher_10 : decode cX6_isWatcher 10 = .ok (.isub, 1) := by decide +kernel
theorem dX6_isWatcher_11 : decode cX6_isWatcher 11 = .ok (.i2l, 1) := by decide +kernel
theorem dX6_isWatcher_12 : decode cX6_isWatcher 12 = .ok (.invokestatic 49, 3) := by decide +kernel
theorem dX6_isWatcher_15 : decode cX6_isWatcher 15 = .ok (.ireturn, 1) := by decide +kernel
theorem dX6_isKind_0 : decode cX6_isKind 0 = .ok (.iload_n 0, 1) := by decide +kernel
theorem dX6_isKind_1 : decode cX6_isKind 1 = .ok (.i2l, 1) := by decide +kernel
theorem dX6_isKind_2 : decode cX6_isKind 2 = .ok (.lconst 0, 1) := by decide +kernel
theorem dX6_isKind_3 : decode cX6_isKind 3 = .ok (.ldc2_w 57, 3) := by decide +kernel
theorem dX6_isKind_6 : decode cX6_isKind 6 = .ok (.invokestatic 49, 3) := by decide +kernel
theorem dX6_isKind_9 : decode cX6_isKind 9 = .ok (.ireturn, 1) := by decide +kernel
theorem dX6_place_0 : decode cX6_place 0 = .ok (.bipush 24, 2) := by decide +kernel
theorem dX6_place_2 : decode cX6_place 2 = .ok (.iconst 5, 1) := by decide +kernel
theorem dX6_place_3 : decode cX6_place 3 = .ok (.iload_n 0, 1) := by decide +kernel
theorem dX6_place_4 : decode cX6_place 4 = .ok (.imul, 1) := by decide +kernel
theorem dX6_place_5 : decode cX6_place 5 = .ok (.iadd, 1) := by decide +kernel
theorem dX6_place_6 : decode cX6_place 6 = .ok (.iload_n 1, 1) := by decide +kernel
theorem dX6_place_7 : decode cX6_place 7 = .ok (.iadd, 1) := by decide +kernel
theorem dX6_place_8 : decode cX6_place 8 = .ok (.ireturn, 1) := by decide +kernel
theorem dX6_its_0 : decode cX6_its 0 = .ok (.aload_n 0, 1) := by decide +kernel
theorem dX6_its_1 : decode cX6_its 1 = .ok (.getfield 7, 3) := by decide +kernel
theorem dX6_its_4 : decode cX6_its 4 = .ok (.iload_n 1, 1) := by decide +kernel
theorem dX6_its_5 : decode cX6_its 5 = .ok (.iload_n 2, 1) := by decide +kernel
theorem dX6_its_6 : decode cX6_its 6 = .ok (.invokestatic 59, 3) := by decide +kernel
theorem dX6_its_9 : decode cX6_its 9 = .ok (.iaload, 1) := by decide +kernel
theorem dX6_its_10 : decode cX6_its 10 = .ok (.ireturn, 1) := by decide +kernel
theorem dX6_there_0 : decode cX6_there 0 = .ok (.aload_n 0, 1) := by decide +kernel
theorem dX6_there_1 : decode cX6_there 1 = .ok (.getfield 7, 3) := by decide +kernel
theorem dX6_there_4 : decode cX6_there 4 = .ok (.bipush 12, 2) := by decide +kernel
theorem dX6_there_6 : decode cX6_there 6 = .ok (.aload_n 0, 1) := by decide +kernel
theorem dX6_there_7 : decode cX6_there 7 = .ok (.iload_n 1, 1) := by decide +kernel
theorem dX6_there_8 : decode cX6_there 8 = .ok (.iconst 1, 1) := by decide +kernel
theorem dX6_there_9 : decode cX6_there 9 = .ok (.invokevirtual 63, 3) := by decide +kernel
theorem dX6_there_12 : decode cX6_there 12 = .ok (.iadd, 1) := by decide +kernel
theorem dX6_there_13 : decode cX6_there 13 = .ok (.iaload, 1) := by decide +kernel
theorem dX6_there_14 : decode cX6_there 14 = .ok (.ireturn, 1) := by decide +kernel
theorem dX6_level_0 : decode cX6_level 0 = .ok (.iload_n 1, 1) := by decide +kernel
theorem dX6_level_1 : decode cX6_level 1 = .ok (.invokestatic 66, 3) := by decide +kernel
theorem dX6_level_4 : decode cX6_level 4 = .ok (.ifCond .eq 27, 3) := by decide +kernel
theorem dX6_level_7 : decode cX6_level 7 = .ok (.iload_n 2, 1) := by decide +kernel
theorem dX6_level_8 : decode cX6_level 8 = .ok (.i2l, 1) := by decide +kernel
theorem dX6_level_9 : decode cX6_level 9 = .ok (.lconst 0, 1) := by decide +kernel
theorem dX6_level_10 : decode cX6_level 10 = .ok (.ldc2_w 70, 3) := by decide +kernel
theorem dX6_level_13 : decode cX6_level 13 = .ok (.invokestatic 49, 3) := by decide +kernel
theorem dX6_level_16 : decode cX6_level 16 = .ok (.ifCond .eq 15, 3) := by decide +kernel
theorem dX6_level_19 : decode cX6_level 19 = .ok (.aload_n 0, 1) := by decide +kernel
theorem dX6_level_20 : decode cX6_level 20 = .ok (.bipush 12, 2) := by decide +kernel
theorem dX6_level_22 : decode cX6_level 22 = .ok (.iload_n 1, 1) := by decide +kernel
theorem dX6_level_23 : decode cX6_level 23 = .ok (.iadd, 1) := by decide +kernel
theorem dX6_level_24 : decode cX6_level 24 = .ok (.iload_n 2, 1) := by decide +kernel
theorem dX6_level_25 : decode cX6_level 25 = .ok (.invokevirtual 72, 3) := by decide +kernel
theorem dX6_level_28 : decode cX6_level 28 = .ok (.goto 9, 3) := by decide +kernel
theorem dX6_level_31 : decode cX6_level 31 = .ok (.aload_n 0, 1) := by decide +kernel
theorem dX6_level_32 : decode cX6_level 32 = .ok (.ldc 46, 2) := by decide +kernel
theorem dX6_level_34 : decode cX6_level 34 = .ok (.invokevirtual 75, 3) := by decide +kernel
theorem dX6_level_37 : decode cX6_level 37 = .ok (.ireturn, 1) := by decide +kernel
theorem dX6_stands_0 : decode cX6_stands 0 = .ok (.iload_n 1, 1) := by decide +kernel
theorem dX6_stands_1 : decode cX6_stands 1 = .ok (.invokestatic 66, 3) := by decide +kernel
theorem dX6_stands_4 : decode cX6_stands 4 = .ok (.ifCond .eq 15, 3) := by decide +kernel
theorem dX6_stands_7 : decode cX6_stands 7 = .ok (.aload_n 0, 1) := by decide +kernel
theorem dX6_stands_8 : decode cX6_stands 8 = .ok (.getfield 7, 3) := by decide +kernel
theorem dX6_stands_11 : decode cX6_stands 11 = .ok (.bipush 12, 2) := by decide +kernel
theorem dX6_stands_13 : decode cX6_stands 13 = .ok (.iload_n 1, 1) := by decide +kernel
theorem dX6_stands_14 : decode cX6_stands 14 = .ok (.iadd, 1) := by decide +kernel
theorem dX6_stands_15 : decode cX6_stands 15 = .ok (.iaload, 1) := by decide +kernel
theorem dX6_stands_16 : decode cX6_stands 16 = .ok (.goto 9, 3) := by decide +kernel
theorem dX6_stands_19 : decode cX6_stands 19 = .ok (.aload_n 0, 1) := by decide +kernel
theorem dX6_stands_20 : decode cX6_stands 20 = .ok (.ldc 46, 2) := by decide +kernel
theorem dX6_stands_22 : decode cX6_stands 22 = .ok (.invokevirtual 75, 3) := by decide +kernel
theorem dX6_stands_25 : decode cX6_stands 25 = .ok (.ireturn, 1) := by decide +kernel
theorem dX6_plan_0 : decode cX6_plan 0 = .ok (.iload_n 1, 1) := by decide +kernel
theorem dX6_plan_1 : decode cX6_plan 1 = .ok (.invokestatic 79, 3) := by decide +kernel
theorem dX6_plan_4 : decode cX6_plan 4 = .ok (.ifCond .eq 21, 3) := by decide +kernel
theorem dX6_plan_7 : decode cX6_plan 7 = .ok (.iload_n 2, 1) := by decide +kernel
theorem dX6_plan_8 : decode cX6_plan 8 = .ok (.invokestatic 82, 3) := by decide +kernel
theorem dX6_plan_11 : decode cX6_plan 11 = .ok (.ifCond .eq 14, 3) := by decide +kernel
theorem dX6_plan_14 : decode cX6_plan 14 = .ok (.aload_n 0, 1) := by decide +kernel
theorem dX6_plan_15 : decode cX6_plan 15 = .ok (.iconst 4, 1) := by decide +kernel
theorem dX6_plan_16 : decode cX6_plan 16 = .ok (.iload_n 1, 1) := by decide +kernel
theorem dX6_plan_17 : decode cX6_plan 17 = .ok (.iadd, 1) := by decide +kernel
theorem dX6_plan_18 : decode cX6_plan 18 = .ok (.iload_n 2, 1) := by decide +kernel
theorem dX6_plan_19 : decode cX6_plan 19 = .ok (.invokevirtual 72, 3) := by decide +kernel
theorem dX6_plan_22 : decode cX6_plan 22 = .ok (.goto 9, 3) := by decide +kernel
theorem dX6_plan_25 : decode cX6_plan 25 = .ok (.aload_n 0, 1) := by decide +kernel
theorem dX6_plan_26 : decode cX6_plan 26 = .ok (.ldc 46, 2) := by decide +kernel
theorem dX6_plan_28 : decode cX6_plan 28 = .ok (.invokevirtual 75, 3) := by decide +kernel
theorem dX6_plan_31 : decode cX6_plan 31 = .ok (.ireturn, 1) := by decide +kernel
theorem dX6_opening_0 : decode cX6_opening 0 = .ok (.iload_n 1, 1) := by decide +kernel
theorem dX6_opening_1 : decode cX6_opening 1 = .ok (.invokestatic 79, 3) := by decide +kernel
theorem dX6_opening_4 : decode cX6_opening 4 = .ok (.ifCond .eq 14, 3) := by decide +kernel
theorem dX6_opening_7 : decode cX6_opening 7 = .ok (.aload_n 0, 1) := by decide +kernel
theorem dX6_opening_8 : decode cX6_opening 8 = .ok (.getfield 7, 3) := by decide +kernel
theorem dX6_opening_11 : decode cX6_opening 11 = .ok (.iconst 4, 1) := by decide +kernel
theorem dX6_opening_12 : decode cX6_opening 12 = .ok (.iload_n 1, 1) := by decide +kernel
theorem dX6_opening_13 : decode cX6_opening 13 = .ok (.iadd, 1) := by decide +kernel
theorem dX6_opening_14 : decode cX6_opening 14 = .ok (.iaload, 1) := by decide +kernel
theorem dX6_opening_15 : decode cX6_opening 15 = .ok (.goto 9, 3) := by decide +kernel
theorem dX6_opening_18 : decode cX6_opening 18 = .ok (.aload_n 0, 1) := by decide +kernel
theorem dX6_opening_19 : decode cX6_opening 19 = .ok (.ldc 46, 2) := by decide +kernel
theorem dX6_opening_21 : decode cX6_opening 21 = .ok (.invokevirtual 75, 3) := by decide +kernel
theorem dX6_opening_24 : decode cX6_opening 24 = .ok (.ireturn, 1) := by decide +kernel
theorem dX6_openings_0 : decode cX6_openings 0 = .ok (.iconst 0, 1) := by decide +kernel
theorem dX6_openings_1 : decode cX6_openings 1 = .ok (.istore_n 1, 1) := by decide +kernel
theorem dX6_openings_2 : decode cX6_openings 2 = .ok (.iconst 0, 1) := by decide +kernel
theorem dX6_openings_3 : decode cX6_openings 3 = .ok (.istore_n 2, 1) := by decide +kernel
theorem dX6_openings_4 : decode cX6_openings 4 = .ok (.iload_n 2, 1) := by decide +kernel
theorem dX6_openings_5 : decode cX6_openings 5 = .ok (.bipush 8, 2) := by decide +kernel
theorem dX6_openings_7 : decode cX6_openings 7 = .ok (.if_icmp .ge 20, 3) := by decide +kernel
theorem dX6_openings_10 : decode cX6_openings 10 = .ok (.iload_n 1, 1) := by decide +kernel
theorem dX6_openings_11 : decode cX6_openings 11 = .ok (.aload_n 0, 1) := by decide +kernel
theorem dX6_openings_12 : decode cX6_openings 12 = .ok (.getfield 7, 3) := by decide +kernel
theorem dX6_openings_15 : decode cX6_openings 15 = .ok (.iconst 4, 1) := by decide +kernel
theorem dX6_openings_16 : decode cX6_openings 16 = .ok (.iload_n 2, 1) := by decide +kernel
theorem dX6_openings_17 : decode cX6_openings 17 = .ok (.iadd, 1) := by decide +kernel
theorem dX6_openings_18 : decode cX6_openings 18 = .ok (.iaload, 1) := by decide +kernel
theorem dX6_openings_19 : decode cX6_openings 19 = .ok (.iadd, 1) := by decide +kernel
theorem dX6_openings_20 : decode cX6_openings 20 = .ok (.istore_n 1, 1) := by decide +kernel
theorem dX6_openings_21 : decode cX6_openings 21 = .ok (.iinc 2 1, 3) := by decide +kernel
theorem dX6_openings_24 : decode cX6_openings 24 = .ok (.goto (-20), 3) := by decide +kernel
theorem dX6_openings_27 : decode cX6_openings 27 = .ok (.iload_n 1, 1) := by decide +kernel
theorem dX6_openings_28 : decode cX6_openings 28 = .ok (.ireturn, 1) := by decide +kernel
theorem dX6_opensAll_0 : decode cX6_opensAll 0 = .ok (.iconst 0, 1) := by decide +kernel
theorem dX6_opensAll_1 : decode cX6_opensAll 1 = .ok (.istore_n 2, 1) := by decide +kernel
theorem dX6_opensAll_2 : decode cX6_opensAll 2 = .ok (.iload_n 2, 1) := by decide +kernel
theorem dX6_opensAll_3 : decode cX6_opensAll 3 = .ok (.bipush 8, 2) := by decide +kernel
theorem dX6_opensAll_5 : decode cX6_opensAll 5 = .ok (.if_icmp .ge 18, 3) := by decide +kernel
theorem dX6_opensAll_8 : decode cX6_opensAll 8 = .ok (.aload_n 0, 1) := by decide +kernel
theorem dX6_opensAll_9 : decode cX6_opensAll 9 = .ok (.getfield 7, 3) := by decide +kernel
theorem dX6_opensAll_12 : decode cX6_opensAll 12 = .ok (.iconst 4, 1) := by decide +kernel
theorem dX6_opensAll_13 : decode cX6_opensAll 13 = .ok (.iload_n 2, 1) := by decide +kernel
theorem dX6_opensAll_14 : decode cX6_opensAll 14 = .ok (.iadd, 1) := by decide +kernel
theorem dX6_opensAll_15 : decode cX6_opensAll 15 = .ok (.iload_n 1, 1) := by decide +kernel
theorem dX6_opensAll_16 : decode cX6_opensAll 16 = .ok (.iastore, 1) := by decide +kernel
theorem dX6_opensAll_17 : decode cX6_opensAll 17 = .ok (.iinc 2 1, 3) := by decide +kernel
theorem dX6_opensAll_20 : decode cX6_opensAll 20 = .ok (.goto (-18), 3) := by decide +kernel
theorem dX6_opensAll_23 : decode cX6_opensAll 23 = .ok (.return_, 1) := by decide +kernel
theorem dX6_steady_0 : decode cX6_steady 0 = .ok (.iload_n 1, 1) := by decide +kernel
theorem dX6_steady_1 : decode cX6_steady 1 = .ok (.invokestatic 82, 3) := by decide +kernel
theorem dX6_steady_4 : decode cX6_steady 4 = .ok (.ifCond .ne 10, 3) := by decide +kernel
theorem dX6_steady_7 : decode cX6_steady 7 = .ok (.aload_n 0, 1) := by decide +kernel
theorem dX6_steady_8 : decode cX6_steady 8 = .ok (.ldc 46, 2) := by decide +kernel
theorem dX6_steady_10 : decode cX6_steady 10 = .ok (.invokevirtual 75, 3) := by decide +kernel
theorem dX6_steady_13 : decode cX6_steady 13 = .ok (.ireturn, 1) := by decide +kernel
theorem dX6_steady_14 : decode cX6_steady 14 = .ok (.aload_n 0, 1) := by decide +kernel
theorem dX6_steady_15 : decode cX6_steady 15 = .ok (.invokevirtual 85, 3) := by decide +kernel
theorem dX6_steady_18 : decode cX6_steady 18 = .ok (.istore_n 2, 1) := by decide +kernel
theorem dX6_steady_19 : decode cX6_steady 19 = .ok (.aload_n 0, 1) := by decide +kernel
theorem dX6_steady_20 : decode cX6_steady 20 = .ok (.iload_n 1, 1) := by decide +kernel
theorem dX6_steady_21 : decode cX6_steady 21 = .ok (.invokevirtual 89, 3) := by decide +kernel
theorem dX6_steady_24 : decode cX6_steady 24 = .ok (.iload_n 2, 1) := by decide +kernel
theorem dX6_steady_25 : decode cX6_steady 25 = .ok (.ireturn, 1) := by decide +kernel
theorem dX6_adds_0 : decode cX6_adds 0 = .ok (.aload_n 0, 1) := by decide +kernel
theorem dX6_adds_1 : decode cX6_adds 1 = .ok (.getfield 7, 3) := by decide +kernel
theorem dX6_adds_4 : decode cX6_adds 4 = .ok (.iconst 1, 1) := by decide +kernel
theorem dX6_adds_5 : decode cX6_adds 5 = .ok (.iaload, 1) := by decide +kernel
theorem dX6_adds_6 : decode cX6_adds 6 = .ok (.istore_n 3, 1) := by decide +kernel
theorem dX6_adds_7 : decode cX6_adds 7 = .ok (.aload_n 0, 1) := by decide +kernel
theorem dX6_adds_8 : decode cX6_adds 8 = .ok (.getfield 7, 3) := by decide +kernel
theorem dX6_adds_11 : decode cX6_adds 11 = .ok (.iload_n 3, 1) := by decide +kernel
theorem dX6_adds_12 : decode cX6_adds 12 = .ok (.iconst 0, 1) := by decide +kernel
theorem dX6_adds_13 : decode cX6_adds 13 = .ok (.invokestatic 59, 3) := by decide +kernel
theorem dX6_adds_16 : decode cX6_adds 16 = .ok (.iload_n 1, 1) := by decide +kernel
theorem dX6_adds_17 : decode cX6_adds 17 = .ok (.iastore, 1) := by decide +kernel
theorem dX6_adds_18 : decode cX6_adds 18 = .ok (.aload_n 0, 1) := by decide +kernel
theorem dX6_adds_19 : decode cX6_adds 19 = .ok (.getfield 7, 3) := by decide +kernel
theorem dX6_adds_22 : decode cX6_adds 22 = .ok (.iload_n 3, 1) := by decide +kernel
theorem dX6_adds_23 : decode cX6_adds 23 = .ok (.iconst 1, 1) := by decide +kernel
theorem dX6_adds_24 : decode cX6_adds 24 = .ok (.invokestatic 59, 3) := by decide +kernel
theorem dX6_adds_27 : decode cX6_adds 27 = .ok (.iload_n 2, 1) := by decide +kernel
theorem dX6_adds_28 : decode cX6_adds 28 = .ok (.iastore, 1) := by decide +kernel
theorem dX6_adds_29 : decode cX6_adds 29 = .ok (.aload_n 0, 1) := by decide +kernel
theorem dX6_adds_30 : decode cX6_adds 30 = .ok (.getfield 7, 3) := by decide +kernel
theorem dX6_adds_33 : decode cX6_adds 33 = .ok (.iload_n 3, 1) := by decide +kernel
theorem dX6_adds_34 : decode cX6_adds 34 = .ok (.iconst 2, 1) := by decide +kernel
theorem dX6_adds_35 : decode cX6_adds 35 = .ok (.invokestatic 59, 3) := by decide +kernel
theorem dX6_adds_38 : decode cX6_adds 38 = .ok (.iconst 5, 1) := by decide +kernel
theorem dX6_adds_39 : decode cX6_adds 39 = .ok (.iastore, 1) := by decide +kernel
theorem dX6_adds_40 : decode cX6_adds 40 = .ok (.aload_n 0, 1) := by decide +kernel
theorem dX6_adds_41 : decode cX6_adds 41 = .ok (.getfield 7, 3) := by decide +kernel
theorem dX6_adds_44 : decode cX6_adds 44 = .ok (.iload_n 3, 1) := by decide +kernel
theorem dX6_adds_45 : decode cX6_adds 45 = .ok (.iconst 3, 1) := by decide +kernel
theorem dX6_adds_46 : decode cX6_adds 46 = .ok (.invokestatic 59, 3) := by decide +kernel
theorem dX6_adds_49 : decode cX6_adds 49 = .ok (.bipush 50, 2) := by decide +kernel
theorem dX6_adds_51 : decode cX6_adds 51 = .ok (.iastore, 1) := by decide +kernel
theorem dX6_adds_52 : decode cX6_adds 52 = .ok (.aload_n 0, 1) := by decide +kernel
theorem dX6_adds_53 : decode cX6_adds 53 = .ok (.getfield 7, 3) := by decide +kernel
theorem dX6_adds_56 : decode cX6_adds 56 = .ok (.iload_n 3, 1) := by decide +kernel
theorem dX6_adds_57 : decode cX6_adds 57 = .ok (.iconst 4, 1) := by decide +kernel
theorem dX6_adds_58 : decode cX6_adds 58 = .ok (.invokestatic 59, 3) := by decide +kernel
theorem dX6_adds_61 : decode cX6_adds 61 = .ok (.iconst 0, 1) := by decide +kernel
theorem dX6_adds_62 : decode cX6_adds 62 = .ok (.iastore, 1) := by decide +kernel
theorem dX6_adds_63 : decode cX6_adds 63 = .ok (.aload_n 0, 1) := by decide +kernel
theorem dX6_adds_64 : decode cX6_adds 64 = .ok (.getfield 7, 3) := by decide +kernel
theorem dX6_adds_67 : decode cX6_adds 67 = .ok (.iconst 1, 1) := by decide +kernel
theorem dX6_adds_68 : decode cX6_adds 68 = .ok (.dup2, 1) := by decide +kernel
theorem dX6_adds_69 : decode cX6_adds 69 = .ok (.iaload, 1) := by decide +kernel
theorem dX6_adds_70 : decode cX6_adds 70 = .ok (.iconst 1, 1) := by decide +kernel
theorem dX6_adds_71 : decode cX6_adds 71 = .ok (.iadd, 1) := by decide +kernel
theorem dX6_adds_72 : decode cX6_adds 72 = .ok (.iastore, 1) := by decide +kernel
theorem dX6_adds_73 : decode cX6_adds 73 = .ok (.iload_n 3, 1) := by decide +kernel
theorem dX6_adds_74 : decode cX6_adds 74 = .ok (.ireturn, 1) := by decide +kernel
theorem dX6_watcher_0 : decode cX6_watcher 0 = .ok (.iload_n 1, 1) := by decide +kernel
theorem dX6_watcher_1 : decode cX6_watcher 1 = .ok (.invokestatic 93, 3) := by decide +kernel
theorem dX6_watcher_4 : decode cX6_watcher 4 = .ok (.ifCond .eq 10, 3) := by decide +kernel
theorem dX6_watcher_7 : decode cX6_watcher 7 = .ok (.iload_n 2, 1) := by decide +kernel
theorem dX6_watcher_8 : decode cX6_watcher 8 = .ok (.invokestatic 66, 3) := by decide +kernel
theorem dX6_watcher_11 : decode cX6_watcher 11 = .ok (.ifCond .ne 10, 3) := by decide +kernel
theorem dX6_watcher_14 : decode cX6_watcher 14 = .ok (.aload_n 0, 1) := by decide +kernel
theorem dX6_watcher_15 : decode cX6_watcher 15 = .ok (.ldc 46, 2) := by decide +kernel
theorem dX6_watcher_17 : decode cX6_watcher 17 = .ok (.invokevirtual 75, 3) := by decide +kernel
theorem dX6_watcher_20 : decode cX6_watcher 20 = .ok (.ireturn, 1) := by decide +kernel
theorem dX6_watcher_21 : decode cX6_watcher 21 = .ok (.aload_n 0, 1) := by decide +kernel
theorem dX6_watcher_22 : decode cX6_watcher 22 = .ok (.getfield 7, 3) := by decide +kernel
theorem dX6_watcher_25 : decode cX6_watcher 25 = .ok (.iconst 1, 1) := by decide +kernel
theorem dX6_watcher_26 : decode cX6_watcher 26 = .ok (.iaload, 1) := by decide +kernel
theorem dX6_watcher_27 : decode cX6_watcher 27 = .ok (.bipush 8, 2) := by decide +kernel
theorem dX6_watcher_29 : decode cX6_watcher 29 = .ok (.if_icmp .ne 12, 3) := by decide +kernel
theorem dX6_watcher_32 : decode cX6_watcher 32 = .ok (.aload_n 0, 1) := by decide +kernel
theorem dX6_watcher_33 : decode cX6_watcher 33 = .ok (.ldc 96, 2) := by decide +kernel
theorem dX6_watcher_35 : decode cX6_watcher 35 = .ok (.invokevirtual 75, 3) := by decide +kernel
theorem dX6_watcher_38 : decode cX6_watcher 38 = .ok (.goto 9, 3) := by decide +kernel
theorem dX6_watcher_41 : decode cX6_watcher 41 = .ok (.aload_n 0, 1) := by decide +kernel
theorem dX6_watcher_42 : decode cX6_watcher 42 = .ok (.iload_n 1, 1) := by decide +kernel
theorem dX6_watcher_43 : decode cX6_watcher 43 = .ok (.iload_n 2, 1) := by decide +kernel
theorem dX6_watcher_44 : decode cX6_watcher 44 = .ok (.invokevirtual 97, 3) := by decide +kernel
theorem dX6_watcher_47 : decode cX6_watcher 47 = .ok (.ireturn, 1) := by decide +kernel
theorem dX6_bears_0 : decode cX6_bears 0 = .ok (.iconst 5, 1) := by decide +kernel
theorem dX6_bears_1 : decode cX6_bears 1 = .ok (.aload_n 0, 1) := by decide +kernel
theorem dX6_bears_2 : decode cX6_bears 2 = .ok (.iload_n 1, 1) := by decide +kernel
theorem dX6_bears_3 : decode cX6_bears 3 = .ok (.iconst 2, 1) := by decide +kernel
theorem dX6_bears_4 : decode cX6_bears 4 = .ok (.invokevirtual 63, 3) := by decide +kernel
theorem dX6_bears_7 : decode cX6_bears 7 = .ok (.bipush 10, 2) := by decide +kernel
theorem dX6_bears_9 : decode cX6_bears 9 = .ok (.idiv, 1) := by decide +kernel
theorem dX6_bears_10 : decode cX6_bears 10 = .ok (.iadd, 1) := by decide +kernel
theorem dX6_bears_11 : decode cX6_bears 11 = .ok (.istore_n 2, 1) := by decide +kernel
theorem dX6_bears_12 : decode cX6_bears 12 = .ok (.aload_n 0, 1) := by decide +kernel
theorem dX6_bears_13 : decode cX6_bears 13 = .ok (.iload_n 1, 1) := by decide +kernel
theorem dX6_bears_14 : decode cX6_bears 14 = .ok (.iconst 0, 1) := by decide +kernel
theorem dX6_bears_15 : decode cX6_bears 15 = .ok (.invokevirtual 63, 3) := by decide +kernel
theorem dX6_bears_18 : decode cX6_bears 18 = .ok (.tableswitch 68 1 6 #[38, 40, 42, 44, 61, 64], 38) := by decide +kernel
theorem dX6_bears_56 : decode cX6_bears 56 = .ok (.iload_n 2, 1) := by decide +kernel
theorem dX6_bears_57 : decode cX6_bears 57 = .ok (.ireturn, 1) := by decide +kernel
theorem dX6_bears_58 : decode cX6_bears 58 = .ok (.iconst 3, 1) := by decide +kernel
theorem dX6_bears_59 : decode cX6_bears 59 = .ok (.ireturn, 1) := by decide +kernel
theorem dX6_bears_60 : decode cX6_bears 60 = .ok (.iconst 2, 1) := by decide +kernel
theorem dX6_bears_61 : decode cX6_bears 61 = .ok (.ireturn, 1) := by decide +kernel
theorem dX6_bears_62 : decode cX6_bears 62 = .ok (.aload_n 0, 1) := by decide +kernel
theorem dX6_bears_63 : decode cX6_bears 63 = .ok (.iload_n 1, 1) := by decide +kernel
theorem dX6_bears_64 : decode cX6_bears 64 = .ok (.iconst 3, 1) := by decide +kernel
theorem dX6_bears_65 : decode cX6_bears 65 = .ok (.invokevirtual 63, 3) := by decide +kernel
theorem dX6_bears_68 : decode cX6_bears 68 = .ok (.bipush 20, 2) := by decide +kernel
theorem dX6_bears_70 : decode cX6_bears 70 = .ok (.if_icmp .ge 7, 3) := by decide +kernel
theorem dX6_bears_73 : decode cX6_bears 73 = .ok (.iconst 1, 1) := by decide +kernel
theorem dX6_bears_74 : decode cX6_bears 74 = .ok (.goto 4, 3) := by decide +kernel
theorem dX6_bears_77 : decode cX6_bears 77 = .ok (.iconst 2, 1) := by decide +kernel
theorem dX6_bears_78 : decode cX6_bears 78 = .ok (.ireturn, 1) := by decide +kernel
theorem dX6_bears_79 : decode cX6_bears 79 = .ok (.bipush 20, 2) := by decide +kernel
theorem dX6_bears_81 : decode cX6_bears 81 = .ok (.ireturn, 1) := by decide +kernel
theorem dX6_bears_82 : decode cX6_bears 82 = .ok (.iconst 2, 1) := by decide +kernel
theorem dX6_bears_83 : decode cX6_bears 83 = .ok (.iload_n 2, 1) := by decide +kernel
theorem dX6_bears_84 : decode cX6_bears 84 = .ok (.imul, 1) := by decide +kernel
theorem dX6_bears_85 : decode cX6_bears 85 = .ok (.ireturn, 1) := by decide +kernel
theorem dX6_bears_86 : decode cX6_bears 86 = .ok (.iconst 5, 1) := by decide +kernel
theorem dX6_bears_87 : decode cX6_bears 87 = .ok (.ireturn, 1) := by decide +kernel
theorem dX6_doubts_0 : decode cX6_doubts 0 = .ok (.aload_n 0, 1) := by decide +kernel
theorem dX6_doubts_1 : decode cX6_doubts 1 = .ok (.iload_n 1, 1) := by decide +kernel
theorem dX6_doubts_2 : decode cX6_doubts 2 = .ok (.iconst 0, 1) := by decide +kernel
theorem dX6_doubts_3 : decode cX6_doubts 3 = .ok (.invokevirtual 63, 3) := by decide +kernel
theorem dX6_doubts_6 : decode cX6_doubts 6 = .ok (.tableswitch 53 1 6 #[38, 40, 43, 46, 49, 51], 38) := by decide +kernel
theorem dX6_doubts_44 : decode cX6_doubts 44 = .ok (.iconst 5, 1) := by decide +kernel
theorem dX6_doubts_45 : decode cX6_doubts 45 = .ok (.ireturn, 1) := by decide +kernel
theorem dX6_doubts_46 : decode cX6_doubts 46 = .ok (.bipush 20, 2) := by decide +kernel
theorem dX6_doubts_48 : decode cX6_doubts 48 = .ok (.ireturn, 1) := by decide +kernel
theorem dX6_doubts_49 : decode cX6_doubts 49 = .ok (.bipush 25, 2) := by decide +kernel
theorem dX6_doubts_51 : decode cX6_doubts 51 = .ok (.ireturn, 1) := by decide +kernel
theorem dX6_doubts_52 : decode cX6_doubts 52 = .ok (.bipush 50, 2) := by decide +kernel
theorem dX6_doubts_54 : decode cX6_doubts 54 = .ok (.ireturn, 1) := by decide +kernel
theorem dX6_doubts_55 : decode cX6_doubts 55 = .ok (.iconst 0, 1) := by decide +kernel
theorem dX6_doubts_56 : decode cX6_doubts 56 = .ok (.ireturn, 1) := by decide +kernel
theorem dX6_doubts_57 : decode cX6_doubts 57 = .ok (.iconst 1, 1) := by decide +kernel
theorem dX6_doubts_58 : decode cX6_doubts 58 = .ok (.ireturn, 1) := by decide +kernel
theorem dX6_doubts_59 : decode cX6_doubts 59 = .ok (.bipush 10, 2) := by decide +kernel
theorem dX6_doubts_61 : decode cX6_doubts 61 = .ok (.ireturn, 1) := by decide +kernel
theorem dX6_trusts_0 : decode cX6_trusts 0 = .ok (.aload_n 0, 1) := by decide +kernel
theorem dX6_trusts_1 : decode cX6_trusts 1 = .ok (.iload_n 1, 1) := by decide +kernel
theorem dX6_trusts_2 : decode cX6_trusts 2 = .ok (.iconst 0, 1) := by decide +kernel
theorem dX6_trusts_3 : decode cX6_trusts 3 = .ok (.invokevirtual 63, 3) := by decide +kernel
theorem dX6_trusts_6 : decode cX6_trusts 6 = .ok (.tableswitch 44 1 6 #[38, 44, 40, 40, 42, 38], 38) := by decide +kernel
theorem dX6_trusts_44 : decode cX6_trusts 44 = .ok (.iconst 2, 1) := by decide +kernel
theorem dX6_trusts_45 : decode cX6_trusts 45 = .ok (.ireturn, 1) := by decide +kernel
theorem dX6_trusts_46 : decode cX6_trusts 46 = .ok (.iconst 0, 1) := by decide +kernel
theorem dX6_trusts_47 : decode cX6_trusts 47 = .ok (.ireturn, 1) := by decide +kernel
theorem dX6_trusts_48 : decode cX6_trusts 48 = .ok (.iconst 3, 1) := by decide +kernel
theorem dX6_trusts_49 : decode cX6_trusts 49 = .ok (.ireturn, 1) := by decide +kernel
theorem dX6_trusts_50 : decode cX6_trusts 50 = .ok (.iconst 1, 1) := by decide +kernel
theorem dX6_trusts_51 : decode cX6_trusts 51 = .ok (.ireturn, 1) := by decide +kernel
theorem dX6_of_0 : decode cX6_of 0 = .ok (.aload_n 0, 1) := by decide +kernel
theorem dX6_of_1 : decode cX6_of 1 = .ok (.iload_n 1, 1) := by decide +kernel
theorem dX6_of_2 : decode cX6_of 2 = .ok (.invokevirtual 100, 3) := by decide +kernel
theorem dX6_of_5 : decode cX6_of 5 = .ok (.ifCond .eq 15, 3) := by decide +kernel
theorem dX6_of_8 : decode cX6_of 8 = .ok (.iload_n 2, 1) := by decide +kernel
theorem dX6_of_9 : decode cX6_of 9 = .ok (.i2l, 1) := by decide +kernel
theorem dX6_of_10 : decode cX6_of 10 = .ok (.lconst 0, 1) := by decide +kernel
theorem dX6_of_11 : decode cX6_of 11 = .ok (.ldc2_w 53, 3) := by decide +kernel
theorem dX6_of_14 : decode cX6_of 14 = .ok (.invokestatic 49, 3) := by decide +kernel
theorem dX6_of_17 : decode cX6_of 17 = .ok (.ifCond .ne 10, 3) := by decide +kernel
theorem dX6_of_20 : decode cX6_of 20 = .ok (.aload_n 0, 1) := by decide +kernel
theorem dX6_of_21 : decode cX6_of 21 = .ok (.ldc 46, 2) := by decide +kernel
theorem dX6_of_23 : decode cX6_of 23 = .ok (.invokevirtual 75, 3) := by decide +kernel
theorem dX6_of_26 : decode cX6_of 26 = .ok (.ireturn, 1) := by decide +kernel
theorem dX6_of_27 : decode cX6_of 27 = .ok (.iload_n 2, 1) := by decide +kernel
theorem dX6_of_28 : decode cX6_of 28 = .ok (.iconst 5, 1) := by decide +kernel
theorem dX6_of_29 : decode cX6_of 29 = .ok (.if_icmp .ge 12, 3) := by decide +kernel
theorem dX6_of_32 : decode cX6_of 32 = .ok (.aload_n 0, 1) := by decide +kernel
theorem dX6_of_33 : decode cX6_of 33 = .ok (.iload_n 1, 1) := by decide +kernel
theorem dX6_of_34 : decode cX6_of 34 = .ok (.iload_n 2, 1) := by decide +kernel
theorem dX6_of_35 : decode cX6_of 35 = .ok (.invokevirtual 63, 3) := by decide +kernel
theorem dX6_of_38 : decode cX6_of 38 = .ok (.goto 35, 3) := by decide +kernel
theorem dX6_of_41 : decode cX6_of 41 = .ok (.iload_n 2, 1) := by decide +kernel
theorem dX6_of_42 : decode cX6_of 42 = .ok (.iconst 5, 1) := by decide +kernel
theorem dX6_of_43 : decode cX6_of 43 = .ok (.if_icmp .ne 11, 3) := by decide +kernel
theorem dX6_of_46 : decode cX6_of 46 = .ok (.aload_n 0, 1) := by decide +kernel
theorem dX6_of_47 : decode cX6_of 47 = .ok (.iload_n 1, 1) := by decide +kernel
theorem dX6_of_48 : decode cX6_of 48 = .ok (.invokevirtual 103, 3) := by decide +kernel
theorem dX6_of_51 : decode cX6_of 51 = .ok (.goto 22, 3) := by decide +kernel
theorem dX6_of_54 : decode cX6_of 54 = .ok (.iload_n 2, 1) := by decide +kernel
theorem dX6_of_55 : decode cX6_of 55 = .ok (.bipush 6, 2) := by decide +kernel
theorem dX6_of_57 : decode cX6_of 57 = .ok (.if_icmp .ne 11, 3) := by decide +kernel
theorem dX6_of_60 : decode cX6_of 60 = .ok (.aload_n 0, 1) := by decide +kernel
theorem dX6_of_61 : decode cX6_of 61 = .ok (.iload_n 1, 1) := by decide +kernel
theorem dX6_of_62 : decode cX6_of 62 = .ok (.invokevirtual 106, 3) := by decide +kernel
theorem dX6_of_65 : decode cX6_of 65 = .ok (.goto 8, 3) := by decide +kernel
theorem dX6_of_68 : decode cX6_of 68 = .ok (.aload_n 0, 1) := by decide +kernel
theorem dX6_of_69 : decode cX6_of 69 = .ok (.iload_n 1, 1) := by decide +kernel
theorem dX6_of_70 : decode cX6_of 70 = .ok (.invokevirtual 109, 3) := by decide +kernel
theorem dX6_of_73 : decode cX6_of 73 = .ok (.ireturn, 1) := by decide +kernel
theorem dX6_most_0 : decode cX6_most 0 = .ok (.iload_n 0, 1) := by decide +kernel
theorem dX6_most_1 : decode cX6_most 1 = .ok (.ifCond .ne 8, 3) := by decide +kernel
theorem dX6_most_4 : decode cX6_most 4 = .ok (.bipush 6, 2) := by decide +kernel
theorem dX6_most_6 : decode cX6_most 6 = .ok (.goto 37, 3) := by decide +kernel
theorem dX6_most_9 : decode cX6_most 9 = .ok (.iload_n 0, 1) := by decide +kernel
theorem dX6_most_10 : decode cX6_most 10 = .ok (.iconst 1, 1) := by decide +kernel
theorem dX6_most_11 : decode cX6_most 11 = .ok (.if_icmp .ne 8, 3) := by decide +kernel
theorem dX6_most_14 : decode cX6_most 14 = .ok (.bipush 11, 2) := by decide +kernel
theorem dX6_most_16 : decode cX6_most 16 = .ok (.goto 27, 3) := by decide +kernel
theorem dX6_most_19 : decode cX6_most 19 = .ok (.iload_n 0, 1) := by decide +kernel
theorem dX6_most_20 : decode cX6_most 20 = .ok (.iconst 2, 1) := by decide +kernel
theorem dX6_most_21 : decode cX6_most 21 = .ok (.if_icmp .ne 9, 3) := by decide +kernel
theorem dX6_most_24 : decode cX6_most 24 = .ok (.sipush 999, 3) := by decide +kernel
theorem dX6_most_27 : decode cX6_most 27 = .ok (.goto 16, 3) := by decide +kernel
theorem dX6_most_30 : decode cX6_most 30 = .ok (.iload_n 0, 1) := by decide +kernel
theorem dX6_most_31 : decode cX6_most 31 = .ok (.iconst 3, 1) := by decide +kernel
theorem dX6_most_32 : decode cX6_most 32 = .ok (.if_icmp .ne 8, 3) := by decide +kernel
theorem dX6_most_35 : decode cX6_most 35 = .ok (.bipush 99, 2) := by decide +kernel
theorem dX6_most_37 : decode cX6_most 37 = .ok (.goto 6, 3) := by decide +kernel
theorem dX6_most_40 : decode cX6_most 40 = .ok (.sipush 9999, 3) := by decide +kernel
theorem dX6_most_43 : decode cX6_most 43 = .ok (.ireturn, 1) := by decide +kernel
theorem dX6_change_0 : decode cX6_change 0 = .ok (.iload_n 2, 1) := by decide +kernel
theorem dX6_change_1 : decode cX6_change 1 = .ok (.i2l, 1) := by decide +kernel
theorem dX6_change_2 : decode cX6_change 2 = .ok (.lconst 0, 1) := by decide +kernel
theorem dX6_change_3 : decode cX6_change 3 = .ok (.ldc2_w 112, 3) := by decide +kernel
theorem dX6_change_6 : decode cX6_change 6 = .ok (.invokestatic 49, 3) := by decide +kernel
theorem dX6_change_9 : decode cX6_change 9 = .ok (.ifCond .eq 21, 3) := by decide +kernel
theorem dX6_change_12 : decode cX6_change 12 = .ok (.iload_n 3, 1) := by decide +kernel
theorem dX6_change_13 : decode cX6_change 13 = .ok (.i2l, 1) := by decide +kernel
theorem dX6_change_14 : decode cX6_change 14 = .ok (.lconst 0, 1) := by decide +kernel
theorem dX6_change_15 : decode cX6_change 15 = .ok (.iload_n 2, 1) := by decide +kernel
theorem dX6_change_16 : decode cX6_change 16 = .ok (.invokestatic 114, 3) := by decide +kernel
theorem dX6_change_19 : decode cX6_change 19 = .ok (.i2l, 1) := by decide +kernel
theorem dX6_change_20 : decode cX6_change 20 = .ok (.invokestatic 49, 3) := by decide +kernel
theorem dX6_change_23 : decode cX6_change 23 = .ok (.ifCond .eq 7, 3) := by decide +kernel
theorem dX6_change_26 : decode cX6_change 26 = .ok (.iconst 1, 1) := by decide +kernel
theorem dX6_change_27 : decode cX6_change 27 = .ok (.goto 4, 3) := by decide +kernel
theorem dX6_change_30 : decode cX6_change 30 = .ok (.iconst 0, 1) := by decide +kernel
theorem dX6_change_31 : decode cX6_change 31 = .ok (.istore 4, 2) := by decide +kernel
theorem dX6_change_33 : decode cX6_change 33 = .ok (.aload_n 0, 1) := by decide +kernel
theorem dX6_change_34 : decode cX6_change 34 = .ok (.iload_n 1, 1) := by decide +kernel
theorem dX6_change_35 : decode cX6_change 35 = .ok (.invokevirtual 100, 3) := by decide +kernel
theorem dX6_change_38 : decode cX6_change 38 = .ok (.ifCond .eq 21, 3) := by decide +kernel
theorem dX6_change_41 : decode cX6_change 41 = .ok (.iload 4, 2) := by decide +kernel
theorem dX6_change_43 : decode cX6_change 43 = .ok (.ifCond .eq 16, 3) := by decide +kernel
theorem dX6_change_46 : decode cX6_change 46 = .ok (.aload_n 0, 1) := by decide +kernel
theorem dX6_change_47 : decode cX6_change 47 = .ok (.iload_n 1, 1) := by decide +kernel
theorem dX6_change_48 : decode cX6_change 48 = .ok (.iload_n 2, 1) := by decide +kernel
theorem dX6_change_49 : decode cX6_change 49 = .ok (.invokestatic 59, 3) := by decide +kernel
theorem dX6_change_52 : decode cX6_change 52 = .ok (.iload_n 3, 1) := by decide +kernel
theorem dX6_change_53 : decode cX6_change 53 = .ok (.invokevirtual 72, 3) := by decide +kernel
theorem dX6_change_56 : decode cX6_change 56 = .ok (.goto 9, 3) := by decide +kernel
theorem dX6_change_59 : decode cX6_change 59 = .ok (.aload_n 0, 1) := by decide +kernel
theorem dX6_change_60 : decode cX6_change 60 = .ok (.ldc 46, 2) := by decide +kernel
theorem dX6_change_62 : decode cX6_change 62 = .ok (.invokevirtual 75, 3) := by decide +kernel
theorem dX6_change_65 : decode cX6_change 65 = .ok (.ireturn, 1) := by decide +kernel
theorem dX6_flows_0 : decode cX6_flows 0 = .ok (.iconst 0, 1) := by decide +kernel
theorem dX6_flows_1 : decode cX6_flows 1 = .ok (.istore_n 1, 1) := by decide +kernel
theorem dX6_flows_2 : decode cX6_flows 2 = .ok (.iload_n 1, 1) := by decide +kernel
theorem dX6_flows_3 : decode cX6_flows 3 = .ok (.bipush 12, 2) := by decide +kernel
theorem dX6_flows_5 : decode cX6_flows 5 = .ok (.if_icmp .ge 24, 3) := by decide +kernel
theorem dX6_flows_8 : decode cX6_flows 8 = .ok (.aload_n 0, 1) := by decide +kernel
theorem dX6_flows_9 : decode cX6_flows 9 = .ok (.getfield 25, 3) := by decide +kernel
theorem dX6_flows_12 : decode cX6_flows 12 = .ok (.iload_n 1, 1) := by decide +kernel
theorem dX6_flows_13 : decode cX6_flows 13 = .ok (.aload_n 0, 1) := by decide +kernel
theorem dX6_flows_14 : decode cX6_flows 14 = .ok (.getfield 7, 3) := by decide +kernel
theorem dX6_flows_17 : decode cX6_flows 17 = .ok (.bipush 12, 2) := by decide +kernel
theorem dX6_flows_19 : decode cX6_flows 19 = .ok (.iload_n 1, 1) := by decide +kernel
theorem dX6_flows_20 : decode cX6_flows 20 = .ok (.iadd, 1) := by decide +kernel
theorem dX6_flows_21 : decode cX6_flows 21 = .ok (.iaload, 1) := by decide +kernel
theorem dX6_flows_22 : decode cX6_flows 22 = .ok (.iastore, 1) := by decide +kernel
theorem dX6_flows_23 : decode cX6_flows 23 = .ok (.iinc 1 1, 3) := by decide +kernel
theorem dX6_flows_26 : decode cX6_flows 26 = .ok (.goto (-24), 3) := by decide +kernel
theorem dX6_flows_29 : decode cX6_flows 29 = .ok (.iconst 0, 1) := by decide +kernel
theorem dX6_flows_30 : decode cX6_flows 30 = .ok (.istore_n 1, 1) := by decide +kernel
theorem dX6_flows_31 : decode cX6_flows 31 = .ok (.iload_n 1, 1) := by decide +kernel
theorem dX6_flows_32 : decode cX6_flows 32 = .ok (.bipush 12, 2) := by decide +kernel
theorem dX6_flows_34 : decode cX6_flows 34 = .ok (.if_icmp .ge 95, 3) := by decide +kernel
theorem dX6_flows_37 : decode cX6_flows 37 = .ok (.iload_n 1, 1) := by decide +kernel
theorem dX6_flows_38 : decode cX6_flows 38 = .ok (.ifCond .ne 33, 3) := by decide +kernel
theorem dX6_flows_41 : decode cX6_flows 41 = .ok (.aload_n 0, 1) := by decide +kernel
theorem dX6_flows_42 : decode cX6_flows 42 = .ok (.getfield 117, 3) := by decide +kernel
theorem dX6_flows_45 : decode cX6_flows 45 = .ok (.ifCond .eq 7, 3) := by decide +kernel
theorem dX6_flows_48 : decode cX6_flows 48 = .ok (.iconst 0, 1) := by decide +kernel
theorem dX6_flows_49 : decode cX6_flows 49 = .ok (.goto 32, 3) := by decide +kernel
theorem dX6_flows_52 : decode cX6_flows 52 = .ok (.aload_n 0, 1) := by decide +kernel
theorem dX6_flows_53 : decode cX6_flows 53 = .ok (.getfield 7, 3) := by decide +kernel
theorem dX6_flows_56 : decode cX6_flows 56 = .ok (.iconst 4, 1) := by decide +kernel
theorem dX6_flows_57 : decode cX6_flows 57 = .ok (.aload_n 0, 1) := by decide +kernel
theorem dX6_flows_58 : decode cX6_flows 58 = .ok (.getfield 7, 3) := by decide +kernel
theorem dX6_flows_61 : decode cX6_flows 61 = .ok (.iconst 0, 1) := by decide +kernel
theorem dX6_flows_62 : decode cX6_flows 62 = .ok (.iaload, 1) := by decide +kernel
theorem dX6_flows_63 : decode cX6_flows 63 = .ok (.bipush 8, 2) := by decide +kernel
theorem dX6_flows_65 : decode cX6_flows 65 = .ok (.irem, 1) := by decide +kernel
theorem dX6_flows_66 : decode cX6_flows 66 = .ok (.iadd, 1) := by decide +kernel
theorem dX6_flows_67 : decode cX6_flows 67 = .ok (.iaload, 1) := by decide +kernel
theorem dX6_flows_68 : decode cX6_flows 68 = .ok (.goto 13, 3) := by decide +kernel
theorem dX6_flows_71 : decode cX6_flows 71 = .ok (.aload_n 0, 1) := by decide +kernel
theorem dX6_flows_72 : decode cX6_flows 72 = .ok (.getfield 25, 3) := by decide +kernel
theorem dX6_flows_75 : decode cX6_flows 75 = .ok (.iload_n 1, 1) := by decide +kernel
theorem dX6_flows_76 : decode cX6_flows 76 = .ok (.iconst 1, 1) := by decide +kernel
theorem dX6_flows_77 : decode cX6_flows 77 = .ok (.isub, 1) := by decide +kernel
theorem dX6_flows_78 : decode cX6_flows 78 = .ok (.iaload, 1) := by decide +kernel
theorem dX6_flows_79 : decode cX6_flows 79 = .ok (.iconst 2, 1) := by decide +kernel
theorem dX6_flows_80 : decode cX6_flows 80 = .ok (.idiv, 1) := by decide +kernel
theorem dX6_flows_81 : decode cX6_flows 81 = .ok (.istore_n 2, 1) := by decide +kernel
theorem dX6_flows_82 : decode cX6_flows 82 = .ok (.aload_n 0, 1) := by decide +kernel
theorem dX6_flows_83 : decode cX6_flows 83 = .ok (.getfield 25, 3) := by decide +kernel
theorem dX6_flows_86 : decode cX6_flows 86 = .ok (.iload_n 1, 1) := by decide +kernel
theorem dX6_flows_87 : decode cX6_flows 87 = .ok (.iaload, 1) := by decide +kernel
theorem dX6_flows_88 : decode cX6_flows 88 = .ok (.aload_n 0, 1) := by decide +kernel
theorem dX6_flows_89 : decode cX6_flows 89 = .ok (.getfield 25, 3) := by decide +kernel
theorem dX6_flows_92 : decode cX6_flows 92 = .ok (.iload_n 1, 1) := by decide +kernel
theorem dX6_flows_93 : decode cX6_flows 93 = .ok (.iaload, 1) := by decide +kernel
theorem dX6_flows_94 : decode cX6_flows 94 = .ok (.iconst 2, 1) := by decide +kernel
theorem dX6_flows_95 : decode cX6_flows 95 = .ok (.idiv, 1) := by decide +kernel
theorem dX6_flows_96 : decode cX6_flows 96 = .ok (.isub, 1) := by decide +kernel
theorem dX6_flows_97 : decode cX6_flows 97 = .ok (.iload_n 2, 1) := by decide +kernel
theorem dX6_flows_98 : decode cX6_flows 98 = .ok (.iadd, 1) := by decide +kernel
theorem dX6_flows_99 : decode cX6_flows 99 = .ok (.istore_n 3, 1) := by decide +kernel
theorem dX6_flows_100 : decode cX6_flows 100 = .ok (.aload_n 0, 1) := by decide +kernel
theorem dX6_flows_101 : decode cX6_flows 101 = .ok (.getfield 7, 3) := by decide +kernel
theorem dX6_flows_104 : decode cX6_flows 104 = .ok (.bipush 12, 2) := by decide +kernel
theorem dX6_flows_106 : decode cX6_flows 106 = .ok (.iload_n 1, 1) := by decide +kernel
theorem dX6_flows_107 : decode cX6_flows 107 = .ok (.iadd, 1) := by decide +kernel
theorem dX6_flows_108 : decode cX6_flows 108 = .ok (.iload_n 3, 1) := by decide +kernel
theorem dX6_flows_109 : decode cX6_flows 109 = .ok (.sipush 9999, 3) := by decide +kernel
theorem dX6_flows_112 : decode cX6_flows 112 = .ok (.if_icmp .le 9, 3) := by decide +kernel
theorem dX6_flows_115 : decode cX6_flows 115 = .ok (.sipush 9999, 3) := by decide +kernel
theorem dX6_flows_118 : decode cX6_flows 118 = .ok (.goto 4, 3) := by decide +kernel
theorem dX6_flows_121 : decode cX6_flows 121 = .ok (.iload_n 3, 1) := by decide +kernel
theorem dX6_flows_122 : decode cX6_flows 122 = .ok (.iastore, 1) := by decide +kernel
theorem dX6_flows_123 : decode cX6_flows 123 = .ok (.iinc 1 1, 3) := by decide +kernel
theorem dX6_flows_126 : decode cX6_flows 126 = .ok (.goto (-95), 3) := by decide +kernel
theorem dX6_flows_129 : decode cX6_flows 129 = .ok (.aload_n 0, 1) := by decide +kernel
theorem dX6_flows_130 : decode cX6_flows 130 = .ok (.getfield 7, 3) := by decide +kernel
theorem dX6_flows_133 : decode cX6_flows 133 = .ok (.iconst 2, 1) := by decide +kernel
theorem dX6_flows_134 : decode cX6_flows 134 = .ok (.iaload, 1) := by decide +kernel
theorem dX6_flows_135 : decode cX6_flows 135 = .ok (.aload_n 0, 1) := by decide +kernel
theorem dX6_flows_136 : decode cX6_flows 136 = .ok (.getfield 25, 3) := by decide +kernel
theorem dX6_flows_139 : decode cX6_flows 139 = .ok (.bipush 11, 2) := by decide +kernel
theorem dX6_flows_141 : decode cX6_flows 141 = .ok (.iaload, 1) := by decide +kernel
theorem dX6_flows_142 : decode cX6_flows 142 = .ok (.iconst 2, 1) := by decide +kernel
theorem dX6_flows_143 : decode cX6_flows 143 = .ok (.idiv, 1) := by decide +kernel
theorem dX6_flows_144 : decode cX6_flows 144 = .ok (.iadd, 1) := by decide +kernel
theorem dX6_flows_145 : decode cX6_flows 145 = .ok (.istore_n 1, 1) := by decide +kernel
theorem dX6_flows_146 : decode cX6_flows 146 = .ok (.aload_n 0, 1) := by decide +kernel
theorem dX6_flows_147 : decode cX6_flows 147 = .ok (.getfield 7, 3) := by decide +kernel
theorem dX6_flows_150 : decode cX6_flows 150 = .ok (.iconst 2, 1) := by decide +kernel
theorem dX6_flows_151 : decode cX6_flows 151 = .ok (.iload_n 1, 1) := by decide +kernel
theorem dX6_flows_152 : decode cX6_flows 152 = .ok (.ldc 121, 2) := by decide +kernel
theorem dX6_flows_154 : decode cX6_flows 154 = .ok (.if_icmp .le 8, 3) := by decide +kernel
theorem dX6_flows_157 : decode cX6_flows 157 = .ok (.ldc 121, 2) := by decide +kernel
theorem dX6_flows_159 : decode cX6_flows 159 = .ok (.goto 4, 3) := by decide +kernel
theorem dX6_flows_162 : decode cX6_flows 162 = .ok (.iload_n 1, 1) := by decide +kernel
theorem dX6_flows_163 : decode cX6_flows 163 = .ok (.iastore, 1) := by decide +kernel
theorem dX6_flows_164 : decode cX6_flows 164 = .ok (.return_, 1) := by decide +kernel
theorem dX6_distance_0 : decode cX6_distance 0 = .ok (.iload_n 0, 1) := by decide +kernel
theorem dX6_distance_1 : decode cX6_distance 1 = .ok (.iload_n 1, 1) := by decide +kernel
theorem dX6_distance_2 : decode cX6_distance 2 = .ok (.if_icmp .ge 9, 3) := by decide +kernel
theorem dX6_distance_5 : decode cX6_distance 5 = .ok (.iload_n 1, 1) := by decide +kernel
theorem dX6_distance_6 : decode cX6_distance 6 = .ok (.iload_n 0, 1) := by decide +kernel
theorem dX6_distance_7 : decode cX6_distance 7 = .ok (.isub, 1) := by decide +kernel
theorem dX6_distance_8 : decode cX6_distance 8 = .ok (.goto 6, 3) := by decide +kernel
theorem dX6_distance_11 : decode cX6_distance 11 = .ok (.iload_n 0, 1) := by decide +kernel
theorem dX6_distance_12 : decode cX6_distance 12 = .ok (.iload_n 1, 1) := by decide +kernel
theorem dX6_distance_13 : decode cX6_distance 13 = .ok (.isub, 1) := by decide +kernel
theorem dX6_distance_14 : decode cX6_distance 14 = .ok (.ireturn, 1) := by decide +kernel
theorem dX6_sees_0 : decode cX6_sees 0 = .ok (.aload_n 0, 1) := by decide +kernel
theorem dX6_sees_1 : decode cX6_sees 1 = .ok (.iload_n 1, 1) := by decide +kernel
theorem dX6_sees_2 : decode cX6_sees 2 = .ok (.iconst 3, 1) := by decide +kernel
theorem dX6_sees_3 : decode cX6_sees 3 = .ok (.invokevirtual 63, 3) := by decide +kernel
theorem dX6_sees_6 : decode cX6_sees 6 = .ok (.istore_n 2, 1) := by decide +kernel
theorem dX6_sees_7 : decode cX6_sees 7 = .ok (.aload_n 0, 1) := by decide +kernel
theorem dX6_sees_8 : decode cX6_sees 8 = .ok (.iload_n 1, 1) := by decide +kernel
theorem dX6_sees_9 : decode cX6_sees 9 = .ok (.invokevirtual 122, 3) := by decide +kernel
theorem dX6_sees_12 : decode cX6_sees 12 = .ok (.aload_n 0, 1) := by decide +kernel
theorem dX6_sees_13 : decode cX6_sees 13 = .ok (.getfield 25, 3) := by decide +kernel
theorem dX6_sees_16 : decode cX6_sees 16 = .ok (.aload_n 0, 1) := by decide +kernel
theorem dX6_sees_17 : decode cX6_sees 17 = .ok (.iload_n 1, 1) := by decide +kernel
theorem dX6_sees_18 : decode cX6_sees 18 = .ok (.iconst 1, 1) := by decide +kernel
theorem dX6_sees_19 : decode cX6_sees 19 = .ok (.invokevirtual 63, 3) := by decide +kernel
theorem dX6_sees_22 : decode cX6_sees 22 = .ok (.iaload, 1) := by decide +kernel
theorem dX6_sees_23 : decode cX6_sees 23 = .ok (.invokestatic 125, 3) := by decide +kernel
theorem dX6_sees_26 : decode cX6_sees 26 = .ok (.istore_n 3, 1) := by decide +kernel
theorem dX6_sees_27 : decode cX6_sees 27 = .ok (.aload_n 0, 1) := by decide +kernel
theorem dX6_sees_28 : decode cX6_sees 28 = .ok (.iload_n 1, 1) := by decide +kernel
theorem dX6_sees_29 : decode cX6_sees 29 = .ok (.invokevirtual 122, 3) := by decide +kernel
theorem dX6_sees_32 : decode cX6_sees 32 = .ok (.aload_n 0, 1) := by decide +kernel
theorem dX6_sees_33 : decode cX6_sees 33 = .ok (.iload_n 1, 1) := by decide +kernel
theorem dX6_sees_34 : decode cX6_sees 34 = .ok (.iconst 2, 1) := by decide +kernel
theorem dX6_sees_35 : decode cX6_sees 35 = .ok (.invokevirtual 63, 3) := by decide +kernel
theorem dX6_sees_38 : decode cX6_sees 38 = .ok (.if_icmp .ge 7, 3) := by decide +kernel
theorem dX6_sees_41 : decode cX6_sees 41 = .ok (.iconst 1, 1) := by decide +kernel
theorem dX6_sees_42 : decode cX6_sees 42 = .ok (.goto 4, 3) := by decide +kernel
theorem dX6_sees_45 : decode cX6_sees 45 = .ok (.iconst 0, 1) := by decide +kernel
theorem dX6_sees_46 : decode cX6_sees 46 = .ok (.istore 4, 2) := by decide +kernel
theorem dX6_sees_48 : decode cX6_sees 48 = .ok (.iload_n 2, 1) := by decide +kernel
theorem dX6_sees_49 : decode cX6_sees 49 = .ok (.ifCond .le 36, 3) := by decide +kernel
theorem dX6_sees_52 : decode cX6_sees 52 = .ok (.iload_n 3, 1) := by decide +kernel
theorem dX6_sees_53 : decode cX6_sees 53 = .ok (.aload_n 0, 1) := by decide +kernel
theorem dX6_sees_54 : decode cX6_sees 54 = .ok (.iload_n 1, 1) := by decide +kernel
theorem dX6_sees_55 : decode cX6_sees 55 = .ok (.invokevirtual 103, 3) := by decide +kernel
theorem dX6_sees_58 : decode cX6_sees 58 = .ok (.if_icmp .le 27, 3) := by decide +kernel
theorem dX6_sees_61 : decode cX6_sees 61 = .ok (.iload_n 2, 1) := by decide +kernel
theorem dX6_sees_62 : decode cX6_sees 62 = .ok (.aload_n 0, 1) := by decide +kernel
theorem dX6_sees_63 : decode cX6_sees 63 = .ok (.iload_n 1, 1) := by decide +kernel
theorem dX6_sees_64 : decode cX6_sees 64 = .ok (.invokevirtual 106, 3) := by decide +kernel
theorem dX6_sees_67 : decode cX6_sees 67 = .ok (.if_icmp .le 13, 3) := by decide +kernel
theorem dX6_sees_70 : decode cX6_sees 70 = .ok (.iload_n 2, 1) := by decide +kernel
theorem dX6_sees_71 : decode cX6_sees 71 = .ok (.aload_n 0, 1) := by decide +kernel
theorem dX6_sees_72 : decode cX6_sees 72 = .ok (.iload_n 1, 1) := by decide +kernel
theorem dX6_sees_73 : decode cX6_sees 73 = .ok (.invokevirtual 106, 3) := by decide +kernel
theorem dX6_sees_76 : decode cX6_sees 76 = .ok (.isub, 1) := by decide +kernel
theorem dX6_sees_77 : decode cX6_sees 77 = .ok (.goto 4, 3) := by decide +kernel
theorem dX6_sees_80 : decode cX6_sees 80 = .ok (.iconst 0, 1) := by decide +kernel
theorem dX6_sees_81 : decode cX6_sees 81 = .ok (.istore_n 2, 1) := by decide +kernel
theorem dX6_sees_82 : decode cX6_sees 82 = .ok (.goto 37, 3) := by decide +kernel
theorem dX6_sees_85 : decode cX6_sees 85 = .ok (.iload_n 2, 1) := by decide +kernel
theorem dX6_sees_86 : decode cX6_sees 86 = .ok (.ifCond .le 33, 3) := by decide +kernel
theorem dX6_sees_89 : decode cX6_sees 89 = .ok (.iload 4, 2) := by decide +kernel
theorem dX6_sees_91 : decode cX6_sees 91 = .ok (.ifCond .ne 28, 3) := by decide +kernel
theorem dX6_sees_94 : decode cX6_sees 94 = .ok (.iload_n 2, 1) := by decide +kernel
theorem dX6_sees_95 : decode cX6_sees 95 = .ok (.aload_n 0, 1) := by decide +kernel
theorem dX6_sees_96 : decode cX6_sees 96 = .ok (.iload_n 1, 1) := by decide +kernel
theorem dX6_sees_97 : decode cX6_sees 97 = .ok (.invokevirtual 109, 3) := by decide +kernel
theorem dX6_sees_100 : decode cX6_sees 100 = .ok (.iadd, 1) := by decide +kernel
theorem dX6_sees_101 : decode cX6_sees 101 = .ok (.bipush 99, 2) := by decide +kernel
theorem dX6_sees_103 : decode cX6_sees 103 = .ok (.if_icmp .le 8, 3) := by decide +kernel
theorem dX6_sees_106 : decode cX6_sees 106 = .ok (.bipush 99, 2) := by decide +kernel
theorem dX6_sees_108 : decode cX6_sees 108 = .ok (.goto 10, 3) := by decide +kernel
theorem dX6_sees_111 : decode cX6_sees 111 = .ok (.iload_n 2, 1) := by decide +kernel
theorem dX6_sees_112 : decode cX6_sees 112 = .ok (.aload_n 0, 1) := by decide +kernel
theorem dX6_sees_113 : decode cX6_sees 113 = .ok (.iload_n 1, 1) := by decide +kernel
theorem dX6_sees_114 : decode cX6_sees 114 = .ok (.invokevirtual 109, 3) := by decide +kernel
theorem dX6_sees_117 : decode cX6_sees 117 = .ok (.iadd, 1) := by decide +kernel
theorem dX6_sees_118 : decode cX6_sees 118 = .ok (.istore_n 2, 1) := by decide +kernel
theorem dX6_sees_119 : decode cX6_sees 119 = .ok (.aload_n 0, 1) := by decide +kernel
theorem dX6_sees_120 : decode cX6_sees 120 = .ok (.getfield 7, 3) := by decide +kernel
theorem dX6_sees_123 : decode cX6_sees 123 = .ok (.iload_n 1, 1) := by decide +kernel
theorem dX6_sees_124 : decode cX6_sees 124 = .ok (.iconst 3, 1) := by decide +kernel
theorem dX6_sees_125 : decode cX6_sees 125 = .ok (.invokestatic 59, 3) := by decide +kernel
theorem dX6_sees_128 : decode cX6_sees 128 = .ok (.iload_n 2, 1) := by decide +kernel
theorem dX6_sees_129 : decode cX6_sees 129 = .ok (.iastore, 1) := by decide +kernel
theorem dX6_sees_130 : decode cX6_sees 130 = .ok (.aload_n 0, 1) := by decide +kernel
theorem dX6_sees_131 : decode cX6_sees 131 = .ok (.getfield 7, 3) := by decide +kernel
theorem dX6_sees_134 : decode cX6_sees 134 = .ok (.iload_n 1, 1) := by decide +kernel
theorem dX6_sees_135 : decode cX6_sees 135 = .ok (.iconst 4, 1) := by decide +kernel
theorem dX6_sees_136 : decode cX6_sees 136 = .ok (.invokestatic 59, 3) := by decide +kernel
theorem dX6_sees_139 : decode cX6_sees 139 = .ok (.dup2, 1) := by decide +kernel
theorem dX6_sees_140 : decode cX6_sees 140 = .ok (.iaload, 1) := by decide +kernel
theorem dX6_sees_141 : decode cX6_sees 141 = .ok (.iload 4, 2) := by decide +kernel
theorem dX6_sees_143 : decode cX6_sees 143 = .ok (.ifCond .eq 19, 3) := by decide +kernel
theorem dX6_sees_146 : decode cX6_sees 146 = .ok (.aload_n 0, 1) := by decide +kernel
theorem dX6_sees_147 : decode cX6_sees 147 = .ok (.iload_n 1, 1) := by decide +kernel
theorem dX6_sees_148 : decode cX6_sees 148 = .ok (.iconst 4, 1) := by decide +kernel
theorem dX6_sees_149 : decode cX6_sees 149 = .ok (.invokevirtual 63, 3) := by decide +kernel
theorem dX6_sees_152 : decode cX6_sees 152 = .ok (.sipush 9999, 3) := by decide +kernel
theorem dX6_sees_155 : decode cX6_sees 155 = .ok (.if_icmp .ge 7, 3) := by decide +kernel
theorem dX6_sees_158 : decode cX6_sees 158 = .ok (.iconst 1, 1) := by decide +kernel
theorem dX6_sees_159 : decode cX6_sees 159 = .ok (.goto 4, 3) := by decide +kernel
theorem dX6_sees_162 : decode cX6_sees 162 = .ok (.iconst 0, 1) := by decide +kernel
theorem dX6_sees_163 : decode cX6_sees 163 = .ok (.iadd, 1) := by decide +kernel
theorem dX6_sees_164 : decode cX6_sees 164 = .ok (.iastore, 1) := by decide +kernel
theorem dX6_sees_165 : decode cX6_sees 165 = .ok (.return_, 1) := by decide +kernel
theorem dX6_hour_0 : decode cX6_hour 0 = .ok (.aload_n 0, 1) := by decide +kernel
theorem dX6_hour_1 : decode cX6_hour 1 = .ok (.invokevirtual 128, 3) := by decide +kernel
theorem dX6_hour_4 : decode cX6_hour 4 = .ok (.iconst 0, 1) := by decide +kernel
theorem dX6_hour_5 : decode cX6_hour 5 = .ok (.istore_n 1, 1) := by decide +kernel
theorem dX6_hour_6 : decode cX6_hour 6 = .ok (.iload_n 1, 1) := by decide +kernel
theorem dX6_hour_7 : decode cX6_hour 7 = .ok (.aload_n 0, 1) := by decide +kernel
theorem dX6_hour_8 : decode cX6_hour 8 = .ok (.getfield 7, 3) := by decide +kernel
theorem dX6_hour_11 : decode cX6_hour 11 = .ok (.iconst 1, 1) := by decide +kernel
theorem dX6_hour_12 : decode cX6_hour 12 = .ok (.iaload, 1) := by decide +kernel
theorem dX6_hour_13 : decode cX6_hour 13 = .ok (.if_icmp .ge 14, 3) := by decide +kernel
theorem dX6_hour_16 : decode cX6_hour 16 = .ok (.aload_n 0, 1) := by decide +kernel
theorem dX6_hour_17 : decode cX6_hour 17 = .ok (.iload_n 1, 1) := by decide +kernel
theorem dX6_hour_18 : decode cX6_hour 18 = .ok (.invokevirtual 131, 3) := by decide +kernel
theorem dX6_hour_21 : decode cX6_hour 21 = .ok (.iinc 1 1, 3) := by decide +kernel
theorem dX6_hour_24 : decode cX6_hour 24 = .ok (.goto (-18), 3) := by decide +kernel
theorem dX6_hour_27 : decode cX6_hour 27 = .ok (.aload_n 0, 1) := by decide +kernel
theorem dX6_hour_28 : decode cX6_hour 28 = .ok (.getfield 7, 3) := by decide +kernel
theorem dX6_hour_31 : decode cX6_hour 31 = .ok (.iconst 0, 1) := by decide +kernel
theorem dX6_hour_32 : decode cX6_hour 32 = .ok (.dup2, 1) := by decide +kernel
theorem dX6_hour_33 : decode cX6_hour 33 = .ok (.iaload, 1) := by decide +kernel
theorem dX6_hour_34 : decode cX6_hour 34 = .ok (.iconst 1, 1) := by decide +kernel
theorem dX6_hour_35 : decode cX6_hour 35 = .ok (.iadd, 1) := by decide +kernel
theorem dX6_hour_36 : decode cX6_hour 36 = .ok (.iastore, 1) := by decide +kernel
theorem dX6_hour_37 : decode cX6_hour 37 = .ok (.return_, 1) := by decide +kernel
theorem dX6_goesOn_0 : decode cX6_goesOn 0 = .ok (.iconst 0, 1) := by decide +kernel
theorem dX6_goesOn_1 : decode cX6_goesOn 1 = .ok (.istore_n 2, 1) := by decide +kernel
theorem dX6_goesOn_2 : decode cX6_goesOn 2 = .ok (.iload_n 2, 1) := by decide +kernel
theorem dX6_goesOn_3 : decode cX6_goesOn 3 = .ok (.iload_n 1, 1) := by decide +kernel
theorem dX6_goesOn_4 : decode cX6_goesOn 4 = .ok (.if_icmp .ge 13, 3) := by decide +kernel
theorem dX6_goesOn_7 : decode cX6_goesOn 7 = .ok (.aload_n 0, 1) := by decide +kernel
theorem dX6_goesOn_8 : decode cX6_goesOn 8 = .ok (.invokevirtual 134, 3) := by decide +kernel
theorem dX6_goesOn_11 : decode cX6_goesOn 11 = .ok (.iinc 2 1, 3) := by decide +kernel
theorem dX6_goesOn_14 : decode cX6_goesOn 14 = .ok (.goto (-12), 3) := by decide +kernel
theorem dX6_goesOn_17 : decode cX6_goesOn 17 = .ok (.return_, 1) := by decide +kernel
theorem dX6_knowing_0 : decode cX6_knowing 0 = .ok (.iconst 0, 1) := by decide +kernel
theorem dX6_knowing_1 : decode cX6_knowing 1 = .ok (.istore_n 1, 1) := by decide +kernel
theorem dX6_knowing_2 : decode cX6_knowing 2 = .ok (.iconst 0, 1) := by decide +kernel
theorem dX6_knowing_3 : decode cX6_knowing 3 = .ok (.istore_n 2, 1) := by decide +kernel
theorem dX6_knowing_4 : decode cX6_knowing 4 = .ok (.iload_n 2, 1) := by decide +kernel
theorem dX6_knowing_5 : decode cX6_knowing 5 = .ok (.aload_n 0, 1) := by decide +kernel
theorem dX6_knowing_6 : decode cX6_knowing 6 = .ok (.getfield 7, 3) := by decide +kernel
theorem dX6_knowing_9 : decode cX6_knowing 9 = .ok (.iconst 1, 1) := by decide +kernel
theorem dX6_knowing_10 : decode cX6_knowing 10 = .ok (.iaload, 1) := by decide +kernel
theorem dX6_knowing_11 : decode cX6_knowing 11 = .ok (.if_icmp .ge 28, 3) := by decide +kernel
theorem dX6_knowing_14 : decode cX6_knowing 14 = .ok (.iload_n 1, 1) := by decide +kernel
theorem dX6_knowing_15 : decode cX6_knowing 15 = .ok (.aload_n 0, 1) := by decide +kernel
theorem dX6_knowing_16 : decode cX6_knowing 16 = .ok (.iload_n 2, 1) := by decide +kernel
theorem dX6_knowing_17 : decode cX6_knowing 17 = .ok (.iconst 3, 1) := by decide +kernel
theorem dX6_knowing_18 : decode cX6_knowing 18 = .ok (.invokevirtual 63, 3) := by decide +kernel
theorem dX6_knowing_21 : decode cX6_knowing 21 = .ok (.ifCond .ne 9, 3) := by decide +kernel
theorem dX6_knowing_24 : decode cX6_knowing 24 = .ok (.iconst 1, 1) := by decide +kernel
theorem dX6_knowing_25 : decode cX6_knowing 25 = .ok (.iload_n 2, 1) := by decide +kernel
theorem dX6_knowing_26 : decode cX6_knowing 26 = .ok (.ishl, 1) := by decide +kernel
theorem dX6_knowing_27 : decode cX6_knowing 27 = .ok (.goto 4, 3) := by decide +kernel
theorem dX6_knowing_30 : decode cX6_knowing 30 = .ok (.iconst 0, 1) := by decide +kernel
theorem dX6_knowing_31 : decode cX6_knowing 31 = .ok (.ior, 1) := by decide +kernel
theorem dX6_knowing_32 : decode cX6_knowing 32 = .ok (.istore_n 1, 1) := by decide +kernel
theorem dX6_knowing_33 : decode cX6_knowing 33 = .ok (.iinc 2 1, 3) := by decide +kernel
theorem dX6_knowing_36 : decode cX6_knowing 36 = .ok (.goto (-32), 3) := by decide +kernel
theorem dX6_knowing_39 : decode cX6_knowing 39 = .ok (.iload_n 1, 1) := by decide +kernel
theorem dX6_knowing_40 : decode cX6_knowing 40 = .ok (.ireturn, 1) := by decide +kernel
theorem dX6_wanting_0 : decode cX6_wanting 0 = .ok (.iconst 0, 1) := by decide +kernel
theorem dX6_wanting_1 : decode cX6_wanting 1 = .ok (.istore_n 1, 1) := by decide +kernel
theorem dX6_wanting_2 : decode cX6_wanting 2 = .ok (.iconst 0, 1) := by decide +kernel
theorem dX6_wanting_3 : decode cX6_wanting 3 = .ok (.istore_n 2, 1) := by decide +kernel
theorem dX6_wanting_4 : decode cX6_wanting 4 = .ok (.iload_n 2, 1) := by decide +kernel
theorem dX6_wanting_5 : decode cX6_wanting 5 = .ok (.aload_n 0, 1) := by decide +kernel
theorem dX6_wanting_6 : decode cX6_wanting 6 = .ok (.getfield 7, 3) := by decide +kernel
theorem dX6_wanting_9 : decode cX6_wanting 9 = .ok (.iconst 1, 1) := by decide +kernel
theorem dX6_wanting_10 : decode cX6_wanting 10 = .ok (.iaload, 1) := by decide +kernel
theorem dX6_wanting_11 : decode cX6_wanting 11 = .ok (.if_icmp .ge 33, 3) := by decide +kernel
theorem dX6_wanting_14 : decode cX6_wanting 14 = .ok (.iload_n 1, 1) := by decide +kernel
theorem dX6_wanting_15 : decode cX6_wanting 15 = .ok (.aload_n 0, 1) := by decide +kernel
theorem dX6_wanting_16 : decode cX6_wanting 16 = .ok (.iload_n 2, 1) := by decide +kernel
theorem dX6_wanting_17 : decode cX6_wanting 17 = .ok (.invokevirtual 122, 3) := by decide +kernel
theorem dX6_wanting_20 : decode cX6_wanting 20 = .ok (.aload_n 0, 1) := by decide +kernel
theorem dX6_wanting_21 : decode cX6_wanting 21 = .ok (.iload_n 2, 1) := by decide +kernel
theorem dX6_wanting_22 : decode cX6_wanting 22 = .ok (.iconst 2, 1) := by decide +kernel
theorem dX6_wanting_23 : decode cX6_wanting 23 = .ok (.invokevirtual 63, 3) := by decide +kernel
theorem dX6_wanting_26 : decode cX6_wanting 26 = .ok (.if_icmp .ge 9, 3) := by decide +kernel
theorem dX6_wanting_29 : decode cX6_wanting 29 = .ok (.iconst 1, 1) := by decide +kernel
theorem dX6_wanting_30 : decode cX6_wanting 30 = .ok (.iload_n 2, 1) := by decide +kernel
theorem dX6_wanting_31 : decode cX6_wanting 31 = .ok (.ishl, 1) := by decide +kernel
theorem dX6_wanting_32 : decode cX6_wanting 32 = .ok (.goto 4, 3) := by decide +kernel
theorem dX6_wanting_35 : decode cX6_wanting 35 = .ok (.iconst 0, 1) := by decide +kernel
theorem dX6_wanting_36 : decode cX6_wanting 36 = .ok (.ior, 1) := by decide +kernel
theorem dX6_wanting_37 : decode cX6_wanting 37 = .ok (.istore_n 1, 1) := by decide +kernel
theorem dX6_wanting_38 : decode cX6_wanting 38 = .ok (.iinc 2 1, 3) := by decide +kernel
theorem dX6_wanting_41 : decode cX6_wanting 41 = .ok (.goto (-37), 3) := by decide +kernel
theorem dX6_wanting_44 : decode cX6_wanting 44 = .ok (.iload_n 1, 1) := by decide +kernel
theorem dX6_wanting_45 : decode cX6_wanting 45 = .ok (.ireturn, 1) := by decide +kernel
theorem dX6_go_0 : decode cX6_go 0 = .ok (.iload_n 1, 1) := by decide +kernel
theorem dX6_go_1 : decode cX6_go 1 = .ok (.i2l, 1) := by decide +kernel
theorem dX6_go_2 : decode cX6_go 2 = .ok (.lconst 1, 1) := by decide +kernel
theorem dX6_go_3 : decode cX6_go 3 = .ok (.ldc2_w 137, 3) := by decide +kernel
theorem dX6_go_6 : decode cX6_go 6 = .ok (.invokestatic 49, 3) := by decide +kernel
theorem dX6_go_9 : decode cX6_go 9 = .ok (.ifCond .ne 10, 3) := by decide +kernel
theorem dX6_go_12 : decode cX6_go 12 = .ok (.aload_n 0, 1) := by decide +kernel
theorem dX6_go_13 : decode cX6_go 13 = .ok (.ldc 46, 2) := by decide +kernel
theorem dX6_go_15 : decode cX6_go 15 = .ok (.invokevirtual 75, 3) := by decide +kernel
theorem dX6_go_18 : decode cX6_go 18 = .ok (.ireturn, 1) := by decide +kernel
theorem dX6_go_19 : decode cX6_go 19 = .ok (.aload_n 0, 1) := by decide +kernel
theorem dX6_go_20 : decode cX6_go 20 = .ok (.getfield 7, 3) := by decide +kernel
theorem dX6_go_23 : decode cX6_go 23 = .ok (.iconst 0, 1) := by decide +kernel
theorem dX6_go_24 : decode cX6_go 24 = .ok (.iaload, 1) := by decide +kernel
theorem dX6_go_25 : decode cX6_go 25 = .ok (.iload_n 1, 1) := by decide +kernel
theorem dX6_go_26 : decode cX6_go 26 = .ok (.iadd, 1) := by decide +kernel
theorem dX6_go_27 : decode cX6_go 27 = .ok (.ldc 139, 2) := by decide +kernel
theorem dX6_go_29 : decode cX6_go 29 = .ok (.if_icmp .le 10, 3) := by decide +kernel
theorem dX6_go_32 : decode cX6_go 32 = .ok (.aload_n 0, 1) := by decide +kernel
theorem dX6_go_33 : decode cX6_go 33 = .ok (.ldc 140, 2) := by decide +kernel
theorem dX6_go_35 : decode cX6_go 35 = .ok (.invokevirtual 75, 3) := by decide +kernel
theorem dX6_go_38 : decode cX6_go 38 = .ok (.ireturn, 1) := by decide +kernel
theorem dX6_go_39 : decode cX6_go 39 = .ok (.aload_n 0, 1) := by decide +kernel
theorem dX6_go_40 : decode cX6_go 40 = .ok (.iload_n 1, 1) := by decide +kernel
theorem dX6_go_41 : decode cX6_go 41 = .ok (.invokevirtual 141, 3) := by decide +kernel
theorem dX6_go_44 : decode cX6_go 44 = .ok (.aload_n 0, 1) := by decide +kernel
theorem dX6_go_45 : decode cX6_go 45 = .ok (.invokevirtual 144, 3) := by decide +kernel
theorem dX6_go_48 : decode cX6_go 48 = .ok (.ireturn, 1) := by decide +kernel
theorem dX6_levels_0 : decode cX6_levels 0 = .ok (.iconst 0, 1) := by decide +kernel
theorem dX6_levels_1 : decode cX6_levels 1 = .ok (.istore_n 1, 1) := by decide +kernel
theorem dX6_levels_2 : decode cX6_levels 2 = .ok (.iconst 0, 1) := by decide +kernel
theorem dX6_levels_3 : decode cX6_levels 3 = .ok (.istore_n 2, 1) := by decide +kernel
theorem dX6_levels_4 : decode cX6_levels 4 = .ok (.iload_n 2, 1) := by decide +kernel
theorem dX6_levels_5 : decode cX6_levels 5 = .ok (.bipush 12, 2) := by decide +kernel
theorem dX6_levels_7 : decode cX6_levels 7 = .ok (.if_icmp .ge 21, 3) := by decide +kernel
theorem dX6_levels_10 : decode cX6_levels 10 = .ok (.iload_n 1, 1) := by decide +kernel
theorem dX6_levels_11 : decode cX6_levels 11 = .ok (.aload_n 0, 1) := by decide +kernel
theorem dX6_levels_12 : decode cX6_levels 12 = .ok (.getfield 7, 3) := by decide +kernel
theorem dX6_levels_15 : decode cX6_levels 15 = .ok (.bipush 12, 2) := by decide +kernel
theorem dX6_levels_17 : decode cX6_levels 17 = .ok (.iload_n 2, 1) := by decide +kernel
theorem dX6_levels_18 : decode cX6_levels 18 = .ok (.iadd, 1) := by decide +kernel
theorem dX6_levels_19 : decode cX6_levels 19 = .ok (.iaload, 1) := by decide +kernel
theorem dX6_levels_20 : decode cX6_levels 20 = .ok (.iadd, 1) := by decide +kernel
theorem dX6_levels_21 : decode cX6_levels 21 = .ok (.istore_n 1, 1) := by decide +kernel
theorem dX6_levels_22 : decode cX6_levels 22 = .ok (.iinc 2 1, 3) := by decide +kernel
theorem dX6_levels_25 : decode cX6_levels 25 = .ok (.goto (-21), 3) := by decide +kernel
theorem dX6_levels_28 : decode cX6_levels 28 = .ok (.iload_n 1, 1) := by decide +kernel
theorem dX6_levels_29 : decode cX6_levels 29 = .ok (.ireturn, 1) := by decide +kernel
theorem dX6_beliefs_0 : decode cX6_beliefs 0 = .ok (.iconst 0, 1) := by decide +kernel
theorem dX6_beliefs_1 : decode cX6_beliefs 1 = .ok (.istore_n 1, 1) := by decide +kernel
theorem dX6_beliefs_2 : decode cX6_beliefs 2 = .ok (.iconst 0, 1) := by decide +kernel
theorem dX6_beliefs_3 : decode cX6_beliefs 3 = .ok (.istore_n 2, 1) := by decide +kernel
theorem dX6_beliefs_4 : decode cX6_beliefs 4 = .ok (.iload_n 2, 1) := by decide +kernel
theorem dX6_beliefs_5 : decode cX6_beliefs 5 = .ok (.aload_n 0, 1) := by decide +kernel
theorem dX6_beliefs_6 : decode cX6_beliefs 6 = .ok (.getfield 7, 3) := by decide +kernel
theorem dX6_beliefs_9 : decode cX6_beliefs 9 = .ok (.iconst 1, 1) := by decide +kernel
theorem dX6_beliefs_10 : decode cX6_beliefs 10 = .ok (.iaload, 1) := by decide +kernel
theorem dX6_beliefs_11 : decode cX6_beliefs 11 = .ok (.if_icmp .ge 18, 3) := by decide +kernel
theorem dX6_beliefs_14 : decode cX6_beliefs 14 = .ok (.iload_n 1, 1) := by decide +kernel
theorem dX6_beliefs_15 : decode cX6_beliefs 15 = .ok (.aload_n 0, 1) := by decide +kernel
theorem dX6_beliefs_16 : decode cX6_beliefs 16 = .ok (.iload_n 2, 1) := by decide +kernel
theorem dX6_beliefs_17 : decode cX6_beliefs 17 = .ok (.iconst 3, 1) := by decide +kernel
theorem dX6_beliefs_18 : decode cX6_beliefs 18 = .ok (.invokevirtual 63, 3) := by decide +kernel
theorem dX6_beliefs_21 : decode cX6_beliefs 21 = .ok (.iadd, 1) := by decide +kernel
theorem dX6_beliefs_22 : decode cX6_beliefs 22 = .ok (.istore_n 1, 1) := by decide +kernel
theorem dX6_beliefs_23 : decode cX6_beliefs 23 = .ok (.iinc 2 1, 3) := by decide +kernel
theorem dX6_beliefs_26 : decode cX6_beliefs 26 = .ok (.goto (-22), 3) := by decide +kernel
theorem dX6_beliefs_29 : decode cX6_beliefs 29 = .ok (.iload_n 1, 1) := by decide +kernel
theorem dX6_beliefs_30 : decode cX6_beliefs 30 = .ok (.ireturn, 1) := by decide +kernel
theorem dX6_now_0 : decode cX6_now 0 = .ok (.iload_n 1, 1) := by decide +kernel
theorem dX6_now_1 : decode cX6_now 1 = .ok (.tableswitch 82 0 6 #[43, 50, 55, 62, 67, 72, 77], 43) := by decide +kernel
theorem dX6_now_44 : decode cX6_now 44 = .ok (.aload_n 0, 1) := by decide +kernel
theorem dX6_now_45 : decode cX6_now 45 = .ok (.getfield 7, 3) := by decide +kernel
theorem dX6_now_48 : decode cX6_now 48 = .ok (.iconst 0, 1) := by decide +kernel
theorem dX6_now_49 : decode cX6_now 49 = .ok (.iaload, 1) := by decide +kernel
theorem dX6_now_50 : decode cX6_now 50 = .ok (.ireturn, 1) := by decide +kernel
theorem dX6_now_51 : decode cX6_now 51 = .ok (.aload_n 0, 1) := by decide +kernel
theorem dX6_now_52 : decode cX6_now 52 = .ok (.invokevirtual 147, 3) := by decide +kernel
theorem dX6_now_55 : decode cX6_now 55 = .ok (.ireturn, 1) := by decide +kernel
theorem dX6_now_56 : decode cX6_now 56 = .ok (.aload_n 0, 1) := by decide +kernel
theorem dX6_now_57 : decode cX6_now 57 = .ok (.getfield 7, 3) := by decide +kernel
theorem dX6_now_60 : decode cX6_now 60 = .ok (.iconst 2, 1) := by decide +kernel
theorem dX6_now_61 : decode cX6_now 61 = .ok (.iaload, 1) := by decide +kernel
theorem dX6_now_62 : decode cX6_now 62 = .ok (.ireturn, 1) := by decide +kernel
theorem dX6_now_63 : decode cX6_now 63 = .ok (.aload_n 0, 1) := by decide +kernel
theorem dX6_now_64 : decode cX6_now 64 = .ok (.invokevirtual 144, 3) := by decide +kernel
theorem dX6_now_67 : decode cX6_now 67 = .ok (.ireturn, 1) := by decide +kernel
theorem dX6_now_68 : decode cX6_now 68 = .ok (.aload_n 0, 1) := by decide +kernel
theorem dX6_now_69 : decode cX6_now 69 = .ok (.invokevirtual 150, 3) := by decide +kernel
theorem dX6_now_72 : decode cX6_now 72 = .ok (.ireturn, 1) := by decide +kernel
theorem dX6_now_73 : decode cX6_now 73 = .ok (.aload_n 0, 1) := by decide +kernel
theorem dX6_now_74 : decode cX6_now 74 = .ok (.invokevirtual 153, 3) := by decide +kernel
theorem dX6_now_77 : decode cX6_now 77 = .ok (.ireturn, 1) := by decide +kernel
theorem dX6_now_78 : decode cX6_now 78 = .ok (.aload_n 0, 1) := by decide +kernel
theorem dX6_now_79 : decode cX6_now 79 = .ok (.invokevirtual 85, 3) := by decide +kernel
theorem dX6_now_82 : decode cX6_now 82 = .ok (.ireturn, 1) := by decide +kernel
theorem dX6_now_83 : decode cX6_now 83 = .ok (.aload_n 0, 1) := by decide +kernel
theorem dX6_now_84 : decode cX6_now 84 = .ok (.ldc 46, 2) := by decide +kernel
theorem dX6_now_86 : decode cX6_now 86 = .ok (.invokevirtual 75, 3) := by decide +kernel
theorem dX6_now_89 : decode cX6_now 89 = .ok (.ireturn, 1) := by decide +kernel
theorem dX6_behind_0 : decode cX6_behind 0 = .ok (.aload_n 0, 1) := by decide +kernel
theorem dX6_behind_1 : decode cX6_behind 1 = .ok (.invokevirtual 156, 3) := by decide +kernel
theorem dX6_behind_4 : decode cX6_behind 4 = .ok (.aload_n 0, 1) := by decide +kernel
theorem dX6_behind_5 : decode cX6_behind 5 = .ok (.iload_n 2, 1) := by decide +kernel
theorem dX6_behind_6 : decode cX6_behind 6 = .ok (.invokevirtual 141, 3) := by decide +kernel
theorem dX6_behind_9 : decode cX6_behind 9 = .ok (.aload_n 0, 1) := by decide +kernel
theorem dX6_behind_10 : decode cX6_behind 10 = .ok (.aload_n 0, 1) := by decide +kernel
theorem dX6_behind_11 : decode cX6_behind 11 = .ok (.getfield 7, 3) := by decide +kernel
theorem dX6_behind_14 : decode cX6_behind 14 = .ok (.iload_n 1, 1) := by decide +kernel
theorem dX6_behind_15 : decode cX6_behind 15 = .ok (.iaload, 1) := by decide +kernel
theorem dX6_behind_16 : decode cX6_behind 16 = .ok (.invokevirtual 159, 3) := by decide +kernel
theorem dX6_behind_19 : decode cX6_behind 19 = .ok (.ireturn, 1) := by decide +kernel
theorem dX6_ahead_0 : decode cX6_ahead 0 = .ok (.iload_n 1, 1) := by decide +kernel
theorem dX6_ahead_1 : decode cX6_ahead 1 = .ok (.invokestatic 66, 3) := by decide +kernel
theorem dX6_ahead_4 : decode cX6_ahead 4 = .ok (.ifCond .eq 27, 3) := by decide +kernel
theorem dX6_ahead_7 : decode cX6_ahead 7 = .ok (.iload_n 2, 1) := by decide +kernel
theorem dX6_ahead_8 : decode cX6_ahead 8 = .ok (.i2l, 1) := by decide +kernel
theorem dX6_ahead_9 : decode cX6_ahead 9 = .ok (.lconst 0, 1) := by decide +kernel
theorem dX6_ahead_10 : decode cX6_ahead 10 = .ok (.ldc2_w 162, 3) := by decide +kernel
theorem dX6_ahead_13 : decode cX6_ahead 13 = .ok (.invokestatic 49, 3) := by decide +kernel
theorem dX6_ahead_16 : decode cX6_ahead 16 = .ok (.ifCond .eq 15, 3) := by decide +kernel
theorem dX6_ahead_19 : decode cX6_ahead 19 = .ok (.aload_n 0, 1) := by decide +kernel
theorem dX6_ahead_20 : decode cX6_ahead 20 = .ok (.bipush 12, 2) := by decide +kernel
theorem dX6_ahead_22 : decode cX6_ahead 22 = .ok (.iload_n 1, 1) := by decide +kernel
theorem dX6_ahead_23 : decode cX6_ahead 23 = .ok (.iadd, 1) := by decide +kernel
theorem dX6_ahead_24 : decode cX6_ahead 24 = .ok (.iload_n 2, 1) := by decide +kernel
theorem dX6_ahead_25 : decode cX6_ahead 25 = .ok (.invokevirtual 164, 3) := by decide +kernel
theorem dX6_ahead_28 : decode cX6_ahead 28 = .ok (.goto 9, 3) := by decide +kernel
theorem dX6_ahead_31 : decode cX6_ahead 31 = .ok (.aload_n 0, 1) := by decide +kernel
theorem dX6_ahead_32 : decode cX6_ahead 32 = .ok (.ldc 46, 2) := by decide +kernel
theorem dX6_ahead_34 : decode cX6_ahead 34 = .ok (.invokevirtual 75, 3) := by decide +kernel
theorem dX6_ahead_37 : decode cX6_ahead 37 = .ok (.ireturn, 1) := by decide +kernel
theorem dX6_belief_0 : decode cX6_belief 0 = .ok (.aload_n 0, 1) := by decide +kernel
theorem dX6_belief_1 : decode cX6_belief 1 = .ok (.iload_n 1, 1) := by decide +kernel
theorem dX6_belief_2 : decode cX6_belief 2 = .ok (.invokevirtual 100, 3) := by decide +kernel
theorem dX6_belief_5 : decode cX6_belief 5 = .ok (.ifCond .eq 42, 3) := by decide +kernel
theorem dX6_belief_8 : decode cX6_belief 8 = .ok (.iload_n 2, 1) := by decide +kernel
theorem dX6_belief_9 : decode cX6_belief 9 = .ok (.i2l, 1) := by decide +kernel
theorem dX6_belief_10 : decode cX6_belief 10 = .ok (.ldc2_w 167, 3) := by decide +kernel
theorem dX6_belief_13 : decode cX6_belief 13 = .ok (.ldc2_w 112, 3) := by decide +kernel
theorem dX6_belief_16 : decode cX6_belief 16 = .ok (.invokestatic 49, 3) := by decide +kernel
theorem dX6_belief_19 : decode cX6_belief 19 = .ok (.ifCond .eq 28, 3) := by decide +kernel
theorem dX6_belief_22 : decode cX6_belief 22 = .ok (.iload_n 3, 1) := by decide +kernel
theorem dX6_belief_23 : decode cX6_belief 23 = .ok (.i2l, 1) := by decide +kernel
theorem dX6_belief_24 : decode cX6_belief 24 = .ok (.lconst 0, 1) := by decide +kernel
theorem dX6_belief_25 : decode cX6_belief 25 = .ok (.ldc2_w 162, 3) := by decide +kernel
theorem dX6_belief_28 : decode cX6_belief 28 = .ok (.invokestatic 49, 3) := by decide +kernel
theorem dX6_belief_31 : decode cX6_belief 31 = .ok (.ifCond .eq 16, 3) := by decide +kernel
theorem dX6_belief_34 : decode cX6_belief 34 = .ok (.aload_n 0, 1) := by decide +kernel
theorem dX6_belief_35 : decode cX6_belief 35 = .ok (.iload_n 1, 1) := by decide +kernel
theorem dX6_belief_36 : decode cX6_belief 36 = .ok (.iload_n 2, 1) := by decide +kernel
theorem dX6_belief_37 : decode cX6_belief 37 = .ok (.invokestatic 59, 3) := by decide +kernel
theorem dX6_belief_40 : decode cX6_belief 40 = .ok (.iload_n 3, 1) := by decide +kernel
theorem dX6_belief_41 : decode cX6_belief 41 = .ok (.invokevirtual 164, 3) := by decide +kernel
theorem dX6_belief_44 : decode cX6_belief 44 = .ok (.goto 9, 3) := by decide +kernel
theorem dX6_belief_47 : decode cX6_belief 47 = .ok (.aload_n 0, 1) := by decide +kernel
theorem dX6_belief_48 : decode cX6_belief 48 = .ok (.ldc 46, 2) := by decide +kernel
theorem dX6_belief_50 : decode cX6_belief 50 = .ok (.invokevirtual 75, 3) := by decide +kernel
theorem dX6_belief_53 : decode cX6_belief 53 = .ok (.ireturn, 1) := by decide +kernel
theorem dX6_until_0 : decode cX6_until 0 = .ok (.aload_n 0, 1) := by decide +kernel
theorem dX6_until_1 : decode cX6_until 1 = .ok (.invokevirtual 156, 3) := by decide +kernel
theorem dX6_until_4 : decode cX6_until 4 = .ok (.iconst 0, 1) := by decide +kernel
theorem dX6_until_5 : decode cX6_until 5 = .ok (.istore 4, 2) := by decide +kernel
theorem dX6_until_7 : decode cX6_until 7 = .ok (.iload 4, 2) := by decide +kernel
theorem dX6_until_9 : decode cX6_until 9 = .ok (.sipush 200, 3) := by decide +kernel
theorem dX6_until_12 : decode cX6_until 12 = .ok (.if_icmp .gt 40, 3) := by decide +kernel
theorem dX6_until_15 : decode cX6_until 15 = .ok (.iload_n 3, 1) := by decide +kernel
theorem dX6_until_16 : decode cX6_until 16 = .ok (.ifCond .eq 16, 3) := by decide +kernel
theorem dX6_until_19 : decode cX6_until 19 = .ok (.aload_n 0, 1) := by decide +kernel
theorem dX6_until_20 : decode cX6_until 20 = .ok (.getfield 7, 3) := by decide +kernel
theorem dX6_until_23 : decode cX6_until 23 = .ok (.iload_n 1, 1) := by decide +kernel
theorem dX6_until_24 : decode cX6_until 24 = .ok (.iaload, 1) := by decide +kernel
theorem dX6_until_25 : decode cX6_until 25 = .ok (.iload_n 2, 1) := by decide +kernel
theorem dX6_until_26 : decode cX6_until 26 = .ok (.if_icmp .le 26, 3) := by decide +kernel
theorem dX6_until_29 : decode cX6_until 29 = .ok (.goto 13, 3) := by decide +kernel
theorem dX6_until_32 : decode cX6_until 32 = .ok (.aload_n 0, 1) := by decide +kernel
theorem dX6_until_33 : decode cX6_until 33 = .ok (.getfield 7, 3) := by decide +kernel
theorem dX6_until_36 : decode cX6_until 36 = .ok (.iload_n 1, 1) := by decide +kernel
theorem dX6_until_37 : decode cX6_until 37 = .ok (.iaload, 1) := by decide +kernel
theorem dX6_until_38 : decode cX6_until 38 = .ok (.iload_n 2, 1) := by decide +kernel
theorem dX6_until_39 : decode cX6_until 39 = .ok (.if_icmp .ge 13, 3) := by decide +kernel
theorem dX6_until_42 : decode cX6_until 42 = .ok (.aload_n 0, 1) := by decide +kernel
theorem dX6_until_43 : decode cX6_until 43 = .ok (.invokevirtual 134, 3) := by decide +kernel
theorem dX6_until_46 : decode cX6_until 46 = .ok (.iinc 4 1, 3) := by decide +kernel
theorem dX6_until_49 : decode cX6_until 49 = .ok (.goto (-42), 3) := by decide +kernel
theorem dX6_until_52 : decode cX6_until 52 = .ok (.aload_n 0, 1) := by decide +kernel
theorem dX6_until_53 : decode cX6_until 53 = .ok (.iload 4, 2) := by decide +kernel
theorem dX6_until_55 : decode cX6_until 55 = .ok (.invokevirtual 159, 3) := by decide +kernel
theorem dX6_until_58 : decode cX6_until 58 = .ok (.ireturn, 1) := by decide +kernel
theorem dX6_orNone_0 : decode cX6_orNone 0 = .ok (.iload_n 1, 1) := by decide +kernel
theorem dX6_orNone_1 : decode cX6_orNone 1 = .ok (.sipush 200, 3) := by decide +kernel
theorem dX6_orNone_4 : decode cX6_orNone 4 = .ok (.if_icmp .le 12, 3) := by decide +kernel
theorem dX6_orNone_7 : decode cX6_orNone 7 = .ok (.aload_n 0, 1) := by decide +kernel
theorem dX6_orNone_8 : decode cX6_orNone 8 = .ok (.ldc 169, 2) := by decide +kernel
theorem dX6_orNone_10 : decode cX6_orNone 10 = .ok (.invokevirtual 75, 3) := by decide +kernel
theorem dX6_orNone_13 : decode cX6_orNone 13 = .ok (.goto 4, 3) := by decide +kernel
theorem dX6_orNone_16 : decode cX6_orNone 16 = .ok (.iload_n 1, 1) := by decide +kernel
theorem dX6_orNone_17 : decode cX6_orNone 17 = .ok (.ireturn, 1) := by decide +kernel
theorem dX6_when_0 : decode cX6_when 0 = .ok (.aload_n 0, 1) := by decide +kernel
theorem dX6_when_1 : decode cX6_when 1 = .ok (.iload_n 1, 1) := by decide +kernel
theorem dX6_when_2 : decode cX6_when 2 = .ok (.invokevirtual 100, 3) := by decide +kernel
theorem dX6_when_5 : decode cX6_when 5 = .ok (.ifCond .eq 21, 3) := by decide +kernel
theorem dX6_when_8 : decode cX6_when 8 = .ok (.aload_n 0, 1) := by decide +kernel
theorem dX6_when_9 : decode cX6_when 9 = .ok (.aload_n 0, 1) := by decide +kernel
theorem dX6_when_10 : decode cX6_when 10 = .ok (.iload_n 1, 1) := by decide +kernel
theorem dX6_when_11 : decode cX6_when 11 = .ok (.iconst 3, 1) := by decide +kernel
theorem dX6_when_12 : decode cX6_when 12 = .ok (.invokestatic 59, 3) := by decide +kernel
theorem dX6_when_15 : decode cX6_when 15 = .ok (.iconst 0, 1) := by decide +kernel
theorem dX6_when_16 : decode cX6_when 16 = .ok (.iconst 1, 1) := by decide +kernel
theorem dX6_when_17 : decode cX6_when 17 = .ok (.invokevirtual 170, 3) := by decide +kernel
theorem dX6_when_20 : decode cX6_when 20 = .ok (.invokevirtual 174, 3) := by decide +kernel
theorem dX6_when_23 : decode cX6_when 23 = .ok (.goto 9, 3) := by decide +kernel
theorem dX6_when_26 : decode cX6_when 26 = .ok (.aload_n 0, 1) := by decide +kernel
theorem dX6_when_27 : decode cX6_when 27 = .ok (.ldc 46, 2) := by decide +kernel
theorem dX6_when_29 : decode cX6_when 29 = .ok (.invokevirtual 75, 3) := by decide +kernel
theorem dX6_when_32 : decode cX6_when 32 = .ok (.ireturn, 1) := by decide +kernel
theorem dX6_first_0 : decode cX6_first 0 = .ok (.iconst (-1), 1) := by decide +kernel
theorem dX6_first_1 : decode cX6_first 1 = .ok (.istore_n 1, 1) := by decide +kernel
theorem dX6_first_2 : decode cX6_first 2 = .ok (.sipush 201, 3) := by decide +kernel
theorem dX6_first_5 : decode cX6_first 5 = .ok (.istore_n 2, 1) := by decide +kernel
theorem dX6_first_6 : decode cX6_first 6 = .ok (.iconst 0, 1) := by decide +kernel
theorem dX6_first_7 : decode cX6_first 7 = .ok (.istore_n 3, 1) := by decide +kernel
theorem dX6_first_8 : decode cX6_first 8 = .ok (.iload_n 3, 1) := by decide +kernel
theorem dX6_first_9 : decode cX6_first 9 = .ok (.aload_n 0, 1) := by decide +kernel
theorem dX6_first_10 : decode cX6_first 10 = .ok (.getfield 7, 3) := by decide +kernel
theorem dX6_first_13 : decode cX6_first 13 = .ok (.iconst 1, 1) := by decide +kernel
theorem dX6_first_14 : decode cX6_first 14 = .ok (.iaload, 1) := by decide +kernel
theorem dX6_first_15 : decode cX6_first 15 = .ok (.if_icmp .ge 47, 3) := by decide +kernel
theorem dX6_first_18 : decode cX6_first 18 = .ok (.aload_n 0, 1) := by decide +kernel
theorem dX6_first_19 : decode cX6_first 19 = .ok (.iload_n 3, 1) := by decide +kernel
theorem dX6_first_20 : decode cX6_first 20 = .ok (.iconst 3, 1) := by decide +kernel
theorem dX6_first_21 : decode cX6_first 21 = .ok (.invokestatic 59, 3) := by decide +kernel
theorem dX6_first_24 : decode cX6_first 24 = .ok (.iconst 0, 1) := by decide +kernel
theorem dX6_first_25 : decode cX6_first 25 = .ok (.iconst 1, 1) := by decide +kernel
theorem dX6_first_26 : decode cX6_first 26 = .ok (.invokevirtual 170, 3) := by decide +kernel
theorem dX6_first_29 : decode cX6_first 29 = .ok (.istore 4, 2) := by decide +kernel
theorem dX6_first_31 : decode cX6_first 31 = .ok (.iload 4, 2) := by decide +kernel
theorem dX6_first_33 : decode cX6_first 33 = .ok (.iload_n 2, 1) := by decide +kernel
theorem dX6_first_34 : decode cX6_first 34 = .ok (.if_icmp .ge 7, 3) := by decide +kernel
theorem dX6_first_37 : decode cX6_first 37 = .ok (.iload_n 3, 1) := by decide +kernel
theorem dX6_first_38 : decode cX6_first 38 = .ok (.goto 4, 3) := by decide +kernel
theorem dX6_first_41 : decode cX6_first 41 = .ok (.iload_n 1, 1) := by decide +kernel
theorem dX6_first_42 : decode cX6_first 42 = .ok (.istore_n 1, 1) := by decide +kernel
theorem dX6_first_43 : decode cX6_first 43 = .ok (.iload 4, 2) := by decide +kernel
theorem dX6_first_45 : decode cX6_first 45 = .ok (.iload_n 2, 1) := by decide +kernel
theorem dX6_first_46 : decode cX6_first 46 = .ok (.if_icmp .ge 8, 3) := by decide +kernel
theorem dX6_first_49 : decode cX6_first 49 = .ok (.iload 4, 2) := by decide +kernel
theorem dX6_first_51 : decode cX6_first 51 = .ok (.goto 4, 3) := by decide +kernel
theorem dX6_first_54 : decode cX6_first 54 = .ok (.iload_n 2, 1) := by decide +kernel
theorem dX6_first_55 : decode cX6_first 55 = .ok (.istore_n 2, 1) := by decide +kernel
theorem dX6_first_56 : decode cX6_first 56 = .ok (.iinc 3 1, 3) := by decide +kernel
theorem dX6_first_59 : decode cX6_first 59 = .ok (.goto (-51), 3) := by decide +kernel
theorem dX6_first_62 : decode cX6_first 62 = .ok (.iload_n 1, 1) := by decide +kernel
theorem dX6_first_63 : decode cX6_first 63 = .ok (.ifCond .ge 12, 3) := by decide +kernel
theorem dX6_first_66 : decode cX6_first 66 = .ok (.aload_n 0, 1) := by decide +kernel
theorem dX6_first_67 : decode cX6_first 67 = .ok (.ldc 169, 2) := by decide +kernel
theorem dX6_first_69 : decode cX6_first 69 = .ok (.invokevirtual 75, 3) := by decide +kernel
theorem dX6_first_72 : decode cX6_first 72 = .ok (.goto 4, 3) := by decide +kernel
theorem dX6_first_75 : decode cX6_first 75 = .ok (.iload_n 1, 1) := by decide +kernel
theorem dX6_first_76 : decode cX6_first 76 = .ok (.ireturn, 1) := by decide +kernel
theorem dX6_reaches_0 : decode cX6_reaches 0 = .ok (.iload_n 1, 1) := by decide +kernel
theorem dX6_reaches_1 : decode cX6_reaches 1 = .ok (.invokestatic 66, 3) := by decide +kernel
theorem dX6_reaches_4 : decode cX6_reaches 4 = .ok (.ifCond .eq 32, 3) := by decide +kernel
theorem dX6_reaches_7 : decode cX6_reaches 7 = .ok (.iload_n 2, 1) := by decide +kernel
theorem dX6_reaches_8 : decode cX6_reaches 8 = .ok (.i2l, 1) := by decide +kernel
theorem dX6_reaches_9 : decode cX6_reaches 9 = .ok (.lconst 0, 1) := by decide +kernel
theorem dX6_reaches_10 : decode cX6_reaches 10 = .ok (.ldc2_w 70, 3) := by decide +kernel
theorem dX6_reaches_13 : decode cX6_reaches 13 = .ok (.invokestatic 49, 3) := by decide +kernel
theorem dX6_reaches_16 : decode cX6_reaches 16 = .ok (.ifCond .eq 20, 3) := by decide +kernel
theorem dX6_reaches_19 : decode cX6_reaches 19 = .ok (.aload_n 0, 1) := by decide +kernel
theorem dX6_reaches_20 : decode cX6_reaches 20 = .ok (.aload_n 0, 1) := by decide +kernel
theorem dX6_reaches_21 : decode cX6_reaches 21 = .ok (.bipush 12, 2) := by decide +kernel
theorem dX6_reaches_23 : decode cX6_reaches 23 = .ok (.iload_n 1, 1) := by decide +kernel
theorem dX6_reaches_24 : decode cX6_reaches 24 = .ok (.iadd, 1) := by decide +kernel
theorem dX6_reaches_25 : decode cX6_reaches 25 = .ok (.iload_n 2, 1) := by decide +kernel
theorem dX6_reaches_26 : decode cX6_reaches 26 = .ok (.iconst 0, 1) := by decide +kernel
theorem dX6_reaches_27 : decode cX6_reaches 27 = .ok (.invokevirtual 170, 3) := by decide +kernel
theorem dX6_reaches_30 : decode cX6_reaches 30 = .ok (.invokevirtual 174, 3) := by decide +kernel
theorem dX6_reaches_33 : decode cX6_reaches 33 = .ok (.goto 9, 3) := by decide +kernel
theorem dX6_reaches_36 : decode cX6_reaches 36 = .ok (.aload_n 0, 1) := by decide +kernel
theorem dX6_reaches_37 : decode cX6_reaches 37 = .ok (.ldc 46, 2) := by decide +kernel
theorem dX6_reaches_39 : decode cX6_reaches 39 = .ok (.invokevirtual 75, 3) := by decide +kernel
theorem dX6_reaches_42 : decode cX6_reaches 42 = .ok (.ireturn, 1) := by decide +kernel
theorem dX6_leastOf_0 : decode cX6_leastOf 0 = .ok (.aload_n 0, 1) := by decide +kernel
theorem dX6_leastOf_1 : decode cX6_leastOf 1 = .ok (.invokevirtual 156, 3) := by decide +kernel
theorem dX6_leastOf_4 : decode cX6_leastOf 4 = .ok (.aload_n 0, 1) := by decide +kernel
theorem dX6_leastOf_5 : decode cX6_leastOf 5 = .ok (.iload_n 2, 1) := by decide +kernel
theorem dX6_leastOf_6 : decode cX6_leastOf 6 = .ok (.invokevirtual 141, 3) := by decide +kernel
theorem dX6_leastOf_9 : decode cX6_leastOf 9 = .ok (.aload_n 0, 1) := by decide +kernel
theorem dX6_leastOf_10 : decode cX6_leastOf 10 = .ok (.getfield 7, 3) := by decide +kernel
theorem dX6_leastOf_13 : decode cX6_leastOf 13 = .ok (.bipush 12, 2) := by decide +kernel
theorem dX6_leastOf_15 : decode cX6_leastOf 15 = .ok (.iload_n 1, 1) := by decide +kernel
theorem dX6_leastOf_16 : decode cX6_leastOf 16 = .ok (.iadd, 1) := by decide +kernel
theorem dX6_leastOf_17 : decode cX6_leastOf 17 = .ok (.iaload, 1) := by decide +kernel
theorem dX6_leastOf_18 : decode cX6_leastOf 18 = .ok (.istore 4, 2) := by decide +kernel
theorem dX6_leastOf_20 : decode cX6_leastOf 20 = .ok (.aload_n 0, 1) := by decide +kernel
theorem dX6_leastOf_21 : decode cX6_leastOf 21 = .ok (.iload 4, 2) := by decide +kernel
theorem dX6_leastOf_23 : decode cX6_leastOf 23 = .ok (.putfield 177, 3) := by decide +kernel
theorem dX6_leastOf_26 : decode cX6_leastOf 26 = .ok (.iload_n 2, 1) := by decide +kernel
theorem dX6_leastOf_27 : decode cX6_leastOf 27 = .ok (.istore 5, 2) := by decide +kernel
theorem dX6_leastOf_29 : decode cX6_leastOf 29 = .ok (.iload 5, 2) := by decide +kernel
theorem dX6_leastOf_31 : decode cX6_leastOf 31 = .ok (.iload_n 3, 1) := by decide +kernel
theorem dX6_leastOf_32 : decode cX6_leastOf 32 = .ok (.if_icmp .ge 62, 3) := by decide +kernel
theorem dX6_leastOf_35 : decode cX6_leastOf 35 = .ok (.aload_n 0, 1) := by decide +kernel
theorem dX6_leastOf_36 : decode cX6_leastOf 36 = .ok (.invokevirtual 134, 3) := by decide +kernel
theorem dX6_leastOf_39 : decode cX6_leastOf 39 = .ok (.aload_n 0, 1) := by decide +kernel
theorem dX6_leastOf_40 : decode cX6_leastOf 40 = .ok (.getfield 7, 3) := by decide +kernel
theorem dX6_leastOf_43 : decode cX6_leastOf 43 = .ok (.bipush 12, 2) := by decide +kernel
theorem dX6_leastOf_45 : decode cX6_leastOf 45 = .ok (.iload_n 1, 1) := by decide +kernel
theorem dX6_leastOf_46 : decode cX6_leastOf 46 = .ok (.iadd, 1) := by decide +kernel
theorem dX6_leastOf_47 : decode cX6_leastOf 47 = .ok (.iaload, 1) := by decide +kernel
theorem dX6_leastOf_48 : decode cX6_leastOf 48 = .ok (.istore 6, 2) := by decide +kernel
theorem dX6_leastOf_50 : decode cX6_leastOf 50 = .ok (.iload 6, 2) := by decide +kernel
theorem dX6_leastOf_52 : decode cX6_leastOf 52 = .ok (.iload 4, 2) := by decide +kernel
theorem dX6_leastOf_54 : decode cX6_leastOf 54 = .ok (.if_icmp .ge 8, 3) := by decide +kernel
theorem dX6_leastOf_57 : decode cX6_leastOf 57 = .ok (.iload 6, 2) := by decide +kernel
theorem dX6_leastOf_59 : decode cX6_leastOf 59 = .ok (.goto 5, 3) := by decide +kernel
theorem dX6_leastOf_62 : decode cX6_leastOf 62 = .ok (.iload 4, 2) := by decide +kernel
theorem dX6_leastOf_64 : decode cX6_leastOf 64 = .ok (.istore 4, 2) := by decide +kernel
theorem dX6_leastOf_66 : decode cX6_leastOf 66 = .ok (.aload_n 0, 1) := by decide +kernel
theorem dX6_leastOf_67 : decode cX6_leastOf 67 = .ok (.iload 6, 2) := by decide +kernel
theorem dX6_leastOf_69 : decode cX6_leastOf 69 = .ok (.aload_n 0, 1) := by decide +kernel
theorem dX6_leastOf_70 : decode cX6_leastOf 70 = .ok (.getfield 177, 3) := by decide +kernel
theorem dX6_leastOf_73 : decode cX6_leastOf 73 = .ok (.if_icmp .le 8, 3) := by decide +kernel
theorem dX6_leastOf_76 : decode cX6_leastOf 76 = .ok (.iload 6, 2) := by decide +kernel
theorem dX6_leastOf_78 : decode cX6_leastOf 78 = .ok (.goto 7, 3) := by decide +kernel
theorem dX6_leastOf_81 : decode cX6_leastOf 81 = .ok (.aload_n 0, 1) := by decide +kernel
theorem dX6_leastOf_82 : decode cX6_leastOf 82 = .ok (.getfield 177, 3) := by decide +kernel
theorem dX6_leastOf_85 : decode cX6_leastOf 85 = .ok (.putfield 177, 3) := by decide +kernel
theorem dX6_leastOf_88 : decode cX6_leastOf 88 = .ok (.iinc 5 1, 3) := by decide +kernel
theorem dX6_leastOf_91 : decode cX6_leastOf 91 = .ok (.goto (-62), 3) := by decide +kernel
theorem dX6_leastOf_94 : decode cX6_leastOf 94 = .ok (.aload_n 0, 1) := by decide +kernel
theorem dX6_leastOf_95 : decode cX6_leastOf 95 = .ok (.iload 4, 2) := by decide +kernel
theorem dX6_leastOf_97 : decode cX6_leastOf 97 = .ok (.invokevirtual 159, 3) := by decide +kernel
theorem dX6_leastOf_100 : decode cX6_leastOf 100 = .ok (.ireturn, 1) := by decide +kernel
theorem dX6_range_0 : decode cX6_range 0 = .ok (.iload_n 1, 1) := by decide +kernel
theorem dX6_range_1 : decode cX6_range 1 = .ok (.invokestatic 66, 3) := by decide +kernel
theorem dX6_range_4 : decode cX6_range 4 = .ok (.ifCond .eq 25, 3) := by decide +kernel
theorem dX6_range_7 : decode cX6_range 7 = .ok (.iload_n 2, 1) := by decide +kernel
theorem dX6_range_8 : decode cX6_range 8 = .ok (.i2l, 1) := by decide +kernel
theorem dX6_range_9 : decode cX6_range 9 = .ok (.lconst 0, 1) := by decide +kernel
theorem dX6_range_10 : decode cX6_range 10 = .ok (.ldc2_w 162, 3) := by decide +kernel
theorem dX6_range_13 : decode cX6_range 13 = .ok (.invokestatic 49, 3) := by decide +kernel
theorem dX6_range_16 : decode cX6_range 16 = .ok (.ifCond .eq 13, 3) := by decide +kernel
theorem dX6_range_19 : decode cX6_range 19 = .ok (.iload_n 3, 1) := by decide +kernel
theorem dX6_range_20 : decode cX6_range 20 = .ok (.i2l, 1) := by decide +kernel
theorem dX6_range_21 : decode cX6_range 21 = .ok (.lconst 0, 1) := by decide +kernel
theorem dX6_range_22 : decode cX6_range 22 = .ok (.lconst 1, 1) := by decide +kernel
theorem dX6_range_23 : decode cX6_range 23 = .ok (.invokestatic 49, 3) := by decide +kernel
theorem dX6_range_26 : decode cX6_range 26 = .ok (.ifCond .ne 10, 3) := by decide +kernel
theorem dX6_range_29 : decode cX6_range 29 = .ok (.aload_n 0, 1) := by decide +kernel
theorem dX6_range_30 : decode cX6_range 30 = .ok (.ldc 46, 2) := by decide +kernel
theorem dX6_range_32 : decode cX6_range 32 = .ok (.invokevirtual 75, 3) := by decide +kernel
theorem dX6_range_35 : decode cX6_range 35 = .ok (.ireturn, 1) := by decide +kernel
theorem dX6_range_36 : decode cX6_range 36 = .ok (.aload_n 0, 1) := by decide +kernel
theorem dX6_range_37 : decode cX6_range 37 = .ok (.iload_n 1, 1) := by decide +kernel
theorem dX6_range_38 : decode cX6_range 38 = .ok (.iconst 0, 1) := by decide +kernel
theorem dX6_range_39 : decode cX6_range 39 = .ok (.iload_n 2, 1) := by decide +kernel
theorem dX6_range_40 : decode cX6_range 40 = .ok (.invokevirtual 181, 3) := by decide +kernel
theorem dX6_range_43 : decode cX6_range 43 = .ok (.istore 4, 2) := by decide +kernel
theorem dX6_range_45 : decode cX6_range 45 = .ok (.iload_n 3, 1) := by decide +kernel
theorem dX6_range_46 : decode cX6_range 46 = .ok (.ifCond .ne 8, 3) := by decide +kernel
theorem dX6_range_49 : decode cX6_range 49 = .ok (.iload 4, 2) := by decide +kernel
theorem dX6_range_51 : decode cX6_range 51 = .ok (.goto 7, 3) := by decide +kernel
theorem dX6_range_54 : decode cX6_range 54 = .ok (.aload_n 0, 1) := by decide +kernel
theorem dX6_range_55 : decode cX6_range 55 = .ok (.getfield 177, 3) := by decide +kernel
theorem dX6_range_58 : decode cX6_range 58 = .ok (.ireturn, 1) := by decide +kernel
theorem dX6_enough_0 : decode cX6_enough 0 = .ok (.iload_n 1, 1) := by decide +kernel
theorem dX6_enough_1 : decode cX6_enough 1 = .ok (.i2l, 1) := by decide +kernel
theorem dX6_enough_2 : decode cX6_enough 2 = .ok (.lconst 0, 1) := by decide +kernel
theorem dX6_enough_3 : decode cX6_enough 3 = .ok (.ldc2_w 137, 3) := by decide +kernel
theorem dX6_enough_6 : decode cX6_enough 6 = .ok (.invokestatic 49, 3) := by decide +kernel
theorem dX6_enough_9 : decode cX6_enough 9 = .ok (.ifCond .ne 10, 3) := by decide +kernel
theorem dX6_enough_12 : decode cX6_enough 12 = .ok (.aload_n 0, 1) := by decide +kernel
theorem dX6_enough_13 : decode cX6_enough 13 = .ok (.ldc 46, 2) := by decide +kernel
theorem dX6_enough_15 : decode cX6_enough 15 = .ok (.invokevirtual 75, 3) := by decide +kernel
theorem dX6_enough_18 : decode cX6_enough 18 = .ok (.ireturn, 1) := by decide +kernel
theorem dX6_enough_19 : decode cX6_enough 19 = .ok (.aload_n 0, 1) := by decide +kernel
theorem dX6_enough_20 : decode cX6_enough 20 = .ok (.invokevirtual 156, 3) := by decide +kernel
theorem dX6_enough_23 : decode cX6_enough 23 = .ok (.iconst (-1), 1) := by decide +kernel
theorem dX6_enough_24 : decode cX6_enough 24 = .ok (.istore_n 2, 1) := by decide +kernel
theorem dX6_enough_25 : decode cX6_enough 25 = .ok (.iconst 0, 1) := by decide +kernel
theorem dX6_enough_26 : decode cX6_enough 26 = .ok (.istore_n 3, 1) := by decide +kernel
theorem dX6_enough_27 : decode cX6_enough 27 = .ok (.iload_n 3, 1) := by decide +kernel
theorem dX6_enough_28 : decode cX6_enough 28 = .ok (.bipush 99, 2) := by decide +kernel
theorem dX6_enough_30 : decode cX6_enough 30 = .ok (.if_icmp .gt 40, 3) := by decide +kernel
theorem dX6_enough_33 : decode cX6_enough 33 = .ok (.iload_n 2, 1) := by decide +kernel
theorem dX6_enough_34 : decode cX6_enough 34 = .ok (.ifCond .ge 36, 3) := by decide +kernel
theorem dX6_enough_37 : decode cX6_enough 37 = .ok (.aload_n 0, 1) := by decide +kernel
theorem dX6_enough_38 : decode cX6_enough 38 = .ok (.iload_n 3, 1) := by decide +kernel
theorem dX6_enough_39 : decode cX6_enough 39 = .ok (.invokevirtual 89, 3) := by decide +kernel
theorem dX6_enough_42 : decode cX6_enough 42 = .ok (.aload_n 0, 1) := by decide +kernel
theorem dX6_enough_43 : decode cX6_enough 43 = .ok (.iload_n 1, 1) := by decide +kernel
theorem dX6_enough_44 : decode cX6_enough 44 = .ok (.invokevirtual 141, 3) := by decide +kernel
theorem dX6_enough_47 : decode cX6_enough 47 = .ok (.aload_n 0, 1) := by decide +kernel
theorem dX6_enough_48 : decode cX6_enough 48 = .ok (.aload_n 0, 1) := by decide +kernel
theorem dX6_enough_49 : decode cX6_enough 49 = .ok (.invokevirtual 150, 3) := by decide +kernel
theorem dX6_enough_52 : decode cX6_enough 52 = .ok (.ifCond .ne 7, 3) := by decide +kernel
theorem dX6_enough_55 : decode cX6_enough 55 = .ok (.iload_n 3, 1) := by decide +kernel
theorem dX6_enough_56 : decode cX6_enough 56 = .ok (.goto 4, 3) := by decide +kernel
theorem dX6_enough_59 : decode cX6_enough 59 = .ok (.iconst (-1), 1) := by decide +kernel
theorem dX6_enough_60 : decode cX6_enough 60 = .ok (.invokevirtual 159, 3) := by decide +kernel
theorem dX6_enough_63 : decode cX6_enough 63 = .ok (.istore_n 2, 1) := by decide +kernel
theorem dX6_enough_64 : decode cX6_enough 64 = .ok (.iinc 3 1, 3) := by decide +kernel
theorem dX6_enough_67 : decode cX6_enough 67 = .ok (.goto (-40), 3) := by decide +kernel
theorem dX6_enough_70 : decode cX6_enough 70 = .ok (.iload_n 2, 1) := by decide +kernel
theorem dX6_enough_71 : decode cX6_enough 71 = .ok (.ifCond .ge 12, 3) := by decide +kernel
theorem dX6_enough_74 : decode cX6_enough 74 = .ok (.aload_n 0, 1) := by decide +kernel
theorem dX6_enough_75 : decode cX6_enough 75 = .ok (.ldc 169, 2) := by decide +kernel
theorem dX6_enough_77 : decode cX6_enough 77 = .ok (.invokevirtual 75, 3) := by decide +kernel
theorem dX6_enough_80 : decode cX6_enough 80 = .ok (.goto 4, 3) := by decide +kernel
theorem dX6_enough_83 : decode cX6_enough 83 = .ok (.iload_n 2, 1) := by decide +kernel
theorem dX6_enough_84 : decode cX6_enough 84 = .ok (.ireturn, 1) := by decide +kernel
theorem dX6_isSoon_0 : decode cX6_isSoon 0 = .ok (.iload_n 0, 1) := by decide +kernel
theorem dX6_isSoon_1 : decode cX6_isSoon 1 = .ok (.i2l, 1) := by decide +kernel
theorem dX6_isSoon_2 : decode cX6_isSoon 2 = .ok (.lconst 0, 1) := by decide +kernel
theorem dX6_isSoon_3 : decode cX6_isSoon 3 = .ok (.ldc2_w 185, 3) := by decide +kernel
theorem dX6_isSoon_6 : decode cX6_isSoon 6 = .ok (.invokestatic 49, 3) := by decide +kernel
theorem dX6_isSoon_9 : decode cX6_isSoon 9 = .ok (.ireturn, 1) := by decide +kernel
theorem dX6_ones_0 : decode cX6_ones 0 = .ok (.iconst 0, 1) := by decide +kernel
theorem dX6_ones_1 : decode cX6_ones 1 = .ok (.istore_n 1, 1) := by decide +kernel
theorem dX6_ones_2 : decode cX6_ones 2 = .ok (.iload_n 0, 1) := by decide +kernel
theorem dX6_ones_3 : decode cX6_ones 3 = .ok (.istore_n 2, 1) := by decide +kernel
theorem dX6_ones_4 : decode cX6_ones 4 = .ok (.iload_n 2, 1) := by decide +kernel
theorem dX6_ones_5 : decode cX6_ones 5 = .ok (.ifCond .eq 15, 3) := by decide +kernel
theorem dX6_ones_8 : decode cX6_ones 8 = .ok (.iinc 1 1, 3) := by decide +kernel
theorem dX6_ones_11 : decode cX6_ones 11 = .ok (.iload_n 2, 1) := by decide +kernel
theorem dX6_ones_12 : decode cX6_ones 12 = .ok (.iload_n 2, 1) := by decide +kernel
theorem dX6_ones_13 : decode cX6_ones 13 = .ok (.iconst 1, 1) := by decide +kernel
theorem dX6_ones_14 : decode cX6_ones 14 = .ok (.isub, 1) := by decide +kernel
theorem dX6_ones_15 : decode cX6_ones 15 = .ok (.iand, 1) := by decide +kernel
theorem dX6_ones_16 : decode cX6_ones 16 = .ok (.istore_n 2, 1) := by decide +kernel
theorem dX6_ones_17 : decode cX6_ones 17 = .ok (.goto (-13), 3) := by decide +kernel
theorem dX6_ones_20 : decode cX6_ones 20 = .ok (.iload_n 1, 1) := by decide +kernel
theorem dX6_ones_21 : decode cX6_ones 21 = .ok (.ireturn, 1) := by decide +kernel
theorem dX6_hide_0 : decode cX6_hide 0 = .ok (.iload_n 1, 1) := by decide +kernel
theorem dX6_hide_1 : decode cX6_hide 1 = .ok (.invokestatic 82, 3) := by decide +kernel
theorem dX6_hide_4 : decode cX6_hide 4 = .ok (.ifCond .eq 10, 3) := by decide +kernel
theorem dX6_hide_7 : decode cX6_hide 7 = .ok (.iload_n 2, 1) := by decide +kernel
theorem dX6_hide_8 : decode cX6_hide 8 = .ok (.invokestatic 187, 3) := by decide +kernel
theorem dX6_hide_11 : decode cX6_hide 11 = .ok (.ifCond .ne 10, 3) := by decide +kernel
theorem dX6_hide_14 : decode cX6_hide 14 = .ok (.aload_n 0, 1) := by decide +kernel
theorem dX6_hide_15 : decode cX6_hide 15 = .ok (.ldc 46, 2) := by decide +kernel
theorem dX6_hide_17 : decode cX6_hide 17 = .ok (.invokevirtual 75, 3) := by decide +kernel
theorem dX6_hide_20 : decode cX6_hide 20 = .ok (.ireturn, 1) := by decide +kernel
theorem dX6_hide_21 : decode cX6_hide 21 = .ok (.aload_n 0, 1) := by decide +kernel
theorem dX6_hide_22 : decode cX6_hide 22 = .ok (.invokevirtual 156, 3) := by decide +kernel
theorem dX6_hide_25 : decode cX6_hide 25 = .ok (.iconst 0, 1) := by decide +kernel
theorem dX6_hide_26 : decode cX6_hide 26 = .ok (.istore_n 3, 1) := by decide +kernel
theorem dX6_hide_27 : decode cX6_hide 27 = .ok (.bipush 9, 2) := by decide +kernel
theorem dX6_hide_29 : decode cX6_hide 29 = .ok (.istore 4, 2) := by decide +kernel
theorem dX6_hide_31 : decode cX6_hide 31 = .ok (.iconst 0, 1) := by decide +kernel
theorem dX6_hide_32 : decode cX6_hide 32 = .ok (.istore 5, 2) := by decide +kernel
theorem dX6_hide_34 : decode cX6_hide 34 = .ok (.iload 5, 2) := by decide +kernel
theorem dX6_hide_36 : decode cX6_hide 36 = .ok (.bipush 8, 2) := by decide +kernel
theorem dX6_hide_38 : decode cX6_hide 38 = .ok (.if_icmp .ge 67, 3) := by decide +kernel
theorem dX6_hide_41 : decode cX6_hide 41 = .ok (.aload_n 0, 1) := by decide +kernel
theorem dX6_hide_42 : decode cX6_hide 42 = .ok (.getfield 7, 3) := by decide +kernel
theorem dX6_hide_45 : decode cX6_hide 45 = .ok (.iconst 4, 1) := by decide +kernel
theorem dX6_hide_46 : decode cX6_hide 46 = .ok (.iload 5, 2) := by decide +kernel
theorem dX6_hide_48 : decode cX6_hide 48 = .ok (.iadd, 1) := by decide +kernel
theorem dX6_hide_49 : decode cX6_hide 49 = .ok (.iload_n 1, 1) := by decide +kernel
theorem dX6_hide_50 : decode cX6_hide 50 = .ok (.iastore, 1) := by decide +kernel
theorem dX6_hide_51 : decode cX6_hide 51 = .ok (.aload_n 0, 1) := by decide +kernel
theorem dX6_hide_52 : decode cX6_hide 52 = .ok (.iload_n 2, 1) := by decide +kernel
theorem dX6_hide_53 : decode cX6_hide 53 = .ok (.invokevirtual 141, 3) := by decide +kernel
theorem dX6_hide_56 : decode cX6_hide 56 = .ok (.aload_n 0, 1) := by decide +kernel
theorem dX6_hide_57 : decode cX6_hide 57 = .ok (.aload_n 0, 1) := by decide +kernel
theorem dX6_hide_58 : decode cX6_hide 58 = .ok (.invokevirtual 144, 3) := by decide +kernel
theorem dX6_hide_61 : decode cX6_hide 61 = .ok (.invokestatic 190, 3) := by decide +kernel
theorem dX6_hide_64 : decode cX6_hide 64 = .ok (.invokevirtual 159, 3) := by decide +kernel
theorem dX6_hide_67 : decode cX6_hide 67 = .ok (.istore 6, 2) := by decide +kernel
theorem dX6_hide_69 : decode cX6_hide 69 = .ok (.iload 6, 2) := by decide +kernel
theorem dX6_hide_71 : decode cX6_hide 71 = .ok (.iload 4, 2) := by decide +kernel
theorem dX6_hide_73 : decode cX6_hide 73 = .ok (.if_icmp .ge 8, 3) := by decide +kernel
theorem dX6_hide_76 : decode cX6_hide 76 = .ok (.iload 5, 2) := by decide +kernel
theorem dX6_hide_78 : decode cX6_hide 78 = .ok (.goto 4, 3) := by decide +kernel
theorem dX6_hide_81 : decode cX6_hide 81 = .ok (.iload_n 3, 1) := by decide +kernel
theorem dX6_hide_82 : decode cX6_hide 82 = .ok (.istore_n 3, 1) := by decide +kernel
theorem dX6_hide_83 : decode cX6_hide 83 = .ok (.iload 6, 2) := by decide +kernel
theorem dX6_hide_85 : decode cX6_hide 85 = .ok (.iload 4, 2) := by decide +kernel
theorem dX6_hide_87 : decode cX6_hide 87 = .ok (.if_icmp .ge 8, 3) := by decide +kernel
theorem dX6_hide_90 : decode cX6_hide 90 = .ok (.iload 6, 2) := by decide +kernel
theorem dX6_hide_92 : decode cX6_hide 92 = .ok (.goto 5, 3) := by decide +kernel
theorem dX6_hide_95 : decode cX6_hide 95 = .ok (.iload 4, 2) := by decide +kernel
theorem dX6_hide_97 : decode cX6_hide 97 = .ok (.istore 4, 2) := by decide +kernel
theorem dX6_hide_99 : decode cX6_hide 99 = .ok (.iinc 5 1, 3) := by decide +kernel
theorem dX6_hide_102 : decode cX6_hide 102 = .ok (.goto (-68), 3) := by decide +kernel
theorem dX6_hide_105 : decode cX6_hide 105 = .ok (.iload_n 3, 1) := by decide +kernel
theorem dX6_hide_106 : decode cX6_hide 106 = .ok (.ireturn, 1) := by decide +kernel
theorem dX6_safe_0 : decode cX6_safe 0 = .ok (.iload_n 1, 1) := by decide +kernel
theorem dX6_safe_1 : decode cX6_safe 1 = .ok (.invokestatic 79, 3) := by decide +kernel
theorem dX6_safe_4 : decode cX6_safe 4 = .ok (.ifCond .eq 10, 3) := by decide +kernel
theorem dX6_safe_7 : decode cX6_safe 7 = .ok (.iload_n 2, 1) := by decide +kernel
theorem dX6_safe_8 : decode cX6_safe 8 = .ok (.invokestatic 187, 3) := by decide +kernel
theorem dX6_safe_11 : decode cX6_safe 11 = .ok (.ifCond .ne 10, 3) := by decide +kernel
theorem dX6_safe_14 : decode cX6_safe 14 = .ok (.aload_n 0, 1) := by decide +kernel
theorem dX6_safe_15 : decode cX6_safe 15 = .ok (.ldc 46, 2) := by decide +kernel
theorem dX6_safe_17 : decode cX6_safe 17 = .ok (.invokevirtual 75, 3) := by decide +kernel
theorem dX6_safe_20 : decode cX6_safe 20 = .ok (.ireturn, 1) := by decide +kernel
theorem dX6_safe_21 : decode cX6_safe 21 = .ok (.aload_n 0, 1) := by decide +kernel
theorem dX6_safe_22 : decode cX6_safe 22 = .ok (.invokevirtual 144, 3) := by decide +kernel
theorem dX6_safe_25 : decode cX6_safe 25 = .ok (.istore_n 3, 1) := by decide +kernel
theorem dX6_safe_26 : decode cX6_safe 26 = .ok (.aload_n 0, 1) := by decide +kernel
theorem dX6_safe_27 : decode cX6_safe 27 = .ok (.invokevirtual 156, 3) := by decide +kernel
theorem dX6_safe_30 : decode cX6_safe 30 = .ok (.iconst (-1), 1) := by decide +kernel
theorem dX6_safe_31 : decode cX6_safe 31 = .ok (.istore 4, 2) := by decide +kernel
theorem dX6_safe_33 : decode cX6_safe 33 = .ok (.iconst 0, 1) := by decide +kernel
theorem dX6_safe_34 : decode cX6_safe 34 = .ok (.istore 5, 2) := by decide +kernel
theorem dX6_safe_36 : decode cX6_safe 36 = .ok (.iload 5, 2) := by decide +kernel
theorem dX6_safe_38 : decode cX6_safe 38 = .ok (.bipush 99, 2) := by decide +kernel
theorem dX6_safe_40 : decode cX6_safe 40 = .ok (.if_icmp .gt 49, 3) := by decide +kernel
theorem dX6_safe_43 : decode cX6_safe 43 = .ok (.iload 4, 2) := by decide +kernel
theorem dX6_safe_45 : decode cX6_safe 45 = .ok (.ifCond .ge 44, 3) := by decide +kernel
theorem dX6_safe_48 : decode cX6_safe 48 = .ok (.aload_n 0, 1) := by decide +kernel
theorem dX6_safe_49 : decode cX6_safe 49 = .ok (.getfield 7, 3) := by decide +kernel
theorem dX6_safe_52 : decode cX6_safe 52 = .ok (.iconst 4, 1) := by decide +kernel
theorem dX6_safe_53 : decode cX6_safe 53 = .ok (.iload_n 1, 1) := by decide +kernel
theorem dX6_safe_54 : decode cX6_safe 54 = .ok (.iadd, 1) := by decide +kernel
theorem dX6_safe_55 : decode cX6_safe 55 = .ok (.iload 5, 2) := by decide +kernel
theorem dX6_safe_57 : decode cX6_safe 57 = .ok (.iastore, 1) := by decide +kernel
theorem dX6_safe_58 : decode cX6_safe 58 = .ok (.aload_n 0, 1) := by decide +kernel
theorem dX6_safe_59 : decode cX6_safe 59 = .ok (.iload_n 2, 1) := by decide +kernel
theorem dX6_safe_60 : decode cX6_safe 60 = .ok (.invokevirtual 141, 3) := by decide +kernel
theorem dX6_safe_63 : decode cX6_safe 63 = .ok (.aload_n 0, 1) := by decide +kernel
theorem dX6_safe_64 : decode cX6_safe 64 = .ok (.aload_n 0, 1) := by decide +kernel
theorem dX6_safe_65 : decode cX6_safe 65 = .ok (.invokevirtual 144, 3) := by decide +kernel
theorem dX6_safe_68 : decode cX6_safe 68 = .ok (.iload_n 3, 1) := by decide +kernel
theorem dX6_safe_69 : decode cX6_safe 69 = .ok (.if_icmp .ne 8, 3) := by decide +kernel
theorem dX6_safe_72 : decode cX6_safe 72 = .ok (.iload 5, 2) := by decide +kernel
theorem dX6_safe_74 : decode cX6_safe 74 = .ok (.goto 4, 3) := by decide +kernel
theorem dX6_safe_77 : decode cX6_safe 77 = .ok (.iconst (-1), 1) := by decide +kernel
theorem dX6_safe_78 : decode cX6_safe 78 = .ok (.invokevirtual 159, 3) := by decide +kernel
theorem dX6_safe_81 : decode cX6_safe 81 = .ok (.istore 4, 2) := by decide +kernel
theorem dX6_safe_83 : decode cX6_safe 83 = .ok (.iinc 5 1, 3) := by decide +kernel
theorem dX6_safe_86 : decode cX6_safe 86 = .ok (.goto (-50), 3) := by decide +kernel
theorem dX6_safe_89 : decode cX6_safe 89 = .ok (.iload 4, 2) := by decide +kernel
theorem dX6_safe_91 : decode cX6_safe 91 = .ok (.ifCond .ge 12, 3) := by decide +kernel
theorem dX6_safe_94 : decode cX6_safe 94 = .ok (.aload_n 0, 1) := by decide +kernel
theorem dX6_safe_95 : decode cX6_safe 95 = .ok (.ldc 169, 2) := by decide +kernel
theorem dX6_safe_97 : decode cX6_safe 97 = .ok (.invokevirtual 75, 3) := by decide +kernel
theorem dX6_safe_100 : decode cX6_safe 100 = .ok (.goto 5, 3) := by decide +kernel
theorem dX6_safe_103 : decode cX6_safe 103 = .ok (.iload 4, 2) := by decide +kernel
theorem dX6_safe_105 : decode cX6_safe 105 = .ok (.ireturn, 1) := by decide +kernel
theorem dX6_sleep_0 : decode cX6_sleep 0 = .ok (.iload_n 1, 1) := by decide +kernel
theorem dX6_sleep_1 : decode cX6_sleep 1 = .ok (.i2l, 1) := by decide +kernel
theorem dX6_sleep_2 : decode cX6_sleep 2 = .ok (.lconst 0, 1) := by decide +kernel
theorem dX6_sleep_3 : decode cX6_sleep 3 = .ok (.ldc2_w 193, 3) := by decide +kernel
theorem dX6_sleep_6 : decode cX6_sleep 6 = .ok (.invokestatic 49, 3) := by decide +kernel
theorem dX6_sleep_9 : decode cX6_sleep 9 = .ok (.ifCond .ne 10, 3) := by decide +kernel
theorem dX6_sleep_12 : decode cX6_sleep 12 = .ok (.aload_n 0, 1) := by decide +kernel
theorem dX6_sleep_13 : decode cX6_sleep 13 = .ok (.ldc 46, 2) := by decide +kernel
theorem dX6_sleep_15 : decode cX6_sleep 15 = .ok (.invokevirtual 75, 3) := by decide +kernel
theorem dX6_sleep_18 : decode cX6_sleep 18 = .ok (.ireturn, 1) := by decide +kernel
theorem dX6_sleep_19 : decode cX6_sleep 19 = .ok (.aload_n 0, 1) := by decide +kernel
theorem dX6_sleep_20 : decode cX6_sleep 20 = .ok (.invokevirtual 144, 3) := by decide +kernel
theorem dX6_sleep_23 : decode cX6_sleep 23 = .ok (.istore_n 2, 1) := by decide +kernel
theorem dX6_sleep_24 : decode cX6_sleep 24 = .ok (.aload_n 0, 1) := by decide +kernel
theorem dX6_sleep_25 : decode cX6_sleep 25 = .ok (.invokevirtual 156, 3) := by decide +kernel
theorem dX6_sleep_28 : decode cX6_sleep 28 = .ok (.iconst (-1), 1) := by decide +kernel
theorem dX6_sleep_29 : decode cX6_sleep 29 = .ok (.istore_n 3, 1) := by decide +kernel
theorem dX6_sleep_30 : decode cX6_sleep 30 = .ok (.iconst 0, 1) := by decide +kernel
theorem dX6_sleep_31 : decode cX6_sleep 31 = .ok (.istore 4, 2) := by decide +kernel
theorem dX6_sleep_33 : decode cX6_sleep 33 = .ok (.iload 4, 2) := by decide +kernel
theorem dX6_sleep_35 : decode cX6_sleep 35 = .ok (.bipush 60, 2) := by decide +kernel
theorem dX6_sleep_37 : decode cX6_sleep 37 = .ok (.if_icmp .gt 49, 3) := by decide +kernel
theorem dX6_sleep_40 : decode cX6_sleep 40 = .ok (.aload_n 0, 1) := by decide +kernel
theorem dX6_sleep_41 : decode cX6_sleep 41 = .ok (.iconst 1, 1) := by decide +kernel
theorem dX6_sleep_42 : decode cX6_sleep 42 = .ok (.putfield 117, 3) := by decide +kernel
theorem dX6_sleep_45 : decode cX6_sleep 45 = .ok (.aload_n 0, 1) := by decide +kernel
theorem dX6_sleep_46 : decode cX6_sleep 46 = .ok (.iload 4, 2) := by decide +kernel
theorem dX6_sleep_48 : decode cX6_sleep 48 = .ok (.invokevirtual 141, 3) := by decide +kernel
theorem dX6_sleep_51 : decode cX6_sleep 51 = .ok (.aload_n 0, 1) := by decide +kernel
theorem dX6_sleep_52 : decode cX6_sleep 52 = .ok (.iconst 0, 1) := by decide +kernel
theorem dX6_sleep_53 : decode cX6_sleep 53 = .ok (.putfield 117, 3) := by decide +kernel
theorem dX6_sleep_56 : decode cX6_sleep 56 = .ok (.aload_n 0, 1) := by decide +kernel
theorem dX6_sleep_57 : decode cX6_sleep 57 = .ok (.iload_n 1, 1) := by decide +kernel
theorem dX6_sleep_58 : decode cX6_sleep 58 = .ok (.invokevirtual 141, 3) := by decide +kernel
theorem dX6_sleep_61 : decode cX6_sleep 61 = .ok (.aload_n 0, 1) := by decide +kernel
theorem dX6_sleep_62 : decode cX6_sleep 62 = .ok (.aload_n 0, 1) := by decide +kernel
theorem dX6_sleep_63 : decode cX6_sleep 63 = .ok (.invokevirtual 144, 3) := by decide +kernel
theorem dX6_sleep_66 : decode cX6_sleep 66 = .ok (.iload_n 2, 1) := by decide +kernel
theorem dX6_sleep_67 : decode cX6_sleep 67 = .ok (.if_icmp .ne 8, 3) := by decide +kernel
theorem dX6_sleep_70 : decode cX6_sleep 70 = .ok (.iload 4, 2) := by decide +kernel
theorem dX6_sleep_72 : decode cX6_sleep 72 = .ok (.goto 4, 3) := by decide +kernel
theorem dX6_sleep_75 : decode cX6_sleep 75 = .ok (.iload_n 3, 1) := by decide +kernel
theorem dX6_sleep_76 : decode cX6_sleep 76 = .ok (.invokevirtual 159, 3) := by decide +kernel
theorem dX6_sleep_79 : decode cX6_sleep 79 = .ok (.istore_n 3, 1) := by decide +kernel
theorem dX6_sleep_80 : decode cX6_sleep 80 = .ok (.iinc 4 1, 3) := by decide +kernel
theorem dX6_sleep_83 : decode cX6_sleep 83 = .ok (.goto (-50), 3) := by decide +kernel
theorem dX6_sleep_86 : decode cX6_sleep 86 = .ok (.iload_n 3, 1) := by decide +kernel
theorem dX6_sleep_87 : decode cX6_sleep 87 = .ok (.ifCond .ge 12, 3) := by decide +kernel
theorem dX6_sleep_90 : decode cX6_sleep 90 = .ok (.aload_n 0, 1) := by decide +kernel
theorem dX6_sleep_91 : decode cX6_sleep 91 = .ok (.ldc 169, 2) := by decide +kernel
theorem dX6_sleep_93 : decode cX6_sleep 93 = .ok (.invokevirtual 75, 3) := by decide +kernel
theorem dX6_sleep_96 : decode cX6_sleep 96 = .ok (.goto 4, 3) := by decide +kernel
theorem dX6_sleep_99 : decode cX6_sleep 99 = .ok (.iload_n 3, 1) := by decide +kernel
theorem dX6_sleep_100 : decode cX6_sleep 100 = .ok (.ireturn, 1) := by decide +kernel
theorem dX6_turns_0 : decode cX6_turns 0 = .ok (.iconst 0, 1) := by decide +kernel
theorem dX6_turns_1 : decode cX6_turns 1 = .ok (.istore_n 1, 1) := by decide +kernel
theorem dX6_turns_2 : decode cX6_turns 2 = .ok (.iconst 0, 1) := by decide +kernel
theorem dX6_turns_3 : decode cX6_turns 3 = .ok (.istore_n 2, 1) := by decide +kernel
theorem dX6_turns_4 : decode cX6_turns 4 = .ok (.iload_n 2, 1) := by decide +kernel
theorem dX6_turns_5 : decode cX6_turns 5 = .ok (.bipush 8, 2) := by decide +kernel
theorem dX6_turns_7 : decode cX6_turns 7 = .ok (.if_icmp .ge 42, 3) := by decide +kernel
theorem dX6_turns_10 : decode cX6_turns 10 = .ok (.iload_n 1, 1) := by decide +kernel
theorem dX6_turns_11 : decode cX6_turns 11 = .ok (.aload_n 0, 1) := by decide +kernel
theorem dX6_turns_12 : decode cX6_turns 12 = .ok (.getfield 7, 3) := by decide +kernel
theorem dX6_turns_15 : decode cX6_turns 15 = .ok (.iconst 4, 1) := by decide +kernel
theorem dX6_turns_16 : decode cX6_turns 16 = .ok (.iload_n 2, 1) := by decide +kernel
theorem dX6_turns_17 : decode cX6_turns 17 = .ok (.iadd, 1) := by decide +kernel
theorem dX6_turns_18 : decode cX6_turns 18 = .ok (.iaload, 1) := by decide +kernel
theorem dX6_turns_19 : decode cX6_turns 19 = .ok (.aload_n 0, 1) := by decide +kernel
theorem dX6_turns_20 : decode cX6_turns 20 = .ok (.getfield 7, 3) := by decide +kernel
theorem dX6_turns_23 : decode cX6_turns 23 = .ok (.iconst 4, 1) := by decide +kernel
theorem dX6_turns_24 : decode cX6_turns 24 = .ok (.iload_n 2, 1) := by decide +kernel
theorem dX6_turns_25 : decode cX6_turns 25 = .ok (.bipush 7, 2) := by decide +kernel
theorem dX6_turns_27 : decode cX6_turns 27 = .ok (.iadd, 1) := by decide +kernel
theorem dX6_turns_28 : decode cX6_turns 28 = .ok (.bipush 8, 2) := by decide +kernel
theorem dX6_turns_30 : decode cX6_turns 30 = .ok (.irem, 1) := by decide +kernel
theorem dX6_turns_31 : decode cX6_turns 31 = .ok (.iadd, 1) := by decide +kernel
theorem dX6_turns_32 : decode cX6_turns 32 = .ok (.iaload, 1) := by decide +kernel
theorem dX6_turns_33 : decode cX6_turns 33 = .ok (.if_icmp .eq 7, 3) := by decide +kernel
theorem dX6_turns_36 : decode cX6_turns 36 = .ok (.iconst 1, 1) := by decide +kernel
theorem dX6_turns_37 : decode cX6_turns 37 = .ok (.goto 4, 3) := by decide +kernel
theorem dX6_turns_40 : decode cX6_turns 40 = .ok (.iconst 0, 1) := by decide +kernel
theorem dX6_turns_41 : decode cX6_turns 41 = .ok (.iadd, 1) := by decide +kernel
theorem dX6_turns_42 : decode cX6_turns 42 = .ok (.istore_n 1, 1) := by decide +kernel
theorem dX6_turns_43 : decode cX6_turns 43 = .ok (.iinc 2 1, 3) := by decide +kernel
theorem dX6_turns_46 : decode cX6_turns 46 = .ok (.goto (-42), 3) := by decide +kernel
theorem dX6_turns_49 : decode cX6_turns 49 = .ok (.iload_n 1, 1) := by decide +kernel
theorem dX6_turns_50 : decode cX6_turns 50 = .ok (.ireturn, 1) := by decide +kernel
theorem dX6_mostBelief_0 : decode cX6_mostBelief 0 = .ok (.aload_n 0, 1) := by decide +kernel
theorem dX6_mostBelief_1 : decode cX6_mostBelief 1 = .ok (.invokevirtual 156, 3) := by decide +kernel
theorem dX6_mostBelief_4 : decode cX6_mostBelief 4 = .ok (.iconst 0, 1) := by decide +kernel
theorem dX6_mostBelief_5 : decode cX6_mostBelief 5 = .ok (.istore 4, 2) := by decide +kernel
theorem dX6_mostBelief_7 : decode cX6_mostBelief 7 = .ok (.iconst (-1), 1) := by decide +kernel
theorem dX6_mostBelief_8 : decode cX6_mostBelief 8 = .ok (.istore 5, 2) := by decide +kernel
theorem dX6_mostBelief_10 : decode cX6_mostBelief 10 = .ok (.iconst 0, 1) := by decide +kernel
theorem dX6_mostBelief_11 : decode cX6_mostBelief 11 = .ok (.istore 6, 2) := by decide +kernel
theorem dX6_mostBelief_13 : decode cX6_mostBelief 13 = .ok (.iload 6, 2) := by decide +kernel
theorem dX6_mostBelief_15 : decode cX6_mostBelief 15 = .ok (.iload_n 2, 1) := by decide +kernel
theorem dX6_mostBelief_16 : decode cX6_mostBelief 16 = .ok (.invokestatic 114, 3) := by decide +kernel
theorem dX6_mostBelief_19 : decode cX6_mostBelief 19 = .ok (.if_icmp .gt 70, 3) := by decide +kernel
theorem dX6_mostBelief_22 : decode cX6_mostBelief 22 = .ok (.aload_n 0, 1) := by decide +kernel
theorem dX6_mostBelief_23 : decode cX6_mostBelief 23 = .ok (.getfield 7, 3) := by decide +kernel
theorem dX6_mostBelief_26 : decode cX6_mostBelief 26 = .ok (.iload_n 1, 1) := by decide +kernel
theorem dX6_mostBelief_27 : decode cX6_mostBelief 27 = .ok (.iload_n 2, 1) := by decide +kernel
theorem dX6_mostBelief_28 : decode cX6_mostBelief 28 = .ok (.invokestatic 59, 3) := by decide +kernel
theorem dX6_mostBelief_31 : decode cX6_mostBelief 31 = .ok (.iload 6, 2) := by decide +kernel
theorem dX6_mostBelief_33 : decode cX6_mostBelief 33 = .ok (.iastore, 1) := by decide +kernel
theorem dX6_mostBelief_34 : decode cX6_mostBelief 34 = .ok (.aload_n 0, 1) := by decide +kernel
theorem dX6_mostBelief_35 : decode cX6_mostBelief 35 = .ok (.iload_n 3, 1) := by decide +kernel
theorem dX6_mostBelief_36 : decode cX6_mostBelief 36 = .ok (.invokevirtual 141, 3) := by decide +kernel
theorem dX6_mostBelief_39 : decode cX6_mostBelief 39 = .ok (.aload_n 0, 1) := by decide +kernel
theorem dX6_mostBelief_40 : decode cX6_mostBelief 40 = .ok (.aload_n 0, 1) := by decide +kernel
theorem dX6_mostBelief_41 : decode cX6_mostBelief 41 = .ok (.iload_n 1, 1) := by decide +kernel
theorem dX6_mostBelief_42 : decode cX6_mostBelief 42 = .ok (.iconst 3, 1) := by decide +kernel
theorem dX6_mostBelief_43 : decode cX6_mostBelief 43 = .ok (.invokevirtual 63, 3) := by decide +kernel
theorem dX6_mostBelief_46 : decode cX6_mostBelief 46 = .ok (.invokevirtual 159, 3) := by decide +kernel
theorem dX6_mostBelief_49 : decode cX6_mostBelief 49 = .ok (.istore 7, 2) := by decide +kernel
theorem dX6_mostBelief_51 : decode cX6_mostBelief 51 = .ok (.iload 7, 2) := by decide +kernel
theorem dX6_mostBelief_53 : decode cX6_mostBelief 53 = .ok (.iload 5, 2) := by decide +kernel
theorem dX6_mostBelief_55 : decode cX6_mostBelief 55 = .ok (.if_icmp .le 8, 3) := by decide +kernel
theorem dX6_mostBelief_58 : decode cX6_mostBelief 58 = .ok (.iload 6, 2) := by decide +kernel
theorem dX6_mostBelief_60 : decode cX6_mostBelief 60 = .ok (.goto 5, 3) := by decide +kernel
theorem dX6_mostBelief_63 : decode cX6_mostBelief 63 = .ok (.iload 4, 2) := by decide +kernel
theorem dX6_mostBelief_65 : decode cX6_mostBelief 65 = .ok (.istore 4, 2) := by decide +kernel
theorem dX6_mostBelief_67 : decode cX6_mostBelief 67 = .ok (.iload 7, 2) := by decide +kernel
theorem dX6_mostBelief_69 : decode cX6_mostBelief 69 = .ok (.iload 5, 2) := by decide +kernel
theorem dX6_mostBelief_71 : decode cX6_mostBelief 71 = .ok (.if_icmp .le 8, 3) := by decide +kernel
theorem dX6_mostBelief_74 : decode cX6_mostBelief 74 = .ok (.iload 7, 2) := by decide +kernel
theorem dX6_mostBelief_76 : decode cX6_mostBelief 76 = .ok (.goto 5, 3) := by decide +kernel
theorem dX6_mostBelief_79 : decode cX6_mostBelief 79 = .ok (.iload 5, 2) := by decide +kernel
theorem dX6_mostBelief_81 : decode cX6_mostBelief 81 = .ok (.istore 5, 2) := by decide +kernel
theorem dX6_mostBelief_83 : decode cX6_mostBelief 83 = .ok (.iinc 6 1, 3) := by decide +kernel
theorem dX6_mostBelief_86 : decode cX6_mostBelief 86 = .ok (.goto (-73), 3) := by decide +kernel
theorem dX6_mostBelief_89 : decode cX6_mostBelief 89 = .ok (.iload 4, 2) := by decide +kernel
theorem dX6_mostBelief_91 : decode cX6_mostBelief 91 = .ok (.ireturn, 1) := by decide +kernel
theorem dX6_seat_0 : decode cX6_seat 0 = .ok (.aload_n 0, 1) := by decide +kernel
theorem dX6_seat_1 : decode cX6_seat 1 = .ok (.iload_n 1, 1) := by decide +kernel
theorem dX6_seat_2 : decode cX6_seat 2 = .ok (.invokevirtual 100, 3) := by decide +kernel
theorem dX6_seat_5 : decode cX6_seat 5 = .ok (.ifCond .eq 20, 3) := by decide +kernel
theorem dX6_seat_8 : decode cX6_seat 8 = .ok (.iload_n 2, 1) := by decide +kernel
theorem dX6_seat_9 : decode cX6_seat 9 = .ok (.invokestatic 187, 3) := by decide +kernel
theorem dX6_seat_12 : decode cX6_seat 12 = .ok (.ifCond .eq 13, 3) := by decide +kernel
theorem dX6_seat_15 : decode cX6_seat 15 = .ok (.aload_n 0, 1) := by decide +kernel
theorem dX6_seat_16 : decode cX6_seat 16 = .ok (.iload_n 1, 1) := by decide +kernel
theorem dX6_seat_17 : decode cX6_seat 17 = .ok (.iconst 1, 1) := by decide +kernel
theorem dX6_seat_18 : decode cX6_seat 18 = .ok (.iload_n 2, 1) := by decide +kernel
theorem dX6_seat_19 : decode cX6_seat 19 = .ok (.invokevirtual 195, 3) := by decide +kernel
theorem dX6_seat_22 : decode cX6_seat 22 = .ok (.goto 9, 3) := by decide +kernel
theorem dX6_seat_25 : decode cX6_seat 25 = .ok (.aload_n 0, 1) := by decide +kernel
theorem dX6_seat_26 : decode cX6_seat 26 = .ok (.ldc 46, 2) := by decide +kernel
theorem dX6_seat_28 : decode cX6_seat 28 = .ok (.invokevirtual 75, 3) := by decide +kernel
theorem dX6_seat_31 : decode cX6_seat 31 = .ok (.ireturn, 1) := by decide +kernel
theorem dX6_kindFor_0 : decode cX6_kindFor 0 = .ok (.aload_n 0, 1) := by decide +kernel
theorem dX6_kindFor_1 : decode cX6_kindFor 1 = .ok (.iload_n 1, 1) := by decide +kernel
theorem dX6_kindFor_2 : decode cX6_kindFor 2 = .ok (.invokevirtual 100, 3) := by decide +kernel
theorem dX6_kindFor_5 : decode cX6_kindFor 5 = .ok (.ifCond .eq 20, 3) := by decide +kernel
theorem dX6_kindFor_8 : decode cX6_kindFor 8 = .ok (.iload_n 2, 1) := by decide +kernel
