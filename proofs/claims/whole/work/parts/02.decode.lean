theorem dX12_init_0 : decode cX12_init 0 = .ok (.aload_n 0, 1) := by decide +kernel
theorem dX12_init_1 : decode cX12_init 1 = .ok (.invokespecial 1, 3) := by decide +kernel
theorem dX12_init_4 : decode cX12_init 4 = .ok (.aload_n 0, 1) := by decide +kernel
theorem dX12_init_5 : decode cX12_init 5 = .ok (.sipush 264, 3) := by decide +kernel
theorem dX12_init_8 : decode cX12_init 8 = .ok (.newarray .int, 2) := by decide +kernel
theorem dX12_init_10 : decode cX12_init 10 = .ok (.putfield 7, 3) := by decide +kernel
theorem dX12_init_13 : decode cX12_init 13 = .ok (.aload_n 0, 1) := by decide +kernel
theorem dX12_init_14 : decode cX12_init 14 = .ok (.sipush 264, 3) := by decide +kernel
theorem dX12_init_17 : decode cX12_init 17 = .ok (.newarray .int, 2) := by decide +kernel
theorem dX12_init_19 : decode cX12_init 19 = .ok (.putfield 13, 3) := by decide +kernel
theorem dX12_init_22 : decode cX12_init 22 = .ok (.aload_n 0, 1) := by decide +kernel
theorem dX12_init_23 : decode cX12_init 23 = .ok (.bipush 90, 2) := by decide +kernel
theorem dX12_init_25 : decode cX12_init 25 = .ok (.newarray .int, 2) := by decide +kernel
theorem dX12_init_27 : decode cX12_init 27 = .ok (.putfield 16, 3) := by decide +kernel
theorem dX12_init_30 : decode cX12_init 30 = .ok (.aload_n 0, 1) := by decide +kernel
theorem dX12_init_31 : decode cX12_init 31 = .ok (.bipush 6, 2) := by decide +kernel
theorem dX12_init_33 : decode cX12_init 33 = .ok (.newarray .int, 2) := by decide +kernel
theorem dX12_init_35 : decode cX12_init 35 = .ok (.putfield 19, 3) := by decide +kernel
theorem dX12_init_38 : decode cX12_init 38 = .ok (.aload_n 0, 1) := by decide +kernel
theorem dX12_init_39 : decode cX12_init 39 = .ok (.iconst 3, 1) := by decide +kernel
theorem dX12_init_40 : decode cX12_init 40 = .ok (.newarray .int, 2) := by decide +kernel
theorem dX12_init_42 : decode cX12_init 42 = .ok (.putfield 22, 3) := by decide +kernel
theorem dX12_init_45 : decode cX12_init 45 = .ok (.aload_n 0, 1) := by decide +kernel
theorem dX12_init_46 : decode cX12_init 46 = .ok (.bipush 9, 2) := by decide +kernel
theorem dX12_init_48 : decode cX12_init 48 = .ok (.newarray .int, 2) := by decide +kernel
theorem dX12_init_50 : decode cX12_init 50 = .ok (.putfield 25, 3) := by decide +kernel
theorem dX12_init_53 : decode cX12_init 53 = .ok (.aload_n 0, 1) := by decide +kernel
theorem dX12_init_54 : decode cX12_init 54 = .ok (.bipush 8, 2) := by decide +kernel
theorem dX12_init_56 : decode cX12_init 56 = .ok (.newarray .int, 2) := by decide +kernel
theorem dX12_init_58 : decode cX12_init 58 = .ok (.putfield 28, 3) := by decide +kernel
theorem dX12_init_61 : decode cX12_init 61 = .ok (.aload_n 0, 1) := by decide +kernel
theorem dX12_init_62 : decode cX12_init 62 = .ok (.iconst 5, 1) := by decide +kernel
theorem dX12_init_63 : decode cX12_init 63 = .ok (.newarray .int, 2) := by decide +kernel
theorem dX12_init_65 : decode cX12_init 65 = .ok (.putfield 31, 3) := by decide +kernel
theorem dX12_init_68 : decode cX12_init 68 = .ok (.aload_n 0, 1) := by decide +kernel
theorem dX12_init_69 : decode cX12_init 69 = .ok (.iconst 5, 1) := by decide +kernel
theorem dX12_init_70 : decode cX12_init 70 = .ok (.newarray .int, 2) := by decide +kernel
theorem dX12_init_72 : decode cX12_init 72 = .ok (.putfield 34, 3) := by decide +kernel
theorem dX12_init_75 : decode cX12_init 75 = .ok (.aload_n 0, 1) := by decide +kernel
theorem dX12_init_76 : decode cX12_init 76 = .ok (.bipush 8, 2) := by decide +kernel
theorem dX12_init_78 : decode cX12_init 78 = .ok (.newarray .int, 2) := by decide +kernel
theorem dX12_init_80 : decode cX12_init 80 = .ok (.putfield 37, 3) := by decide +kernel
theorem dX12_init_83 : decode cX12_init 83 = .ok (.aload_n 0, 1) := by decide +kernel
theorem dX12_init_84 : decode cX12_init 84 = .ok (.bipush 40, 2) := by decide +kernel
theorem dX12_init_86 : decode cX12_init 86 = .ok (.newarray .int, 2) := by decide +kernel
theorem dX12_init_88 : decode cX12_init 88 = .ok (.putfield 40, 3) := by decide +kernel
theorem dX12_init_91 : decode cX12_init 91 = .ok (.aload_n 0, 1) := by decide +kernel
theorem dX12_init_92 : decode cX12_init 92 = .ok (.iconst 4, 1) := by decide +kernel
theorem dX12_init_93 : decode cX12_init 93 = .ok (.newarray .int, 2) := by decide +kernel
theorem dX12_init_95 : decode cX12_init 95 = .ok (.putfield 43, 3) := by decide +kernel
theorem dX12_init_98 : decode cX12_init 98 = .ok (.aload_n 0, 1) := by decide +kernel
theorem dX12_init_99 : decode cX12_init 99 = .ok (.iconst 4, 1) := by decide +kernel
theorem dX12_init_100 : decode cX12_init 100 = .ok (.newarray .int, 2) := by decide +kernel
theorem dX12_init_102 : decode cX12_init 102 = .ok (.putfield 46, 3) := by decide +kernel
theorem dX12_init_105 : decode cX12_init 105 = .ok (.aload_n 0, 1) := by decide +kernel
theorem dX12_init_106 : decode cX12_init 106 = .ok (.sipush 160, 3) := by decide +kernel
theorem dX12_init_109 : decode cX12_init 109 = .ok (.newarray .int, 2) := by decide +kernel
theorem dX12_init_111 : decode cX12_init 111 = .ok (.putfield 49, 3) := by decide +kernel
theorem dX12_init_114 : decode cX12_init 114 = .ok (.aload_n 0, 1) := by decide +kernel
theorem dX12_init_115 : decode cX12_init 115 = .ok (.bipush 40, 2) := by decide +kernel
theorem dX12_init_117 : decode cX12_init 117 = .ok (.newarray .int, 2) := by decide +kernel
theorem dX12_init_119 : decode cX12_init 119 = .ok (.putfield 52, 3) := by decide +kernel
theorem dX12_init_122 : decode cX12_init 122 = .ok (.aload_n 0, 1) := by decide +kernel
theorem dX12_init_123 : decode cX12_init 123 = .ok (.getfield 7, 3) := by decide +kernel
theorem dX12_init_126 : decode cX12_init 126 = .ok (.bipush 8, 2) := by decide +kernel
theorem dX12_init_128 : decode cX12_init 128 = .ok (.iconst 1, 1) := by decide +kernel
theorem dX12_init_129 : decode cX12_init 129 = .ok (.iastore, 1) := by decide +kernel
theorem dX12_init_130 : decode cX12_init 130 = .ok (.return_, 1) := by decide +kernel
theorem dX12_finds_0 : decode cX12_finds 0 = .ok (.aload_n 0, 1) := by decide +kernel
theorem dX12_finds_1 : decode cX12_finds 1 = .ok (.getfield 19, 3) := by decide +kernel
theorem dX12_finds_4 : decode cX12_finds 4 = .ok (.iload_n 1, 1) := by decide +kernel
theorem dX12_finds_5 : decode cX12_finds 5 = .ok (.dup2, 1) := by decide +kernel
theorem dX12_finds_6 : decode cX12_finds 6 = .ok (.iaload, 1) := by decide +kernel
theorem dX12_finds_7 : decode cX12_finds 7 = .ok (.iconst 1, 1) := by decide +kernel
theorem dX12_finds_8 : decode cX12_finds 8 = .ok (.iadd, 1) := by decide +kernel
theorem dX12_finds_9 : decode cX12_finds 9 = .ok (.iastore, 1) := by decide +kernel
theorem dX12_finds_10 : decode cX12_finds 10 = .ok (.ldc 55, 2) := by decide +kernel
theorem dX12_finds_12 : decode cX12_finds 12 = .ok (.iload_n 1, 1) := by decide +kernel
theorem dX12_finds_13 : decode cX12_finds 13 = .ok (.isub, 1) := by decide +kernel
theorem dX12_finds_14 : decode cX12_finds 14 = .ok (.ireturn, 1) := by decide +kernel
theorem dX12_in_0 : decode cX12_in 0 = .ok (.lload_n 0, 1) := by decide +kernel
theorem dX12_in_1 : decode cX12_in 1 = .ok (.lload_n 2, 1) := by decide +kernel
theorem dX12_in_2 : decode cX12_in 2 = .ok (.lcmp, 1) := by decide +kernel
theorem dX12_in_3 : decode cX12_in 3 = .ok (.ifCond .lt 14, 3) := by decide +kernel
theorem dX12_in_6 : decode cX12_in 6 = .ok (.lload_n 0, 1) := by decide +kernel
theorem dX12_in_7 : decode cX12_in 7 = .ok (.lload 4, 2) := by decide +kernel
theorem dX12_in_9 : decode cX12_in 9 = .ok (.lcmp, 1) := by decide +kernel
theorem dX12_in_10 : decode cX12_in 10 = .ok (.ifCond .gt 7, 3) := by decide +kernel
theorem dX12_in_13 : decode cX12_in 13 = .ok (.iconst 1, 1) := by decide +kernel
theorem dX12_in_14 : decode cX12_in 14 = .ok (.goto 4, 3) := by decide +kernel
theorem dX12_in_17 : decode cX12_in 17 = .ok (.iconst 0, 1) := by decide +kernel
theorem dX12_in_18 : decode cX12_in 18 = .ok (.ireturn, 1) := by decide +kernel
theorem dX12_held_0 : decode cX12_held 0 = .ok (.iload_n 0, 1) := by decide +kernel
theorem dX12_held_1 : decode cX12_held 1 = .ok (.iload_n 1, 1) := by decide +kernel
theorem dX12_held_2 : decode cX12_held 2 = .ok (.if_icmp .ge 7, 3) := by decide +kernel
theorem dX12_held_5 : decode cX12_held 5 = .ok (.iload_n 1, 1) := by decide +kernel
theorem dX12_held_6 : decode cX12_held 6 = .ok (.goto 13, 3) := by decide +kernel
theorem dX12_held_9 : decode cX12_held 9 = .ok (.iload_n 0, 1) := by decide +kernel
theorem dX12_held_10 : decode cX12_held 10 = .ok (.iload_n 2, 1) := by decide +kernel
theorem dX12_held_11 : decode cX12_held 11 = .ok (.if_icmp .le 7, 3) := by decide +kernel
theorem dX12_held_14 : decode cX12_held 14 = .ok (.iload_n 2, 1) := by decide +kernel
theorem dX12_held_15 : decode cX12_held 15 = .ok (.goto 4, 3) := by decide +kernel
theorem dX12_held_18 : decode cX12_held 18 = .ok (.iload_n 0, 1) := by decide +kernel
theorem dX12_held_19 : decode cX12_held 19 = .ok (.ireturn, 1) := by decide +kernel
theorem dX12_isWindow_0 : decode cX12_isWindow 0 = .ok (.iload_n 1, 1) := by decide +kernel
theorem dX12_isWindow_1 : decode cX12_isWindow 1 = .ok (.i2l, 1) := by decide +kernel
theorem dX12_isWindow_2 : decode cX12_isWindow 2 = .ok (.lconst 0, 1) := by decide +kernel
theorem dX12_isWindow_3 : decode cX12_isWindow 3 = .ok (.aload_n 0, 1) := by decide +kernel
theorem dX12_isWindow_4 : decode cX12_isWindow 4 = .ok (.getfield 7, 3) := by decide +kernel
theorem dX12_isWindow_7 : decode cX12_isWindow 7 = .ok (.iconst 0, 1) := by decide +kernel
theorem dX12_isWindow_8 : decode cX12_isWindow 8 = .ok (.iaload, 1) := by decide +kernel
theorem dX12_isWindow_9 : decode cX12_isWindow 9 = .ok (.iconst 1, 1) := by decide +kernel
theorem dX12_isWindow_10 : decode cX12_isWindow 10 = .ok (.isub, 1) := by decide +kernel
theorem dX12_isWindow_11 : decode cX12_isWindow 11 = .ok (.i2l, 1) := by decide +kernel
theorem dX12_isWindow_12 : decode cX12_isWindow 12 = .ok (.invokestatic 56, 3) := by decide +kernel
theorem dX12_isWindow_15 : decode cX12_isWindow 15 = .ok (.ireturn, 1) := by decide +kernel
theorem dX12_isLodger_0 : decode cX12_isLodger 0 = .ok (.iload_n 1, 1) := by decide +kernel
theorem dX12_isLodger_1 : decode cX12_isLodger 1 = .ok (.i2l, 1) := by decide +kernel
theorem dX12_isLodger_2 : decode cX12_isLodger 2 = .ok (.lconst 0, 1) := by decide +kernel
theorem dX12_isLodger_3 : decode cX12_isLodger 3 = .ok (.aload_n 0, 1) := by decide +kernel
theorem dX12_isLodger_4 : decode cX12_isLodger 4 = .ok (.getfield 7, 3) := by decide +kernel
theorem dX12_isLodger_7 : decode cX12_isLodger 7 = .ok (.iconst 2, 1) := by decide +kernel
theorem dX12_isLodger_8 : decode cX12_isLodger 8 = .ok (.iaload, 1) := by decide +kernel
theorem dX12_isLodger_9 : decode cX12_isLodger 9 = .ok (.iconst 1, 1) := by decide +kernel
theorem dX12_isLodger_10 : decode cX12_isLodger 10 = .ok (.isub, 1) := by decide +kernel
theorem dX12_isLodger_11 : decode cX12_isLodger 11 = .ok (.i2l, 1) := by decide +kernel
theorem dX12_isLodger_12 : decode cX12_isLodger 12 = .ok (.invokestatic 56, 3) := by decide +kernel
theorem dX12_isLodger_15 : decode cX12_isLodger 15 = .ok (.ireturn, 1) := by decide +kernel
theorem dX12_its_0 : decode cX12_its 0 = .ok (.aload_n 0, 1) := by decide +kernel
theorem dX12_its_1 : decode cX12_its 1 = .ok (.getfield 7, 3) := by decide +kernel
theorem dX12_its_4 : decode cX12_its 4 = .ok (.bipush 12, 2) := by decide +kernel
theorem dX12_its_6 : decode cX12_its 6 = .ok (.iconst 4, 1) := by decide +kernel
theorem dX12_its_7 : decode cX12_its 7 = .ok (.iload_n 1, 1) := by decide +kernel
theorem dX12_its_8 : decode cX12_its 8 = .ok (.imul, 1) := by decide +kernel
theorem dX12_its_9 : decode cX12_its 9 = .ok (.iadd, 1) := by decide +kernel
theorem dX12_its_10 : decode cX12_its 10 = .ok (.iload_n 2, 1) := by decide +kernel
theorem dX12_its_11 : decode cX12_its 11 = .ok (.iadd, 1) := by decide +kernel
theorem dX12_its_12 : decode cX12_its 12 = .ok (.iaload, 1) := by decide +kernel
theorem dX12_its_13 : decode cX12_its 13 = .ok (.ireturn, 1) := by decide +kernel
theorem dX12_puts_0 : decode cX12_puts 0 = .ok (.aload_n 0, 1) := by decide +kernel
theorem dX12_puts_1 : decode cX12_puts 1 = .ok (.getfield 7, 3) := by decide +kernel
theorem dX12_puts_4 : decode cX12_puts 4 = .ok (.bipush 12, 2) := by decide +kernel
theorem dX12_puts_6 : decode cX12_puts 6 = .ok (.iconst 4, 1) := by decide +kernel
theorem dX12_puts_7 : decode cX12_puts 7 = .ok (.iload_n 1, 1) := by decide +kernel
theorem dX12_puts_8 : decode cX12_puts 8 = .ok (.imul, 1) := by decide +kernel
theorem dX12_puts_9 : decode cX12_puts 9 = .ok (.iadd, 1) := by decide +kernel
theorem dX12_puts_10 : decode cX12_puts 10 = .ok (.iload_n 2, 1) := by decide +kernel
theorem dX12_puts_11 : decode cX12_puts 11 = .ok (.iadd, 1) := by decide +kernel
theorem dX12_puts_12 : decode cX12_puts 12 = .ok (.iload_n 3, 1) := by decide +kernel
theorem dX12_puts_13 : decode cX12_puts 13 = .ok (.iastore, 1) := by decide +kernel
theorem dX12_puts_14 : decode cX12_puts 14 = .ok (.return_, 1) := by decide +kernel
theorem dX12_of_0 : decode cX12_of 0 = .ok (.aload_n 0, 1) := by decide +kernel
theorem dX12_of_1 : decode cX12_of 1 = .ok (.getfield 7, 3) := by decide +kernel
theorem dX12_of_4 : decode cX12_of 4 = .ok (.bipush 44, 2) := by decide +kernel
theorem dX12_of_6 : decode cX12_of 6 = .ok (.iconst 3, 1) := by decide +kernel
theorem dX12_of_7 : decode cX12_of 7 = .ok (.iload_n 1, 1) := by decide +kernel
theorem dX12_of_8 : decode cX12_of 8 = .ok (.imul, 1) := by decide +kernel
theorem dX12_of_9 : decode cX12_of 9 = .ok (.iadd, 1) := by decide +kernel
theorem dX12_of_10 : decode cX12_of 10 = .ok (.iload_n 2, 1) := by decide +kernel
theorem dX12_of_11 : decode cX12_of 11 = .ok (.iadd, 1) := by decide +kernel
theorem dX12_of_12 : decode cX12_of 12 = .ok (.iaload, 1) := by decide +kernel
theorem dX12_of_13 : decode cX12_of 13 = .ok (.ireturn, 1) := by decide +kernel
theorem dX12_sets_0 : decode cX12_sets 0 = .ok (.aload_n 0, 1) := by decide +kernel
theorem dX12_sets_1 : decode cX12_sets 1 = .ok (.getfield 7, 3) := by decide +kernel
theorem dX12_sets_4 : decode cX12_sets 4 = .ok (.bipush 44, 2) := by decide +kernel
theorem dX12_sets_6 : decode cX12_sets 6 = .ok (.iconst 3, 1) := by decide +kernel
theorem dX12_sets_7 : decode cX12_sets 7 = .ok (.iload_n 1, 1) := by decide +kernel
theorem dX12_sets_8 : decode cX12_sets 8 = .ok (.imul, 1) := by decide +kernel
theorem dX12_sets_9 : decode cX12_sets 9 = .ok (.iadd, 1) := by decide +kernel
theorem dX12_sets_10 : decode cX12_sets 10 = .ok (.iload_n 2, 1) := by decide +kernel
theorem dX12_sets_11 : decode cX12_sets 11 = .ok (.iadd, 1) := by decide +kernel
theorem dX12_sets_12 : decode cX12_sets 12 = .ok (.iload_n 3, 1) := by decide +kernel
theorem dX12_sets_13 : decode cX12_sets 13 = .ok (.iastore, 1) := by decide +kernel
theorem dX12_sets_14 : decode cX12_sets 14 = .ok (.return_, 1) := by decide +kernel
theorem dX12_keepAside_0 : decode cX12_keepAside 0 = .ok (.iconst 0, 1) := by decide +kernel
theorem dX12_keepAside_1 : decode cX12_keepAside 1 = .ok (.istore_n 1, 1) := by decide +kernel
theorem dX12_keepAside_2 : decode cX12_keepAside 2 = .ok (.iload_n 1, 1) := by decide +kernel
theorem dX12_keepAside_3 : decode cX12_keepAside 3 = .ok (.bipush 90, 2) := by decide +kernel
theorem dX12_keepAside_5 : decode cX12_keepAside 5 = .ok (.if_icmp .ge 21, 3) := by decide +kernel
theorem dX12_keepAside_8 : decode cX12_keepAside 8 = .ok (.aload_n 0, 1) := by decide +kernel
theorem dX12_keepAside_9 : decode cX12_keepAside 9 = .ok (.getfield 16, 3) := by decide +kernel
theorem dX12_keepAside_12 : decode cX12_keepAside 12 = .ok (.iload_n 1, 1) := by decide +kernel
theorem dX12_keepAside_13 : decode cX12_keepAside 13 = .ok (.aload_n 0, 1) := by decide +kernel
theorem dX12_keepAside_14 : decode cX12_keepAside 14 = .ok (.getfield 7, 3) := by decide +kernel
theorem dX12_keepAside_17 : decode cX12_keepAside 17 = .ok (.iload_n 1, 1) := by decide +kernel
theorem dX12_keepAside_18 : decode cX12_keepAside 18 = .ok (.iaload, 1) := by decide +kernel
theorem dX12_keepAside_19 : decode cX12_keepAside 19 = .ok (.iastore, 1) := by decide +kernel
theorem dX12_keepAside_20 : decode cX12_keepAside 20 = .ok (.iinc 1 1, 3) := by decide +kernel
theorem dX12_keepAside_23 : decode cX12_keepAside 23 = .ok (.goto (-21), 3) := by decide +kernel
theorem dX12_keepAside_26 : decode cX12_keepAside 26 = .ok (.return_, 1) := by decide +kernel
theorem dX12_putBack_0 : decode cX12_putBack 0 = .ok (.iconst 0, 1) := by decide +kernel
theorem dX12_putBack_1 : decode cX12_putBack 1 = .ok (.istore_n 1, 1) := by decide +kernel
theorem dX12_putBack_2 : decode cX12_putBack 2 = .ok (.iload_n 1, 1) := by decide +kernel
theorem dX12_putBack_3 : decode cX12_putBack 3 = .ok (.bipush 90, 2) := by decide +kernel
theorem dX12_putBack_5 : decode cX12_putBack 5 = .ok (.if_icmp .ge 21, 3) := by decide +kernel
theorem dX12_putBack_8 : decode cX12_putBack 8 = .ok (.aload_n 0, 1) := by decide +kernel
theorem dX12_putBack_9 : decode cX12_putBack 9 = .ok (.getfield 7, 3) := by decide +kernel
theorem dX12_putBack_12 : decode cX12_putBack 12 = .ok (.iload_n 1, 1) := by decide +kernel
theorem dX12_putBack_13 : decode cX12_putBack 13 = .ok (.aload_n 0, 1) := by decide +kernel
theorem dX12_putBack_14 : decode cX12_putBack 14 = .ok (.getfield 16, 3) := by decide +kernel
theorem dX12_putBack_17 : decode cX12_putBack 17 = .ok (.iload_n 1, 1) := by decide +kernel
theorem dX12_putBack_18 : decode cX12_putBack 18 = .ok (.iaload, 1) := by decide +kernel
theorem dX12_putBack_19 : decode cX12_putBack 19 = .ok (.iastore, 1) := by decide +kernel
theorem dX12_putBack_20 : decode cX12_putBack 20 = .ok (.iinc 1 1, 3) := by decide +kernel
theorem dX12_putBack_23 : decode cX12_putBack 23 = .ok (.goto (-21), 3) := by decide +kernel
theorem dX12_putBack_26 : decode cX12_putBack 26 = .ok (.return_, 1) := by decide +kernel
theorem dX12_here_0 : decode cX12_here 0 = .ok (.aload_n 0, 1) := by decide +kernel
theorem dX12_here_1 : decode cX12_here 1 = .ok (.getfield 60, 3) := by decide +kernel
theorem dX12_here_4 : decode cX12_here 4 = .ok (.aload_n 0, 1) := by decide +kernel
theorem dX12_here_5 : decode cX12_here 5 = .ok (.getfield 64, 3) := by decide +kernel
theorem dX12_here_8 : decode cX12_here 8 = .ok (.if_icmp .ge 27, 3) := by decide +kernel
theorem dX12_here_11 : decode cX12_here 11 = .ok (.aload_n 0, 1) := by decide +kernel
theorem dX12_here_12 : decode cX12_here 12 = .ok (.getfield 67, 3) := by decide +kernel
theorem dX12_here_15 : decode cX12_here 15 = .ok (.ifCond .ge 20, 3) := by decide +kernel
theorem dX12_here_18 : decode cX12_here 18 = .ok (.aload_n 0, 1) := by decide +kernel
theorem dX12_here_19 : decode cX12_here 19 = .ok (.getfield 7, 3) := by decide +kernel
theorem dX12_here_22 : decode cX12_here 22 = .ok (.aload_n 0, 1) := by decide +kernel
theorem dX12_here_23 : decode cX12_here 23 = .ok (.getfield 70, 3) := by decide +kernel
theorem dX12_here_26 : decode cX12_here 26 = .ok (.aload_n 0, 1) := by decide +kernel
theorem dX12_here_27 : decode cX12_here 27 = .ok (.getfield 60, 3) := by decide +kernel
theorem dX12_here_30 : decode cX12_here 30 = .ok (.iadd, 1) := by decide +kernel
theorem dX12_here_31 : decode cX12_here 31 = .ok (.iaload, 1) := by decide +kernel
theorem dX12_here_32 : decode cX12_here 32 = .ok (.goto 4, 3) := by decide +kernel
theorem dX12_here_35 : decode cX12_here 35 = .ok (.iconst (-1), 1) := by decide +kernel
theorem dX12_here_36 : decode cX12_here 36 = .ok (.ireturn, 1) := by decide +kernel
theorem dX12_wrong_0 : decode cX12_wrong 0 = .ok (.aload_n 0, 1) := by decide +kernel
theorem dX12_wrong_1 : decode cX12_wrong 1 = .ok (.aload_n 0, 1) := by decide +kernel
theorem dX12_wrong_2 : decode cX12_wrong 2 = .ok (.getfield 67, 3) := by decide +kernel
theorem dX12_wrong_5 : decode cX12_wrong 5 = .ok (.ifCond .ge 10, 3) := by decide +kernel
theorem dX12_wrong_8 : decode cX12_wrong 8 = .ok (.aload_n 0, 1) := by decide +kernel
theorem dX12_wrong_9 : decode cX12_wrong 9 = .ok (.getfield 60, 3) := by decide +kernel
theorem dX12_wrong_12 : decode cX12_wrong 12 = .ok (.goto 7, 3) := by decide +kernel
theorem dX12_wrong_15 : decode cX12_wrong 15 = .ok (.aload_n 0, 1) := by decide +kernel
theorem dX12_wrong_16 : decode cX12_wrong 16 = .ok (.getfield 67, 3) := by decide +kernel
theorem dX12_wrong_19 : decode cX12_wrong 19 = .ok (.putfield 67, 3) := by decide +kernel
theorem dX12_wrong_22 : decode cX12_wrong 22 = .ok (.iconst 0, 1) := by decide +kernel
theorem dX12_wrong_23 : decode cX12_wrong 23 = .ok (.ireturn, 1) := by decide +kernel
theorem dX12_takes_0 : decode cX12_takes 0 = .ok (.aload_n 0, 1) := by decide +kernel
theorem dX12_takes_1 : decode cX12_takes 1 = .ok (.invokevirtual 73, 3) := by decide +kernel
theorem dX12_takes_4 : decode cX12_takes 4 = .ok (.iload_n 1, 1) := by decide +kernel
theorem dX12_takes_5 : decode cX12_takes 5 = .ok (.if_icmp .eq 5, 3) := by decide +kernel
theorem dX12_takes_8 : decode cX12_takes 8 = .ok (.iconst 0, 1) := by decide +kernel
theorem dX12_takes_9 : decode cX12_takes 9 = .ok (.ireturn, 1) := by decide +kernel
theorem dX12_takes_10 : decode cX12_takes 10 = .ok (.aload_n 0, 1) := by decide +kernel
theorem dX12_takes_11 : decode cX12_takes 11 = .ok (.dup, 1) := by decide +kernel
theorem dX12_takes_12 : decode cX12_takes 12 = .ok (.getfield 60, 3) := by decide +kernel
theorem dX12_takes_15 : decode cX12_takes 15 = .ok (.iconst 1, 1) := by decide +kernel
theorem dX12_takes_16 : decode cX12_takes 16 = .ok (.iadd, 1) := by decide +kernel
theorem dX12_takes_17 : decode cX12_takes 17 = .ok (.putfield 60, 3) := by decide +kernel
theorem dX12_takes_20 : decode cX12_takes 20 = .ok (.iconst 1, 1) := by decide +kernel
theorem dX12_takes_21 : decode cX12_takes 21 = .ok (.ireturn, 1) := by decide +kernel
theorem dX12_nameOf_0 : decode cX12_nameOf 0 = .ok (.aload_n 0, 1) := by decide +kernel
theorem dX12_nameOf_1 : decode cX12_nameOf 1 = .ok (.getfield 77, 3) := by decide +kernel
theorem dX12_nameOf_4 : decode cX12_nameOf 4 = .ok (.ifCond .eq 35, 3) := by decide +kernel
theorem dX12_nameOf_7 : decode cX12_nameOf 7 = .ok (.iload_n 1, 1) := by decide +kernel
theorem dX12_nameOf_8 : decode cX12_nameOf 8 = .ok (.bipush 99, 2) := by decide +kernel
theorem dX12_nameOf_10 : decode cX12_nameOf 10 = .ok (.if_icmp .ne 7, 3) := by decide +kernel
theorem dX12_nameOf_13 : decode cX12_nameOf 13 = .ok (.iconst 0, 1) := by decide +kernel
theorem dX12_nameOf_14 : decode cX12_nameOf 14 = .ok (.goto 24, 3) := by decide +kernel
theorem dX12_nameOf_17 : decode cX12_nameOf 17 = .ok (.iload_n 1, 1) := by decide +kernel
theorem dX12_nameOf_18 : decode cX12_nameOf 18 = .ok (.bipush 104, 2) := by decide +kernel
theorem dX12_nameOf_20 : decode cX12_nameOf 20 = .ok (.if_icmp .ne 7, 3) := by decide +kernel
theorem dX12_nameOf_23 : decode cX12_nameOf 23 = .ok (.iconst 1, 1) := by decide +kernel
theorem dX12_nameOf_24 : decode cX12_nameOf 24 = .ok (.goto 14, 3) := by decide +kernel
theorem dX12_nameOf_27 : decode cX12_nameOf 27 = .ok (.iload_n 1, 1) := by decide +kernel
theorem dX12_nameOf_28 : decode cX12_nameOf 28 = .ok (.bipush 112, 2) := by decide +kernel
theorem dX12_nameOf_30 : decode cX12_nameOf 30 = .ok (.if_icmp .ne 7, 3) := by decide +kernel
theorem dX12_nameOf_33 : decode cX12_nameOf 33 = .ok (.iconst 2, 1) := by decide +kernel
theorem dX12_nameOf_34 : decode cX12_nameOf 34 = .ok (.goto 4, 3) := by decide +kernel
theorem dX12_nameOf_37 : decode cX12_nameOf 37 = .ok (.iconst (-1), 1) := by decide +kernel
theorem dX12_nameOf_38 : decode cX12_nameOf 38 = .ok (.ireturn, 1) := by decide +kernel
theorem dX12_nameOf_39 : decode cX12_nameOf 39 = .ok (.iload_n 1, 1) := by decide +kernel
theorem dX12_nameOf_40 : decode cX12_nameOf 40 = .ok (.bipush 111, 2) := by decide +kernel
theorem dX12_nameOf_42 : decode cX12_nameOf 42 = .ok (.if_icmp .ne 7, 3) := by decide +kernel
theorem dX12_nameOf_45 : decode cX12_nameOf 45 = .ok (.iconst 0, 1) := by decide +kernel
theorem dX12_nameOf_46 : decode cX12_nameOf 46 = .ok (.goto 24, 3) := by decide +kernel
theorem dX12_nameOf_49 : decode cX12_nameOf 49 = .ok (.iload_n 1, 1) := by decide +kernel
theorem dX12_nameOf_50 : decode cX12_nameOf 50 = .ok (.bipush 110, 2) := by decide +kernel
theorem dX12_nameOf_52 : decode cX12_nameOf 52 = .ok (.if_icmp .ne 7, 3) := by decide +kernel
theorem dX12_nameOf_55 : decode cX12_nameOf 55 = .ok (.iconst 1, 1) := by decide +kernel
theorem dX12_nameOf_56 : decode cX12_nameOf 56 = .ok (.goto 14, 3) := by decide +kernel
theorem dX12_nameOf_59 : decode cX12_nameOf 59 = .ok (.iload_n 1, 1) := by decide +kernel
theorem dX12_nameOf_60 : decode cX12_nameOf 60 = .ok (.bipush 104, 2) := by decide +kernel
theorem dX12_nameOf_62 : decode cX12_nameOf 62 = .ok (.if_icmp .ne 7, 3) := by decide +kernel
theorem dX12_nameOf_65 : decode cX12_nameOf 65 = .ok (.iconst 2, 1) := by decide +kernel
theorem dX12_nameOf_66 : decode cX12_nameOf 66 = .ok (.goto 4, 3) := by decide +kernel
theorem dX12_nameOf_69 : decode cX12_nameOf 69 = .ok (.iconst (-1), 1) := by decide +kernel
theorem dX12_nameOf_70 : decode cX12_nameOf 70 = .ok (.ireturn, 1) := by decide +kernel
theorem dX12_either_0 : decode cX12_either 0 = .ok (.aload_n 0, 1) := by decide +kernel
theorem dX12_either_1 : decode cX12_either 1 = .ok (.invokevirtual 81, 3) := by decide +kernel
theorem dX12_either_4 : decode cX12_either 4 = .ok (.istore_n 1, 1) := by decide +kernel
theorem dX12_either_5 : decode cX12_either 5 = .ok (.aload_n 0, 1) := by decide +kernel
theorem dX12_either_6 : decode cX12_either 6 = .ok (.bipush 124, 2) := by decide +kernel
theorem dX12_either_8 : decode cX12_either 8 = .ok (.invokevirtual 84, 3) := by decide +kernel
theorem dX12_either_11 : decode cX12_either 11 = .ok (.ifCond .eq 25, 3) := by decide +kernel
theorem dX12_either_14 : decode cX12_either 14 = .ok (.aload_n 0, 1) := by decide +kernel
theorem dX12_either_15 : decode cX12_either 15 = .ok (.invokevirtual 81, 3) := by decide +kernel
theorem dX12_either_18 : decode cX12_either 18 = .ok (.istore_n 2, 1) := by decide +kernel
theorem dX12_either_19 : decode cX12_either 19 = .ok (.iload_n 1, 1) := by decide +kernel
theorem dX12_either_20 : decode cX12_either 20 = .ok (.ifCond .ne 7, 3) := by decide +kernel
theorem dX12_either_23 : decode cX12_either 23 = .ok (.iload_n 2, 1) := by decide +kernel
theorem dX12_either_24 : decode cX12_either 24 = .ok (.ifCond .eq 7, 3) := by decide +kernel
theorem dX12_either_27 : decode cX12_either 27 = .ok (.iconst 1, 1) := by decide +kernel
theorem dX12_either_28 : decode cX12_either 28 = .ok (.goto 4, 3) := by decide +kernel
theorem dX12_either_31 : decode cX12_either 31 = .ok (.iconst 0, 1) := by decide +kernel
theorem dX12_either_32 : decode cX12_either 32 = .ok (.istore_n 1, 1) := by decide +kernel
theorem dX12_either_33 : decode cX12_either 33 = .ok (.goto (-28), 3) := by decide +kernel
theorem dX12_either_36 : decode cX12_either 36 = .ok (.iload_n 1, 1) := by decide +kernel
theorem dX12_either_37 : decode cX12_either 37 = .ok (.ireturn, 1) := by decide +kernel
theorem dX12_both_0 : decode cX12_both 0 = .ok (.aload_n 0, 1) := by decide +kernel
theorem dX12_both_1 : decode cX12_both 1 = .ok (.invokevirtual 88, 3) := by decide +kernel
theorem dX12_both_4 : decode cX12_both 4 = .ok (.istore_n 1, 1) := by decide +kernel
theorem dX12_both_5 : decode cX12_both 5 = .ok (.aload_n 0, 1) := by decide +kernel
theorem dX12_both_6 : decode cX12_both 6 = .ok (.bipush 38, 2) := by decide +kernel
theorem dX12_both_8 : decode cX12_both 8 = .ok (.invokevirtual 84, 3) := by decide +kernel
theorem dX12_both_11 : decode cX12_both 11 = .ok (.ifCond .eq 25, 3) := by decide +kernel
theorem dX12_both_14 : decode cX12_both 14 = .ok (.aload_n 0, 1) := by decide +kernel
theorem dX12_both_15 : decode cX12_both 15 = .ok (.invokevirtual 88, 3) := by decide +kernel
theorem dX12_both_18 : decode cX12_both 18 = .ok (.istore_n 2, 1) := by decide +kernel
theorem dX12_both_19 : decode cX12_both 19 = .ok (.iload_n 1, 1) := by decide +kernel
theorem dX12_both_20 : decode cX12_both 20 = .ok (.ifCond .eq 11, 3) := by decide +kernel
theorem dX12_both_23 : decode cX12_both 23 = .ok (.iload_n 2, 1) := by decide +kernel
theorem dX12_both_24 : decode cX12_both 24 = .ok (.ifCond .eq 7, 3) := by decide +kernel
theorem dX12_both_27 : decode cX12_both 27 = .ok (.iconst 1, 1) := by decide +kernel
theorem dX12_both_28 : decode cX12_both 28 = .ok (.goto 4, 3) := by decide +kernel
theorem dX12_both_31 : decode cX12_both 31 = .ok (.iconst 0, 1) := by decide +kernel
theorem dX12_both_32 : decode cX12_both 32 = .ok (.istore_n 1, 1) := by decide +kernel
theorem dX12_both_33 : decode cX12_both 33 = .ok (.goto (-28), 3) := by decide +kernel
theorem dX12_both_36 : decode cX12_both 36 = .ok (.iload_n 1, 1) := by decide +kernel
theorem dX12_both_37 : decode cX12_both 37 = .ok (.ireturn, 1) := by decide +kernel
theorem dX12_compared_0 : decode cX12_compared 0 = .ok (.aload_n 0, 1) := by decide +kernel
theorem dX12_compared_1 : decode cX12_compared 1 = .ok (.invokevirtual 91, 3) := by decide +kernel
theorem dX12_compared_4 : decode cX12_compared 4 = .ok (.istore_n 1, 1) := by decide +kernel
theorem dX12_compared_5 : decode cX12_compared 5 = .ok (.aload_n 0, 1) := by decide +kernel
theorem dX12_compared_6 : decode cX12_compared 6 = .ok (.invokevirtual 73, 3) := by decide +kernel
theorem dX12_compared_9 : decode cX12_compared 9 = .ok (.istore_n 2, 1) := by decide +kernel
theorem dX12_compared_10 : decode cX12_compared 10 = .ok (.iload_n 2, 1) := by decide +kernel
theorem dX12_compared_11 : decode cX12_compared 11 = .ok (.bipush 60, 2) := by decide +kernel
theorem dX12_compared_13 : decode cX12_compared 13 = .ok (.if_icmp .eq 17, 3) := by decide +kernel
theorem dX12_compared_16 : decode cX12_compared 16 = .ok (.iload_n 2, 1) := by decide +kernel
theorem dX12_compared_17 : decode cX12_compared 17 = .ok (.bipush 61, 2) := by decide +kernel
theorem dX12_compared_19 : decode cX12_compared 19 = .ok (.if_icmp .eq 11, 3) := by decide +kernel
theorem dX12_compared_22 : decode cX12_compared 22 = .ok (.iload_n 2, 1) := by decide +kernel
theorem dX12_compared_23 : decode cX12_compared 23 = .ok (.bipush 62, 2) := by decide +kernel
theorem dX12_compared_25 : decode cX12_compared 25 = .ok (.if_icmp .eq 5, 3) := by decide +kernel
theorem dX12_compared_28 : decode cX12_compared 28 = .ok (.iload_n 1, 1) := by decide +kernel
theorem dX12_compared_29 : decode cX12_compared 29 = .ok (.ireturn, 1) := by decide +kernel
theorem dX12_compared_30 : decode cX12_compared 30 = .ok (.aload_n 0, 1) := by decide +kernel
theorem dX12_compared_31 : decode cX12_compared 31 = .ok (.dup, 1) := by decide +kernel
theorem dX12_compared_32 : decode cX12_compared 32 = .ok (.getfield 60, 3) := by decide +kernel
theorem dX12_compared_35 : decode cX12_compared 35 = .ok (.iconst 1, 1) := by decide +kernel
theorem dX12_compared_36 : decode cX12_compared 36 = .ok (.iadd, 1) := by decide +kernel
theorem dX12_compared_37 : decode cX12_compared 37 = .ok (.putfield 60, 3) := by decide +kernel
theorem dX12_compared_40 : decode cX12_compared 40 = .ok (.aload_n 0, 1) := by decide +kernel
theorem dX12_compared_41 : decode cX12_compared 41 = .ok (.invokevirtual 91, 3) := by decide +kernel
theorem dX12_compared_44 : decode cX12_compared 44 = .ok (.istore_n 3, 1) := by decide +kernel
theorem dX12_compared_45 : decode cX12_compared 45 = .ok (.iload_n 2, 1) := by decide +kernel
theorem dX12_compared_46 : decode cX12_compared 46 = .ok (.bipush 60, 2) := by decide +kernel
theorem dX12_compared_48 : decode cX12_compared 48 = .ok (.if_icmp .ne 11, 3) := by decide +kernel
theorem dX12_compared_51 : decode cX12_compared 51 = .ok (.iload_n 1, 1) := by decide +kernel
theorem dX12_compared_52 : decode cX12_compared 52 = .ok (.iload_n 3, 1) := by decide +kernel
theorem dX12_compared_53 : decode cX12_compared 53 = .ok (.if_icmp .ge 29, 3) := by decide +kernel
theorem dX12_compared_56 : decode cX12_compared 56 = .ok (.goto 22, 3) := by decide +kernel
theorem dX12_compared_59 : decode cX12_compared 59 = .ok (.iload_n 2, 1) := by decide +kernel
theorem dX12_compared_60 : decode cX12_compared 60 = .ok (.bipush 61, 2) := by decide +kernel
theorem dX12_compared_62 : decode cX12_compared 62 = .ok (.if_icmp .ne 11, 3) := by decide +kernel
theorem dX12_compared_65 : decode cX12_compared 65 = .ok (.iload_n 1, 1) := by decide +kernel
theorem dX12_compared_66 : decode cX12_compared 66 = .ok (.iload_n 3, 1) := by decide +kernel
theorem dX12_compared_67 : decode cX12_compared 67 = .ok (.if_icmp .ne 15, 3) := by decide +kernel
theorem dX12_compared_70 : decode cX12_compared 70 = .ok (.goto 8, 3) := by decide +kernel
theorem dX12_compared_73 : decode cX12_compared 73 = .ok (.iload_n 1, 1) := by decide +kernel
theorem dX12_compared_74 : decode cX12_compared 74 = .ok (.iload_n 3, 1) := by decide +kernel
theorem dX12_compared_75 : decode cX12_compared 75 = .ok (.if_icmp .le 7, 3) := by decide +kernel
theorem dX12_compared_78 : decode cX12_compared 78 = .ok (.iconst 1, 1) := by decide +kernel
theorem dX12_compared_79 : decode cX12_compared 79 = .ok (.goto 4, 3) := by decide +kernel
theorem dX12_compared_82 : decode cX12_compared 82 = .ok (.iconst 0, 1) := by decide +kernel
theorem dX12_compared_83 : decode cX12_compared 83 = .ok (.ireturn, 1) := by decide +kernel
theorem dX12_sum_0 : decode cX12_sum 0 = .ok (.aload_n 0, 1) := by decide +kernel
theorem dX12_sum_1 : decode cX12_sum 1 = .ok (.invokevirtual 94, 3) := by decide +kernel
theorem dX12_sum_4 : decode cX12_sum 4 = .ok (.istore_n 1, 1) := by decide +kernel
theorem dX12_sum_5 : decode cX12_sum 5 = .ok (.aload_n 0, 1) := by decide +kernel
theorem dX12_sum_6 : decode cX12_sum 6 = .ok (.invokevirtual 73, 3) := by decide +kernel
theorem dX12_sum_9 : decode cX12_sum 9 = .ok (.bipush 43, 2) := by decide +kernel
theorem dX12_sum_11 : decode cX12_sum 11 = .ok (.if_icmp .eq 12, 3) := by decide +kernel
theorem dX12_sum_14 : decode cX12_sum 14 = .ok (.aload_n 0, 1) := by decide +kernel
theorem dX12_sum_15 : decode cX12_sum 15 = .ok (.invokevirtual 73, 3) := by decide +kernel
theorem dX12_sum_18 : decode cX12_sum 18 = .ok (.bipush 45, 2) := by decide +kernel
theorem dX12_sum_20 : decode cX12_sum 20 = .ok (.if_icmp .ne 42, 3) := by decide +kernel
theorem dX12_sum_23 : decode cX12_sum 23 = .ok (.aload_n 0, 1) := by decide +kernel
theorem dX12_sum_24 : decode cX12_sum 24 = .ok (.invokevirtual 73, 3) := by decide +kernel
theorem dX12_sum_27 : decode cX12_sum 27 = .ok (.istore_n 2, 1) := by decide +kernel
theorem dX12_sum_28 : decode cX12_sum 28 = .ok (.aload_n 0, 1) := by decide +kernel
theorem dX12_sum_29 : decode cX12_sum 29 = .ok (.dup, 1) := by decide +kernel
theorem dX12_sum_30 : decode cX12_sum 30 = .ok (.getfield 60, 3) := by decide +kernel
theorem dX12_sum_33 : decode cX12_sum 33 = .ok (.iconst 1, 1) := by decide +kernel
theorem dX12_sum_34 : decode cX12_sum 34 = .ok (.iadd, 1) := by decide +kernel
theorem dX12_sum_35 : decode cX12_sum 35 = .ok (.putfield 60, 3) := by decide +kernel
theorem dX12_sum_38 : decode cX12_sum 38 = .ok (.aload_n 0, 1) := by decide +kernel
theorem dX12_sum_39 : decode cX12_sum 39 = .ok (.invokevirtual 94, 3) := by decide +kernel
theorem dX12_sum_42 : decode cX12_sum 42 = .ok (.istore_n 3, 1) := by decide +kernel
theorem dX12_sum_43 : decode cX12_sum 43 = .ok (.iload_n 2, 1) := by decide +kernel
theorem dX12_sum_44 : decode cX12_sum 44 = .ok (.bipush 43, 2) := by decide +kernel
theorem dX12_sum_46 : decode cX12_sum 46 = .ok (.if_icmp .ne 9, 3) := by decide +kernel
theorem dX12_sum_49 : decode cX12_sum 49 = .ok (.iload_n 1, 1) := by decide +kernel
theorem dX12_sum_50 : decode cX12_sum 50 = .ok (.iload_n 3, 1) := by decide +kernel
theorem dX12_sum_51 : decode cX12_sum 51 = .ok (.iadd, 1) := by decide +kernel
theorem dX12_sum_52 : decode cX12_sum 52 = .ok (.goto 6, 3) := by decide +kernel
theorem dX12_sum_55 : decode cX12_sum 55 = .ok (.iload_n 1, 1) := by decide +kernel
theorem dX12_sum_56 : decode cX12_sum 56 = .ok (.iload_n 3, 1) := by decide +kernel
theorem dX12_sum_57 : decode cX12_sum 57 = .ok (.isub, 1) := by decide +kernel
theorem dX12_sum_58 : decode cX12_sum 58 = .ok (.istore_n 1, 1) := by decide +kernel
theorem dX12_sum_59 : decode cX12_sum 59 = .ok (.goto (-54), 3) := by decide +kernel
theorem dX12_sum_62 : decode cX12_sum 62 = .ok (.iload_n 1, 1) := by decide +kernel
theorem dX12_sum_63 : decode cX12_sum 63 = .ok (.ireturn, 1) := by decide +kernel
theorem dX12_product_0 : decode cX12_product 0 = .ok (.aload_n 0, 1) := by decide +kernel
theorem dX12_product_1 : decode cX12_product 1 = .ok (.invokevirtual 97, 3) := by decide +kernel
theorem dX12_product_4 : decode cX12_product 4 = .ok (.istore_n 1, 1) := by decide +kernel
theorem dX12_product_5 : decode cX12_product 5 = .ok (.aload_n 0, 1) := by decide +kernel
theorem dX12_product_6 : decode cX12_product 6 = .ok (.invokevirtual 73, 3) := by decide +kernel
theorem dX12_product_9 : decode cX12_product 9 = .ok (.bipush 42, 2) := by decide +kernel
theorem dX12_product_11 : decode cX12_product 11 = .ok (.if_icmp .eq 21, 3) := by decide +kernel
theorem dX12_product_14 : decode cX12_product 14 = .ok (.aload_n 0, 1) := by decide +kernel
theorem dX12_product_15 : decode cX12_product 15 = .ok (.invokevirtual 73, 3) := by decide +kernel
theorem dX12_product_18 : decode cX12_product 18 = .ok (.bipush 47, 2) := by decide +kernel
theorem dX12_product_20 : decode cX12_product 20 = .ok (.if_icmp .eq 12, 3) := by decide +kernel
theorem dX12_product_23 : decode cX12_product 23 = .ok (.aload_n 0, 1) := by decide +kernel
theorem dX12_product_24 : decode cX12_product 24 = .ok (.invokevirtual 73, 3) := by decide +kernel
theorem dX12_product_27 : decode cX12_product 27 = .ok (.bipush 37, 2) := by decide +kernel
theorem dX12_product_29 : decode cX12_product 29 = .ok (.if_icmp .ne 62, 3) := by decide +kernel
theorem dX12_product_32 : decode cX12_product 32 = .ok (.aload_n 0, 1) := by decide +kernel
theorem dX12_product_33 : decode cX12_product 33 = .ok (.invokevirtual 73, 3) := by decide +kernel
theorem dX12_product_36 : decode cX12_product 36 = .ok (.istore_n 2, 1) := by decide +kernel
theorem dX12_product_37 : decode cX12_product 37 = .ok (.aload_n 0, 1) := by decide +kernel
theorem dX12_product_38 : decode cX12_product 38 = .ok (.dup, 1) := by decide +kernel
theorem dX12_product_39 : decode cX12_product 39 = .ok (.getfield 60, 3) := by decide +kernel
theorem dX12_product_42 : decode cX12_product 42 = .ok (.iconst 1, 1) := by decide +kernel
theorem dX12_product_43 : decode cX12_product 43 = .ok (.iadd, 1) := by decide +kernel
theorem dX12_product_44 : decode cX12_product 44 = .ok (.putfield 60, 3) := by decide +kernel
theorem dX12_product_47 : decode cX12_product 47 = .ok (.aload_n 0, 1) := by decide +kernel
theorem dX12_product_48 : decode cX12_product 48 = .ok (.invokevirtual 97, 3) := by decide +kernel
theorem dX12_product_51 : decode cX12_product 51 = .ok (.istore_n 3, 1) := by decide +kernel
theorem dX12_product_52 : decode cX12_product 52 = .ok (.iload_n 2, 1) := by decide +kernel
theorem dX12_product_53 : decode cX12_product 53 = .ok (.bipush 42, 2) := by decide +kernel
theorem dX12_product_55 : decode cX12_product 55 = .ok (.if_icmp .ne 9, 3) := by decide +kernel
theorem dX12_product_58 : decode cX12_product 58 = .ok (.iload_n 1, 1) := by decide +kernel
theorem dX12_product_59 : decode cX12_product 59 = .ok (.iload_n 3, 1) := by decide +kernel
theorem dX12_product_60 : decode cX12_product 60 = .ok (.imul, 1) := by decide +kernel
theorem dX12_product_61 : decode cX12_product 61 = .ok (.goto 26, 3) := by decide +kernel
theorem dX12_product_64 : decode cX12_product 64 = .ok (.iload_n 3, 1) := by decide +kernel
theorem dX12_product_65 : decode cX12_product 65 = .ok (.ifCond .ne 7, 3) := by decide +kernel
theorem dX12_product_68 : decode cX12_product 68 = .ok (.iconst 0, 1) := by decide +kernel
theorem dX12_product_69 : decode cX12_product 69 = .ok (.goto 18, 3) := by decide +kernel
theorem dX12_product_72 : decode cX12_product 72 = .ok (.iload_n 2, 1) := by decide +kernel
theorem dX12_product_73 : decode cX12_product 73 = .ok (.bipush 47, 2) := by decide +kernel
theorem dX12_product_75 : decode cX12_product 75 = .ok (.if_icmp .ne 9, 3) := by decide +kernel
theorem dX12_product_78 : decode cX12_product 78 = .ok (.iload_n 1, 1) := by decide +kernel
theorem dX12_product_79 : decode cX12_product 79 = .ok (.iload_n 3, 1) := by decide +kernel
theorem dX12_product_80 : decode cX12_product 80 = .ok (.idiv, 1) := by decide +kernel
theorem dX12_product_81 : decode cX12_product 81 = .ok (.goto 6, 3) := by decide +kernel
theorem dX12_product_84 : decode cX12_product 84 = .ok (.iload_n 1, 1) := by decide +kernel
theorem dX12_product_85 : decode cX12_product 85 = .ok (.iload_n 3, 1) := by decide +kernel
theorem dX12_product_86 : decode cX12_product 86 = .ok (.irem, 1) := by decide +kernel
theorem dX12_product_87 : decode cX12_product 87 = .ok (.istore_n 1, 1) := by decide +kernel
theorem dX12_product_88 : decode cX12_product 88 = .ok (.goto (-83), 3) := by decide +kernel
theorem dX12_product_91 : decode cX12_product 91 = .ok (.iload_n 1, 1) := by decide +kernel
theorem dX12_product_92 : decode cX12_product 92 = .ok (.ireturn, 1) := by decide +kernel
theorem dX12_unit_0 : decode cX12_unit 0 = .ok (.aload_n 0, 1) := by decide +kernel
theorem dX12_unit_1 : decode cX12_unit 1 = .ok (.invokevirtual 73, 3) := by decide +kernel
theorem dX12_unit_4 : decode cX12_unit 4 = .ok (.istore_n 1, 1) := by decide +kernel
theorem dX12_unit_5 : decode cX12_unit 5 = .ok (.iload_n 1, 1) := by decide +kernel
theorem dX12_unit_6 : decode cX12_unit 6 = .ok (.bipush 33, 2) := by decide +kernel
theorem dX12_unit_8 : decode cX12_unit 8 = .ok (.if_icmp .eq 9, 3) := by decide +kernel
theorem dX12_unit_11 : decode cX12_unit 11 = .ok (.iload_n 1, 1) := by decide +kernel
theorem dX12_unit_12 : decode cX12_unit 12 = .ok (.bipush 40, 2) := by decide +kernel
theorem dX12_unit_14 : decode cX12_unit 14 = .ok (.if_icmp .ne 104, 3) := by decide +kernel
theorem dX12_unit_17 : decode cX12_unit 17 = .ok (.aload_n 0, 1) := by decide +kernel
theorem dX12_unit_18 : decode cX12_unit 18 = .ok (.getfield 100, 3) := by decide +kernel
theorem dX12_unit_21 : decode cX12_unit 21 = .ok (.iconst 5, 1) := by decide +kernel
theorem dX12_unit_22 : decode cX12_unit 22 = .ok (.if_icmp .ne 8, 3) := by decide +kernel
theorem dX12_unit_25 : decode cX12_unit 25 = .ok (.aload_n 0, 1) := by decide +kernel
theorem dX12_unit_26 : decode cX12_unit 26 = .ok (.invokevirtual 103, 3) := by decide +kernel
theorem dX12_unit_29 : decode cX12_unit 29 = .ok (.ireturn, 1) := by decide +kernel
theorem dX12_unit_30 : decode cX12_unit 30 = .ok (.aload_n 0, 1) := by decide +kernel
theorem dX12_unit_31 : decode cX12_unit 31 = .ok (.dup, 1) := by decide +kernel
theorem dX12_unit_32 : decode cX12_unit 32 = .ok (.getfield 100, 3) := by decide +kernel
theorem dX12_unit_35 : decode cX12_unit 35 = .ok (.iconst 1, 1) := by decide +kernel
theorem dX12_unit_36 : decode cX12_unit 36 = .ok (.iadd, 1) := by decide +kernel
theorem dX12_unit_37 : decode cX12_unit 37 = .ok (.putfield 100, 3) := by decide +kernel
theorem dX12_unit_40 : decode cX12_unit 40 = .ok (.aload_n 0, 1) := by decide +kernel
theorem dX12_unit_41 : decode cX12_unit 41 = .ok (.dup, 1) := by decide +kernel
theorem dX12_unit_42 : decode cX12_unit 42 = .ok (.getfield 60, 3) := by decide +kernel
theorem dX12_unit_45 : decode cX12_unit 45 = .ok (.iconst 1, 1) := by decide +kernel
theorem dX12_unit_46 : decode cX12_unit 46 = .ok (.iadd, 1) := by decide +kernel
theorem dX12_unit_47 : decode cX12_unit 47 = .ok (.putfield 60, 3) := by decide +kernel
theorem dX12_unit_50 : decode cX12_unit 50 = .ok (.iload_n 1, 1) := by decide +kernel
theorem dX12_unit_51 : decode cX12_unit 51 = .ok (.bipush 40, 2) := by decide +kernel
theorem dX12_unit_53 : decode cX12_unit 53 = .ok (.if_icmp .ne 10, 3) := by decide +kernel
theorem dX12_unit_56 : decode cX12_unit 56 = .ok (.aload_n 0, 1) := by decide +kernel
theorem dX12_unit_57 : decode cX12_unit 57 = .ok (.invokevirtual 106, 3) := by decide +kernel
theorem dX12_unit_60 : decode cX12_unit 60 = .ok (.goto 7, 3) := by decide +kernel
theorem dX12_unit_63 : decode cX12_unit 63 = .ok (.aload_n 0, 1) := by decide +kernel
theorem dX12_unit_64 : decode cX12_unit 64 = .ok (.invokevirtual 97, 3) := by decide +kernel
theorem dX12_unit_67 : decode cX12_unit 67 = .ok (.istore_n 2, 1) := by decide +kernel
theorem dX12_unit_68 : decode cX12_unit 68 = .ok (.iload_n 1, 1) := by decide +kernel
theorem dX12_unit_69 : decode cX12_unit 69 = .ok (.bipush 40, 2) := by decide +kernel
theorem dX12_unit_71 : decode cX12_unit 71 = .ok (.if_icmp .ne 17, 3) := by decide +kernel
theorem dX12_unit_74 : decode cX12_unit 74 = .ok (.aload_n 0, 1) := by decide +kernel
theorem dX12_unit_75 : decode cX12_unit 75 = .ok (.bipush 41, 2) := by decide +kernel
theorem dX12_unit_77 : decode cX12_unit 77 = .ok (.invokevirtual 84, 3) := by decide +kernel
theorem dX12_unit_80 : decode cX12_unit 80 = .ok (.ifCond .ne 8, 3) := by decide +kernel
theorem dX12_unit_83 : decode cX12_unit 83 = .ok (.aload_n 0, 1) := by decide +kernel
theorem dX12_unit_84 : decode cX12_unit 84 = .ok (.invokevirtual 103, 3) := by decide +kernel
theorem dX12_unit_87 : decode cX12_unit 87 = .ok (.ireturn, 1) := by decide +kernel
theorem dX12_unit_88 : decode cX12_unit 88 = .ok (.aload_n 0, 1) := by decide +kernel
theorem dX12_unit_89 : decode cX12_unit 89 = .ok (.dup, 1) := by decide +kernel
theorem dX12_unit_90 : decode cX12_unit 90 = .ok (.getfield 100, 3) := by decide +kernel
theorem dX12_unit_93 : decode cX12_unit 93 = .ok (.iconst 1, 1) := by decide +kernel
theorem dX12_unit_94 : decode cX12_unit 94 = .ok (.isub, 1) := by decide +kernel
theorem dX12_unit_95 : decode cX12_unit 95 = .ok (.putfield 100, 3) := by decide +kernel
theorem dX12_unit_98 : decode cX12_unit 98 = .ok (.iload_n 1, 1) := by decide +kernel
theorem dX12_unit_99 : decode cX12_unit 99 = .ok (.bipush 40, 2) := by decide +kernel
theorem dX12_unit_101 : decode cX12_unit 101 = .ok (.if_icmp .ne 7, 3) := by decide +kernel
theorem dX12_unit_104 : decode cX12_unit 104 = .ok (.iload_n 2, 1) := by decide +kernel
theorem dX12_unit_105 : decode cX12_unit 105 = .ok (.goto 12, 3) := by decide +kernel
theorem dX12_unit_108 : decode cX12_unit 108 = .ok (.iload_n 2, 1) := by decide +kernel
theorem dX12_unit_109 : decode cX12_unit 109 = .ok (.ifCond .ne 7, 3) := by decide +kernel
theorem dX12_unit_112 : decode cX12_unit 112 = .ok (.iconst 1, 1) := by decide +kernel
theorem dX12_unit_113 : decode cX12_unit 113 = .ok (.goto 4, 3) := by decide +kernel
theorem dX12_unit_116 : decode cX12_unit 116 = .ok (.iconst 0, 1) := by decide +kernel
theorem dX12_unit_117 : decode cX12_unit 117 = .ok (.ireturn, 1) := by decide +kernel
theorem dX12_unit_118 : decode cX12_unit 118 = .ok (.aload_n 0, 1) := by decide +kernel
theorem dX12_unit_119 : decode cX12_unit 119 = .ok (.iload_n 1, 1) := by decide +kernel
theorem dX12_unit_120 : decode cX12_unit 120 = .ok (.invokevirtual 109, 3) := by decide +kernel
theorem dX12_unit_123 : decode cX12_unit 123 = .ok (.istore_n 2, 1) := by decide +kernel
theorem dX12_unit_124 : decode cX12_unit 124 = .ok (.iload_n 2, 1) := by decide +kernel
theorem dX12_unit_125 : decode cX12_unit 125 = .ok (.ifCond .lt 20, 3) := by decide +kernel
theorem dX12_unit_128 : decode cX12_unit 128 = .ok (.aload_n 0, 1) := by decide +kernel
theorem dX12_unit_129 : decode cX12_unit 129 = .ok (.dup, 1) := by decide +kernel
theorem dX12_unit_130 : decode cX12_unit 130 = .ok (.getfield 60, 3) := by decide +kernel
theorem dX12_unit_133 : decode cX12_unit 133 = .ok (.iconst 1, 1) := by decide +kernel
theorem dX12_unit_134 : decode cX12_unit 134 = .ok (.iadd, 1) := by decide +kernel
theorem dX12_unit_135 : decode cX12_unit 135 = .ok (.putfield 60, 3) := by decide +kernel
theorem dX12_unit_138 : decode cX12_unit 138 = .ok (.aload_n 0, 1) := by decide +kernel
theorem dX12_unit_139 : decode cX12_unit 139 = .ok (.getfield 22, 3) := by decide +kernel
theorem dX12_unit_142 : decode cX12_unit 142 = .ok (.iload_n 2, 1) := by decide +kernel
theorem dX12_unit_143 : decode cX12_unit 143 = .ok (.iaload, 1) := by decide +kernel
theorem dX12_unit_144 : decode cX12_unit 144 = .ok (.ireturn, 1) := by decide +kernel
theorem dX12_unit_145 : decode cX12_unit 145 = .ok (.iconst 0, 1) := by decide +kernel
theorem dX12_unit_146 : decode cX12_unit 146 = .ok (.istore_n 3, 1) := by decide +kernel
theorem dX12_unit_147 : decode cX12_unit 147 = .ok (.iconst 0, 1) := by decide +kernel
theorem dX12_unit_148 : decode cX12_unit 148 = .ok (.istore 4, 2) := by decide +kernel
theorem dX12_unit_150 : decode cX12_unit 150 = .ok (.iload 4, 2) := by decide +kernel
theorem dX12_unit_152 : decode cX12_unit 152 = .ok (.iconst 4, 1) := by decide +kernel
theorem dX12_unit_153 : decode cX12_unit 153 = .ok (.if_icmp .ge 49, 3) := by decide +kernel
theorem dX12_unit_156 : decode cX12_unit 156 = .ok (.aload_n 0, 1) := by decide +kernel
theorem dX12_unit_157 : decode cX12_unit 157 = .ok (.invokevirtual 73, 3) := by decide +kernel
theorem dX12_unit_160 : decode cX12_unit 160 = .ok (.i2l, 1) := by decide +kernel
theorem dX12_unit_161 : decode cX12_unit 161 = .ok (.ldc2_w 113, 3) := by decide +kernel
theorem dX12_unit_164 : decode cX12_unit 164 = .ok (.ldc2_w 115, 3) := by decide +kernel
theorem dX12_unit_167 : decode cX12_unit 167 = .ok (.invokestatic 56, 3) := by decide +kernel
theorem dX12_unit_170 : decode cX12_unit 170 = .ok (.ifCond .eq 32, 3) := by decide +kernel
theorem dX12_unit_173 : decode cX12_unit 173 = .ok (.bipush 10, 2) := by decide +kernel
theorem dX12_unit_175 : decode cX12_unit 175 = .ok (.iload_n 3, 1) := by decide +kernel
theorem dX12_unit_176 : decode cX12_unit 176 = .ok (.imul, 1) := by decide +kernel
theorem dX12_unit_177 : decode cX12_unit 177 = .ok (.aload_n 0, 1) := by decide +kernel
theorem dX12_unit_178 : decode cX12_unit 178 = .ok (.invokevirtual 73, 3) := by decide +kernel
theorem dX12_unit_181 : decode cX12_unit 181 = .ok (.iadd, 1) := by decide +kernel
theorem dX12_unit_182 : decode cX12_unit 182 = .ok (.bipush 48, 2) := by decide +kernel
theorem dX12_unit_184 : decode cX12_unit 184 = .ok (.isub, 1) := by decide +kernel
theorem dX12_unit_185 : decode cX12_unit 185 = .ok (.istore_n 3, 1) := by decide +kernel
theorem dX12_unit_186 : decode cX12_unit 186 = .ok (.aload_n 0, 1) := by decide +kernel
theorem dX12_unit_187 : decode cX12_unit 187 = .ok (.dup, 1) := by decide +kernel
theorem dX12_unit_188 : decode cX12_unit 188 = .ok (.getfield 60, 3) := by decide +kernel
theorem dX12_unit_191 : decode cX12_unit 191 = .ok (.iconst 1, 1) := by decide +kernel
theorem dX12_unit_192 : decode cX12_unit 192 = .ok (.iadd, 1) := by decide +kernel
theorem dX12_unit_193 : decode cX12_unit 193 = .ok (.putfield 60, 3) := by decide +kernel
theorem dX12_unit_196 : decode cX12_unit 196 = .ok (.iinc 4 1, 3) := by decide +kernel
theorem dX12_unit_199 : decode cX12_unit 199 = .ok (.goto (-49), 3) := by decide +kernel
theorem dX12_unit_202 : decode cX12_unit 202 = .ok (.iload 4, 2) := by decide +kernel
theorem dX12_unit_204 : decode cX12_unit 204 = .ok (.ifCond .ne 10, 3) := by decide +kernel
theorem dX12_unit_207 : decode cX12_unit 207 = .ok (.aload_n 0, 1) := by decide +kernel
theorem dX12_unit_208 : decode cX12_unit 208 = .ok (.invokevirtual 103, 3) := by decide +kernel
theorem dX12_unit_211 : decode cX12_unit 211 = .ok (.goto 4, 3) := by decide +kernel
theorem dX12_unit_214 : decode cX12_unit 214 = .ok (.iload_n 3, 1) := by decide +kernel
theorem dX12_unit_215 : decode cX12_unit 215 = .ok (.ireturn, 1) := by decide +kernel
theorem dX12_worked_0 : decode cX12_worked 0 = .ok (.aload_n 0, 1) := by decide +kernel
theorem dX12_worked_1 : decode cX12_worked 1 = .ok (.iload_n 1, 1) := by decide +kernel
theorem dX12_worked_2 : decode cX12_worked 2 = .ok (.putfield 70, 3) := by decide +kernel
theorem dX12_worked_5 : decode cX12_worked 5 = .ok (.aload_n 0, 1) := by decide +kernel
theorem dX12_worked_6 : decode cX12_worked 6 = .ok (.iconst 0, 1) := by decide +kernel
theorem dX12_worked_7 : decode cX12_worked 7 = .ok (.putfield 60, 3) := by decide +kernel
theorem dX12_worked_10 : decode cX12_worked 10 = .ok (.aload_n 0, 1) := by decide +kernel
theorem dX12_worked_11 : decode cX12_worked 11 = .ok (.iload_n 2, 1) := by decide +kernel
theorem dX12_worked_12 : decode cX12_worked 12 = .ok (.putfield 64, 3) := by decide +kernel
theorem dX12_worked_15 : decode cX12_worked 15 = .ok (.aload_n 0, 1) := by decide +kernel
theorem dX12_worked_16 : decode cX12_worked 16 = .ok (.iconst (-1), 1) := by decide +kernel
theorem dX12_worked_17 : decode cX12_worked 17 = .ok (.putfield 67, 3) := by decide +kernel
theorem dX12_worked_20 : decode cX12_worked 20 = .ok (.aload_n 0, 1) := by decide +kernel
theorem dX12_worked_21 : decode cX12_worked 21 = .ok (.iconst 0, 1) := by decide +kernel
theorem dX12_worked_22 : decode cX12_worked 22 = .ok (.putfield 100, 3) := by decide +kernel
theorem dX12_worked_25 : decode cX12_worked 25 = .ok (.aload_n 0, 1) := by decide +kernel
theorem dX12_worked_26 : decode cX12_worked 26 = .ok (.iload_n 3, 1) := by decide +kernel
theorem dX12_worked_27 : decode cX12_worked 27 = .ok (.iconst 1, 1) := by decide +kernel
theorem dX12_worked_28 : decode cX12_worked 28 = .ok (.if_icmp .ne 7, 3) := by decide +kernel
theorem dX12_worked_31 : decode cX12_worked 31 = .ok (.iconst 1, 1) := by decide +kernel
theorem dX12_worked_32 : decode cX12_worked 32 = .ok (.goto 4, 3) := by decide +kernel
theorem dX12_worked_35 : decode cX12_worked 35 = .ok (.iconst 0, 1) := by decide +kernel
theorem dX12_worked_36 : decode cX12_worked 36 = .ok (.putfield 77, 3) := by decide +kernel
theorem dX12_worked_39 : decode cX12_worked 39 = .ok (.aload_n 0, 1) := by decide +kernel
theorem dX12_worked_40 : decode cX12_worked 40 = .ok (.invokevirtual 106, 3) := by decide +kernel
theorem dX12_worked_43 : decode cX12_worked 43 = .ok (.istore 4, 2) := by decide +kernel
theorem dX12_worked_45 : decode cX12_worked 45 = .ok (.aload_n 0, 1) := by decide +kernel
theorem dX12_worked_46 : decode cX12_worked 46 = .ok (.getfield 67, 3) := by decide +kernel
theorem dX12_worked_49 : decode cX12_worked 49 = .ok (.ifCond .ge 19, 3) := by decide +kernel
theorem dX12_worked_52 : decode cX12_worked 52 = .ok (.aload_n 0, 1) := by decide +kernel
theorem dX12_worked_53 : decode cX12_worked 53 = .ok (.getfield 60, 3) := by decide +kernel
theorem dX12_worked_56 : decode cX12_worked 56 = .ok (.aload_n 0, 1) := by decide +kernel
theorem dX12_worked_57 : decode cX12_worked 57 = .ok (.getfield 64, 3) := by decide +kernel
theorem dX12_worked_60 : decode cX12_worked 60 = .ok (.if_icmp .ge 8, 3) := by decide +kernel
theorem dX12_worked_63 : decode cX12_worked 63 = .ok (.aload_n 0, 1) := by decide +kernel
theorem dX12_worked_64 : decode cX12_worked 64 = .ok (.invokevirtual 103, 3) := by decide +kernel
theorem dX12_worked_67 : decode cX12_worked 67 = .ok (.ireturn, 1) := by decide +kernel
theorem dX12_worked_68 : decode cX12_worked 68 = .ok (.iload 4, 2) := by decide +kernel
theorem dX12_worked_70 : decode cX12_worked 70 = .ok (.ireturn, 1) := by decide +kernel
theorem dX12_feed_0 : decode cX12_feed 0 = .ok (.iload_n 3, 1) := by decide +kernel
theorem dX12_feed_1 : decode cX12_feed 1 = .ok (.i2l, 1) := by decide +kernel
theorem dX12_feed_2 : decode cX12_feed 2 = .ok (.lconst 1, 1) := by decide +kernel
theorem dX12_feed_3 : decode cX12_feed 3 = .ok (.ldc2_w 117, 3) := by decide +kernel
theorem dX12_feed_6 : decode cX12_feed 6 = .ok (.invokestatic 56, 3) := by decide +kernel
theorem dX12_feed_9 : decode cX12_feed 9 = .ok (.ifCond .ne 9, 3) := by decide +kernel
theorem dX12_feed_12 : decode cX12_feed 12 = .ok (.aload_n 0, 1) := by decide +kernel
theorem dX12_feed_13 : decode cX12_feed 13 = .ok (.iconst 1, 1) := by decide +kernel
theorem dX12_feed_14 : decode cX12_feed 14 = .ok (.invokevirtual 119, 3) := by decide +kernel
theorem dX12_feed_17 : decode cX12_feed 17 = .ok (.ireturn, 1) := by decide +kernel
theorem dX12_feed_18 : decode cX12_feed 18 = .ok (.aload_n 0, 1) := by decide +kernel
theorem dX12_feed_19 : decode cX12_feed 19 = .ok (.getfield 7, 3) := by decide +kernel
theorem dX12_feed_22 : decode cX12_feed 22 = .ok (.bipush 9, 2) := by decide +kernel
theorem dX12_feed_24 : decode cX12_feed 24 = .ok (.iaload, 1) := by decide +kernel
theorem dX12_feed_25 : decode cX12_feed 25 = .ok (.iload_n 3, 1) := by decide +kernel
theorem dX12_feed_26 : decode cX12_feed 26 = .ok (.iadd, 1) := by decide +kernel
theorem dX12_feed_27 : decode cX12_feed 27 = .ok (.bipush 50, 2) := by decide +kernel
theorem dX12_feed_29 : decode cX12_feed 29 = .ok (.if_icmp .le 9, 3) := by decide +kernel
theorem dX12_feed_32 : decode cX12_feed 32 = .ok (.aload_n 0, 1) := by decide +kernel
theorem dX12_feed_33 : decode cX12_feed 33 = .ok (.iconst 4, 1) := by decide +kernel
theorem dX12_feed_34 : decode cX12_feed 34 = .ok (.invokevirtual 119, 3) := by decide +kernel
theorem dX12_feed_37 : decode cX12_feed 37 = .ok (.ireturn, 1) := by decide +kernel
theorem dX12_feed_38 : decode cX12_feed 38 = .ok (.iconst 0, 1) := by decide +kernel
theorem dX12_feed_39 : decode cX12_feed 39 = .ok (.istore 4, 2) := by decide +kernel
theorem dX12_feed_41 : decode cX12_feed 41 = .ok (.iload 4, 2) := by decide +kernel
theorem dX12_feed_43 : decode cX12_feed 43 = .ok (.iload_n 3, 1) := by decide +kernel
theorem dX12_feed_44 : decode cX12_feed 44 = .ok (.if_icmp .ge 48, 3) := by decide +kernel
theorem dX12_feed_47 : decode cX12_feed 47 = .ok (.aload_n 0, 1) := by decide +kernel
theorem dX12_feed_48 : decode cX12_feed 48 = .ok (.getfield 7, 3) := by decide +kernel
theorem dX12_feed_51 : decode cX12_feed 51 = .ok (.sipush 212, 3) := by decide +kernel
theorem dX12_feed_54 : decode cX12_feed 54 = .ok (.aload_n 0, 1) := by decide +kernel
theorem dX12_feed_55 : decode cX12_feed 55 = .ok (.getfield 7, 3) := by decide +kernel
theorem dX12_feed_58 : decode cX12_feed 58 = .ok (.bipush 9, 2) := by decide +kernel
theorem dX12_feed_60 : decode cX12_feed 60 = .ok (.iaload, 1) := by decide +kernel
theorem dX12_feed_61 : decode cX12_feed 61 = .ok (.iadd, 1) := by decide +kernel
theorem dX12_feed_62 : decode cX12_feed 62 = .ok (.lload_n 1, 1) := by decide +kernel
theorem dX12_feed_63 : decode cX12_feed 63 = .ok (.bipush 8, 2) := by decide +kernel
theorem dX12_feed_65 : decode cX12_feed 65 = .ok (.iload 4, 2) := by decide +kernel
theorem dX12_feed_67 : decode cX12_feed 67 = .ok (.imul, 1) := by decide +kernel
theorem dX12_feed_68 : decode cX12_feed 68 = .ok (.lshr, 1) := by decide +kernel
theorem dX12_feed_69 : decode cX12_feed 69 = .ok (.ldc2_w 122, 3) := by decide +kernel
theorem dX12_feed_72 : decode cX12_feed 72 = .ok (.land, 1) := by decide +kernel
theorem dX12_feed_73 : decode cX12_feed 73 = .ok (.l2i, 1) := by decide +kernel
theorem dX12_feed_74 : decode cX12_feed 74 = .ok (.iastore, 1) := by decide +kernel
theorem dX12_feed_75 : decode cX12_feed 75 = .ok (.aload_n 0, 1) := by decide +kernel
theorem dX12_feed_76 : decode cX12_feed 76 = .ok (.getfield 7, 3) := by decide +kernel
theorem dX12_feed_79 : decode cX12_feed 79 = .ok (.bipush 9, 2) := by decide +kernel
theorem dX12_feed_81 : decode cX12_feed 81 = .ok (.dup2, 1) := by decide +kernel
theorem dX12_feed_82 : decode cX12_feed 82 = .ok (.iaload, 1) := by decide +kernel
theorem dX12_feed_83 : decode cX12_feed 83 = .ok (.iconst 1, 1) := by decide +kernel
theorem dX12_feed_84 : decode cX12_feed 84 = .ok (.iadd, 1) := by decide +kernel
theorem dX12_feed_85 : decode cX12_feed 85 = .ok (.iastore, 1) := by decide +kernel
theorem dX12_feed_86 : decode cX12_feed 86 = .ok (.iinc 4 1, 3) := by decide +kernel
theorem dX12_feed_89 : decode cX12_feed 89 = .ok (.goto (-48), 3) := by decide +kernel
theorem dX12_feed_92 : decode cX12_feed 92 = .ok (.aload_n 0, 1) := by decide +kernel
theorem dX12_feed_93 : decode cX12_feed 93 = .ok (.getfield 7, 3) := by decide +kernel
theorem dX12_feed_96 : decode cX12_feed 96 = .ok (.bipush 9, 2) := by decide +kernel
theorem dX12_feed_98 : decode cX12_feed 98 = .ok (.iaload, 1) := by decide +kernel
theorem dX12_feed_99 : decode cX12_feed 99 = .ok (.ireturn, 1) := by decide +kernel
theorem dX12_text_0 : decode cX12_text 0 = .ok (.iload_n 1, 1) := by decide +kernel
theorem dX12_text_1 : decode cX12_text 1 = .ok (.i2l, 1) := by decide +kernel
theorem dX12_text_2 : decode cX12_text 2 = .ok (.lconst 0, 1) := by decide +kernel
theorem dX12_text_3 : decode cX12_text 3 = .ok (.lconst 1, 1) := by decide +kernel
theorem dX12_text_4 : decode cX12_text 4 = .ok (.invokestatic 56, 3) := by decide +kernel
theorem dX12_text_7 : decode cX12_text 7 = .ok (.ifCond .ne 9, 3) := by decide +kernel
theorem dX12_text_10 : decode cX12_text 10 = .ok (.aload_n 0, 1) := by decide +kernel
theorem dX12_text_11 : decode cX12_text 11 = .ok (.iconst 1, 1) := by decide +kernel
theorem dX12_text_12 : decode cX12_text 12 = .ok (.invokevirtual 119, 3) := by decide +kernel
theorem dX12_text_15 : decode cX12_text 15 = .ok (.ireturn, 1) := by decide +kernel
theorem dX12_text_16 : decode cX12_text 16 = .ok (.aload_n 0, 1) := by decide +kernel
theorem dX12_text_17 : decode cX12_text 17 = .ok (.getfield 7, 3) := by decide +kernel
theorem dX12_text_20 : decode cX12_text 20 = .ok (.bipush 9, 2) := by decide +kernel
theorem dX12_text_22 : decode cX12_text 22 = .ok (.iaload, 1) := by decide +kernel
theorem dX12_text_23 : decode cX12_text 23 = .ok (.istore_n 2, 1) := by decide +kernel
theorem dX12_text_24 : decode cX12_text 24 = .ok (.aload_n 0, 1) := by decide +kernel
theorem dX12_text_25 : decode cX12_text 25 = .ok (.getfield 7, 3) := by decide +kernel
theorem dX12_text_28 : decode cX12_text 28 = .ok (.bipush 9, 2) := by decide +kernel
theorem dX12_text_30 : decode cX12_text 30 = .ok (.iconst 0, 1) := by decide +kernel
theorem dX12_text_31 : decode cX12_text 31 = .ok (.iastore, 1) := by decide +kernel
theorem dX12_text_32 : decode cX12_text 32 = .ok (.aload_n 0, 1) := by decide +kernel
theorem dX12_text_33 : decode cX12_text 33 = .ok (.sipush 212, 3) := by decide +kernel
theorem dX12_text_36 : decode cX12_text 36 = .ok (.iload_n 2, 1) := by decide +kernel
theorem dX12_text_37 : decode cX12_text 37 = .ok (.iload_n 1, 1) := by decide +kernel
theorem dX12_text_38 : decode cX12_text 38 = .ok (.invokevirtual 124, 3) := by decide +kernel
theorem dX12_text_41 : decode cX12_text 41 = .ok (.istore_n 3, 1) := by decide +kernel
theorem dX12_text_42 : decode cX12_text 42 = .ok (.aload_n 0, 1) := by decide +kernel
theorem dX12_text_43 : decode cX12_text 43 = .ok (.getfield 67, 3) := by decide +kernel
theorem dX12_text_46 : decode cX12_text 46 = .ok (.ifCond .lt 11, 3) := by decide +kernel
theorem dX12_text_49 : decode cX12_text 49 = .ok (.bipush (-10), 2) := by decide +kernel
theorem dX12_text_51 : decode cX12_text 51 = .ok (.aload_n 0, 1) := by decide +kernel
theorem dX12_text_52 : decode cX12_text 52 = .ok (.getfield 67, 3) := by decide +kernel
theorem dX12_text_55 : decode cX12_text 55 = .ok (.isub, 1) := by decide +kernel
theorem dX12_text_56 : decode cX12_text 56 = .ok (.ireturn, 1) := by decide +kernel
theorem dX12_text_57 : decode cX12_text 57 = .ok (.aload_n 0, 1) := by decide +kernel
theorem dX12_text_58 : decode cX12_text 58 = .ok (.getfield 7, 3) := by decide +kernel
theorem dX12_text_61 : decode cX12_text 61 = .ok (.bipush 90, 2) := by decide +kernel
theorem dX12_text_63 : decode cX12_text 63 = .ok (.iload_n 1, 1) := by decide +kernel
theorem dX12_text_64 : decode cX12_text 64 = .ok (.iadd, 1) := by decide +kernel
theorem dX12_text_65 : decode cX12_text 65 = .ok (.iload_n 2, 1) := by decide +kernel
theorem dX12_text_66 : decode cX12_text 66 = .ok (.iastore, 1) := by decide +kernel
theorem dX12_text_67 : decode cX12_text 67 = .ok (.iconst 0, 1) := by decide +kernel
theorem dX12_text_68 : decode cX12_text 68 = .ok (.istore 4, 2) := by decide +kernel
theorem dX12_text_70 : decode cX12_text 70 = .ok (.iload 4, 2) := by decide +kernel
theorem dX12_text_72 : decode cX12_text 72 = .ok (.iload_n 2, 1) := by decide +kernel
theorem dX12_text_73 : decode cX12_text 73 = .ok (.if_icmp .ge 35, 3) := by decide +kernel
theorem dX12_text_76 : decode cX12_text 76 = .ok (.aload_n 0, 1) := by decide +kernel
theorem dX12_text_77 : decode cX12_text 77 = .ok (.getfield 7, 3) := by decide +kernel
theorem dX12_text_80 : decode cX12_text 80 = .ok (.bipush 112, 2) := by decide +kernel
theorem dX12_text_82 : decode cX12_text 82 = .ok (.bipush 50, 2) := by decide +kernel
theorem dX12_text_84 : decode cX12_text 84 = .ok (.iload_n 1, 1) := by decide +kernel
theorem dX12_text_85 : decode cX12_text 85 = .ok (.imul, 1) := by decide +kernel
theorem dX12_text_86 : decode cX12_text 86 = .ok (.iadd, 1) := by decide +kernel
theorem dX12_text_87 : decode cX12_text 87 = .ok (.iload 4, 2) := by decide +kernel
theorem dX12_text_89 : decode cX12_text 89 = .ok (.iadd, 1) := by decide +kernel
theorem dX12_text_90 : decode cX12_text 90 = .ok (.aload_n 0, 1) := by decide +kernel
theorem dX12_text_91 : decode cX12_text 91 = .ok (.getfield 7, 3) := by decide +kernel
theorem dX12_text_94 : decode cX12_text 94 = .ok (.sipush 212, 3) := by decide +kernel
theorem dX12_text_97 : decode cX12_text 97 = .ok (.iload 4, 2) := by decide +kernel
theorem dX12_text_99 : decode cX12_text 99 = .ok (.iadd, 1) := by decide +kernel
theorem dX12_text_100 : decode cX12_text 100 = .ok (.iaload, 1) := by decide +kernel
theorem dX12_text_101 : decode cX12_text 101 = .ok (.iastore, 1) := by decide +kernel
theorem dX12_text_102 : decode cX12_text 102 = .ok (.iinc 4 1, 3) := by decide +kernel
theorem dX12_text_105 : decode cX12_text 105 = .ok (.goto (-35), 3) := by decide +kernel
theorem dX12_text_108 : decode cX12_text 108 = .ok (.iconst 1, 1) := by decide +kernel
theorem dX12_text_109 : decode cX12_text 109 = .ok (.ireturn, 1) := by decide +kernel
theorem dX12_textGives_0 : decode cX12_textGives 0 = .ok (.iload_n 1, 1) := by decide +kernel
theorem dX12_textGives_1 : decode cX12_textGives 1 = .ok (.ifCond .ne 13, 3) := by decide +kernel
theorem dX12_textGives_4 : decode cX12_textGives 4 = .ok (.iconst 2, 1) := by decide +kernel
theorem dX12_textGives_5 : decode cX12_textGives 5 = .ok (.iload_n 2, 1) := by decide +kernel
theorem dX12_textGives_6 : decode cX12_textGives 6 = .ok (.imul, 1) := by decide +kernel
theorem dX12_textGives_7 : decode cX12_textGives 7 = .ok (.iload_n 3, 1) := by decide +kernel
theorem dX12_textGives_8 : decode cX12_textGives 8 = .ok (.iconst 2, 1) := by decide +kernel
theorem dX12_textGives_9 : decode cX12_textGives 9 = .ok (.idiv, 1) := by decide +kernel
theorem dX12_textGives_10 : decode cX12_textGives 10 = .ok (.iadd, 1) := by decide +kernel
theorem dX12_textGives_11 : decode cX12_textGives 11 = .ok (.goto 4, 3) := by decide +kernel
theorem dX12_textGives_14 : decode cX12_textGives 14 = .ok (.iload_n 2, 1) := by decide +kernel
theorem dX12_textGives_15 : decode cX12_textGives 15 = .ok (.istore 5, 2) := by decide +kernel
theorem dX12_textGives_17 : decode cX12_textGives 17 = .ok (.aload_n 0, 1) := by decide +kernel
theorem dX12_textGives_18 : decode cX12_textGives 18 = .ok (.getfield 7, 3) := by decide +kernel
theorem dX12_textGives_21 : decode cX12_textGives 21 = .ok (.bipush 90, 2) := by decide +kernel
theorem dX12_textGives_23 : decode cX12_textGives 23 = .ok (.iload_n 1, 1) := by decide +kernel
theorem dX12_textGives_24 : decode cX12_textGives 24 = .ok (.iadd, 1) := by decide +kernel
theorem dX12_textGives_25 : decode cX12_textGives 25 = .ok (.iaload, 1) := by decide +kernel
theorem dX12_textGives_26 : decode cX12_textGives 26 = .ok (.ifCond .le 48, 3) := by decide +kernel
theorem dX12_textGives_29 : decode cX12_textGives 29 = .ok (.aload_n 0, 1) := by decide +kernel
theorem dX12_textGives_30 : decode cX12_textGives 30 = .ok (.getfield 22, 3) := by decide +kernel
theorem dX12_textGives_33 : decode cX12_textGives 33 = .ok (.iconst 0, 1) := by decide +kernel
theorem dX12_textGives_34 : decode cX12_textGives 34 = .ok (.iload_n 2, 1) := by decide +kernel
theorem dX12_textGives_35 : decode cX12_textGives 35 = .ok (.iastore, 1) := by decide +kernel
theorem dX12_textGives_36 : decode cX12_textGives 36 = .ok (.aload_n 0, 1) := by decide +kernel
theorem dX12_textGives_37 : decode cX12_textGives 37 = .ok (.getfield 22, 3) := by decide +kernel
theorem dX12_textGives_40 : decode cX12_textGives 40 = .ok (.iconst 1, 1) := by decide +kernel
theorem dX12_textGives_41 : decode cX12_textGives 41 = .ok (.iload_n 3, 1) := by decide +kernel
theorem dX12_textGives_42 : decode cX12_textGives 42 = .ok (.iastore, 1) := by decide +kernel
theorem dX12_textGives_43 : decode cX12_textGives 43 = .ok (.aload_n 0, 1) := by decide +kernel
theorem dX12_textGives_44 : decode cX12_textGives 44 = .ok (.getfield 22, 3) := by decide +kernel
theorem dX12_textGives_47 : decode cX12_textGives 47 = .ok (.iconst 2, 1) := by decide +kernel
theorem dX12_textGives_48 : decode cX12_textGives 48 = .ok (.iload 4, 2) := by decide +kernel
theorem dX12_textGives_50 : decode cX12_textGives 50 = .ok (.iastore, 1) := by decide +kernel
theorem dX12_textGives_51 : decode cX12_textGives 51 = .ok (.aload_n 0, 1) := by decide +kernel
theorem dX12_textGives_52 : decode cX12_textGives 52 = .ok (.bipush 112, 2) := by decide +kernel
theorem dX12_textGives_54 : decode cX12_textGives 54 = .ok (.bipush 50, 2) := by decide +kernel
theorem dX12_textGives_56 : decode cX12_textGives 56 = .ok (.iload_n 1, 1) := by decide +kernel
theorem dX12_textGives_57 : decode cX12_textGives 57 = .ok (.imul, 1) := by decide +kernel
theorem dX12_textGives_58 : decode cX12_textGives 58 = .ok (.iadd, 1) := by decide +kernel
theorem dX12_textGives_59 : decode cX12_textGives 59 = .ok (.aload_n 0, 1) := by decide +kernel
theorem dX12_textGives_60 : decode cX12_textGives 60 = .ok (.getfield 7, 3) := by decide +kernel
theorem dX12_textGives_63 : decode cX12_textGives 63 = .ok (.bipush 90, 2) := by decide +kernel
theorem dX12_textGives_65 : decode cX12_textGives 65 = .ok (.iload_n 1, 1) := by decide +kernel
theorem dX12_textGives_66 : decode cX12_textGives 66 = .ok (.iadd, 1) := by decide +kernel
theorem dX12_textGives_67 : decode cX12_textGives 67 = .ok (.iaload, 1) := by decide +kernel
theorem dX12_textGives_68 : decode cX12_textGives 68 = .ok (.iload_n 1, 1) := by decide +kernel
theorem dX12_textGives_69 : decode cX12_textGives 69 = .ok (.invokevirtual 124, 3) := by decide +kernel
theorem dX12_textGives_72 : decode cX12_textGives 72 = .ok (.istore 5, 2) := by decide +kernel
theorem dX12_textGives_74 : decode cX12_textGives 74 = .ok (.iload_n 1, 1) := by decide +kernel
theorem dX12_textGives_75 : decode cX12_textGives 75 = .ok (.ifCond .ne 14, 3) := by decide +kernel
theorem dX12_textGives_78 : decode cX12_textGives 78 = .ok (.iload 5, 2) := by decide +kernel
theorem dX12_textGives_80 : decode cX12_textGives 80 = .ok (.iconst 0, 1) := by decide +kernel
theorem dX12_textGives_81 : decode cX12_textGives 81 = .ok (.bipush 99, 2) := by decide +kernel
theorem dX12_textGives_83 : decode cX12_textGives 83 = .ok (.invokestatic 128, 3) := by decide +kernel
theorem dX12_textGives_86 : decode cX12_textGives 86 = .ok (.goto 12, 3) := by decide +kernel
theorem dX12_textGives_89 : decode cX12_textGives 89 = .ok (.iload 5, 2) := by decide +kernel
theorem dX12_textGives_91 : decode cX12_textGives 91 = .ok (.bipush (-99), 2) := by decide +kernel
theorem dX12_textGives_93 : decode cX12_textGives 93 = .ok (.bipush 99, 2) := by decide +kernel
theorem dX12_textGives_95 : decode cX12_textGives 95 = .ok (.invokestatic 128, 3) := by decide +kernel
theorem dX12_textGives_98 : decode cX12_textGives 98 = .ok (.ireturn, 1) := by decide +kernel
theorem dX12_law_0 : decode cX12_law 0 = .ok (.iload_n 1, 1) := by decide +kernel
theorem dX12_law_1 : decode cX12_law 1 = .ok (.i2l, 1) := by decide +kernel
theorem dX12_law_2 : decode cX12_law 2 = .ok (.lconst 0, 1) := by decide +kernel
theorem dX12_law_3 : decode cX12_law 3 = .ok (.lconst 1, 1) := by decide +kernel
theorem dX12_law_4 : decode cX12_law 4 = .ok (.invokestatic 56, 3) := by decide +kernel
theorem dX12_law_7 : decode cX12_law 7 = .ok (.ifCond .eq 15, 3) := by decide +kernel
theorem dX12_law_10 : decode cX12_law 10 = .ok (.aload_n 0, 1) := by decide +kernel
theorem dX12_law_11 : decode cX12_law 11 = .ok (.iload_n 1, 1) := by decide +kernel
theorem dX12_law_12 : decode cX12_law 12 = .ok (.iload_n 2, 1) := by decide +kernel
theorem dX12_law_13 : decode cX12_law 13 = .ok (.iload_n 3, 1) := by decide +kernel
theorem dX12_law_14 : decode cX12_law 14 = .ok (.iload 4, 2) := by decide +kernel
theorem dX12_law_16 : decode cX12_law 16 = .ok (.invokevirtual 131, 3) := by decide +kernel
theorem dX12_law_19 : decode cX12_law 19 = .ok (.goto 8, 3) := by decide +kernel
theorem dX12_law_22 : decode cX12_law 22 = .ok (.aload_n 0, 1) := by decide +kernel
theorem dX12_law_23 : decode cX12_law 23 = .ok (.iconst 1, 1) := by decide +kernel
theorem dX12_law_24 : decode cX12_law 24 = .ok (.invokevirtual 119, 3) := by decide +kernel
theorem dX12_law_27 : decode cX12_law 27 = .ok (.ireturn, 1) := by decide +kernel
theorem dX12_window_0 : decode cX12_window 0 = .ok (.iload_n 1, 1) := by decide +kernel
theorem dX12_window_1 : decode cX12_window 1 = .ok (.i2l, 1) := by decide +kernel
theorem dX12_window_2 : decode cX12_window 2 = .ok (.lconst 0, 1) := by decide +kernel
theorem dX12_window_3 : decode cX12_window 3 = .ok (.ldc2_w 117, 3) := by decide +kernel
theorem dX12_window_6 : decode cX12_window 6 = .ok (.invokestatic 56, 3) := by decide +kernel
theorem dX12_window_9 : decode cX12_window 9 = .ok (.ifCond .eq 15, 3) := by decide +kernel
theorem dX12_window_12 : decode cX12_window 12 = .ok (.iload_n 2, 1) := by decide +kernel
theorem dX12_window_13 : decode cX12_window 13 = .ok (.i2l, 1) := by decide +kernel
theorem dX12_window_14 : decode cX12_window 14 = .ok (.lconst 0, 1) := by decide +kernel
theorem dX12_window_15 : decode cX12_window 15 = .ok (.ldc2_w 135, 3) := by decide +kernel
theorem dX12_window_18 : decode cX12_window 18 = .ok (.invokestatic 56, 3) := by decide +kernel
theorem dX12_window_21 : decode cX12_window 21 = .ok (.ifCond .ne 9, 3) := by decide +kernel
theorem dX12_window_24 : decode cX12_window 24 = .ok (.aload_n 0, 1) := by decide +kernel
theorem dX12_window_25 : decode cX12_window 25 = .ok (.iconst 1, 1) := by decide +kernel
theorem dX12_window_26 : decode cX12_window 26 = .ok (.invokevirtual 119, 3) := by decide +kernel
theorem dX12_window_29 : decode cX12_window 29 = .ok (.ireturn, 1) := by decide +kernel
theorem dX12_window_30 : decode cX12_window 30 = .ok (.aload_n 0, 1) := by decide +kernel
theorem dX12_window_31 : decode cX12_window 31 = .ok (.getfield 7, 3) := by decide +kernel
theorem dX12_window_34 : decode cX12_window 34 = .ok (.iconst 0, 1) := by decide +kernel
theorem dX12_window_35 : decode cX12_window 35 = .ok (.iaload, 1) := by decide +kernel
theorem dX12_window_36 : decode cX12_window 36 = .ok (.bipush 8, 2) := by decide +kernel
theorem dX12_window_38 : decode cX12_window 38 = .ok (.if_icmp .ne 9, 3) := by decide +kernel
theorem dX12_window_41 : decode cX12_window 41 = .ok (.aload_n 0, 1) := by decide +kernel
theorem dX12_window_42 : decode cX12_window 42 = .ok (.iconst 4, 1) := by decide +kernel
theorem dX12_window_43 : decode cX12_window 43 = .ok (.invokevirtual 119, 3) := by decide +kernel
theorem dX12_window_46 : decode cX12_window 46 = .ok (.ireturn, 1) := by decide +kernel
theorem dX12_window_47 : decode cX12_window 47 = .ok (.aload_n 0, 1) := by decide +kernel
theorem dX12_window_48 : decode cX12_window 48 = .ok (.getfield 7, 3) := by decide +kernel
theorem dX12_window_51 : decode cX12_window 51 = .ok (.iconst 0, 1) := by decide +kernel
theorem dX12_window_52 : decode cX12_window 52 = .ok (.iaload, 1) := by decide +kernel
theorem dX12_window_53 : decode cX12_window 53 = .ok (.istore_n 3, 1) := by decide +kernel
theorem dX12_window_54 : decode cX12_window 54 = .ok (.aload_n 0, 1) := by decide +kernel
theorem dX12_window_55 : decode cX12_window 55 = .ok (.getfield 7, 3) := by decide +kernel
theorem dX12_window_58 : decode cX12_window 58 = .ok (.iconst 0, 1) := by decide +kernel
theorem dX12_window_59 : decode cX12_window 59 = .ok (.dup2, 1) := by decide +kernel
theorem dX12_window_60 : decode cX12_window 60 = .ok (.iaload, 1) := by decide +kernel
theorem dX12_window_61 : decode cX12_window 61 = .ok (.iconst 1, 1) := by decide +kernel
theorem dX12_window_62 : decode cX12_window 62 = .ok (.iadd, 1) := by decide +kernel
theorem dX12_window_63 : decode cX12_window 63 = .ok (.iastore, 1) := by decide +kernel
theorem dX12_window_64 : decode cX12_window 64 = .ok (.aload_n 0, 1) := by decide +kernel
theorem dX12_window_65 : decode cX12_window 65 = .ok (.iload_n 3, 1) := by decide +kernel
theorem dX12_window_66 : decode cX12_window 66 = .ok (.iconst 0, 1) := by decide +kernel
theorem dX12_window_67 : decode cX12_window 67 = .ok (.iload_n 1, 1) := by decide +kernel
theorem dX12_window_68 : decode cX12_window 68 = .ok (.invokevirtual 137, 3) := by decide +kernel
theorem dX12_window_71 : decode cX12_window 71 = .ok (.aload_n 0, 1) := by decide +kernel
theorem dX12_window_72 : decode cX12_window 72 = .ok (.iload_n 3, 1) := by decide +kernel
theorem dX12_window_73 : decode cX12_window 73 = .ok (.iconst 1, 1) := by decide +kernel
theorem dX12_window_74 : decode cX12_window 74 = .ok (.iload_n 2, 1) := by decide +kernel
theorem dX12_window_75 : decode cX12_window 75 = .ok (.invokevirtual 137, 3) := by decide +kernel
theorem dX12_window_78 : decode cX12_window 78 = .ok (.aload_n 0, 1) := by decide +kernel
theorem dX12_window_79 : decode cX12_window 79 = .ok (.iload_n 3, 1) := by decide +kernel
theorem dX12_window_80 : decode cX12_window 80 = .ok (.iconst 2, 1) := by decide +kernel
theorem dX12_window_81 : decode cX12_window 81 = .ok (.iconst 0, 1) := by decide +kernel
theorem dX12_window_82 : decode cX12_window 82 = .ok (.invokevirtual 137, 3) := by decide +kernel
theorem dX12_window_85 : decode cX12_window 85 = .ok (.aload_n 0, 1) := by decide +kernel
theorem dX12_window_86 : decode cX12_window 86 = .ok (.iload_n 3, 1) := by decide +kernel
theorem dX12_window_87 : decode cX12_window 87 = .ok (.iconst 3, 1) := by decide +kernel
theorem dX12_window_88 : decode cX12_window 88 = .ok (.iconst 0, 1) := by decide +kernel
theorem dX12_window_89 : decode cX12_window 89 = .ok (.invokevirtual 137, 3) := by decide +kernel
theorem dX12_window_92 : decode cX12_window 92 = .ok (.iload_n 3, 1) := by decide +kernel
theorem dX12_window_93 : decode cX12_window 93 = .ok (.ireturn, 1) := by decide +kernel
theorem dX12_ones_0 : decode cX12_ones 0 = .ok (.iconst 0, 1) := by decide +kernel
theorem dX12_ones_1 : decode cX12_ones 1 = .ok (.istore_n 1, 1) := by decide +kernel
theorem dX12_ones_2 : decode cX12_ones 2 = .ok (.iconst 0, 1) := by decide +kernel
theorem dX12_ones_3 : decode cX12_ones 3 = .ok (.istore_n 2, 1) := by decide +kernel
theorem dX12_ones_4 : decode cX12_ones 4 = .ok (.iload_n 2, 1) := by decide +kernel
theorem dX12_ones_5 : decode cX12_ones 5 = .ok (.bipush 8, 2) := by decide +kernel
theorem dX12_ones_7 : decode cX12_ones 7 = .ok (.if_icmp .ge 17, 3) := by decide +kernel
theorem dX12_ones_10 : decode cX12_ones 10 = .ok (.iload_n 1, 1) := by decide +kernel
theorem dX12_ones_11 : decode cX12_ones 11 = .ok (.iload_n 0, 1) := by decide +kernel
theorem dX12_ones_12 : decode cX12_ones 12 = .ok (.iload_n 2, 1) := by decide +kernel
theorem dX12_ones_13 : decode cX12_ones 13 = .ok (.ishr, 1) := by decide +kernel
theorem dX12_ones_14 : decode cX12_ones 14 = .ok (.iconst 1, 1) := by decide +kernel
theorem dX12_ones_15 : decode cX12_ones 15 = .ok (.iand, 1) := by decide +kernel
theorem dX12_ones_16 : decode cX12_ones 16 = .ok (.iadd, 1) := by decide +kernel
theorem dX12_ones_17 : decode cX12_ones 17 = .ok (.istore_n 1, 1) := by decide +kernel
theorem dX12_ones_18 : decode cX12_ones 18 = .ok (.iinc 2 1, 3) := by decide +kernel
theorem dX12_ones_21 : decode cX12_ones 21 = .ok (.goto (-17), 3) := by decide +kernel
theorem dX12_ones_24 : decode cX12_ones 24 = .ok (.iload_n 1, 1) := by decide +kernel
theorem dX12_ones_25 : decode cX12_ones 25 = .ok (.ireturn, 1) := by decide +kernel
theorem dX12_cord_0 : decode cX12_cord 0 = .ok (.iload_n 1, 1) := by decide +kernel
theorem dX12_cord_1 : decode cX12_cord 1 = .ok (.i2l, 1) := by decide +kernel
theorem dX12_cord_2 : decode cX12_cord 2 = .ok (.lconst 0, 1) := by decide +kernel
theorem dX12_cord_3 : decode cX12_cord 3 = .ok (.iconst 1, 1) := by decide +kernel
theorem dX12_cord_4 : decode cX12_cord 4 = .ok (.aload_n 0, 1) := by decide +kernel
theorem dX12_cord_5 : decode cX12_cord 5 = .ok (.getfield 7, 3) := by decide +kernel
theorem dX12_cord_8 : decode cX12_cord 8 = .ok (.iconst 0, 1) := by decide +kernel
theorem dX12_cord_9 : decode cX12_cord 9 = .ok (.iaload, 1) := by decide +kernel
theorem dX12_cord_10 : decode cX12_cord 10 = .ok (.ishl, 1) := by decide +kernel
theorem dX12_cord_11 : decode cX12_cord 11 = .ok (.iconst 1, 1) := by decide +kernel
theorem dX12_cord_12 : decode cX12_cord 12 = .ok (.isub, 1) := by decide +kernel
theorem dX12_cord_13 : decode cX12_cord 13 = .ok (.i2l, 1) := by decide +kernel
theorem dX12_cord_14 : decode cX12_cord 14 = .ok (.invokestatic 56, 3) := by decide +kernel
theorem dX12_cord_17 : decode cX12_cord 17 = .ok (.ifCond .eq 20, 3) := by decide +kernel
theorem dX12_cord_20 : decode cX12_cord 20 = .ok (.iload_n 1, 1) := by decide +kernel
theorem dX12_cord_21 : decode cX12_cord 21 = .ok (.invokestatic 141, 3) := by decide +kernel
theorem dX12_cord_24 : decode cX12_cord 24 = .ok (.i2l, 1) := by decide +kernel
theorem dX12_cord_25 : decode cX12_cord 25 = .ok (.ldc2_w 144, 3) := by decide +kernel
theorem dX12_cord_28 : decode cX12_cord 28 = .ok (.ldc2_w 146, 3) := by decide +kernel
theorem dX12_cord_31 : decode cX12_cord 31 = .ok (.invokestatic 56, 3) := by decide +kernel
theorem dX12_cord_34 : decode cX12_cord 34 = .ok (.ifCond .ne 9, 3) := by decide +kernel
theorem dX12_cord_37 : decode cX12_cord 37 = .ok (.aload_n 0, 1) := by decide +kernel
theorem dX12_cord_38 : decode cX12_cord 38 = .ok (.iconst 1, 1) := by decide +kernel
theorem dX12_cord_39 : decode cX12_cord 39 = .ok (.invokevirtual 119, 3) := by decide +kernel
theorem dX12_cord_42 : decode cX12_cord 42 = .ok (.ireturn, 1) := by decide +kernel
theorem dX12_cord_43 : decode cX12_cord 43 = .ok (.aload_n 0, 1) := by decide +kernel
theorem dX12_cord_44 : decode cX12_cord 44 = .ok (.getfield 7, 3) := by decide +kernel
theorem dX12_cord_47 : decode cX12_cord 47 = .ok (.iconst 1, 1) := by decide +kernel
theorem dX12_cord_48 : decode cX12_cord 48 = .ok (.iaload, 1) := by decide +kernel
theorem dX12_cord_49 : decode cX12_cord 49 = .ok (.iconst 4, 1) := by decide +kernel
theorem dX12_cord_50 : decode cX12_cord 50 = .ok (.if_icmp .ne 9, 3) := by decide +kernel
theorem dX12_cord_53 : decode cX12_cord 53 = .ok (.aload_n 0, 1) := by decide +kernel
theorem dX12_cord_54 : decode cX12_cord 54 = .ok (.iconst 4, 1) := by decide +kernel
theorem dX12_cord_55 : decode cX12_cord 55 = .ok (.invokevirtual 119, 3) := by decide +kernel
theorem dX12_cord_58 : decode cX12_cord 58 = .ok (.ireturn, 1) := by decide +kernel
theorem dX12_cord_59 : decode cX12_cord 59 = .ok (.iconst 0, 1) := by decide +kernel
theorem dX12_cord_60 : decode cX12_cord 60 = .ok (.istore_n 2, 1) := by decide +kernel
theorem dX12_cord_61 : decode cX12_cord 61 = .ok (.iload_n 2, 1) := by decide +kernel
theorem dX12_cord_62 : decode cX12_cord 62 = .ok (.aload_n 0, 1) := by decide +kernel
theorem dX12_cord_63 : decode cX12_cord 63 = .ok (.getfield 7, 3) := by decide +kernel
theorem dX12_cord_66 : decode cX12_cord 66 = .ok (.iconst 0, 1) := by decide +kernel
theorem dX12_cord_67 : decode cX12_cord 67 = .ok (.iaload, 1) := by decide +kernel
theorem dX12_cord_68 : decode cX12_cord 68 = .ok (.if_icmp .ge 33, 3) := by decide +kernel
theorem dX12_cord_71 : decode cX12_cord 71 = .ok (.iload_n 1, 1) := by decide +kernel
theorem dX12_cord_72 : decode cX12_cord 72 = .ok (.iload_n 2, 1) := by decide +kernel
theorem dX12_cord_73 : decode cX12_cord 73 = .ok (.ishr, 1) := by decide +kernel
theorem dX12_cord_74 : decode cX12_cord 74 = .ok (.iconst 1, 1) := by decide +kernel
theorem dX12_cord_75 : decode cX12_cord 75 = .ok (.iand, 1) := by decide +kernel
theorem dX12_cord_76 : decode cX12_cord 76 = .ok (.iconst 1, 1) := by decide +kernel
theorem dX12_cord_77 : decode cX12_cord 77 = .ok (.if_icmp .ne 18, 3) := by decide +kernel
theorem dX12_cord_80 : decode cX12_cord 80 = .ok (.aload_n 0, 1) := by decide +kernel
theorem dX12_cord_81 : decode cX12_cord 81 = .ok (.iload_n 2, 1) := by decide +kernel
theorem dX12_cord_82 : decode cX12_cord 82 = .ok (.iconst 2, 1) := by decide +kernel
theorem dX12_cord_83 : decode cX12_cord 83 = .ok (.invokevirtual 148, 3) := by decide +kernel
theorem dX12_cord_86 : decode cX12_cord 86 = .ok (.ifCond .le 9, 3) := by decide +kernel
theorem dX12_cord_89 : decode cX12_cord 89 = .ok (.aload_n 0, 1) := by decide +kernel
theorem dX12_cord_90 : decode cX12_cord 90 = .ok (.iconst 3, 1) := by decide +kernel
theorem dX12_cord_91 : decode cX12_cord 91 = .ok (.invokevirtual 119, 3) := by decide +kernel
theorem dX12_cord_94 : decode cX12_cord 94 = .ok (.ireturn, 1) := by decide +kernel
theorem dX12_cord_95 : decode cX12_cord 95 = .ok (.iinc 2 1, 3) := by decide +kernel
theorem dX12_cord_98 : decode cX12_cord 98 = .ok (.goto (-37), 3) := by decide +kernel
theorem dX12_cord_101 : decode cX12_cord 101 = .ok (.aload_n 0, 1) := by decide +kernel
theorem dX12_cord_102 : decode cX12_cord 102 = .ok (.getfield 7, 3) := by decide +kernel
theorem dX12_cord_105 : decode cX12_cord 105 = .ok (.iconst 1, 1) := by decide +kernel
theorem dX12_cord_106 : decode cX12_cord 106 = .ok (.dup2, 1) := by decide +kernel
theorem dX12_cord_107 : decode cX12_cord 107 = .ok (.iaload, 1) := by decide +kernel
theorem dX12_cord_108 : decode cX12_cord 108 = .ok (.iconst 1, 1) := by decide +kernel
theorem dX12_cord_109 : decode cX12_cord 109 = .ok (.iadd, 1) := by decide +kernel
theorem dX12_cord_110 : decode cX12_cord 110 = .ok (.iastore, 1) := by decide +kernel
theorem dX12_cord_111 : decode cX12_cord 111 = .ok (.iconst 0, 1) := by decide +kernel
theorem dX12_cord_112 : decode cX12_cord 112 = .ok (.istore_n 2, 1) := by decide +kernel
theorem dX12_cord_113 : decode cX12_cord 113 = .ok (.iload_n 2, 1) := by decide +kernel
theorem dX12_cord_114 : decode cX12_cord 114 = .ok (.aload_n 0, 1) := by decide +kernel
theorem dX12_cord_115 : decode cX12_cord 115 = .ok (.getfield 7, 3) := by decide +kernel
theorem dX12_cord_118 : decode cX12_cord 118 = .ok (.iconst 0, 1) := by decide +kernel
theorem dX12_cord_119 : decode cX12_cord 119 = .ok (.iaload, 1) := by decide +kernel
theorem dX12_cord_120 : decode cX12_cord 120 = .ok (.if_icmp .ge 39, 3) := by decide +kernel
theorem dX12_cord_123 : decode cX12_cord 123 = .ok (.aload_n 0, 1) := by decide +kernel
theorem dX12_cord_124 : decode cX12_cord 124 = .ok (.iload_n 2, 1) := by decide +kernel
theorem dX12_cord_125 : decode cX12_cord 125 = .ok (.iconst 2, 1) := by decide +kernel
theorem dX12_cord_126 : decode cX12_cord 126 = .ok (.iload_n 1, 1) := by decide +kernel
theorem dX12_cord_127 : decode cX12_cord 127 = .ok (.iload_n 2, 1) := by decide +kernel
theorem dX12_cord_128 : decode cX12_cord 128 = .ok (.ishr, 1) := by decide +kernel
theorem dX12_cord_129 : decode cX12_cord 129 = .ok (.iconst 1, 1) := by decide +kernel
theorem dX12_cord_130 : decode cX12_cord 130 = .ok (.iand, 1) := by decide +kernel
theorem dX12_cord_131 : decode cX12_cord 131 = .ok (.iconst 1, 1) := by decide +kernel
theorem dX12_cord_132 : decode cX12_cord 132 = .ok (.if_icmp .ne 12, 3) := by decide +kernel
theorem dX12_cord_135 : decode cX12_cord 135 = .ok (.aload_n 0, 1) := by decide +kernel
theorem dX12_cord_136 : decode cX12_cord 136 = .ok (.getfield 7, 3) := by decide +kernel
theorem dX12_cord_139 : decode cX12_cord 139 = .ok (.iconst 1, 1) := by decide +kernel
theorem dX12_cord_140 : decode cX12_cord 140 = .ok (.iaload, 1) := by decide +kernel
theorem dX12_cord_141 : decode cX12_cord 141 = .ok (.goto 9, 3) := by decide +kernel
theorem dX12_cord_144 : decode cX12_cord 144 = .ok (.aload_n 0, 1) := by decide +kernel
theorem dX12_cord_145 : decode cX12_cord 145 = .ok (.iload_n 2, 1) := by decide +kernel
theorem dX12_cord_146 : decode cX12_cord 146 = .ok (.iconst 2, 1) := by decide +kernel
theorem dX12_cord_147 : decode cX12_cord 147 = .ok (.invokevirtual 148, 3) := by decide +kernel
theorem dX12_cord_150 : decode cX12_cord 150 = .ok (.invokevirtual 137, 3) := by decide +kernel
theorem dX12_cord_153 : decode cX12_cord 153 = .ok (.iinc 2 1, 3) := by decide +kernel
theorem dX12_cord_156 : decode cX12_cord 156 = .ok (.goto (-43), 3) := by decide +kernel
theorem dX12_cord_159 : decode cX12_cord 159 = .ok (.aload_n 0, 1) := by decide +kernel
theorem dX12_cord_160 : decode cX12_cord 160 = .ok (.getfield 7, 3) := by decide +kernel
theorem dX12_cord_163 : decode cX12_cord 163 = .ok (.iconst 1, 1) := by decide +kernel
theorem dX12_cord_164 : decode cX12_cord 164 = .ok (.iaload, 1) := by decide +kernel
theorem dX12_cord_165 : decode cX12_cord 165 = .ok (.iconst 1, 1) := by decide +kernel
theorem dX12_cord_166 : decode cX12_cord 166 = .ok (.isub, 1) := by decide +kernel
theorem dX12_cord_167 : decode cX12_cord 167 = .ok (.ireturn, 1) := by decide +kernel
theorem dX12_drop_0 : decode cX12_drop 0 = .ok (.aload_n 0, 1) := by decide +kernel
theorem dX12_drop_1 : decode cX12_drop 1 = .ok (.getfield 7, 3) := by decide +kernel
theorem dX12_drop_4 : decode cX12_drop 4 = .ok (.iconst 1, 1) := by decide +kernel
theorem dX12_drop_5 : decode cX12_drop 5 = .ok (.iaload, 1) := by decide +kernel
theorem dX12_drop_6 : decode cX12_drop 6 = .ok (.ifCond .ne 9, 3) := by decide +kernel
theorem dX12_drop_9 : decode cX12_drop 9 = .ok (.aload_n 0, 1) := by decide +kernel
theorem dX12_drop_10 : decode cX12_drop 10 = .ok (.iconst 2, 1) := by decide +kernel
theorem dX12_drop_11 : decode cX12_drop 11 = .ok (.invokevirtual 119, 3) := by decide +kernel
theorem dX12_drop_14 : decode cX12_drop 14 = .ok (.ireturn, 1) := by decide +kernel
theorem dX12_drop_15 : decode cX12_drop 15 = .ok (.iconst 0, 1) := by decide +kernel
theorem dX12_drop_16 : decode cX12_drop 16 = .ok (.istore_n 1, 1) := by decide +kernel
theorem dX12_drop_17 : decode cX12_drop 17 = .ok (.iload_n 1, 1) := by decide +kernel
theorem dX12_drop_18 : decode cX12_drop 18 = .ok (.aload_n 0, 1) := by decide +kernel
theorem dX12_drop_19 : decode cX12_drop 19 = .ok (.getfield 7, 3) := by decide +kernel
theorem dX12_drop_22 : decode cX12_drop 22 = .ok (.iconst 0, 1) := by decide +kernel
theorem dX12_drop_23 : decode cX12_drop 23 = .ok (.iaload, 1) := by decide +kernel
theorem dX12_drop_24 : decode cX12_drop 24 = .ok (.if_icmp .ge 40, 3) := by decide +kernel
theorem dX12_drop_27 : decode cX12_drop 27 = .ok (.aload_n 0, 1) := by decide +kernel
theorem dX12_drop_28 : decode cX12_drop 28 = .ok (.iload_n 1, 1) := by decide +kernel
theorem dX12_drop_29 : decode cX12_drop 29 = .ok (.iconst 2, 1) := by decide +kernel
theorem dX12_drop_30 : decode cX12_drop 30 = .ok (.aload_n 0, 1) := by decide +kernel
theorem dX12_drop_31 : decode cX12_drop 31 = .ok (.iload_n 1, 1) := by decide +kernel
theorem dX12_drop_32 : decode cX12_drop 32 = .ok (.iconst 2, 1) := by decide +kernel
theorem dX12_drop_33 : decode cX12_drop 33 = .ok (.invokevirtual 148, 3) := by decide +kernel
theorem dX12_drop_36 : decode cX12_drop 36 = .ok (.aload_n 0, 1) := by decide +kernel
theorem dX12_drop_37 : decode cX12_drop 37 = .ok (.getfield 7, 3) := by decide +kernel
theorem dX12_drop_40 : decode cX12_drop 40 = .ok (.iconst 1, 1) := by decide +kernel
theorem dX12_drop_41 : decode cX12_drop 41 = .ok (.iaload, 1) := by decide +kernel
theorem dX12_drop_42 : decode cX12_drop 42 = .ok (.if_icmp .ne 7, 3) := by decide +kernel
theorem dX12_drop_45 : decode cX12_drop 45 = .ok (.iconst 0, 1) := by decide +kernel
theorem dX12_drop_46 : decode cX12_drop 46 = .ok (.goto 9, 3) := by decide +kernel
theorem dX12_drop_49 : decode cX12_drop 49 = .ok (.aload_n 0, 1) := by decide +kernel
theorem dX12_drop_50 : decode cX12_drop 50 = .ok (.iload_n 1, 1) := by decide +kernel
theorem dX12_drop_51 : decode cX12_drop 51 = .ok (.iconst 2, 1) := by decide +kernel
theorem dX12_drop_52 : decode cX12_drop 52 = .ok (.invokevirtual 148, 3) := by decide +kernel
theorem dX12_drop_55 : decode cX12_drop 55 = .ok (.invokevirtual 137, 3) := by decide +kernel
theorem dX12_drop_58 : decode cX12_drop 58 = .ok (.iinc 1 1, 3) := by decide +kernel
theorem dX12_drop_61 : decode cX12_drop 61 = .ok (.goto (-44), 3) := by decide +kernel
theorem dX12_drop_64 : decode cX12_drop 64 = .ok (.aload_n 0, 1) := by decide +kernel
theorem dX12_drop_65 : decode cX12_drop 65 = .ok (.getfield 7, 3) := by decide +kernel
theorem dX12_drop_68 : decode cX12_drop 68 = .ok (.iconst 1, 1) := by decide +kernel
theorem dX12_drop_69 : decode cX12_drop 69 = .ok (.dup2, 1) := by decide +kernel
theorem dX12_drop_70 : decode cX12_drop 70 = .ok (.iaload, 1) := by decide +kernel
theorem dX12_drop_71 : decode cX12_drop 71 = .ok (.iconst 1, 1) := by decide +kernel
theorem dX12_drop_72 : decode cX12_drop 72 = .ok (.isub, 1) := by decide +kernel
theorem dX12_drop_73 : decode cX12_drop 73 = .ok (.iastore, 1) := by decide +kernel
theorem dX12_drop_74 : decode cX12_drop 74 = .ok (.aload_n 0, 1) := by decide +kernel
theorem dX12_drop_75 : decode cX12_drop 75 = .ok (.getfield 7, 3) := by decide +kernel
theorem dX12_drop_78 : decode cX12_drop 78 = .ok (.iconst 1, 1) := by decide +kernel
theorem dX12_drop_79 : decode cX12_drop 79 = .ok (.iaload, 1) := by decide +kernel
theorem dX12_drop_80 : decode cX12_drop 80 = .ok (.ireturn, 1) := by decide +kernel
theorem dX12_ofWindow_0 : decode cX12_ofWindow 0 = .ok (.aload_n 0, 1) := by decide +kernel
theorem dX12_ofWindow_1 : decode cX12_ofWindow 1 = .ok (.iload_n 1, 1) := by decide +kernel
theorem dX12_ofWindow_2 : decode cX12_ofWindow 2 = .ok (.invokevirtual 152, 3) := by decide +kernel
theorem dX12_ofWindow_5 : decode cX12_ofWindow 5 = .ok (.ifCond .eq 15, 3) := by decide +kernel
theorem dX12_ofWindow_8 : decode cX12_ofWindow 8 = .ok (.iload_n 2, 1) := by decide +kernel
theorem dX12_ofWindow_9 : decode cX12_ofWindow 9 = .ok (.i2l, 1) := by decide +kernel
theorem dX12_ofWindow_10 : decode cX12_ofWindow 10 = .ok (.lconst 0, 1) := by decide +kernel
theorem dX12_ofWindow_11 : decode cX12_ofWindow 11 = .ok (.ldc2_w 146, 3) := by decide +kernel
theorem dX12_ofWindow_14 : decode cX12_ofWindow 14 = .ok (.invokestatic 56, 3) := by decide +kernel
theorem dX12_ofWindow_17 : decode cX12_ofWindow 17 = .ok (.ifCond .ne 9, 3) := by decide +kernel
theorem dX12_ofWindow_20 : decode cX12_ofWindow 20 = .ok (.aload_n 0, 1) := by decide +kernel
theorem dX12_ofWindow_21 : decode cX12_ofWindow 21 = .ok (.iconst 1, 1) := by decide +kernel
theorem dX12_ofWindow_22 : decode cX12_ofWindow 22 = .ok (.invokevirtual 119, 3) := by decide +kernel
theorem dX12_ofWindow_25 : decode cX12_ofWindow 25 = .ok (.ireturn, 1) := by decide +kernel
theorem dX12_ofWindow_26 : decode cX12_ofWindow 26 = .ok (.iload_n 2, 1) := by decide +kernel
theorem dX12_ofWindow_27 : decode cX12_ofWindow 27 = .ok (.iconst 2, 1) := by decide +kernel
theorem dX12_ofWindow_28 : decode cX12_ofWindow 28 = .ok (.if_icmp .ne 14, 3) := by decide +kernel
theorem dX12_ofWindow_31 : decode cX12_ofWindow 31 = .ok (.aload_n 0, 1) := by decide +kernel
theorem dX12_ofWindow_32 : decode cX12_ofWindow 32 = .ok (.iload_n 1, 1) := by decide +kernel
theorem dX12_ofWindow_33 : decode cX12_ofWindow 33 = .ok (.iconst 2, 1) := by decide +kernel
theorem dX12_ofWindow_34 : decode cX12_ofWindow 34 = .ok (.invokevirtual 148, 3) := by decide +kernel
theorem dX12_ofWindow_37 : decode cX12_ofWindow 37 = .ok (.iconst 1, 1) := by decide +kernel
theorem dX12_ofWindow_38 : decode cX12_ofWindow 38 = .ok (.isub, 1) := by decide +kernel
theorem dX12_ofWindow_39 : decode cX12_ofWindow 39 = .ok (.goto 9, 3) := by decide +kernel
theorem dX12_ofWindow_42 : decode cX12_ofWindow 42 = .ok (.aload_n 0, 1) := by decide +kernel
theorem dX12_ofWindow_43 : decode cX12_ofWindow 43 = .ok (.iload_n 1, 1) := by decide +kernel
theorem dX12_ofWindow_44 : decode cX12_ofWindow 44 = .ok (.iload_n 2, 1) := by decide +kernel
theorem dX12_ofWindow_45 : decode cX12_ofWindow 45 = .ok (.invokevirtual 148, 3) := by decide +kernel
theorem dX12_ofWindow_48 : decode cX12_ofWindow 48 = .ok (.ireturn, 1) := by decide +kernel
theorem dX12_windowsOf_0 : decode cX12_windowsOf 0 = .ok (.iconst 0, 1) := by decide +kernel
theorem dX12_windowsOf_1 : decode cX12_windowsOf 1 = .ok (.istore_n 2, 1) := by decide +kernel
theorem dX12_windowsOf_2 : decode cX12_windowsOf 2 = .ok (.iconst 0, 1) := by decide +kernel
theorem dX12_windowsOf_3 : decode cX12_windowsOf 3 = .ok (.istore_n 3, 1) := by decide +kernel
theorem dX12_windowsOf_4 : decode cX12_windowsOf 4 = .ok (.iload_n 3, 1) := by decide +kernel
theorem dX12_windowsOf_5 : decode cX12_windowsOf 5 = .ok (.aload_n 0, 1) := by decide +kernel
theorem dX12_windowsOf_6 : decode cX12_windowsOf 6 = .ok (.getfield 7, 3) := by decide +kernel
theorem dX12_windowsOf_9 : decode cX12_windowsOf 9 = .ok (.iconst 0, 1) := by decide +kernel
theorem dX12_windowsOf_10 : decode cX12_windowsOf 10 = .ok (.iaload, 1) := by decide +kernel
theorem dX12_windowsOf_11 : decode cX12_windowsOf 11 = .ok (.if_icmp .ge 31, 3) := by decide +kernel
theorem dX12_windowsOf_14 : decode cX12_windowsOf 14 = .ok (.iload_n 2, 1) := by decide +kernel
theorem dX12_windowsOf_15 : decode cX12_windowsOf 15 = .ok (.aload_n 0, 1) := by decide +kernel
theorem dX12_windowsOf_16 : decode cX12_windowsOf 16 = .ok (.iload_n 3, 1) := by decide +kernel
theorem dX12_windowsOf_17 : decode cX12_windowsOf 17 = .ok (.iconst 2, 1) := by decide +kernel
theorem dX12_windowsOf_18 : decode cX12_windowsOf 18 = .ok (.invokevirtual 148, 3) := by decide +kernel
theorem dX12_windowsOf_21 : decode cX12_windowsOf 21 = .ok (.iload_n 1, 1) := by decide +kernel
theorem dX12_windowsOf_22 : decode cX12_windowsOf 22 = .ok (.iconst 1, 1) := by decide +kernel
theorem dX12_windowsOf_23 : decode cX12_windowsOf 23 = .ok (.iadd, 1) := by decide +kernel
theorem dX12_windowsOf_24 : decode cX12_windowsOf 24 = .ok (.if_icmp .ne 9, 3) := by decide +kernel
theorem dX12_windowsOf_27 : decode cX12_windowsOf 27 = .ok (.iconst 1, 1) := by decide +kernel
theorem dX12_windowsOf_28 : decode cX12_windowsOf 28 = .ok (.iload_n 3, 1) := by decide +kernel
theorem dX12_windowsOf_29 : decode cX12_windowsOf 29 = .ok (.ishl, 1) := by decide +kernel
theorem dX12_windowsOf_30 : decode cX12_windowsOf 30 = .ok (.goto 4, 3) := by decide +kernel
theorem dX12_windowsOf_33 : decode cX12_windowsOf 33 = .ok (.iconst 0, 1) := by decide +kernel
theorem dX12_windowsOf_34 : decode cX12_windowsOf 34 = .ok (.ior, 1) := by decide +kernel
theorem dX12_windowsOf_35 : decode cX12_windowsOf 35 = .ok (.istore_n 2, 1) := by decide +kernel
theorem dX12_windowsOf_36 : decode cX12_windowsOf 36 = .ok (.iinc 3 1, 3) := by decide +kernel
theorem dX12_windowsOf_39 : decode cX12_windowsOf 39 = .ok (.goto (-35), 3) := by decide +kernel
theorem dX12_windowsOf_42 : decode cX12_windowsOf 42 = .ok (.iload_n 2, 1) := by decide +kernel
theorem dX12_windowsOf_43 : decode cX12_windowsOf 43 = .ok (.ireturn, 1) := by decide +kernel
theorem dX12_lengthOf_0 : decode cX12_lengthOf 0 = .ok (.iconst 0, 1) := by decide +kernel
theorem dX12_lengthOf_1 : decode cX12_lengthOf 1 = .ok (.istore_n 2, 1) := by decide +kernel
theorem dX12_lengthOf_2 : decode cX12_lengthOf 2 = .ok (.iconst 0, 1) := by decide +kernel
theorem dX12_lengthOf_3 : decode cX12_lengthOf 3 = .ok (.istore_n 3, 1) := by decide +kernel
theorem dX12_lengthOf_4 : decode cX12_lengthOf 4 = .ok (.iload_n 3, 1) := by decide +kernel
theorem dX12_lengthOf_5 : decode cX12_lengthOf 5 = .ok (.aload_n 0, 1) := by decide +kernel
theorem dX12_lengthOf_6 : decode cX12_lengthOf 6 = .ok (.getfield 7, 3) := by decide +kernel
theorem dX12_lengthOf_9 : decode cX12_lengthOf 9 = .ok (.iconst 0, 1) := by decide +kernel
theorem dX12_lengthOf_10 : decode cX12_lengthOf 10 = .ok (.iaload, 1) := by decide +kernel
theorem dX12_lengthOf_11 : decode cX12_lengthOf 11 = .ok (.if_icmp .ge 34, 3) := by decide +kernel
theorem dX12_lengthOf_14 : decode cX12_lengthOf 14 = .ok (.iload_n 2, 1) := by decide +kernel
theorem dX12_lengthOf_15 : decode cX12_lengthOf 15 = .ok (.aload_n 0, 1) := by decide +kernel
theorem dX12_lengthOf_16 : decode cX12_lengthOf 16 = .ok (.iload_n 3, 1) := by decide +kernel
theorem dX12_lengthOf_17 : decode cX12_lengthOf 17 = .ok (.iconst 2, 1) := by decide +kernel
theorem dX12_lengthOf_18 : decode cX12_lengthOf 18 = .ok (.invokevirtual 148, 3) := by decide +kernel
theorem dX12_lengthOf_21 : decode cX12_lengthOf 21 = .ok (.iload_n 1, 1) := by decide +kernel
theorem dX12_lengthOf_22 : decode cX12_lengthOf 22 = .ok (.iconst 1, 1) := by decide +kernel
theorem dX12_lengthOf_23 : decode cX12_lengthOf 23 = .ok (.iadd, 1) := by decide +kernel
theorem dX12_lengthOf_24 : decode cX12_lengthOf 24 = .ok (.if_icmp .ne 12, 3) := by decide +kernel
theorem dX12_lengthOf_27 : decode cX12_lengthOf 27 = .ok (.aload_n 0, 1) := by decide +kernel
theorem dX12_lengthOf_28 : decode cX12_lengthOf 28 = .ok (.iload_n 3, 1) := by decide +kernel
theorem dX12_lengthOf_29 : decode cX12_lengthOf 29 = .ok (.iconst 1, 1) := by decide +kernel
theorem dX12_lengthOf_30 : decode cX12_lengthOf 30 = .ok (.invokevirtual 148, 3) := by decide +kernel
theorem dX12_lengthOf_33 : decode cX12_lengthOf 33 = .ok (.goto 4, 3) := by decide +kernel
theorem dX12_lengthOf_36 : decode cX12_lengthOf 36 = .ok (.iconst 0, 1) := by decide +kernel
theorem dX12_lengthOf_37 : decode cX12_lengthOf 37 = .ok (.iadd, 1) := by decide +kernel
theorem dX12_lengthOf_38 : decode cX12_lengthOf 38 = .ok (.istore_n 2, 1) := by decide +kernel
theorem dX12_lengthOf_39 : decode cX12_lengthOf 39 = .ok (.iinc 3 1, 3) := by decide +kernel
theorem dX12_lengthOf_42 : decode cX12_lengthOf 42 = .ok (.goto (-38), 3) := by decide +kernel
theorem dX12_lengthOf_45 : decode cX12_lengthOf 45 = .ok (.iload_n 2, 1) := by decide +kernel
theorem dX12_lengthOf_46 : decode cX12_lengthOf 46 = .ok (.ireturn, 1) := by decide +kernel
theorem dX12_ofCord_0 : decode cX12_ofCord 0 = .ok (.iload_n 1, 1) := by decide +kernel
theorem dX12_ofCord_1 : decode cX12_ofCord 1 = .ok (.i2l, 1) := by decide +kernel
theorem dX12_ofCord_2 : decode cX12_ofCord 2 = .ok (.lconst 0, 1) := by decide +kernel
theorem dX12_ofCord_3 : decode cX12_ofCord 3 = .ok (.aload_n 0, 1) := by decide +kernel
theorem dX12_ofCord_4 : decode cX12_ofCord 4 = .ok (.getfield 7, 3) := by decide +kernel
theorem dX12_ofCord_7 : decode cX12_ofCord 7 = .ok (.iconst 1, 1) := by decide +kernel
theorem dX12_ofCord_8 : decode cX12_ofCord 8 = .ok (.iaload, 1) := by decide +kernel
theorem dX12_ofCord_9 : decode cX12_ofCord 9 = .ok (.iconst 1, 1) := by decide +kernel
theorem dX12_ofCord_10 : decode cX12_ofCord 10 = .ok (.isub, 1) := by decide +kernel
theorem dX12_ofCord_11 : decode cX12_ofCord 11 = .ok (.i2l, 1) := by decide +kernel
theorem dX12_ofCord_12 : decode cX12_ofCord 12 = .ok (.invokestatic 56, 3) := by decide +kernel
theorem dX12_ofCord_15 : decode cX12_ofCord 15 = .ok (.ifCond .eq 13, 3) := by decide +kernel
theorem dX12_ofCord_18 : decode cX12_ofCord 18 = .ok (.iload_n 2, 1) := by decide +kernel
theorem dX12_ofCord_19 : decode cX12_ofCord 19 = .ok (.i2l, 1) := by decide +kernel
theorem dX12_ofCord_20 : decode cX12_ofCord 20 = .ok (.lconst 0, 1) := by decide +kernel
theorem dX12_ofCord_21 : decode cX12_ofCord 21 = .ok (.lconst 1, 1) := by decide +kernel
theorem dX12_ofCord_22 : decode cX12_ofCord 22 = .ok (.invokestatic 56, 3) := by decide +kernel
theorem dX12_ofCord_25 : decode cX12_ofCord 25 = .ok (.ifCond .ne 9, 3) := by decide +kernel
theorem dX12_ofCord_28 : decode cX12_ofCord 28 = .ok (.aload_n 0, 1) := by decide +kernel
theorem dX12_ofCord_29 : decode cX12_ofCord 29 = .ok (.iconst 1, 1) := by decide +kernel
theorem dX12_ofCord_30 : decode cX12_ofCord 30 = .ok (.invokevirtual 119, 3) := by decide +kernel
theorem dX12_ofCord_33 : decode cX12_ofCord 33 = .ok (.ireturn, 1) := by decide +kernel
theorem dX12_ofCord_34 : decode cX12_ofCord 34 = .ok (.iload_n 2, 1) := by decide +kernel
theorem dX12_ofCord_35 : decode cX12_ofCord 35 = .ok (.ifCond .ne 11, 3) := by decide +kernel
theorem dX12_ofCord_38 : decode cX12_ofCord 38 = .ok (.aload_n 0, 1) := by decide +kernel
theorem dX12_ofCord_39 : decode cX12_ofCord 39 = .ok (.iload_n 1, 1) := by decide +kernel
theorem dX12_ofCord_40 : decode cX12_ofCord 40 = .ok (.invokevirtual 155, 3) := by decide +kernel
theorem dX12_ofCord_43 : decode cX12_ofCord 43 = .ok (.goto 8, 3) := by decide +kernel
theorem dX12_ofCord_46 : decode cX12_ofCord 46 = .ok (.aload_n 0, 1) := by decide +kernel
theorem dX12_ofCord_47 : decode cX12_ofCord 47 = .ok (.iload_n 1, 1) := by decide +kernel
theorem dX12_ofCord_48 : decode cX12_ofCord 48 = .ok (.invokevirtual 158, 3) := by decide +kernel
theorem dX12_ofCord_51 : decode cX12_ofCord 51 = .ok (.ireturn, 1) := by decide +kernel
theorem dX12_open_0 : decode cX12_open 0 = .ok (.aload_n 0, 1) := by decide +kernel
theorem dX12_open_1 : decode cX12_open 1 = .ok (.iload_n 1, 1) := by decide +kernel
theorem dX12_open_2 : decode cX12_open 2 = .ok (.invokevirtual 152, 3) := by decide +kernel
theorem dX12_open_5 : decode cX12_open 5 = .ok (.ifCond .eq 15, 3) := by decide +kernel
theorem dX12_open_8 : decode cX12_open 8 = .ok (.iload_n 2, 1) := by decide +kernel
theorem dX12_open_9 : decode cX12_open 9 = .ok (.i2l, 1) := by decide +kernel
theorem dX12_open_10 : decode cX12_open 10 = .ok (.lconst 0, 1) := by decide +kernel
theorem dX12_open_11 : decode cX12_open 11 = .ok (.ldc2_w 135, 3) := by decide +kernel
theorem dX12_open_14 : decode cX12_open 14 = .ok (.invokestatic 56, 3) := by decide +kernel
theorem dX12_open_17 : decode cX12_open 17 = .ok (.ifCond .ne 9, 3) := by decide +kernel
theorem dX12_open_20 : decode cX12_open 20 = .ok (.aload_n 0, 1) := by decide +kernel
theorem dX12_open_21 : decode cX12_open 21 = .ok (.iconst 1, 1) := by decide +kernel
theorem dX12_open_22 : decode cX12_open 22 = .ok (.invokevirtual 119, 3) := by decide +kernel
theorem dX12_open_25 : decode cX12_open 25 = .ok (.ireturn, 1) := by decide +kernel
theorem dX12_open_26 : decode cX12_open 26 = .ok (.aload_n 0, 1) := by decide +kernel
theorem dX12_open_27 : decode cX12_open 27 = .ok (.iload_n 1, 1) := by decide +kernel
theorem dX12_open_28 : decode cX12_open 28 = .ok (.iconst 2, 1) := by decide +kernel
theorem dX12_open_29 : decode cX12_open 29 = .ok (.invokevirtual 148, 3) := by decide +kernel
theorem dX12_open_32 : decode cX12_open 32 = .ok (.ifCond .gt 13, 3) := by decide +kernel
theorem dX12_open_35 : decode cX12_open 35 = .ok (.aload_n 0, 1) := by decide +kernel
theorem dX12_open_36 : decode cX12_open 36 = .ok (.iload_n 1, 1) := by decide +kernel
theorem dX12_open_37 : decode cX12_open 37 = .ok (.iconst 3, 1) := by decide +kernel
theorem dX12_open_38 : decode cX12_open 38 = .ok (.invokevirtual 148, 3) := by decide +kernel
theorem dX12_open_41 : decode cX12_open 41 = .ok (.iconst 1, 1) := by decide +kernel
theorem dX12_open_42 : decode cX12_open 42 = .ok (.if_icmp .ne 9, 3) := by decide +kernel
theorem dX12_open_45 : decode cX12_open 45 = .ok (.aload_n 0, 1) := by decide +kernel
theorem dX12_open_46 : decode cX12_open 46 = .ok (.iconst 3, 1) := by decide +kernel
theorem dX12_open_47 : decode cX12_open 47 = .ok (.invokevirtual 119, 3) := by decide +kernel
theorem dX12_open_50 : decode cX12_open 50 = .ok (.ireturn, 1) := by decide +kernel
theorem dX12_open_51 : decode cX12_open 51 = .ok (.aload_n 0, 1) := by decide +kernel
theorem dX12_open_52 : decode cX12_open 52 = .ok (.iload_n 1, 1) := by decide +kernel
theorem dX12_open_53 : decode cX12_open 53 = .ok (.iconst 1, 1) := by decide +kernel
theorem dX12_open_54 : decode cX12_open 54 = .ok (.invokevirtual 148, 3) := by decide +kernel
theorem dX12_open_57 : decode cX12_open 57 = .ok (.istore_n 3, 1) := by decide +kernel
theorem dX12_open_58 : decode cX12_open 58 = .ok (.aload_n 0, 1) := by decide +kernel
theorem dX12_open_59 : decode cX12_open 59 = .ok (.iload_n 1, 1) := by decide +kernel
theorem dX12_open_60 : decode cX12_open 60 = .ok (.iconst 1, 1) := by decide +kernel
theorem dX12_open_61 : decode cX12_open 61 = .ok (.iload_n 2, 1) := by decide +kernel
theorem dX12_open_62 : decode cX12_open 62 = .ok (.invokevirtual 137, 3) := by decide +kernel
theorem dX12_open_65 : decode cX12_open 65 = .ok (.iload_n 3, 1) := by decide +kernel
theorem dX12_open_66 : decode cX12_open 66 = .ok (.ireturn, 1) := by decide +kernel
theorem dX12_swell_0 : decode cX12_swell 0 = .ok (.aload_n 0, 1) := by decide +kernel
theorem dX12_swell_1 : decode cX12_swell 1 = .ok (.iload_n 1, 1) := by decide +kernel
theorem dX12_swell_2 : decode cX12_swell 2 = .ok (.invokevirtual 152, 3) := by decide +kernel
theorem dX12_swell_5 : decode cX12_swell 5 = .ok (.ifCond .eq 13, 3) := by decide +kernel
theorem dX12_swell_8 : decode cX12_swell 8 = .ok (.iload_n 2, 1) := by decide +kernel
theorem dX12_swell_9 : decode cX12_swell 9 = .ok (.i2l, 1) := by decide +kernel
theorem dX12_swell_10 : decode cX12_swell 10 = .ok (.lconst 0, 1) := by decide +kernel
theorem dX12_swell_11 : decode cX12_swell 11 = .ok (.lconst 1, 1) := by decide +kernel
theorem dX12_swell_12 : decode cX12_swell 12 = .ok (.invokestatic 56, 3) := by decide +kernel
theorem dX12_swell_15 : decode cX12_swell 15 = .ok (.ifCond .ne 9, 3) := by decide +kernel
theorem dX12_swell_18 : decode cX12_swell 18 = .ok (.aload_n 0, 1) := by decide +kernel
theorem dX12_swell_19 : decode cX12_swell 19 = .ok (.iconst 1, 1) := by decide +kernel
theorem dX12_swell_20 : decode cX12_swell 20 = .ok (.invokevirtual 119, 3) := by decide +kernel
theorem dX12_swell_23 : decode cX12_swell 23 = .ok (.ireturn, 1) := by decide +kernel
theorem dX12_swell_24 : decode cX12_swell 24 = .ok (.aload_n 0, 1) := by decide +kernel
theorem dX12_swell_25 : decode cX12_swell 25 = .ok (.iload_n 1, 1) := by decide +kernel
theorem dX12_swell_26 : decode cX12_swell 26 = .ok (.iconst 3, 1) := by decide +kernel
theorem dX12_swell_27 : decode cX12_swell 27 = .ok (.invokevirtual 148, 3) := by decide +kernel
theorem dX12_swell_30 : decode cX12_swell 30 = .ok (.istore_n 3, 1) := by decide +kernel
theorem dX12_swell_31 : decode cX12_swell 31 = .ok (.aload_n 0, 1) := by decide +kernel
theorem dX12_swell_32 : decode cX12_swell 32 = .ok (.iload_n 1, 1) := by decide +kernel
theorem dX12_swell_33 : decode cX12_swell 33 = .ok (.iconst 3, 1) := by decide +kernel
theorem dX12_swell_34 : decode cX12_swell 34 = .ok (.iload_n 2, 1) := by decide +kernel
theorem dX12_swell_35 : decode cX12_swell 35 = .ok (.invokevirtual 137, 3) := by decide +kernel
theorem dX12_swell_38 : decode cX12_swell 38 = .ok (.iload_n 3, 1) := by decide +kernel
theorem dX12_swell_39 : decode cX12_swell 39 = .ok (.ireturn, 1) := by decide +kernel
theorem dX12_isLocked_0 : decode cX12_isLocked 0 = .ok (.aload_n 0, 1) := by decide +kernel
theorem dX12_isLocked_1 : decode cX12_isLocked 1 = .ok (.getfield 7, 3) := by decide +kernel
theorem dX12_isLocked_4 : decode cX12_isLocked 4 = .ok (.iconst 3, 1) := by decide +kernel
theorem dX12_isLocked_5 : decode cX12_isLocked 5 = .ok (.iaload, 1) := by decide +kernel
theorem dX12_isLocked_6 : decode cX12_isLocked 6 = .ok (.aload_n 0, 1) := by decide +kernel
theorem dX12_isLocked_7 : decode cX12_isLocked 7 = .ok (.getfield 7, 3) := by decide +kernel
theorem dX12_isLocked_10 : decode cX12_isLocked 10 = .ok (.bipush 6, 2) := by decide +kernel
theorem dX12_isLocked_12 : decode cX12_isLocked 12 = .ok (.iaload, 1) := by decide +kernel
theorem dX12_isLocked_13 : decode cX12_isLocked 13 = .ok (.if_icmp .lt 23, 3) := by decide +kernel
theorem dX12_isLocked_16 : decode cX12_isLocked 16 = .ok (.aload_n 0, 1) := by decide +kernel
theorem dX12_isLocked_17 : decode cX12_isLocked 17 = .ok (.getfield 7, 3) := by decide +kernel
theorem dX12_isLocked_20 : decode cX12_isLocked 20 = .ok (.iconst 3, 1) := by decide +kernel
theorem dX12_isLocked_21 : decode cX12_isLocked 21 = .ok (.iaload, 1) := by decide +kernel
theorem dX12_isLocked_22 : decode cX12_isLocked 22 = .ok (.aload_n 0, 1) := by decide +kernel
theorem dX12_isLocked_23 : decode cX12_isLocked 23 = .ok (.getfield 7, 3) := by decide +kernel
theorem dX12_isLocked_26 : decode cX12_isLocked 26 = .ok (.bipush 7, 2) := by decide +kernel
theorem dX12_isLocked_28 : decode cX12_isLocked 28 = .ok (.iaload, 1) := by decide +kernel
theorem dX12_isLocked_29 : decode cX12_isLocked 29 = .ok (.if_icmp .ge 7, 3) := by decide +kernel
theorem dX12_isLocked_32 : decode cX12_isLocked 32 = .ok (.iconst 1, 1) := by decide +kernel
theorem dX12_isLocked_33 : decode cX12_isLocked 33 = .ok (.goto 4, 3) := by decide +kernel
theorem dX12_isLocked_36 : decode cX12_isLocked 36 = .ok (.iconst 0, 1) := by decide +kernel
theorem dX12_isLocked_37 : decode cX12_isLocked 37 = .ok (.ireturn, 1) := by decide +kernel
theorem dX12_canPull_0 : decode cX12_canPull 0 = .ok (.iload_n 1, 1) := by decide +kernel
theorem dX12_canPull_1 : decode cX12_canPull 1 = .ok (.iload_n 2, 1) := by decide +kernel
theorem dX12_canPull_2 : decode cX12_canPull 2 = .ok (.if_icmp .eq 31, 3) := by decide +kernel
theorem dX12_canPull_5 : decode cX12_canPull 5 = .ok (.aload_n 0, 1) := by decide +kernel
theorem dX12_canPull_6 : decode cX12_canPull 6 = .ok (.iload_n 1, 1) := by decide +kernel
theorem dX12_canPull_7 : decode cX12_canPull 7 = .ok (.iconst 2, 1) := by decide +kernel
theorem dX12_canPull_8 : decode cX12_canPull 8 = .ok (.invokevirtual 148, 3) := by decide +kernel
theorem dX12_canPull_11 : decode cX12_canPull 11 = .ok (.ifCond .le 22, 3) := by decide +kernel
theorem dX12_canPull_14 : decode cX12_canPull 14 = .ok (.aload_n 0, 1) := by decide +kernel
theorem dX12_canPull_15 : decode cX12_canPull 15 = .ok (.iload_n 1, 1) := by decide +kernel
theorem dX12_canPull_16 : decode cX12_canPull 16 = .ok (.iconst 2, 1) := by decide +kernel
theorem dX12_canPull_17 : decode cX12_canPull 17 = .ok (.invokevirtual 148, 3) := by decide +kernel
theorem dX12_canPull_20 : decode cX12_canPull 20 = .ok (.aload_n 0, 1) := by decide +kernel
theorem dX12_canPull_21 : decode cX12_canPull 21 = .ok (.iload_n 2, 1) := by decide +kernel
theorem dX12_canPull_22 : decode cX12_canPull 22 = .ok (.iconst 2, 1) := by decide +kernel
theorem dX12_canPull_23 : decode cX12_canPull 23 = .ok (.invokevirtual 148, 3) := by decide +kernel
theorem dX12_canPull_26 : decode cX12_canPull 26 = .ok (.if_icmp .ne 7, 3) := by decide +kernel
theorem dX12_canPull_29 : decode cX12_canPull 29 = .ok (.iconst 1, 1) := by decide +kernel
theorem dX12_canPull_30 : decode cX12_canPull 30 = .ok (.goto 4, 3) := by decide +kernel
theorem dX12_canPull_33 : decode cX12_canPull 33 = .ok (.iconst 0, 1) := by decide +kernel
theorem dX12_canPull_34 : decode cX12_canPull 34 = .ok (.istore_n 3, 1) := by decide +kernel
theorem dX12_canPull_35 : decode cX12_canPull 35 = .ok (.iload_n 3, 1) := by decide +kernel
theorem dX12_canPull_36 : decode cX12_canPull 36 = .ok (.ifCond .eq 45, 3) := by decide +kernel
theorem dX12_canPull_39 : decode cX12_canPull 39 = .ok (.aload_n 0, 1) := by decide +kernel
theorem dX12_canPull_40 : decode cX12_canPull 40 = .ok (.iload_n 1, 1) := by decide +kernel
theorem dX12_canPull_41 : decode cX12_canPull 41 = .ok (.iconst 3, 1) := by decide +kernel
theorem dX12_canPull_42 : decode cX12_canPull 42 = .ok (.invokevirtual 148, 3) := by decide +kernel
theorem dX12_canPull_45 : decode cX12_canPull 45 = .ok (.ifCond .ne 36, 3) := by decide +kernel
theorem dX12_canPull_48 : decode cX12_canPull 48 = .ok (.aload_n 0, 1) := by decide +kernel
theorem dX12_canPull_49 : decode cX12_canPull 49 = .ok (.iload_n 2, 1) := by decide +kernel
theorem dX12_canPull_50 : decode cX12_canPull 50 = .ok (.iconst 3, 1) := by decide +kernel
theorem dX12_canPull_51 : decode cX12_canPull 51 = .ok (.invokevirtual 148, 3) := by decide +kernel
theorem dX12_canPull_54 : decode cX12_canPull 54 = .ok (.ifCond .ne 27, 3) := by decide +kernel
theorem dX12_canPull_57 : decode cX12_canPull 57 = .ok (.aload_n 0, 1) := by decide +kernel
theorem dX12_canPull_58 : decode cX12_canPull 58 = .ok (.iload_n 1, 1) := by decide +kernel
theorem dX12_canPull_59 : decode cX12_canPull 59 = .ok (.iconst 1, 1) := by decide +kernel
theorem dX12_canPull_60 : decode cX12_canPull 60 = .ok (.invokevirtual 148, 3) := by decide +kernel
theorem dX12_canPull_63 : decode cX12_canPull 63 = .ok (.bipush 9, 2) := by decide +kernel
theorem dX12_canPull_65 : decode cX12_canPull 65 = .ok (.if_icmp .ge 16, 3) := by decide +kernel
theorem dX12_canPull_68 : decode cX12_canPull 68 = .ok (.aload_n 0, 1) := by decide +kernel
theorem dX12_canPull_69 : decode cX12_canPull 69 = .ok (.iload_n 2, 1) := by decide +kernel
theorem dX12_canPull_70 : decode cX12_canPull 70 = .ok (.iconst 1, 1) := by decide +kernel
theorem dX12_canPull_71 : decode cX12_canPull 71 = .ok (.invokevirtual 148, 3) := by decide +kernel
theorem dX12_canPull_74 : decode cX12_canPull 74 = .ok (.ifCond .le 7, 3) := by decide +kernel
theorem dX12_canPull_77 : decode cX12_canPull 77 = .ok (.iconst 1, 1) := by decide +kernel
theorem dX12_canPull_78 : decode cX12_canPull 78 = .ok (.goto 4, 3) := by decide +kernel
theorem dX12_canPull_81 : decode cX12_canPull 81 = .ok (.iconst 0, 1) := by decide +kernel
theorem dX12_canPull_82 : decode cX12_canPull 82 = .ok (.ireturn, 1) := by decide +kernel
theorem dX12_pulls_0 : decode cX12_pulls 0 = .ok (.aload_n 0, 1) := by decide +kernel
theorem dX12_pulls_1 : decode cX12_pulls 1 = .ok (.iload_n 1, 1) := by decide +kernel
theorem dX12_pulls_2 : decode cX12_pulls 2 = .ok (.iconst 1, 1) := by decide +kernel
theorem dX12_pulls_3 : decode cX12_pulls 3 = .ok (.aload_n 0, 1) := by decide +kernel
theorem dX12_pulls_4 : decode cX12_pulls 4 = .ok (.iload_n 1, 1) := by decide +kernel
theorem dX12_pulls_5 : decode cX12_pulls 5 = .ok (.iconst 1, 1) := by decide +kernel
theorem dX12_pulls_6 : decode cX12_pulls 6 = .ok (.invokevirtual 148, 3) := by decide +kernel
theorem dX12_pulls_9 : decode cX12_pulls 9 = .ok (.iconst 1, 1) := by decide +kernel
theorem dX12_pulls_10 : decode cX12_pulls 10 = .ok (.iadd, 1) := by decide +kernel
theorem dX12_pulls_11 : decode cX12_pulls 11 = .ok (.invokevirtual 137, 3) := by decide +kernel
theorem dX12_pulls_14 : decode cX12_pulls 14 = .ok (.aload_n 0, 1) := by decide +kernel
theorem dX12_pulls_15 : decode cX12_pulls 15 = .ok (.iload_n 2, 1) := by decide +kernel
theorem dX12_pulls_16 : decode cX12_pulls 16 = .ok (.iconst 1, 1) := by decide +kernel
theorem dX12_pulls_17 : decode cX12_pulls 17 = .ok (.aload_n 0, 1) := by decide +kernel
theorem dX12_pulls_18 : decode cX12_pulls 18 = .ok (.iload_n 2, 1) := by decide +kernel
theorem dX12_pulls_19 : decode cX12_pulls 19 = .ok (.iconst 1, 1) := by decide +kernel
theorem dX12_pulls_20 : decode cX12_pulls 20 = .ok (.invokevirtual 148, 3) := by decide +kernel
theorem dX12_pulls_23 : decode cX12_pulls 23 = .ok (.iconst 1, 1) := by decide +kernel
theorem dX12_pulls_24 : decode cX12_pulls 24 = .ok (.isub, 1) := by decide +kernel
theorem dX12_pulls_25 : decode cX12_pulls 25 = .ok (.invokevirtual 137, 3) := by decide +kernel
theorem dX12_pulls_28 : decode cX12_pulls 28 = .ok (.return_, 1) := by decide +kernel
theorem dX12_pull_0 : decode cX12_pull 0 = .ok (.aload_n 0, 1) := by decide +kernel
theorem dX12_pull_1 : decode cX12_pull 1 = .ok (.iload_n 1, 1) := by decide +kernel
theorem dX12_pull_2 : decode cX12_pull 2 = .ok (.invokevirtual 152, 3) := by decide +kernel
theorem dX12_pull_5 : decode cX12_pull 5 = .ok (.ifCond .eq 11, 3) := by decide +kernel
theorem dX12_pull_8 : decode cX12_pull 8 = .ok (.aload_n 0, 1) := by decide +kernel
theorem dX12_pull_9 : decode cX12_pull 9 = .ok (.iload_n 2, 1) := by decide +kernel
theorem dX12_pull_10 : decode cX12_pull 10 = .ok (.invokevirtual 152, 3) := by decide +kernel
theorem dX12_pull_13 : decode cX12_pull 13 = .ok (.ifCond .ne 9, 3) := by decide +kernel
theorem dX12_pull_16 : decode cX12_pull 16 = .ok (.aload_n 0, 1) := by decide +kernel
theorem dX12_pull_17 : decode cX12_pull 17 = .ok (.iconst 1, 1) := by decide +kernel
theorem dX12_pull_18 : decode cX12_pull 18 = .ok (.invokevirtual 119, 3) := by decide +kernel
theorem dX12_pull_21 : decode cX12_pull 21 = .ok (.ireturn, 1) := by decide +kernel
theorem dX12_pull_22 : decode cX12_pull 22 = .ok (.aload_n 0, 1) := by decide +kernel
theorem dX12_pull_23 : decode cX12_pull 23 = .ok (.invokevirtual 161, 3) := by decide +kernel
theorem dX12_pull_26 : decode cX12_pull 26 = .ok (.ifCond .ne 12, 3) := by decide +kernel
theorem dX12_pull_29 : decode cX12_pull 29 = .ok (.aload_n 0, 1) := by decide +kernel
theorem dX12_pull_30 : decode cX12_pull 30 = .ok (.iload_n 1, 1) := by decide +kernel
theorem dX12_pull_31 : decode cX12_pull 31 = .ok (.iload_n 2, 1) := by decide +kernel
theorem dX12_pull_32 : decode cX12_pull 32 = .ok (.invokevirtual 165, 3) := by decide +kernel
theorem dX12_pull_35 : decode cX12_pull 35 = .ok (.ifCond .ne 9, 3) := by decide +kernel
theorem dX12_pull_38 : decode cX12_pull 38 = .ok (.aload_n 0, 1) := by decide +kernel
theorem dX12_pull_39 : decode cX12_pull 39 = .ok (.iconst 3, 1) := by decide +kernel
theorem dX12_pull_40 : decode cX12_pull 40 = .ok (.invokevirtual 119, 3) := by decide +kernel
theorem dX12_pull_43 : decode cX12_pull 43 = .ok (.ireturn, 1) := by decide +kernel
theorem dX12_pull_44 : decode cX12_pull 44 = .ok (.aload_n 0, 1) := by decide +kernel
theorem dX12_pull_45 : decode cX12_pull 45 = .ok (.iload_n 1, 1) := by decide +kernel
theorem dX12_pull_46 : decode cX12_pull 46 = .ok (.iload_n 2, 1) := by decide +kernel
theorem dX12_pull_47 : decode cX12_pull 47 = .ok (.invokevirtual 169, 3) := by decide +kernel
theorem dX12_pull_50 : decode cX12_pull 50 = .ok (.aload_n 0, 1) := by decide +kernel
theorem dX12_pull_51 : decode cX12_pull 51 = .ok (.iload_n 1, 1) := by decide +kernel
theorem dX12_pull_52 : decode cX12_pull 52 = .ok (.iconst 1, 1) := by decide +kernel
theorem dX12_pull_53 : decode cX12_pull 53 = .ok (.invokevirtual 148, 3) := by decide +kernel
theorem dX12_pull_56 : decode cX12_pull 56 = .ok (.ireturn, 1) := by decide +kernel
theorem dX12_swaps_0 : decode cX12_swaps 0 = .ok (.aload_n 0, 1) := by decide +kernel
theorem dX12_swaps_1 : decode cX12_swaps 1 = .ok (.iload_n 1, 1) := by decide +kernel
theorem dX12_swaps_2 : decode cX12_swaps 2 = .ok (.iconst 2, 1) := by decide +kernel
theorem dX12_swaps_3 : decode cX12_swaps 3 = .ok (.invokevirtual 148, 3) := by decide +kernel
theorem dX12_swaps_6 : decode cX12_swaps 6 = .ok (.istore_n 3, 1) := by decide +kernel
theorem dX12_swaps_7 : decode cX12_swaps 7 = .ok (.aload_n 0, 1) := by decide +kernel
theorem dX12_swaps_8 : decode cX12_swaps 8 = .ok (.iload_n 1, 1) := by decide +kernel
theorem dX12_swaps_9 : decode cX12_swaps 9 = .ok (.iconst 2, 1) := by decide +kernel
theorem dX12_swaps_10 : decode cX12_swaps 10 = .ok (.aload_n 0, 1) := by decide +kernel
theorem dX12_swaps_11 : decode cX12_swaps 11 = .ok (.iload_n 2, 1) := by decide +kernel
theorem dX12_swaps_12 : decode cX12_swaps 12 = .ok (.iconst 2, 1) := by decide +kernel
theorem dX12_swaps_13 : decode cX12_swaps 13 = .ok (.invokevirtual 148, 3) := by decide +kernel
theorem dX12_swaps_16 : decode cX12_swaps 16 = .ok (.invokevirtual 137, 3) := by decide +kernel
theorem dX12_swaps_19 : decode cX12_swaps 19 = .ok (.aload_n 0, 1) := by decide +kernel
theorem dX12_swaps_20 : decode cX12_swaps 20 = .ok (.iload_n 2, 1) := by decide +kernel
theorem dX12_swaps_21 : decode cX12_swaps 21 = .ok (.iconst 2, 1) := by decide +kernel
theorem dX12_swaps_22 : decode cX12_swaps 22 = .ok (.iload_n 3, 1) := by decide +kernel
theorem dX12_swaps_23 : decode cX12_swaps 23 = .ok (.invokevirtual 137, 3) := by decide +kernel
theorem dX12_swaps_26 : decode cX12_swaps 26 = .ok (.return_, 1) := by decide +kernel
theorem dX12_swap_0 : decode cX12_swap 0 = .ok (.aload_n 0, 1) := by decide +kernel
theorem dX12_swap_1 : decode cX12_swap 1 = .ok (.iload_n 1, 1) := by decide +kernel
theorem dX12_swap_2 : decode cX12_swap 2 = .ok (.invokevirtual 152, 3) := by decide +kernel
theorem dX12_swap_5 : decode cX12_swap 5 = .ok (.ifCond .eq 11, 3) := by decide +kernel
theorem dX12_swap_8 : decode cX12_swap 8 = .ok (.aload_n 0, 1) := by decide +kernel
theorem dX12_swap_9 : decode cX12_swap 9 = .ok (.iload_n 2, 1) := by decide +kernel
theorem dX12_swap_10 : decode cX12_swap 10 = .ok (.invokevirtual 152, 3) := by decide +kernel
theorem dX12_swap_13 : decode cX12_swap 13 = .ok (.ifCond .ne 9, 3) := by decide +kernel
theorem dX12_swap_16 : decode cX12_swap 16 = .ok (.aload_n 0, 1) := by decide +kernel
theorem dX12_swap_17 : decode cX12_swap 17 = .ok (.iconst 1, 1) := by decide +kernel
theorem dX12_swap_18 : decode cX12_swap 18 = .ok (.invokevirtual 119, 3) := by decide +kernel
theorem dX12_swap_21 : decode cX12_swap 21 = .ok (.ireturn, 1) := by decide +kernel
theorem dX12_swap_22 : decode cX12_swap 22 = .ok (.aload_n 0, 1) := by decide +kernel
theorem dX12_swap_23 : decode cX12_swap 23 = .ok (.iload_n 1, 1) := by decide +kernel
theorem dX12_swap_24 : decode cX12_swap 24 = .ok (.iload_n 2, 1) := by decide +kernel
theorem dX12_swap_25 : decode cX12_swap 25 = .ok (.invokevirtual 173, 3) := by decide +kernel
theorem dX12_swap_28 : decode cX12_swap 28 = .ok (.iconst 1, 1) := by decide +kernel
theorem dX12_swap_29 : decode cX12_swap 29 = .ok (.ireturn, 1) := by decide +kernel
theorem dX12_openIn_0 : decode cX12_openIn 0 = .ok (.iconst 0, 1) := by decide +kernel
theorem dX12_openIn_1 : decode cX12_openIn 1 = .ok (.istore_n 2, 1) := by decide +kernel
theorem dX12_openIn_2 : decode cX12_openIn 2 = .ok (.iconst 0, 1) := by decide +kernel
theorem dX12_openIn_3 : decode cX12_openIn 3 = .ok (.istore_n 3, 1) := by decide +kernel
theorem dX12_openIn_4 : decode cX12_openIn 4 = .ok (.iload_n 3, 1) := by decide +kernel
theorem dX12_openIn_5 : decode cX12_openIn 5 = .ok (.aload_n 0, 1) := by decide +kernel
theorem dX12_openIn_6 : decode cX12_openIn 6 = .ok (.getfield 7, 3) := by decide +kernel
theorem dX12_openIn_9 : decode cX12_openIn 9 = .ok (.iconst 0, 1) := by decide +kernel
theorem dX12_openIn_10 : decode cX12_openIn 10 = .ok (.iaload, 1) := by decide +kernel
theorem dX12_openIn_11 : decode cX12_openIn 11 = .ok (.if_icmp .ge 32, 3) := by decide +kernel
theorem dX12_openIn_14 : decode cX12_openIn 14 = .ok (.iload_n 2, 1) := by decide +kernel
theorem dX12_openIn_15 : decode cX12_openIn 15 = .ok (.aload_n 0, 1) := by decide +kernel
theorem dX12_openIn_16 : decode cX12_openIn 16 = .ok (.iload_n 3, 1) := by decide +kernel
theorem dX12_openIn_17 : decode cX12_openIn 17 = .ok (.iconst 0, 1) := by decide +kernel
theorem dX12_openIn_18 : decode cX12_openIn 18 = .ok (.invokevirtual 148, 3) := by decide +kernel
theorem dX12_openIn_21 : decode cX12_openIn 21 = .ok (.iload_n 1, 1) := by decide +kernel
theorem dX12_openIn_22 : decode cX12_openIn 22 = .ok (.if_icmp .ne 12, 3) := by decide +kernel
theorem dX12_openIn_25 : decode cX12_openIn 25 = .ok (.aload_n 0, 1) := by decide +kernel
theorem dX12_openIn_26 : decode cX12_openIn 26 = .ok (.iload_n 3, 1) := by decide +kernel
theorem dX12_openIn_27 : decode cX12_openIn 27 = .ok (.iconst 1, 1) := by decide +kernel
theorem dX12_openIn_28 : decode cX12_openIn 28 = .ok (.invokevirtual 148, 3) := by decide +kernel
theorem dX12_openIn_31 : decode cX12_openIn 31 = .ok (.goto 4, 3) := by decide +kernel
theorem dX12_openIn_34 : decode cX12_openIn 34 = .ok (.iconst 0, 1) := by decide +kernel
theorem dX12_openIn_35 : decode cX12_openIn 35 = .ok (.iadd, 1) := by decide +kernel
theorem dX12_openIn_36 : decode cX12_openIn 36 = .ok (.istore_n 2, 1) := by decide +kernel
theorem dX12_openIn_37 : decode cX12_openIn 37 = .ok (.iinc 3 1, 3) := by decide +kernel
theorem dX12_openIn_40 : decode cX12_openIn 40 = .ok (.goto (-36), 3) := by decide +kernel
theorem dX12_openIn_43 : decode cX12_openIn 43 = .ok (.iload_n 2, 1) := by decide +kernel
theorem dX12_openIn_44 : decode cX12_openIn 44 = .ok (.ireturn, 1) := by decide +kernel
theorem dX12_airOf_0 : decode cX12_airOf 0 = .ok (.aload_n 0, 1) := by decide +kernel
theorem dX12_airOf_1 : decode cX12_airOf 1 = .ok (.iconst 0, 1) := by decide +kernel
theorem dX12_airOf_2 : decode cX12_airOf 2 = .ok (.aload_n 0, 1) := by decide +kernel
theorem dX12_airOf_3 : decode cX12_airOf 3 = .ok (.iload_n 1, 1) := by decide +kernel
theorem dX12_airOf_4 : decode cX12_airOf 4 = .ok (.invokevirtual 176, 3) := by decide +kernel
theorem dX12_airOf_7 : decode cX12_airOf 7 = .ok (.aload_n 0, 1) := by decide +kernel
theorem dX12_airOf_8 : decode cX12_airOf 8 = .ok (.iload_n 1, 1) := by decide +kernel
theorem dX12_airOf_9 : decode cX12_airOf 9 = .ok (.iconst 1, 1) := by decide +kernel
theorem dX12_airOf_10 : decode cX12_airOf 10 = .ok (.isub, 1) := by decide +kernel
theorem dX12_airOf_11 : decode cX12_airOf 11 = .ok (.invokevirtual 176, 3) := by decide +kernel
theorem dX12_airOf_14 : decode cX12_airOf 14 = .ok (.aload_n 0, 1) := by decide +kernel
theorem dX12_airOf_15 : decode cX12_airOf 15 = .ok (.iload_n 1, 1) := by decide +kernel
theorem dX12_airOf_16 : decode cX12_airOf 16 = .ok (.iconst 1, 1) := by decide +kernel
theorem dX12_airOf_17 : decode cX12_airOf 17 = .ok (.iadd, 1) := by decide +kernel
theorem dX12_airOf_18 : decode cX12_airOf 18 = .ok (.invokevirtual 176, 3) := by decide +kernel
theorem dX12_airOf_21 : decode cX12_airOf 21 = .ok (.iadd, 1) := by decide +kernel
theorem dX12_airOf_22 : decode cX12_airOf 22 = .ok (.aload_n 0, 1) := by decide +kernel
theorem dX12_airOf_23 : decode cX12_airOf 23 = .ok (.getfield 7, 3) := by decide +kernel
theorem dX12_airOf_26 : decode cX12_airOf 26 = .ok (.iconst 3, 1) := by decide +kernel
theorem dX12_airOf_27 : decode cX12_airOf 27 = .ok (.iaload, 1) := by decide +kernel
theorem dX12_airOf_28 : decode cX12_airOf 28 = .ok (.invokevirtual 131, 3) := by decide +kernel
theorem dX12_airOf_31 : decode cX12_airOf 31 = .ok (.ireturn, 1) := by decide +kernel
theorem dX12_air_0 : decode cX12_air 0 = .ok (.iload_n 1, 1) := by decide +kernel
theorem dX12_air_1 : decode cX12_air 1 = .ok (.i2l, 1) := by decide +kernel
theorem dX12_air_2 : decode cX12_air 2 = .ok (.lconst 0, 1) := by decide +kernel
theorem dX12_air_3 : decode cX12_air 3 = .ok (.ldc2_w 117, 3) := by decide +kernel
theorem dX12_air_6 : decode cX12_air 6 = .ok (.invokestatic 56, 3) := by decide +kernel
theorem dX12_air_9 : decode cX12_air 9 = .ok (.ifCond .eq 11, 3) := by decide +kernel
theorem dX12_air_12 : decode cX12_air 12 = .ok (.aload_n 0, 1) := by decide +kernel
theorem dX12_air_13 : decode cX12_air 13 = .ok (.iload_n 1, 1) := by decide +kernel
theorem dX12_air_14 : decode cX12_air 14 = .ok (.invokevirtual 179, 3) := by decide +kernel
theorem dX12_air_17 : decode cX12_air 17 = .ok (.goto 8, 3) := by decide +kernel
theorem dX12_air_20 : decode cX12_air 20 = .ok (.aload_n 0, 1) := by decide +kernel
theorem dX12_air_21 : decode cX12_air 21 = .ok (.iconst 1, 1) := by decide +kernel
theorem dX12_air_22 : decode cX12_air 22 = .ok (.invokevirtual 119, 3) := by decide +kernel
theorem dX12_air_25 : decode cX12_air 25 = .ok (.ireturn, 1) := by decide +kernel
theorem dX12_leastOf_0 : decode cX12_leastOf 0 = .ok (.aload_n 0, 1) := by decide +kernel
theorem dX12_leastOf_1 : decode cX12_leastOf 1 = .ok (.iload_n 1, 1) := by decide +kernel
theorem dX12_leastOf_2 : decode cX12_leastOf 2 = .ok (.iconst 0, 1) := by decide +kernel
theorem dX12_leastOf_3 : decode cX12_leastOf 3 = .ok (.invokevirtual 182, 3) := by decide +kernel
theorem dX12_leastOf_6 : decode cX12_leastOf 6 = .ok (.tableswitch 49 1 5 #[34, 36, 49, 47, 36], 34) := by decide +kernel
theorem dX12_leastOf_40 : decode cX12_leastOf 40 = .ok (.iconst 0, 1) := by decide +kernel
theorem dX12_leastOf_41 : decode cX12_leastOf 41 = .ok (.ireturn, 1) := by decide +kernel
theorem dX12_leastOf_42 : decode cX12_leastOf 42 = .ok (.iconst 5, 1) := by decide +kernel
theorem dX12_leastOf_43 : decode cX12_leastOf 43 = .ok (.aload_n 0, 1) := by decide +kernel
theorem dX12_leastOf_44 : decode cX12_leastOf 44 = .ok (.iload_n 1, 1) := by decide +kernel
theorem dX12_leastOf_45 : decode cX12_leastOf 45 = .ok (.iconst 1, 1) := by decide +kernel
theorem dX12_leastOf_46 : decode cX12_leastOf 46 = .ok (.invokevirtual 182, 3) := by decide +kernel
theorem dX12_leastOf_49 : decode cX12_leastOf 49 = .ok (.iconst 2, 1) := by decide +kernel
theorem dX12_leastOf_50 : decode cX12_leastOf 50 = .ok (.idiv, 1) := by decide +kernel
theorem dX12_leastOf_51 : decode cX12_leastOf 51 = .ok (.iadd, 1) := by decide +kernel
theorem dX12_leastOf_52 : decode cX12_leastOf 52 = .ok (.ireturn, 1) := by decide +kernel
theorem dX12_leastOf_53 : decode cX12_leastOf 53 = .ok (.iconst 4, 1) := by decide +kernel
theorem dX12_leastOf_54 : decode cX12_leastOf 54 = .ok (.ireturn, 1) := by decide +kernel
theorem dX12_leastOf_55 : decode cX12_leastOf 55 = .ok (.iconst 2, 1) := by decide +kernel
theorem dX12_leastOf_56 : decode cX12_leastOf 56 = .ok (.ireturn, 1) := by decide +kernel
theorem dX12_mostOf_0 : decode cX12_mostOf 0 = .ok (.aload_n 0, 1) := by decide +kernel
theorem dX12_mostOf_1 : decode cX12_mostOf 1 = .ok (.iload_n 1, 1) := by decide +kernel
theorem dX12_mostOf_2 : decode cX12_mostOf 2 = .ok (.iconst 0, 1) := by decide +kernel
theorem dX12_mostOf_3 : decode cX12_mostOf 3 = .ok (.invokevirtual 182, 3) := by decide +kernel
theorem dX12_mostOf_6 : decode cX12_mostOf 6 = .ok (.tableswitch 55 1 5 #[34, 43, 55, 46, 43], 34) := by decide +kernel
theorem dX12_mostOf_40 : decode cX12_mostOf 40 = .ok (.iconst 3, 1) := by decide +kernel
theorem dX12_mostOf_41 : decode cX12_mostOf 41 = .ok (.aload_n 0, 1) := by decide +kernel
theorem dX12_mostOf_42 : decode cX12_mostOf 42 = .ok (.iload_n 1, 1) := by decide +kernel
theorem dX12_mostOf_43 : decode cX12_mostOf 43 = .ok (.iconst 1, 1) := by decide +kernel
theorem dX12_mostOf_44 : decode cX12_mostOf 44 = .ok (.invokevirtual 182, 3) := by decide +kernel
theorem dX12_mostOf_47 : decode cX12_mostOf 47 = .ok (.iadd, 1) := by decide +kernel
theorem dX12_mostOf_48 : decode cX12_mostOf 48 = .ok (.ireturn, 1) := by decide +kernel
theorem dX12_mostOf_49 : decode cX12_mostOf 49 = .ok (.bipush 99, 2) := by decide +kernel
theorem dX12_mostOf_51 : decode cX12_mostOf 51 = .ok (.ireturn, 1) := by decide +kernel
theorem dX12_mostOf_52 : decode cX12_mostOf 52 = .ok (.iconst 4, 1) := by decide +kernel
theorem dX12_mostOf_53 : decode cX12_mostOf 53 = .ok (.aload_n 0, 1) := by decide +kernel
theorem dX12_mostOf_54 : decode cX12_mostOf 54 = .ok (.iload_n 1, 1) := by decide +kernel
theorem dX12_mostOf_55 : decode cX12_mostOf 55 = .ok (.iconst 1, 1) := by decide +kernel
theorem dX12_mostOf_56 : decode cX12_mostOf 56 = .ok (.invokevirtual 182, 3) := by decide +kernel
theorem dX12_mostOf_59 : decode cX12_mostOf 59 = .ok (.iadd, 1) := by decide +kernel
theorem dX12_mostOf_60 : decode cX12_mostOf 60 = .ok (.ireturn, 1) := by decide +kernel
theorem dX12_mostOf_61 : decode cX12_mostOf 61 = .ok (.bipush 9, 2) := by decide +kernel
theorem dX12_mostOf_63 : decode cX12_mostOf 63 = .ok (.aload_n 0, 1) := by decide +kernel
theorem dX12_mostOf_64 : decode cX12_mostOf 64 = .ok (.iload_n 1, 1) := by decide +kernel
theorem dX12_mostOf_65 : decode cX12_mostOf 65 = .ok (.iconst 1, 1) := by decide +kernel
theorem dX12_mostOf_66 : decode cX12_mostOf 66 = .ok (.invokevirtual 182, 3) := by decide +kernel
theorem dX12_mostOf_69 : decode cX12_mostOf 69 = .ok (.iadd, 1) := by decide +kernel
theorem dX12_mostOf_70 : decode cX12_mostOf 70 = .ok (.ireturn, 1) := by decide +kernel
theorem dX12_pullsOf_0 : decode cX12_pullsOf 0 = .ok (.aload_n 0, 1) := by decide +kernel
theorem dX12_pullsOf_1 : decode cX12_pullsOf 1 = .ok (.iload_n 1, 1) := by decide +kernel
theorem dX12_pullsOf_2 : decode cX12_pullsOf 2 = .ok (.iconst 0, 1) := by decide +kernel
theorem dX12_pullsOf_3 : decode cX12_pullsOf 3 = .ok (.invokevirtual 182, 3) := by decide +kernel
theorem dX12_pullsOf_6 : decode cX12_pullsOf 6 = .ok (.iconst 5, 1) := by decide +kernel
theorem dX12_pullsOf_7 : decode cX12_pullsOf 7 = .ok (.if_icmp .ne 7, 3) := by decide +kernel
theorem dX12_pullsOf_10 : decode cX12_pullsOf 10 = .ok (.iconst 2, 1) := by decide +kernel
theorem dX12_pullsOf_11 : decode cX12_pullsOf 11 = .ok (.goto 4, 3) := by decide +kernel
theorem dX12_pullsOf_14 : decode cX12_pullsOf 14 = .ok (.iconst 1, 1) := by decide +kernel
theorem dX12_pullsOf_15 : decode cX12_pullsOf 15 = .ok (.ireturn, 1) := by decide +kernel
theorem dX12_isContent_0 : decode cX12_isContent 0 = .ok (.aload_n 0, 1) := by decide +kernel
theorem dX12_isContent_1 : decode cX12_isContent 1 = .ok (.aload_n 0, 1) := by decide +kernel
theorem dX12_isContent_2 : decode cX12_isContent 2 = .ok (.iload_n 1, 1) := by decide +kernel
theorem dX12_isContent_3 : decode cX12_isContent 3 = .ok (.iconst 2, 1) := by decide +kernel
theorem dX12_isContent_4 : decode cX12_isContent 4 = .ok (.invokevirtual 182, 3) := by decide +kernel
theorem dX12_isContent_7 : decode cX12_isContent 7 = .ok (.invokevirtual 179, 3) := by decide +kernel
theorem dX12_isContent_10 : decode cX12_isContent 10 = .ok (.istore_n 2, 1) := by decide +kernel
theorem dX12_isContent_11 : decode cX12_isContent 11 = .ok (.aload_n 0, 1) := by decide +kernel
theorem dX12_isContent_12 : decode cX12_isContent 12 = .ok (.iload_n 1, 1) := by decide +kernel
theorem dX12_isContent_13 : decode cX12_isContent 13 = .ok (.iconst 0, 1) := by decide +kernel
theorem dX12_isContent_14 : decode cX12_isContent 14 = .ok (.invokevirtual 182, 3) := by decide +kernel
theorem dX12_isContent_17 : decode cX12_isContent 17 = .ok (.istore_n 3, 1) := by decide +kernel
theorem dX12_isContent_18 : decode cX12_isContent 18 = .ok (.iload_n 2, 1) := by decide +kernel
theorem dX12_isContent_19 : decode cX12_isContent 19 = .ok (.i2l, 1) := by decide +kernel
theorem dX12_isContent_20 : decode cX12_isContent 20 = .ok (.aload_n 0, 1) := by decide +kernel
theorem dX12_isContent_21 : decode cX12_isContent 21 = .ok (.iload_n 1, 1) := by decide +kernel
theorem dX12_isContent_22 : decode cX12_isContent 22 = .ok (.invokevirtual 185, 3) := by decide +kernel
theorem dX12_isContent_25 : decode cX12_isContent 25 = .ok (.i2l, 1) := by decide +kernel
theorem dX12_isContent_26 : decode cX12_isContent 26 = .ok (.aload_n 0, 1) := by decide +kernel
theorem dX12_isContent_27 : decode cX12_isContent 27 = .ok (.iload_n 1, 1) := by decide +kernel
theorem dX12_isContent_28 : decode cX12_isContent 28 = .ok (.invokevirtual 188, 3) := by decide +kernel
theorem dX12_isContent_31 : decode cX12_isContent 31 = .ok (.i2l, 1) := by decide +kernel
theorem dX12_isContent_32 : decode cX12_isContent 32 = .ok (.invokestatic 56, 3) := by decide +kernel
theorem dX12_isContent_35 : decode cX12_isContent 35 = .ok (.istore 4, 2) := by decide +kernel
theorem dX12_isContent_37 : decode cX12_isContent 37 = .ok (.iload 4, 2) := by decide +kernel
theorem dX12_isContent_39 : decode cX12_isContent 39 = .ok (.ifCond .ne 25, 3) := by decide +kernel
theorem dX12_isContent_42 : decode cX12_isContent 42 = .ok (.aload_n 0, 1) := by decide +kernel
theorem dX12_isContent_43 : decode cX12_isContent 43 = .ok (.getfield 7, 3) := by decide +kernel
theorem dX12_isContent_46 : decode cX12_isContent 46 = .ok (.iconst 3, 1) := by decide +kernel
theorem dX12_isContent_47 : decode cX12_isContent 47 = .ok (.iaload, 1) := by decide +kernel
theorem dX12_isContent_48 : decode cX12_isContent 48 = .ok (.bipush 6, 2) := by decide +kernel
theorem dX12_isContent_50 : decode cX12_isContent 50 = .ok (.if_icmp .lt 14, 3) := by decide +kernel
theorem dX12_isContent_53 : decode cX12_isContent 53 = .ok (.aload_n 0, 1) := by decide +kernel
theorem dX12_isContent_54 : decode cX12_isContent 54 = .ok (.getfield 7, 3) := by decide +kernel
theorem dX12_isContent_57 : decode cX12_isContent 57 = .ok (.iconst 3, 1) := by decide +kernel
theorem dX12_isContent_58 : decode cX12_isContent 58 = .ok (.iaload, 1) := by decide +kernel
theorem dX12_isContent_59 : decode cX12_isContent 59 = .ok (.bipush 20, 2) := by decide +kernel
theorem dX12_isContent_61 : decode cX12_isContent 61 = .ok (.if_icmp .lt 7, 3) := by decide +kernel
theorem dX12_isContent_64 : decode cX12_isContent 64 = .ok (.iconst 1, 1) := by decide +kernel
theorem dX12_isContent_65 : decode cX12_isContent 65 = .ok (.goto 4, 3) := by decide +kernel
theorem dX12_isContent_68 : decode cX12_isContent 68 = .ok (.iconst 0, 1) := by decide +kernel
theorem dX12_isContent_69 : decode cX12_isContent 69 = .ok (.istore 5, 2) := by decide +kernel
theorem dX12_isContent_71 : decode cX12_isContent 71 = .ok (.iload_n 3, 1) := by decide +kernel
theorem dX12_isContent_72 : decode cX12_isContent 72 = .ok (.iconst 3, 1) := by decide +kernel
theorem dX12_isContent_73 : decode cX12_isContent 73 = .ok (.if_icmp .ne 8, 3) := by decide +kernel
theorem dX12_isContent_76 : decode cX12_isContent 76 = .ok (.iload 5, 2) := by decide +kernel
theorem dX12_isContent_78 : decode cX12_isContent 78 = .ok (.goto 24, 3) := by decide +kernel
theorem dX12_isContent_81 : decode cX12_isContent 81 = .ok (.iload_n 3, 1) := by decide +kernel
theorem dX12_isContent_82 : decode cX12_isContent 82 = .ok (.bipush 6, 2) := by decide +kernel
theorem dX12_isContent_84 : decode cX12_isContent 84 = .ok (.if_icmp .ne 16, 3) := by decide +kernel
theorem dX12_isContent_87 : decode cX12_isContent 87 = .ok (.iload 5, 2) := by decide +kernel
theorem dX12_isContent_89 : decode cX12_isContent 89 = .ok (.ifCond .ne 7, 3) := by decide +kernel
theorem dX12_isContent_92 : decode cX12_isContent 92 = .ok (.iconst 1, 1) := by decide +kernel
theorem dX12_isContent_93 : decode cX12_isContent 93 = .ok (.goto 9, 3) := by decide +kernel
theorem dX12_isContent_96 : decode cX12_isContent 96 = .ok (.iconst 0, 1) := by decide +kernel
theorem dX12_isContent_97 : decode cX12_isContent 97 = .ok (.goto 5, 3) := by decide +kernel
theorem dX12_isContent_100 : decode cX12_isContent 100 = .ok (.iload 4, 2) := by decide +kernel
theorem dX12_isContent_102 : decode cX12_isContent 102 = .ok (.ireturn, 1) := by decide +kernel
theorem dX12_allContent_0 : decode cX12_allContent 0 = .ok (.iconst 0, 1) := by decide +kernel
theorem dX12_allContent_1 : decode cX12_allContent 1 = .ok (.istore_n 1, 1) := by decide +kernel
theorem dX12_allContent_2 : decode cX12_allContent 2 = .ok (.iconst 0, 1) := by decide +kernel
theorem dX12_allContent_3 : decode cX12_allContent 3 = .ok (.istore_n 2, 1) := by decide +kernel
theorem dX12_allContent_4 : decode cX12_allContent 4 = .ok (.iload_n 2, 1) := by decide +kernel
theorem dX12_allContent_5 : decode cX12_allContent 5 = .ok (.aload_n 0, 1) := by decide +kernel
theorem dX12_allContent_6 : decode cX12_allContent 6 = .ok (.getfield 7, 3) := by decide +kernel
theorem dX12_allContent_9 : decode cX12_allContent 9 = .ok (.iconst 2, 1) := by decide +kernel
theorem dX12_allContent_10 : decode cX12_allContent 10 = .ok (.iaload, 1) := by decide +kernel
theorem dX12_allContent_11 : decode cX12_allContent 11 = .ok (.if_icmp .ge 27, 3) := by decide +kernel
theorem dX12_allContent_14 : decode cX12_allContent 14 = .ok (.iload_n 1, 1) := by decide +kernel
theorem dX12_allContent_15 : decode cX12_allContent 15 = .ok (.aload_n 0, 1) := by decide +kernel
theorem dX12_allContent_16 : decode cX12_allContent 16 = .ok (.iload_n 2, 1) := by decide +kernel
theorem dX12_allContent_17 : decode cX12_allContent 17 = .ok (.invokevirtual 191, 3) := by decide +kernel
theorem dX12_allContent_20 : decode cX12_allContent 20 = .ok (.ifCond .eq 9, 3) := by decide +kernel
theorem dX12_allContent_23 : decode cX12_allContent 23 = .ok (.iconst 1, 1) := by decide +kernel
theorem dX12_allContent_24 : decode cX12_allContent 24 = .ok (.iload_n 2, 1) := by decide +kernel
theorem dX12_allContent_25 : decode cX12_allContent 25 = .ok (.ishl, 1) := by decide +kernel
theorem dX12_allContent_26 : decode cX12_allContent 26 = .ok (.goto 4, 3) := by decide +kernel
theorem dX12_allContent_29 : decode cX12_allContent 29 = .ok (.iconst 0, 1) := by decide +kernel
theorem dX12_allContent_30 : decode cX12_allContent 30 = .ok (.ior, 1) := by decide +kernel
theorem dX12_allContent_31 : decode cX12_allContent 31 = .ok (.istore_n 1, 1) := by decide +kernel
theorem dX12_allContent_32 : decode cX12_allContent 32 = .ok (.iinc 2 1, 3) := by decide +kernel
theorem dX12_allContent_35 : decode cX12_allContent 35 = .ok (.goto (-31), 3) := by decide +kernel
theorem dX12_allContent_38 : decode cX12_allContent 38 = .ok (.iload_n 1, 1) := by decide +kernel
theorem dX12_allContent_39 : decode cX12_allContent 39 = .ok (.ireturn, 1) := by decide +kernel
theorem dX12_lodger_0 : decode cX12_lodger 0 = .ok (.iload_n 1, 1) := by decide +kernel
theorem dX12_lodger_1 : decode cX12_lodger 1 = .ok (.i2l, 1) := by decide +kernel
theorem dX12_lodger_2 : decode cX12_lodger 2 = .ok (.lconst 0, 1) := by decide +kernel
theorem dX12_lodger_3 : decode cX12_lodger 3 = .ok (.ldc2_w 194, 3) := by decide +kernel
theorem dX12_lodger_6 : decode cX12_lodger 6 = .ok (.invokestatic 56, 3) := by decide +kernel
theorem dX12_lodger_9 : decode cX12_lodger 9 = .ok (.ifCond .eq 15, 3) := by decide +kernel
theorem dX12_lodger_12 : decode cX12_lodger 12 = .ok (.iload_n 2, 1) := by decide +kernel
theorem dX12_lodger_13 : decode cX12_lodger 13 = .ok (.i2l, 1) := by decide +kernel
theorem dX12_lodger_14 : decode cX12_lodger 14 = .ok (.lconst 0, 1) := by decide +kernel
theorem dX12_lodger_15 : decode cX12_lodger 15 = .ok (.ldc2_w 117, 3) := by decide +kernel
theorem dX12_lodger_18 : decode cX12_lodger 18 = .ok (.invokestatic 56, 3) := by decide +kernel
theorem dX12_lodger_21 : decode cX12_lodger 21 = .ok (.ifCond .ne 9, 3) := by decide +kernel
theorem dX12_lodger_24 : decode cX12_lodger 24 = .ok (.aload_n 0, 1) := by decide +kernel
theorem dX12_lodger_25 : decode cX12_lodger 25 = .ok (.iconst 1, 1) := by decide +kernel
theorem dX12_lodger_26 : decode cX12_lodger 26 = .ok (.invokevirtual 119, 3) := by decide +kernel
theorem dX12_lodger_29 : decode cX12_lodger 29 = .ok (.ireturn, 1) := by decide +kernel
theorem dX12_lodger_30 : decode cX12_lodger 30 = .ok (.aload_n 0, 1) := by decide +kernel
theorem dX12_lodger_31 : decode cX12_lodger 31 = .ok (.getfield 7, 3) := by decide +kernel
theorem dX12_lodger_34 : decode cX12_lodger 34 = .ok (.iconst 2, 1) := by decide +kernel
theorem dX12_lodger_35 : decode cX12_lodger 35 = .ok (.iaload, 1) := by decide +kernel
theorem dX12_lodger_36 : decode cX12_lodger 36 = .ok (.bipush 6, 2) := by decide +kernel
theorem dX12_lodger_38 : decode cX12_lodger 38 = .ok (.if_icmp .ne 9, 3) := by decide +kernel
theorem dX12_lodger_41 : decode cX12_lodger 41 = .ok (.aload_n 0, 1) := by decide +kernel
theorem dX12_lodger_42 : decode cX12_lodger 42 = .ok (.iconst 4, 1) := by decide +kernel
theorem dX12_lodger_43 : decode cX12_lodger 43 = .ok (.invokevirtual 119, 3) := by decide +kernel
theorem dX12_lodger_46 : decode cX12_lodger 46 = .ok (.ireturn, 1) := by decide +kernel
theorem dX12_lodger_47 : decode cX12_lodger 47 = .ok (.aload_n 0, 1) := by decide +kernel
theorem dX12_lodger_48 : decode cX12_lodger 48 = .ok (.getfield 7, 3) := by decide +kernel
theorem dX12_lodger_51 : decode cX12_lodger 51 = .ok (.iconst 2, 1) := by decide +kernel
theorem dX12_lodger_52 : decode cX12_lodger 52 = .ok (.iaload, 1) := by decide +kernel
theorem dX12_lodger_53 : decode cX12_lodger 53 = .ok (.istore_n 3, 1) := by decide +kernel
theorem dX12_lodger_54 : decode cX12_lodger 54 = .ok (.aload_n 0, 1) := by decide +kernel
theorem dX12_lodger_55 : decode cX12_lodger 55 = .ok (.getfield 7, 3) := by decide +kernel
theorem dX12_lodger_58 : decode cX12_lodger 58 = .ok (.iconst 2, 1) := by decide +kernel
theorem dX12_lodger_59 : decode cX12_lodger 59 = .ok (.dup2, 1) := by decide +kernel
theorem dX12_lodger_60 : decode cX12_lodger 60 = .ok (.iaload, 1) := by decide +kernel
theorem dX12_lodger_61 : decode cX12_lodger 61 = .ok (.iconst 1, 1) := by decide +kernel
theorem dX12_lodger_62 : decode cX12_lodger 62 = .ok (.iadd, 1) := by decide +kernel
theorem dX12_lodger_63 : decode cX12_lodger 63 = .ok (.iastore, 1) := by decide +kernel
theorem dX12_lodger_64 : decode cX12_lodger 64 = .ok (.aload_n 0, 1) := by decide +kernel
theorem dX12_lodger_65 : decode cX12_lodger 65 = .ok (.iload_n 3, 1) := by decide +kernel
theorem dX12_lodger_66 : decode cX12_lodger 66 = .ok (.iconst 0, 1) := by decide +kernel
theorem dX12_lodger_67 : decode cX12_lodger 67 = .ok (.iload_n 1, 1) := by decide +kernel
theorem dX12_lodger_68 : decode cX12_lodger 68 = .ok (.bipush 10, 2) := by decide +kernel
theorem dX12_lodger_70 : decode cX12_lodger 70 = .ok (.idiv, 1) := by decide +kernel
theorem dX12_lodger_71 : decode cX12_lodger 71 = .ok (.invokevirtual 196, 3) := by decide +kernel
theorem dX12_lodger_74 : decode cX12_lodger 74 = .ok (.aload_n 0, 1) := by decide +kernel
theorem dX12_lodger_75 : decode cX12_lodger 75 = .ok (.iload_n 3, 1) := by decide +kernel
theorem dX12_lodger_76 : decode cX12_lodger 76 = .ok (.iconst 1, 1) := by decide +kernel
theorem dX12_lodger_77 : decode cX12_lodger 77 = .ok (.iload_n 1, 1) := by decide +kernel
theorem dX12_lodger_78 : decode cX12_lodger 78 = .ok (.bipush 10, 2) := by decide +kernel
theorem dX12_lodger_80 : decode cX12_lodger 80 = .ok (.irem, 1) := by decide +kernel
theorem dX12_lodger_81 : decode cX12_lodger 81 = .ok (.invokevirtual 196, 3) := by decide +kernel
theorem dX12_lodger_84 : decode cX12_lodger 84 = .ok (.aload_n 0, 1) := by decide +kernel
theorem dX12_lodger_85 : decode cX12_lodger 85 = .ok (.iload_n 3, 1) := by decide +kernel
theorem dX12_lodger_86 : decode cX12_lodger 86 = .ok (.iconst 2, 1) := by decide +kernel
theorem dX12_lodger_87 : decode cX12_lodger 87 = .ok (.iload_n 2, 1) := by decide +kernel
theorem dX12_lodger_88 : decode cX12_lodger 88 = .ok (.invokevirtual 196, 3) := by decide +kernel
theorem dX12_lodger_91 : decode cX12_lodger 91 = .ok (.iload_n 3, 1) := by decide +kernel
theorem dX12_lodger_92 : decode cX12_lodger 92 = .ok (.ireturn, 1) := by decide +kernel
theorem dX12_ofLodger_0 : decode cX12_ofLodger 0 = .ok (.aload_n 0, 1) := by decide +kernel
theorem dX12_ofLodger_1 : decode cX12_ofLodger 1 = .ok (.iload_n 1, 1) := by decide +kernel
theorem dX12_ofLodger_2 : decode cX12_ofLodger 2 = .ok (.invokevirtual 199, 3) := by decide +kernel
theorem dX12_ofLodger_5 : decode cX12_ofLodger 5 = .ok (.ifCond .eq 15, 3) := by decide +kernel
theorem dX12_ofLodger_8 : decode cX12_ofLodger 8 = .ok (.iload_n 2, 1) := by decide +kernel
theorem dX12_ofLodger_9 : decode cX12_ofLodger 9 = .ok (.i2l, 1) := by decide +kernel
theorem dX12_ofLodger_10 : decode cX12_ofLodger 10 = .ok (.lconst 0, 1) := by decide +kernel
theorem dX12_ofLodger_11 : decode cX12_ofLodger 11 = .ok (.ldc2_w 202, 3) := by decide +kernel
theorem dX12_ofLodger_14 : decode cX12_ofLodger 14 = .ok (.invokestatic 56, 3) := by decide +kernel
theorem dX12_ofLodger_17 : decode cX12_ofLodger 17 = .ok (.ifCond .ne 9, 3) := by decide +kernel
theorem dX12_ofLodger_20 : decode cX12_ofLodger 20 = .ok (.aload_n 0, 1) := by decide +kernel
theorem dX12_ofLodger_21 : decode cX12_ofLodger 21 = .ok (.iconst 1, 1) := by decide +kernel
theorem dX12_ofLodger_22 : decode cX12_ofLodger 22 = .ok (.invokevirtual 119, 3) := by decide +kernel
theorem dX12_ofLodger_25 : decode cX12_ofLodger 25 = .ok (.ireturn, 1) := by decide +kernel
theorem dX12_ofLodger_26 : decode cX12_ofLodger 26 = .ok (.iload_n 2, 1) := by decide +kernel
theorem dX12_ofLodger_27 : decode cX12_ofLodger 27 = .ok (.tableswitch 61 3 6 #[29, 35, 41, 47], 29) := by decide +kernel
theorem dX12_ofLodger_56 : decode cX12_ofLodger 56 = .ok (.aload_n 0, 1) := by decide +kernel
theorem dX12_ofLodger_57 : decode cX12_ofLodger 57 = .ok (.iload_n 1, 1) := by decide +kernel
theorem dX12_ofLodger_58 : decode cX12_ofLodger 58 = .ok (.invokevirtual 185, 3) := by decide +kernel
theorem dX12_ofLodger_61 : decode cX12_ofLodger 61 = .ok (.ireturn, 1) := by decide +kernel
theorem dX12_ofLodger_62 : decode cX12_ofLodger 62 = .ok (.aload_n 0, 1) := by decide +kernel
theorem dX12_ofLodger_63 : decode cX12_ofLodger 63 = .ok (.iload_n 1, 1) := by decide +kernel
theorem dX12_ofLodger_64 : decode cX12_ofLodger 64 = .ok (.invokevirtual 188, 3) := by decide +kernel
theorem dX12_ofLodger_67 : decode cX12_ofLodger 67 = .ok (.ireturn, 1) := by decide +kernel
theorem dX12_ofLodger_68 : decode cX12_ofLodger 68 = .ok (.aload_n 0, 1) := by decide +kernel
theorem dX12_ofLodger_69 : decode cX12_ofLodger 69 = .ok (.iload_n 1, 1) := by decide +kernel
theorem dX12_ofLodger_70 : decode cX12_ofLodger 70 = .ok (.invokevirtual 204, 3) := by decide +kernel
theorem dX12_ofLodger_73 : decode cX12_ofLodger 73 = .ok (.ireturn, 1) := by decide +kernel
theorem dX12_ofLodger_74 : decode cX12_ofLodger 74 = .ok (.aload_n 0, 1) := by decide +kernel
theorem dX12_ofLodger_75 : decode cX12_ofLodger 75 = .ok (.iload_n 1, 1) := by decide +kernel
theorem dX12_ofLodger_76 : decode cX12_ofLodger 76 = .ok (.invokevirtual 191, 3) := by decide +kernel
theorem dX12_ofLodger_79 : decode cX12_ofLodger 79 = .ok (.ifCond .eq 7, 3) := by decide +kernel
theorem dX12_ofLodger_82 : decode cX12_ofLodger 82 = .ok (.iconst 1, 1) := by decide +kernel
theorem dX12_ofLodger_83 : decode cX12_ofLodger 83 = .ok (.goto 4, 3) := by decide +kernel
theorem dX12_ofLodger_86 : decode cX12_ofLodger 86 = .ok (.iconst 0, 1) := by decide +kernel
theorem dX12_ofLodger_87 : decode cX12_ofLodger 87 = .ok (.ireturn, 1) := by decide +kernel
theorem dX12_ofLodger_88 : decode cX12_ofLodger 88 = .ok (.aload_n 0, 1) := by decide +kernel
theorem dX12_ofLodger_89 : decode cX12_ofLodger 89 = .ok (.iload_n 1, 1) := by decide +kernel
theorem dX12_ofLodger_90 : decode cX12_ofLodger 90 = .ok (.iload_n 2, 1) := by decide +kernel
theorem dX12_ofLodger_91 : decode cX12_ofLodger 91 = .ok (.invokevirtual 182, 3) := by decide +kernel
theorem dX12_ofLodger_94 : decode cX12_ofLodger 94 = .ok (.ireturn, 1) := by decide +kernel
theorem dX12_become_0 : decode cX12_become 0 = .ok (.aload_n 0, 1) := by decide +kernel
theorem dX12_become_1 : decode cX12_become 1 = .ok (.iload_n 1, 1) := by decide +kernel
theorem dX12_become_2 : decode cX12_become 2 = .ok (.invokevirtual 199, 3) := by decide +kernel
theorem dX12_become_5 : decode cX12_become 5 = .ok (.ifCond .eq 15, 3) := by decide +kernel
theorem dX12_become_8 : decode cX12_become 8 = .ok (.iload_n 2, 1) := by decide +kernel
theorem dX12_become_9 : decode cX12_become 9 = .ok (.i2l, 1) := by decide +kernel
theorem dX12_become_10 : decode cX12_become 10 = .ok (.lconst 0, 1) := by decide +kernel
theorem dX12_become_11 : decode cX12_become 11 = .ok (.ldc2_w 194, 3) := by decide +kernel
theorem dX12_become_14 : decode cX12_become 14 = .ok (.invokestatic 56, 3) := by decide +kernel
theorem dX12_become_17 : decode cX12_become 17 = .ok (.ifCond .ne 9, 3) := by decide +kernel
theorem dX12_become_20 : decode cX12_become 20 = .ok (.aload_n 0, 1) := by decide +kernel
theorem dX12_become_21 : decode cX12_become 21 = .ok (.iconst 1, 1) := by decide +kernel
theorem dX12_become_22 : decode cX12_become 22 = .ok (.invokevirtual 119, 3) := by decide +kernel
theorem dX12_become_25 : decode cX12_become 25 = .ok (.ireturn, 1) := by decide +kernel
theorem dX12_become_26 : decode cX12_become 26 = .ok (.aload_n 0, 1) := by decide +kernel
theorem dX12_become_27 : decode cX12_become 27 = .ok (.iload_n 1, 1) := by decide +kernel
theorem dX12_become_28 : decode cX12_become 28 = .ok (.iconst 0, 1) := by decide +kernel
theorem dX12_become_29 : decode cX12_become 29 = .ok (.invokevirtual 182, 3) := by decide +kernel
theorem dX12_become_32 : decode cX12_become 32 = .ok (.istore_n 3, 1) := by decide +kernel
theorem dX12_become_33 : decode cX12_become 33 = .ok (.aload_n 0, 1) := by decide +kernel
theorem dX12_become_34 : decode cX12_become 34 = .ok (.iload_n 1, 1) := by decide +kernel
theorem dX12_become_35 : decode cX12_become 35 = .ok (.iconst 0, 1) := by decide +kernel
theorem dX12_become_36 : decode cX12_become 36 = .ok (.iload_n 2, 1) := by decide +kernel
theorem dX12_become_37 : decode cX12_become 37 = .ok (.bipush 10, 2) := by decide +kernel
theorem dX12_become_39 : decode cX12_become 39 = .ok (.idiv, 1) := by decide +kernel
theorem dX12_become_40 : decode cX12_become 40 = .ok (.invokevirtual 196, 3) := by decide +kernel
theorem dX12_become_43 : decode cX12_become 43 = .ok (.aload_n 0, 1) := by decide +kernel
theorem dX12_become_44 : decode cX12_become 44 = .ok (.iload_n 1, 1) := by decide +kernel
theorem dX12_become_45 : decode cX12_become 45 = .ok (.iconst 1, 1) := by decide +kernel
theorem dX12_become_46 : decode cX12_become 46 = .ok (.iload_n 2, 1) := by decide +kernel
theorem dX12_become_47 : decode cX12_become 47 = .ok (.bipush 10, 2) := by decide +kernel
theorem dX12_become_49 : decode cX12_become 49 = .ok (.irem, 1) := by decide +kernel
theorem dX12_become_50 : decode cX12_become 50 = .ok (.invokevirtual 196, 3) := by decide +kernel
theorem dX12_become_53 : decode cX12_become 53 = .ok (.iload_n 3, 1) := by decide +kernel
theorem dX12_become_54 : decode cX12_become 54 = .ok (.ireturn, 1) := by decide +kernel
theorem dX12_above_0 : decode cX12_above 0 = .ok (.iload_n 0, 1) := by decide +kernel
theorem dX12_above_1 : decode cX12_above 1 = .ok (.iconst 4, 1) := by decide +kernel
theorem dX12_above_2 : decode cX12_above 2 = .ok (.if_icmp .ge 7, 3) := by decide +kernel
theorem dX12_above_5 : decode cX12_above 5 = .ok (.iconst 0, 1) := by decide +kernel
theorem dX12_above_6 : decode cX12_above 6 = .ok (.goto 6, 3) := by decide +kernel
theorem dX12_above_9 : decode cX12_above 9 = .ok (.iload_n 0, 1) := by decide +kernel
theorem dX12_above_10 : decode cX12_above 10 = .ok (.iconst 3, 1) := by decide +kernel
theorem dX12_above_11 : decode cX12_above 11 = .ok (.isub, 1) := by decide +kernel
theorem dX12_above_12 : decode cX12_above 12 = .ok (.ireturn, 1) := by decide +kernel
theorem dX12_as_0 : decode cX12_as 0 = .ok (.aload_n 0, 1) := by decide +kernel
theorem dX12_as_1 : decode cX12_as 1 = .ok (.iload_n 1, 1) := by decide +kernel
theorem dX12_as_2 : decode cX12_as 2 = .ok (.invokevirtual 199, 3) := by decide +kernel
theorem dX12_as_5 : decode cX12_as 5 = .ok (.ifCond .eq 15, 3) := by decide +kernel
theorem dX12_as_8 : decode cX12_as 8 = .ok (.iload_n 2, 1) := by decide +kernel
theorem dX12_as_9 : decode cX12_as 9 = .ok (.i2l, 1) := by decide +kernel
theorem dX12_as_10 : decode cX12_as 10 = .ok (.lconst 0, 1) := by decide +kernel
theorem dX12_as_11 : decode cX12_as 11 = .ok (.ldc2_w 202, 3) := by decide +kernel
theorem dX12_as_14 : decode cX12_as 14 = .ok (.invokestatic 56, 3) := by decide +kernel
theorem dX12_as_17 : decode cX12_as 17 = .ok (.ifCond .ne 9, 3) := by decide +kernel
theorem dX12_as_20 : decode cX12_as 20 = .ok (.aload_n 0, 1) := by decide +kernel
theorem dX12_as_21 : decode cX12_as 21 = .ok (.iconst 1, 1) := by decide +kernel
theorem dX12_as_22 : decode cX12_as 22 = .ok (.invokevirtual 119, 3) := by decide +kernel
theorem dX12_as_25 : decode cX12_as 25 = .ok (.ireturn, 1) := by decide +kernel
theorem dX12_as_26 : decode cX12_as 26 = .ok (.aload_n 0, 1) := by decide +kernel
theorem dX12_as_27 : decode cX12_as 27 = .ok (.iload_n 1, 1) := by decide +kernel
theorem dX12_as_28 : decode cX12_as 28 = .ok (.iconst 0, 1) := by decide +kernel
theorem dX12_as_29 : decode cX12_as 29 = .ok (.invokevirtual 182, 3) := by decide +kernel
theorem dX12_as_32 : decode cX12_as 32 = .ok (.istore_n 3, 1) := by decide +kernel
theorem dX12_as_33 : decode cX12_as 33 = .ok (.iload_n 2, 1) := by decide +kernel
theorem dX12_as_34 : decode cX12_as 34 = .ok (.ifCond .eq 16, 3) := by decide +kernel
theorem dX12_as_37 : decode cX12_as 37 = .ok (.iload_n 2, 1) := by decide +kernel
theorem dX12_as_38 : decode cX12_as 38 = .ok (.iload_n 3, 1) := by decide +kernel
theorem dX12_as_39 : decode cX12_as 39 = .ok (.if_icmp .eq 11, 3) := by decide +kernel
theorem dX12_as_42 : decode cX12_as 42 = .ok (.iload_n 2, 1) := by decide +kernel
theorem dX12_as_43 : decode cX12_as 43 = .ok (.iload_n 3, 1) := by decide +kernel
theorem dX12_as_44 : decode cX12_as 44 = .ok (.invokestatic 207, 3) := by decide +kernel
theorem dX12_as_47 : decode cX12_as 47 = .ok (.if_icmp .ne 12, 3) := by decide +kernel
theorem dX12_as_50 : decode cX12_as 50 = .ok (.aload_n 0, 1) := by decide +kernel
theorem dX12_as_51 : decode cX12_as 51 = .ok (.iload_n 1, 1) := by decide +kernel
theorem dX12_as_52 : decode cX12_as 52 = .ok (.iconst 1, 1) := by decide +kernel
theorem dX12_as_53 : decode cX12_as 53 = .ok (.invokevirtual 182, 3) := by decide +kernel
theorem dX12_as_56 : decode cX12_as 56 = .ok (.goto 8, 3) := by decide +kernel
theorem dX12_as_59 : decode cX12_as 59 = .ok (.aload_n 0, 1) := by decide +kernel
theorem dX12_as_60 : decode cX12_as 60 = .ok (.iconst 5, 1) := by decide +kernel
theorem dX12_as_61 : decode cX12_as 61 = .ok (.invokevirtual 119, 3) := by decide +kernel
theorem dX12_as_64 : decode cX12_as 64 = .ok (.ireturn, 1) := by decide +kernel
theorem dX12_goes_0 : decode cX12_goes 0 = .ok (.aload_n 0, 1) := by decide +kernel
theorem dX12_goes_1 : decode cX12_goes 1 = .ok (.iload_n 1, 1) := by decide +kernel
theorem dX12_goes_2 : decode cX12_goes 2 = .ok (.invokevirtual 199, 3) := by decide +kernel
theorem dX12_goes_5 : decode cX12_goes 5 = .ok (.ifCond .eq 15, 3) := by decide +kernel
theorem dX12_goes_8 : decode cX12_goes 8 = .ok (.iload_n 2, 1) := by decide +kernel
theorem dX12_goes_9 : decode cX12_goes 9 = .ok (.i2l, 1) := by decide +kernel
theorem dX12_goes_10 : decode cX12_goes 10 = .ok (.lconst 0, 1) := by decide +kernel
theorem dX12_goes_11 : decode cX12_goes 11 = .ok (.ldc2_w 117, 3) := by decide +kernel
theorem dX12_goes_14 : decode cX12_goes 14 = .ok (.invokestatic 56, 3) := by decide +kernel
theorem dX12_goes_17 : decode cX12_goes 17 = .ok (.ifCond .ne 9, 3) := by decide +kernel
theorem dX12_goes_20 : decode cX12_goes 20 = .ok (.aload_n 0, 1) := by decide +kernel
theorem dX12_goes_21 : decode cX12_goes 21 = .ok (.iconst 1, 1) := by decide +kernel
theorem dX12_goes_22 : decode cX12_goes 22 = .ok (.invokevirtual 119, 3) := by decide +kernel
theorem dX12_goes_25 : decode cX12_goes 25 = .ok (.ireturn, 1) := by decide +kernel
theorem dX12_goes_26 : decode cX12_goes 26 = .ok (.aload_n 0, 1) := by decide +kernel
theorem dX12_goes_27 : decode cX12_goes 27 = .ok (.iload_n 1, 1) := by decide +kernel
theorem dX12_goes_28 : decode cX12_goes 28 = .ok (.iconst 2, 1) := by decide +kernel
theorem dX12_goes_29 : decode cX12_goes 29 = .ok (.invokevirtual 182, 3) := by decide +kernel
theorem dX12_goes_32 : decode cX12_goes 32 = .ok (.istore_n 3, 1) := by decide +kernel
theorem dX12_goes_33 : decode cX12_goes 33 = .ok (.aload_n 0, 1) := by decide +kernel
theorem dX12_goes_34 : decode cX12_goes 34 = .ok (.iload_n 1, 1) := by decide +kernel
theorem dX12_goes_35 : decode cX12_goes 35 = .ok (.iconst 2, 1) := by decide +kernel
theorem dX12_goes_36 : decode cX12_goes 36 = .ok (.iload_n 2, 1) := by decide +kernel
theorem dX12_goes_37 : decode cX12_goes 37 = .ok (.invokevirtual 196, 3) := by decide +kernel
theorem dX12_goes_40 : decode cX12_goes 40 = .ok (.iload_n 3, 1) := by decide +kernel
theorem dX12_goes_41 : decode cX12_goes 41 = .ok (.ireturn, 1) := by decide +kernel
theorem dX12_content_0 : decode cX12_content 0 = .ok (.aload_n 0, 1) := by decide +kernel
theorem dX12_content_1 : decode cX12_content 1 = .ok (.invokevirtual 210, 3) := by decide +kernel
theorem dX12_content_4 : decode cX12_content 4 = .ok (.ireturn, 1) := by decide +kernel
theorem dX12_farOf_0 : decode cX12_farOf 0 = .ok (.aload_n 0, 1) := by decide +kernel
theorem dX12_farOf_1 : decode cX12_farOf 1 = .ok (.aload_n 0, 1) := by decide +kernel
theorem dX12_farOf_2 : decode cX12_farOf 2 = .ok (.iload_n 1, 1) := by decide +kernel
theorem dX12_farOf_3 : decode cX12_farOf 3 = .ok (.iconst 2, 1) := by decide +kernel
theorem dX12_farOf_4 : decode cX12_farOf 4 = .ok (.invokevirtual 182, 3) := by decide +kernel
theorem dX12_farOf_7 : decode cX12_farOf 7 = .ok (.invokevirtual 179, 3) := by decide +kernel
theorem dX12_farOf_10 : decode cX12_farOf 10 = .ok (.istore_n 2, 1) := by decide +kernel
theorem dX12_farOf_11 : decode cX12_farOf 11 = .ok (.iload_n 2, 1) := by decide +kernel
theorem dX12_farOf_12 : decode cX12_farOf 12 = .ok (.aload_n 0, 1) := by decide +kernel
theorem dX12_farOf_13 : decode cX12_farOf 13 = .ok (.iload_n 1, 1) := by decide +kernel
theorem dX12_farOf_14 : decode cX12_farOf 14 = .ok (.invokevirtual 185, 3) := by decide +kernel
theorem dX12_farOf_17 : decode cX12_farOf 17 = .ok (.if_icmp .ge 13, 3) := by decide +kernel
theorem dX12_farOf_20 : decode cX12_farOf 20 = .ok (.aload_n 0, 1) := by decide +kernel
theorem dX12_farOf_21 : decode cX12_farOf 21 = .ok (.iload_n 1, 1) := by decide +kernel
theorem dX12_farOf_22 : decode cX12_farOf 22 = .ok (.invokevirtual 185, 3) := by decide +kernel
theorem dX12_farOf_25 : decode cX12_farOf 25 = .ok (.iload_n 2, 1) := by decide +kernel
theorem dX12_farOf_26 : decode cX12_farOf 26 = .ok (.isub, 1) := by decide +kernel
theorem dX12_farOf_27 : decode cX12_farOf 27 = .ok (.goto 23, 3) := by decide +kernel
theorem dX12_farOf_30 : decode cX12_farOf 30 = .ok (.iload_n 2, 1) := by decide +kernel
theorem dX12_farOf_31 : decode cX12_farOf 31 = .ok (.aload_n 0, 1) := by decide +kernel
theorem dX12_farOf_32 : decode cX12_farOf 32 = .ok (.iload_n 1, 1) := by decide +kernel
theorem dX12_farOf_33 : decode cX12_farOf 33 = .ok (.invokevirtual 188, 3) := by decide +kernel
theorem dX12_farOf_36 : decode cX12_farOf 36 = .ok (.if_icmp .le 13, 3) := by decide +kernel
theorem dX12_farOf_39 : decode cX12_farOf 39 = .ok (.iload_n 2, 1) := by decide +kernel
theorem dX12_farOf_40 : decode cX12_farOf 40 = .ok (.aload_n 0, 1) := by decide +kernel
theorem dX12_farOf_41 : decode cX12_farOf 41 = .ok (.iload_n 1, 1) := by decide +kernel
theorem dX12_farOf_42 : decode cX12_farOf 42 = .ok (.invokevirtual 188, 3) := by decide +kernel
theorem dX12_farOf_45 : decode cX12_farOf 45 = .ok (.isub, 1) := by decide +kernel
theorem dX12_farOf_46 : decode cX12_farOf 46 = .ok (.goto 4, 3) := by decide +kernel
theorem dX12_farOf_49 : decode cX12_farOf 49 = .ok (.iconst 0, 1) := by decide +kernel
theorem dX12_farOf_50 : decode cX12_farOf 50 = .ok (.ireturn, 1) := by decide +kernel
theorem dX12_choice_0 : decode cX12_choice 0 = .ok (.aload_n 0, 1) := by decide +kernel
theorem dX12_choice_1 : decode cX12_choice 1 = .ok (.iload_n 1, 1) := by decide +kernel
theorem dX12_choice_2 : decode cX12_choice 2 = .ok (.invokevirtual 213, 3) := by decide +kernel
theorem dX12_choice_5 : decode cX12_choice 5 = .ok (.istore_n 2, 1) := by decide +kernel
theorem dX12_choice_6 : decode cX12_choice 6 = .ok (.iconst (-1), 1) := by decide +kernel
theorem dX12_choice_7 : decode cX12_choice 7 = .ok (.istore_n 3, 1) := by decide +kernel
theorem dX12_choice_8 : decode cX12_choice 8 = .ok (.aload_n 0, 1) := by decide +kernel
theorem dX12_choice_9 : decode cX12_choice 9 = .ok (.getfield 7, 3) := by decide +kernel
theorem dX12_choice_12 : decode cX12_choice 12 = .ok (.iconst 0, 1) := by decide +kernel
theorem dX12_choice_13 : decode cX12_choice 13 = .ok (.iaload, 1) := by decide +kernel
theorem dX12_choice_14 : decode cX12_choice 14 = .ok (.istore 4, 2) := by decide +kernel
theorem dX12_choice_16 : decode cX12_choice 16 = .ok (.iconst 0, 1) := by decide +kernel
theorem dX12_choice_17 : decode cX12_choice 17 = .ok (.istore 5, 2) := by decide +kernel
theorem dX12_choice_19 : decode cX12_choice 19 = .ok (.iload 5, 2) := by decide +kernel
theorem dX12_choice_21 : decode cX12_choice 21 = .ok (.iload 4, 2) := by decide +kernel
theorem dX12_choice_23 : decode cX12_choice 23 = .ok (.iload 4, 2) := by decide +kernel
theorem dX12_choice_25 : decode cX12_choice 25 = .ok (.imul, 1) := by decide +kernel
theorem dX12_choice_26 : decode cX12_choice 26 = .ok (.if_icmp .ge 156, 3) := by decide +kernel
theorem dX12_choice_29 : decode cX12_choice 29 = .ok (.iload 5, 2) := by decide +kernel
theorem dX12_choice_31 : decode cX12_choice 31 = .ok (.iload 4, 2) := by decide +kernel
theorem dX12_choice_33 : decode cX12_choice 33 = .ok (.idiv, 1) := by decide +kernel
theorem dX12_choice_34 : decode cX12_choice 34 = .ok (.istore 6, 2) := by decide +kernel
theorem dX12_choice_36 : decode cX12_choice 36 = .ok (.iload 5, 2) := by decide +kernel
theorem dX12_choice_38 : decode cX12_choice 38 = .ok (.iload 4, 2) := by decide +kernel
theorem dX12_choice_40 : decode cX12_choice 40 = .ok (.irem, 1) := by decide +kernel
theorem dX12_choice_41 : decode cX12_choice 41 = .ok (.istore 7, 2) := by decide +kernel
theorem dX12_choice_43 : decode cX12_choice 43 = .ok (.aload_n 0, 1) := by decide +kernel
theorem dX12_choice_44 : decode cX12_choice 44 = .ok (.iload 6, 2) := by decide +kernel
theorem dX12_choice_46 : decode cX12_choice 46 = .ok (.iconst 0, 1) := by decide +kernel
theorem dX12_choice_47 : decode cX12_choice 47 = .ok (.invokevirtual 148, 3) := by decide +kernel
theorem dX12_choice_50 : decode cX12_choice 50 = .ok (.aload_n 0, 1) := by decide +kernel
theorem dX12_choice_51 : decode cX12_choice 51 = .ok (.iload_n 1, 1) := by decide +kernel
theorem dX12_choice_52 : decode cX12_choice 52 = .ok (.iconst 2, 1) := by decide +kernel
theorem dX12_choice_53 : decode cX12_choice 53 = .ok (.invokevirtual 182, 3) := by decide +kernel
theorem dX12_choice_56 : decode cX12_choice 56 = .ok (.if_icmp .eq 19, 3) := by decide +kernel
theorem dX12_choice_59 : decode cX12_choice 59 = .ok (.aload_n 0, 1) := by decide +kernel
theorem dX12_choice_60 : decode cX12_choice 60 = .ok (.iload 7, 2) := by decide +kernel
theorem dX12_choice_62 : decode cX12_choice 62 = .ok (.iconst 0, 1) := by decide +kernel
theorem dX12_choice_63 : decode cX12_choice 63 = .ok (.invokevirtual 148, 3) := by decide +kernel
theorem dX12_choice_66 : decode cX12_choice 66 = .ok (.aload_n 0, 1) := by decide +kernel
theorem dX12_choice_67 : decode cX12_choice 67 = .ok (.iload_n 1, 1) := by decide +kernel
theorem dX12_choice_68 : decode cX12_choice 68 = .ok (.iconst 2, 1) := by decide +kernel
theorem dX12_choice_69 : decode cX12_choice 69 = .ok (.invokevirtual 182, 3) := by decide +kernel
theorem dX12_choice_72 : decode cX12_choice 72 = .ok (.if_icmp .ne 7, 3) := by decide +kernel
theorem dX12_choice_75 : decode cX12_choice 75 = .ok (.iconst 1, 1) := by decide +kernel
theorem dX12_choice_76 : decode cX12_choice 76 = .ok (.goto 4, 3) := by decide +kernel
theorem dX12_choice_79 : decode cX12_choice 79 = .ok (.iconst 0, 1) := by decide +kernel
theorem dX12_choice_80 : decode cX12_choice 80 = .ok (.istore 8, 2) := by decide +kernel
theorem dX12_choice_82 : decode cX12_choice 82 = .ok (.iload 8, 2) := by decide +kernel
theorem dX12_choice_84 : decode cX12_choice 84 = .ok (.ifCond .eq 92, 3) := by decide +kernel
theorem dX12_choice_87 : decode cX12_choice 87 = .ok (.aload_n 0, 1) := by decide +kernel
theorem dX12_choice_88 : decode cX12_choice 88 = .ok (.iload 6, 2) := by decide +kernel
theorem dX12_choice_90 : decode cX12_choice 90 = .ok (.iload 7, 2) := by decide +kernel
theorem dX12_choice_92 : decode cX12_choice 92 = .ok (.invokevirtual 165, 3) := by decide +kernel
theorem dX12_choice_95 : decode cX12_choice 95 = .ok (.ifCond .ne 6, 3) := by decide +kernel
theorem dX12_choice_98 : decode cX12_choice 98 = .ok (.goto 78, 3) := by decide +kernel
theorem dX12_choice_101 : decode cX12_choice 101 = .ok (.aload_n 0, 1) := by decide +kernel
theorem dX12_choice_102 : decode cX12_choice 102 = .ok (.iload 6, 2) := by decide +kernel
theorem dX12_choice_104 : decode cX12_choice 104 = .ok (.iload 7, 2) := by decide +kernel
theorem dX12_choice_106 : decode cX12_choice 106 = .ok (.invokevirtual 169, 3) := by decide +kernel
theorem dX12_choice_109 : decode cX12_choice 109 = .ok (.aload_n 0, 1) := by decide +kernel
theorem dX12_choice_110 : decode cX12_choice 110 = .ok (.iload_n 1, 1) := by decide +kernel
theorem dX12_choice_111 : decode cX12_choice 111 = .ok (.invokevirtual 191, 3) := by decide +kernel
theorem dX12_choice_114 : decode cX12_choice 114 = .ok (.istore 9, 2) := by decide +kernel
theorem dX12_choice_116 : decode cX12_choice 116 = .ok (.aload_n 0, 1) := by decide +kernel
theorem dX12_choice_117 : decode cX12_choice 117 = .ok (.iload_n 1, 1) := by decide +kernel
theorem dX12_choice_118 : decode cX12_choice 118 = .ok (.invokevirtual 213, 3) := by decide +kernel
theorem dX12_choice_121 : decode cX12_choice 121 = .ok (.iload_n 2, 1) := by decide +kernel
theorem dX12_choice_122 : decode cX12_choice 122 = .ok (.if_icmp .ge 7, 3) := by decide +kernel
theorem dX12_choice_125 : decode cX12_choice 125 = .ok (.iconst 1, 1) := by decide +kernel
theorem dX12_choice_126 : decode cX12_choice 126 = .ok (.goto 4, 3) := by decide +kernel
theorem dX12_choice_129 : decode cX12_choice 129 = .ok (.iconst 0, 1) := by decide +kernel
theorem dX12_choice_130 : decode cX12_choice 130 = .ok (.istore 10, 2) := by decide +kernel
theorem dX12_choice_132 : decode cX12_choice 132 = .ok (.aload_n 0, 1) := by decide +kernel
theorem dX12_choice_133 : decode cX12_choice 133 = .ok (.iload 7, 2) := by decide +kernel
theorem dX12_choice_135 : decode cX12_choice 135 = .ok (.iload 6, 2) := by decide +kernel
theorem dX12_choice_137 : decode cX12_choice 137 = .ok (.invokevirtual 169, 3) := by decide +kernel
theorem dX12_choice_140 : decode cX12_choice 140 = .ok (.iload 9, 2) := by decide +kernel
theorem dX12_choice_142 : decode cX12_choice 142 = .ok (.ifCond .eq 12, 3) := by decide +kernel
theorem dX12_choice_145 : decode cX12_choice 145 = .ok (.bipush 8, 2) := by decide +kernel
theorem dX12_choice_147 : decode cX12_choice 147 = .ok (.iload 6, 2) := by decide +kernel
theorem dX12_choice_149 : decode cX12_choice 149 = .ok (.imul, 1) := by decide +kernel
theorem dX12_choice_150 : decode cX12_choice 150 = .ok (.iload 7, 2) := by decide +kernel
theorem dX12_choice_152 : decode cX12_choice 152 = .ok (.iadd, 1) := by decide +kernel
theorem dX12_choice_153 : decode cX12_choice 153 = .ok (.ireturn, 1) := by decide +kernel
theorem dX12_choice_154 : decode cX12_choice 154 = .ok (.iload 10, 2) := by decide +kernel
theorem dX12_choice_156 : decode cX12_choice 156 = .ok (.ifCond .eq 18, 3) := by decide +kernel
theorem dX12_choice_159 : decode cX12_choice 159 = .ok (.iload_n 3, 1) := by decide +kernel
theorem dX12_choice_160 : decode cX12_choice 160 = .ok (.ifCond .ge 14, 3) := by decide +kernel
theorem dX12_choice_163 : decode cX12_choice 163 = .ok (.bipush 8, 2) := by decide +kernel
theorem dX12_choice_165 : decode cX12_choice 165 = .ok (.iload 6, 2) := by decide +kernel
theorem dX12_choice_167 : decode cX12_choice 167 = .ok (.imul, 1) := by decide +kernel
theorem dX12_choice_168 : decode cX12_choice 168 = .ok (.iload 7, 2) := by decide +kernel
theorem dX12_choice_170 : decode cX12_choice 170 = .ok (.iadd, 1) := by decide +kernel
theorem dX12_choice_171 : decode cX12_choice 171 = .ok (.goto 4, 3) := by decide +kernel
theorem dX12_choice_174 : decode cX12_choice 174 = .ok (.iload_n 3, 1) := by decide +kernel
theorem dX12_choice_175 : decode cX12_choice 175 = .ok (.istore_n 3, 1) := by decide +kernel
theorem dX12_choice_176 : decode cX12_choice 176 = .ok (.iinc 5 1, 3) := by decide +kernel
theorem dX12_choice_179 : decode cX12_choice 179 = .ok (.goto (-160), 3) := by decide +kernel
theorem dX12_choice_182 : decode cX12_choice 182 = .ok (.iload_n 3, 1) := by decide +kernel
theorem dX12_choice_183 : decode cX12_choice 183 = .ok (.ireturn, 1) := by decide +kernel
theorem dX12_turnOf_0 : decode cX12_turnOf 0 = .ok (.iconst 0, 1) := by decide +kernel
theorem dX12_turnOf_1 : decode cX12_turnOf 1 = .ok (.istore_n 2, 1) := by decide +kernel
theorem dX12_turnOf_2 : decode cX12_turnOf 2 = .ok (.iload_n 2, 1) := by decide +kernel
theorem dX12_turnOf_3 : decode cX12_turnOf 3 = .ok (.aload_n 0, 1) := by decide +kernel
theorem dX12_turnOf_4 : decode cX12_turnOf 4 = .ok (.iload_n 1, 1) := by decide +kernel
theorem dX12_turnOf_5 : decode cX12_turnOf 5 = .ok (.invokevirtual 204, 3) := by decide +kernel
theorem dX12_turnOf_8 : decode cX12_turnOf 8 = .ok (.if_icmp .ge 48, 3) := by decide +kernel
theorem dX12_turnOf_11 : decode cX12_turnOf 11 = .ok (.aload_n 0, 1) := by decide +kernel
theorem dX12_turnOf_12 : decode cX12_turnOf 12 = .ok (.invokevirtual 161, 3) := by decide +kernel
theorem dX12_turnOf_15 : decode cX12_turnOf 15 = .ok (.ifCond .ne 41, 3) := by decide +kernel
theorem dX12_turnOf_18 : decode cX12_turnOf 18 = .ok (.aload_n 0, 1) := by decide +kernel
theorem dX12_turnOf_19 : decode cX12_turnOf 19 = .ok (.iload_n 1, 1) := by decide +kernel
theorem dX12_turnOf_20 : decode cX12_turnOf 20 = .ok (.invokevirtual 191, 3) := by decide +kernel
theorem dX12_turnOf_23 : decode cX12_turnOf 23 = .ok (.ifCond .ne 33, 3) := by decide +kernel
theorem dX12_turnOf_26 : decode cX12_turnOf 26 = .ok (.aload_n 0, 1) := by decide +kernel
theorem dX12_turnOf_27 : decode cX12_turnOf 27 = .ok (.iload_n 1, 1) := by decide +kernel
theorem dX12_turnOf_28 : decode cX12_turnOf 28 = .ok (.invokevirtual 216, 3) := by decide +kernel
theorem dX12_turnOf_31 : decode cX12_turnOf 31 = .ok (.istore_n 3, 1) := by decide +kernel
theorem dX12_turnOf_32 : decode cX12_turnOf 32 = .ok (.iload_n 3, 1) := by decide +kernel
theorem dX12_turnOf_33 : decode cX12_turnOf 33 = .ok (.ifCond .ge 5, 3) := by decide +kernel
theorem dX12_turnOf_36 : decode cX12_turnOf 36 = .ok (.iload_n 2, 1) := by decide +kernel
theorem dX12_turnOf_37 : decode cX12_turnOf 37 = .ok (.ireturn, 1) := by decide +kernel
theorem dX12_turnOf_38 : decode cX12_turnOf 38 = .ok (.aload_n 0, 1) := by decide +kernel
theorem dX12_turnOf_39 : decode cX12_turnOf 39 = .ok (.iload_n 3, 1) := by decide +kernel
theorem dX12_turnOf_40 : decode cX12_turnOf 40 = .ok (.bipush 8, 2) := by decide +kernel
theorem dX12_turnOf_42 : decode cX12_turnOf 42 = .ok (.idiv, 1) := by decide +kernel
theorem dX12_turnOf_43 : decode cX12_turnOf 43 = .ok (.iload_n 3, 1) := by decide +kernel
theorem dX12_turnOf_44 : decode cX12_turnOf 44 = .ok (.bipush 8, 2) := by decide +kernel
theorem dX12_turnOf_46 : decode cX12_turnOf 46 = .ok (.irem, 1) := by decide +kernel
theorem dX12_turnOf_47 : decode cX12_turnOf 47 = .ok (.invokevirtual 169, 3) := by decide +kernel
theorem dX12_turnOf_50 : decode cX12_turnOf 50 = .ok (.iinc 2 1, 3) := by decide +kernel
theorem dX12_turnOf_53 : decode cX12_turnOf 53 = .ok (.goto (-51), 3) := by decide +kernel
theorem dX12_turnOf_56 : decode cX12_turnOf 56 = .ok (.iload_n 2, 1) := by decide +kernel
theorem dX12_turnOf_57 : decode cX12_turnOf 57 = .ok (.ireturn, 1) := by decide +kernel
theorem dX12_turnOfAll_0 : decode cX12_turnOfAll 0 = .ok (.iconst 0, 1) := by decide +kernel
theorem dX12_turnOfAll_1 : decode cX12_turnOfAll 1 = .ok (.istore_n 1, 1) := by decide +kernel
theorem dX12_turnOfAll_2 : decode cX12_turnOfAll 2 = .ok (.iconst 0, 1) := by decide +kernel
theorem dX12_turnOfAll_3 : decode cX12_turnOfAll 3 = .ok (.istore_n 2, 1) := by decide +kernel
theorem dX12_turnOfAll_4 : decode cX12_turnOfAll 4 = .ok (.iload_n 2, 1) := by decide +kernel
theorem dX12_turnOfAll_5 : decode cX12_turnOfAll 5 = .ok (.aload_n 0, 1) := by decide +kernel
theorem dX12_turnOfAll_6 : decode cX12_turnOfAll 6 = .ok (.getfield 7, 3) := by decide +kernel
theorem dX12_turnOfAll_9 : decode cX12_turnOfAll 9 = .ok (.iconst 2, 1) := by decide +kernel
theorem dX12_turnOfAll_10 : decode cX12_turnOfAll 10 = .ok (.iaload, 1) := by decide +kernel
theorem dX12_turnOfAll_11 : decode cX12_turnOfAll 11 = .ok (.if_icmp .ge 17, 3) := by decide +kernel
theorem dX12_turnOfAll_14 : decode cX12_turnOfAll 14 = .ok (.iload_n 1, 1) := by decide +kernel
theorem dX12_turnOfAll_15 : decode cX12_turnOfAll 15 = .ok (.aload_n 0, 1) := by decide +kernel
theorem dX12_turnOfAll_16 : decode cX12_turnOfAll 16 = .ok (.iload_n 2, 1) := by decide +kernel
theorem dX12_turnOfAll_17 : decode cX12_turnOfAll 17 = .ok (.invokevirtual 219, 3) := by decide +kernel
theorem dX12_turnOfAll_20 : decode cX12_turnOfAll 20 = .ok (.iadd, 1) := by decide +kernel
theorem dX12_turnOfAll_21 : decode cX12_turnOfAll 21 = .ok (.istore_n 1, 1) := by decide +kernel
theorem dX12_turnOfAll_22 : decode cX12_turnOfAll 22 = .ok (.iinc 2 1, 3) := by decide +kernel
theorem dX12_turnOfAll_25 : decode cX12_turnOfAll 25 = .ok (.goto (-21), 3) := by decide +kernel
theorem dX12_turnOfAll_28 : decode cX12_turnOfAll 28 = .ok (.iload_n 1, 1) := by decide +kernel
theorem dX12_turnOfAll_29 : decode cX12_turnOfAll 29 = .ok (.ireturn, 1) := by decide +kernel
theorem dX12_anHour_0 : decode cX12_anHour 0 = .ok (.aload_n 0, 1) := by decide +kernel
theorem dX12_anHour_1 : decode cX12_anHour 1 = .ok (.invokevirtual 222, 3) := by decide +kernel
theorem dX12_anHour_4 : decode cX12_anHour 4 = .ok (.istore_n 1, 1) := by decide +kernel
theorem dX12_anHour_5 : decode cX12_anHour 5 = .ok (.aload_n 0, 1) := by decide +kernel
theorem dX12_anHour_6 : decode cX12_anHour 6 = .ok (.getfield 7, 3) := by decide +kernel
theorem dX12_anHour_9 : decode cX12_anHour 9 = .ok (.iconst 5, 1) := by decide +kernel
theorem dX12_anHour_10 : decode cX12_anHour 10 = .ok (.aload_n 0, 1) := by decide +kernel
theorem dX12_anHour_11 : decode cX12_anHour 11 = .ok (.getfield 7, 3) := by decide +kernel
theorem dX12_anHour_14 : decode cX12_anHour 14 = .ok (.iconst 5, 1) := by decide +kernel
theorem dX12_anHour_15 : decode cX12_anHour 15 = .ok (.iaload, 1) := by decide +kernel
theorem dX12_anHour_16 : decode cX12_anHour 16 = .ok (.aload_n 0, 1) := by decide +kernel
theorem dX12_anHour_17 : decode cX12_anHour 17 = .ok (.iconst 1, 1) := by decide +kernel
theorem dX12_anHour_18 : decode cX12_anHour 18 = .ok (.aload_n 0, 1) := by decide +kernel
theorem dX12_anHour_19 : decode cX12_anHour 19 = .ok (.invokevirtual 210, 3) := by decide +kernel
theorem dX12_anHour_22 : decode cX12_anHour 22 = .ok (.invokestatic 225, 3) := by decide +kernel
theorem dX12_anHour_25 : decode cX12_anHour 25 = .ok (.aload_n 0, 1) := by decide +kernel
theorem dX12_anHour_26 : decode cX12_anHour 26 = .ok (.getfield 7, 3) := by decide +kernel
theorem dX12_anHour_29 : decode cX12_anHour 29 = .ok (.iconst 3, 1) := by decide +kernel
theorem dX12_anHour_30 : decode cX12_anHour 30 = .ok (.iaload, 1) := by decide +kernel
theorem dX12_anHour_31 : decode cX12_anHour 31 = .ok (.iload_n 1, 1) := by decide +kernel
theorem dX12_anHour_32 : decode cX12_anHour 32 = .ok (.invokevirtual 131, 3) := by decide +kernel
theorem dX12_anHour_35 : decode cX12_anHour 35 = .ok (.iadd, 1) := by decide +kernel
theorem dX12_anHour_36 : decode cX12_anHour 36 = .ok (.iconst 0, 1) := by decide +kernel
theorem dX12_anHour_37 : decode cX12_anHour 37 = .ok (.ldc 228, 2) := by decide +kernel
theorem dX12_anHour_39 : decode cX12_anHour 39 = .ok (.invokestatic 128, 3) := by decide +kernel
theorem dX12_anHour_42 : decode cX12_anHour 42 = .ok (.iastore, 1) := by decide +kernel
theorem dX12_anHour_43 : decode cX12_anHour 43 = .ok (.aload_n 0, 1) := by decide +kernel
theorem dX12_anHour_44 : decode cX12_anHour 44 = .ok (.getfield 7, 3) := by decide +kernel
theorem dX12_anHour_47 : decode cX12_anHour 47 = .ok (.iconst 3, 1) := by decide +kernel
theorem dX12_anHour_48 : decode cX12_anHour 48 = .ok (.dup2, 1) := by decide +kernel
theorem dX12_anHour_49 : decode cX12_anHour 49 = .ok (.iaload, 1) := by decide +kernel
theorem dX12_anHour_50 : decode cX12_anHour 50 = .ok (.iconst 1, 1) := by decide +kernel
theorem dX12_anHour_51 : decode cX12_anHour 51 = .ok (.iadd, 1) := by decide +kernel
theorem dX12_anHour_52 : decode cX12_anHour 52 = .ok (.iastore, 1) := by decide +kernel
theorem dX12_anHour_53 : decode cX12_anHour 53 = .ok (.aload_n 0, 1) := by decide +kernel
theorem dX12_anHour_54 : decode cX12_anHour 54 = .ok (.getfield 7, 3) := by decide +kernel
theorem dX12_anHour_57 : decode cX12_anHour 57 = .ok (.iconst 3, 1) := by decide +kernel
theorem dX12_anHour_58 : decode cX12_anHour 58 = .ok (.iaload, 1) := by decide +kernel
theorem dX12_anHour_59 : decode cX12_anHour 59 = .ok (.bipush 24, 2) := by decide +kernel
theorem dX12_anHour_61 : decode cX12_anHour 61 = .ok (.if_icmp .ne 31, 3) := by decide +kernel
theorem dX12_anHour_64 : decode cX12_anHour 64 = .ok (.aload_n 0, 1) := by decide +kernel
theorem dX12_anHour_65 : decode cX12_anHour 65 = .ok (.getfield 7, 3) := by decide +kernel
theorem dX12_anHour_68 : decode cX12_anHour 68 = .ok (.iconst 3, 1) := by decide +kernel
theorem dX12_anHour_69 : decode cX12_anHour 69 = .ok (.iconst 0, 1) := by decide +kernel
theorem dX12_anHour_70 : decode cX12_anHour 70 = .ok (.iastore, 1) := by decide +kernel
theorem dX12_anHour_71 : decode cX12_anHour 71 = .ok (.aload_n 0, 1) := by decide +kernel
theorem dX12_anHour_72 : decode cX12_anHour 72 = .ok (.getfield 7, 3) := by decide +kernel
theorem dX12_anHour_75 : decode cX12_anHour 75 = .ok (.iconst 4, 1) := by decide +kernel
theorem dX12_anHour_76 : decode cX12_anHour 76 = .ok (.aload_n 0, 1) := by decide +kernel
theorem dX12_anHour_77 : decode cX12_anHour 77 = .ok (.getfield 7, 3) := by decide +kernel
theorem dX12_anHour_80 : decode cX12_anHour 80 = .ok (.iconst 4, 1) := by decide +kernel
theorem dX12_anHour_81 : decode cX12_anHour 81 = .ok (.iaload, 1) := by decide +kernel
theorem dX12_anHour_82 : decode cX12_anHour 82 = .ok (.iconst 1, 1) := by decide +kernel
theorem dX12_anHour_83 : decode cX12_anHour 83 = .ok (.iadd, 1) := by decide +kernel
theorem dX12_anHour_84 : decode cX12_anHour 84 = .ok (.iconst 0, 1) := by decide +kernel
theorem dX12_anHour_85 : decode cX12_anHour 85 = .ok (.sipush 999, 3) := by decide +kernel
theorem dX12_anHour_88 : decode cX12_anHour 88 = .ok (.invokestatic 128, 3) := by decide +kernel
theorem dX12_anHour_91 : decode cX12_anHour 91 = .ok (.iastore, 1) := by decide +kernel
theorem dX12_anHour_92 : decode cX12_anHour 92 = .ok (.return_, 1) := by decide +kernel
theorem dX12_onesOf_0 : decode cX12_onesOf 0 = .ok (.iload_n 0, 1) := by decide +kernel
theorem dX12_onesOf_1 : decode cX12_onesOf 1 = .ok (.invokestatic 141, 3) := by decide +kernel
theorem dX12_onesOf_4 : decode cX12_onesOf 4 = .ok (.ireturn, 1) := by decide +kernel
theorem dX12_turn_0 : decode cX12_turn 0 = .ok (.aload_n 0, 1) := by decide +kernel
theorem dX12_turn_1 : decode cX12_turn 1 = .ok (.iload_n 1, 1) := by decide +kernel
theorem dX12_turn_2 : decode cX12_turn 2 = .ok (.invokevirtual 199, 3) := by decide +kernel
theorem dX12_turn_5 : decode cX12_turn 5 = .ok (.ifCond .eq 11, 3) := by decide +kernel
theorem dX12_turn_8 : decode cX12_turn 8 = .ok (.aload_n 0, 1) := by decide +kernel
theorem dX12_turn_9 : decode cX12_turn 9 = .ok (.iload_n 1, 1) := by decide +kernel
theorem dX12_turn_10 : decode cX12_turn 10 = .ok (.invokevirtual 219, 3) := by decide +kernel
theorem dX12_turn_13 : decode cX12_turn 13 = .ok (.goto 8, 3) := by decide +kernel
theorem dX12_turn_16 : decode cX12_turn 16 = .ok (.aload_n 0, 1) := by decide +kernel
theorem dX12_turn_17 : decode cX12_turn 17 = .ok (.iconst 1, 1) := by decide +kernel
theorem dX12_turn_18 : decode cX12_turn 18 = .ok (.invokevirtual 119, 3) := by decide +kernel
theorem dX12_turn_21 : decode cX12_turn 21 = .ok (.ireturn, 1) := by decide +kernel
theorem dX12_hours_0 : decode cX12_hours 0 = .ok (.iload_n 1, 1) := by decide +kernel
theorem dX12_hours_1 : decode cX12_hours 1 = .ok (.i2l, 1) := by decide +kernel
theorem dX12_hours_2 : decode cX12_hours 2 = .ok (.lconst 1, 1) := by decide +kernel
theorem dX12_hours_3 : decode cX12_hours 3 = .ok (.ldc2_w 229, 3) := by decide +kernel
theorem dX12_hours_6 : decode cX12_hours 6 = .ok (.invokestatic 56, 3) := by decide +kernel
theorem dX12_hours_9 : decode cX12_hours 9 = .ok (.ifCond .ne 9, 3) := by decide +kernel
theorem dX12_hours_12 : decode cX12_hours 12 = .ok (.aload_n 0, 1) := by decide +kernel
theorem dX12_hours_13 : decode cX12_hours 13 = .ok (.iconst 1, 1) := by decide +kernel
theorem dX12_hours_14 : decode cX12_hours 14 = .ok (.invokevirtual 119, 3) := by decide +kernel
theorem dX12_hours_17 : decode cX12_hours 17 = .ok (.ireturn, 1) := by decide +kernel
theorem dX12_hours_18 : decode cX12_hours 18 = .ok (.iconst 0, 1) := by decide +kernel
theorem dX12_hours_19 : decode cX12_hours 19 = .ok (.istore_n 2, 1) := by decide +kernel
theorem dX12_hours_20 : decode cX12_hours 20 = .ok (.iload_n 2, 1) := by decide +kernel
theorem dX12_hours_21 : decode cX12_hours 21 = .ok (.iload_n 1, 1) := by decide +kernel
theorem dX12_hours_22 : decode cX12_hours 22 = .ok (.if_icmp .ge 13, 3) := by decide +kernel
theorem dX12_hours_25 : decode cX12_hours 25 = .ok (.aload_n 0, 1) := by decide +kernel
theorem dX12_hours_26 : decode cX12_hours 26 = .ok (.invokevirtual 231, 3) := by decide +kernel
theorem dX12_hours_29 : decode cX12_hours 29 = .ok (.iinc 2 1, 3) := by decide +kernel
theorem dX12_hours_32 : decode cX12_hours 32 = .ok (.goto (-12), 3) := by decide +kernel
theorem dX12_hours_35 : decode cX12_hours 35 = .ok (.aload_n 0, 1) := by decide +kernel
theorem dX12_hours_36 : decode cX12_hours 36 = .ok (.getfield 7, 3) := by decide +kernel
theorem dX12_hours_39 : decode cX12_hours 39 = .ok (.iconst 5, 1) := by decide +kernel
theorem dX12_hours_40 : decode cX12_hours 40 = .ok (.iaload, 1) := by decide +kernel
theorem dX12_hours_41 : decode cX12_hours 41 = .ok (.ireturn, 1) := by decide +kernel
theorem dX12_drawn_0 : decode cX12_drawn 0 = .ok (.aload_n 0, 1) := by decide +kernel
theorem dX12_drawn_1 : decode cX12_drawn 1 = .ok (.getfield 7, 3) := by decide +kernel
theorem dX12_drawn_4 : decode cX12_drawn 4 = .ok (.bipush 8, 2) := by decide +kernel
theorem dX12_drawn_6 : decode cX12_drawn 6 = .ok (.aload_n 0, 1) := by decide +kernel
theorem dX12_drawn_7 : decode cX12_drawn 7 = .ok (.getfield 7, 3) := by decide +kernel
theorem dX12_drawn_10 : decode cX12_drawn 10 = .ok (.bipush 8, 2) := by decide +kernel
theorem dX12_drawn_12 : decode cX12_drawn 12 = .ok (.iaload, 1) := by decide +kernel
theorem dX12_drawn_13 : decode cX12_drawn 13 = .ok (.ldc 234, 2) := by decide +kernel
theorem dX12_drawn_15 : decode cX12_drawn 15 = .ok (.imul, 1) := by decide +kernel
theorem dX12_drawn_16 : decode cX12_drawn 16 = .ok (.sipush 12345, 3) := by decide +kernel
theorem dX12_drawn_19 : decode cX12_drawn 19 = .ok (.iadd, 1) := by decide +kernel
theorem dX12_drawn_20 : decode cX12_drawn 20 = .ok (.iastore, 1) := by decide +kernel
theorem dX12_drawn_21 : decode cX12_drawn 21 = .ok (.aload_n 0, 1) := by decide +kernel
theorem dX12_drawn_22 : decode cX12_drawn 22 = .ok (.getfield 7, 3) := by decide +kernel
theorem dX12_drawn_25 : decode cX12_drawn 25 = .ok (.bipush 8, 2) := by decide +kernel
theorem dX12_drawn_27 : decode cX12_drawn 27 = .ok (.iaload, 1) := by decide +kernel
theorem dX12_drawn_28 : decode cX12_drawn 28 = .ok (.bipush 8, 2) := by decide +kernel
theorem dX12_drawn_30 : decode cX12_drawn 30 = .ok (.iushr, 1) := by decide +kernel
theorem dX12_drawn_31 : decode cX12_drawn 31 = .ok (.ireturn, 1) := by decide +kernel
theorem dX12_loose_0 : decode cX12_loose 0 = .ok (.iload_n 1, 1) := by decide +kernel
theorem dX12_loose_1 : decode cX12_loose 1 = .ok (.i2l, 1) := by decide +kernel
theorem dX12_loose_2 : decode cX12_loose 2 = .ok (.lconst 1, 1) := by decide +kernel
theorem dX12_loose_3 : decode cX12_loose 3 = .ok (.ldc2_w 229, 3) := by decide +kernel
theorem dX12_loose_6 : decode cX12_loose 6 = .ok (.invokestatic 56, 3) := by decide +kernel
theorem dX12_loose_9 : decode cX12_loose 9 = .ok (.ifCond .ne 9, 3) := by decide +kernel
theorem dX12_loose_12 : decode cX12_loose 12 = .ok (.aload_n 0, 1) := by decide +kernel
theorem dX12_loose_13 : decode cX12_loose 13 = .ok (.iconst 1, 1) := by decide +kernel
theorem dX12_loose_14 : decode cX12_loose 14 = .ok (.invokevirtual 119, 3) := by decide +kernel
theorem dX12_loose_17 : decode cX12_loose 17 = .ok (.ireturn, 1) := by decide +kernel
theorem dX12_loose_18 : decode cX12_loose 18 = .ok (.iconst 0, 1) := by decide +kernel
theorem dX12_loose_19 : decode cX12_loose 19 = .ok (.istore_n 2, 1) := by decide +kernel
theorem dX12_loose_20 : decode cX12_loose 20 = .ok (.iload_n 2, 1) := by decide +kernel
theorem dX12_loose_21 : decode cX12_loose 21 = .ok (.iload_n 1, 1) := by decide +kernel
theorem dX12_loose_22 : decode cX12_loose 22 = .ok (.if_icmp .ge 64, 3) := by decide +kernel
theorem dX12_loose_25 : decode cX12_loose 25 = .ok (.aload_n 0, 1) := by decide +kernel
theorem dX12_loose_26 : decode cX12_loose 26 = .ok (.invokevirtual 235, 3) := by decide +kernel
theorem dX12_loose_29 : decode cX12_loose 29 = .ok (.bipush 8, 2) := by decide +kernel
theorem dX12_loose_31 : decode cX12_loose 31 = .ok (.irem, 1) := by decide +kernel
theorem dX12_loose_32 : decode cX12_loose 32 = .ok (.istore_n 3, 1) := by decide +kernel
theorem dX12_loose_33 : decode cX12_loose 33 = .ok (.aload_n 0, 1) := by decide +kernel
theorem dX12_loose_34 : decode cX12_loose 34 = .ok (.invokevirtual 235, 3) := by decide +kernel
theorem dX12_loose_37 : decode cX12_loose 37 = .ok (.bipush 8, 2) := by decide +kernel
theorem dX12_loose_39 : decode cX12_loose 39 = .ok (.irem, 1) := by decide +kernel
theorem dX12_loose_40 : decode cX12_loose 40 = .ok (.istore 4, 2) := by decide +kernel
theorem dX12_loose_42 : decode cX12_loose 42 = .ok (.aload_n 0, 1) := by decide +kernel
theorem dX12_loose_43 : decode cX12_loose 43 = .ok (.iload_n 3, 1) := by decide +kernel
theorem dX12_loose_44 : decode cX12_loose 44 = .ok (.invokevirtual 152, 3) := by decide +kernel
theorem dX12_loose_47 : decode cX12_loose 47 = .ok (.ifCond .eq 29, 3) := by decide +kernel
theorem dX12_loose_50 : decode cX12_loose 50 = .ok (.aload_n 0, 1) := by decide +kernel
theorem dX12_loose_51 : decode cX12_loose 51 = .ok (.iload 4, 2) := by decide +kernel
theorem dX12_loose_53 : decode cX12_loose 53 = .ok (.invokevirtual 152, 3) := by decide +kernel
theorem dX12_loose_56 : decode cX12_loose 56 = .ok (.ifCond .eq 20, 3) := by decide +kernel
theorem dX12_loose_59 : decode cX12_loose 59 = .ok (.aload_n 0, 1) := by decide +kernel
theorem dX12_loose_60 : decode cX12_loose 60 = .ok (.iload_n 3, 1) := by decide +kernel
theorem dX12_loose_61 : decode cX12_loose 61 = .ok (.iload 4, 2) := by decide +kernel
theorem dX12_loose_63 : decode cX12_loose 63 = .ok (.invokevirtual 165, 3) := by decide +kernel
theorem dX12_loose_66 : decode cX12_loose 66 = .ok (.ifCond .eq 10, 3) := by decide +kernel
theorem dX12_loose_69 : decode cX12_loose 69 = .ok (.aload_n 0, 1) := by decide +kernel
theorem dX12_loose_70 : decode cX12_loose 70 = .ok (.iload_n 3, 1) := by decide +kernel
theorem dX12_loose_71 : decode cX12_loose 71 = .ok (.iload 4, 2) := by decide +kernel
theorem dX12_loose_73 : decode cX12_loose 73 = .ok (.invokevirtual 169, 3) := by decide +kernel
theorem dX12_loose_76 : decode cX12_loose 76 = .ok (.aload_n 0, 1) := by decide +kernel
theorem dX12_loose_77 : decode cX12_loose 77 = .ok (.invokevirtual 231, 3) := by decide +kernel
theorem dX12_loose_80 : decode cX12_loose 80 = .ok (.iinc 2 1, 3) := by decide +kernel
theorem dX12_loose_83 : decode cX12_loose 83 = .ok (.goto (-63), 3) := by decide +kernel
theorem dX12_loose_86 : decode cX12_loose 86 = .ok (.aload_n 0, 1) := by decide +kernel
theorem dX12_loose_87 : decode cX12_loose 87 = .ok (.getfield 7, 3) := by decide +kernel
theorem dX12_loose_90 : decode cX12_loose 90 = .ok (.iconst 5, 1) := by decide +kernel
theorem dX12_loose_91 : decode cX12_loose 91 = .ok (.iaload, 1) := by decide +kernel
theorem dX12_loose_92 : decode cX12_loose 92 = .ok (.ireturn, 1) := by decide +kernel
theorem dX12_hour_0 : decode cX12_hour 0 = .ok (.iload_n 1, 1) := by decide +kernel
theorem dX12_hour_1 : decode cX12_hour 1 = .ok (.i2l, 1) := by decide +kernel
theorem dX12_hour_2 : decode cX12_hour 2 = .ok (.lconst 0, 1) := by decide +kernel
theorem dX12_hour_3 : decode cX12_hour 3 = .ok (.ldc2_w 238, 3) := by decide +kernel
theorem dX12_hour_6 : decode cX12_hour 6 = .ok (.invokestatic 56, 3) := by decide +kernel
theorem dX12_hour_9 : decode cX12_hour 9 = .ok (.ifCond .ne 9, 3) := by decide +kernel
theorem dX12_hour_12 : decode cX12_hour 12 = .ok (.aload_n 0, 1) := by decide +kernel
theorem dX12_hour_13 : decode cX12_hour 13 = .ok (.iconst 1, 1) := by decide +kernel
theorem dX12_hour_14 : decode cX12_hour 14 = .ok (.invokevirtual 119, 3) := by decide +kernel
theorem dX12_hour_17 : decode cX12_hour 17 = .ok (.ireturn, 1) := by decide +kernel
theorem dX12_hour_18 : decode cX12_hour 18 = .ok (.aload_n 0, 1) := by decide +kernel
theorem dX12_hour_19 : decode cX12_hour 19 = .ok (.getfield 7, 3) := by decide +kernel
theorem dX12_hour_22 : decode cX12_hour 22 = .ok (.iconst 3, 1) := by decide +kernel
theorem dX12_hour_23 : decode cX12_hour 23 = .ok (.iaload, 1) := by decide +kernel
theorem dX12_hour_24 : decode cX12_hour 24 = .ok (.istore_n 2, 1) := by decide +kernel
theorem dX12_hour_25 : decode cX12_hour 25 = .ok (.aload_n 0, 1) := by decide +kernel
theorem dX12_hour_26 : decode cX12_hour 26 = .ok (.getfield 7, 3) := by decide +kernel
theorem dX12_hour_29 : decode cX12_hour 29 = .ok (.iconst 3, 1) := by decide +kernel
theorem dX12_hour_30 : decode cX12_hour 30 = .ok (.iload_n 1, 1) := by decide +kernel
theorem dX12_hour_31 : decode cX12_hour 31 = .ok (.iastore, 1) := by decide +kernel
theorem dX12_hour_32 : decode cX12_hour 32 = .ok (.iload_n 2, 1) := by decide +kernel
theorem dX12_hour_33 : decode cX12_hour 33 = .ok (.ireturn, 1) := by decide +kernel
theorem dX12_lock_0 : decode cX12_lock 0 = .ok (.iload_n 1, 1) := by decide +kernel
theorem dX12_lock_1 : decode cX12_lock 1 = .ok (.i2l, 1) := by decide +kernel
theorem dX12_lock_2 : decode cX12_lock 2 = .ok (.lconst 0, 1) := by decide +kernel
theorem dX12_lock_3 : decode cX12_lock 3 = .ok (.ldc2_w 240, 3) := by decide +kernel
theorem dX12_lock_6 : decode cX12_lock 6 = .ok (.invokestatic 56, 3) := by decide +kernel
theorem dX12_lock_9 : decode cX12_lock 9 = .ok (.ifCond .eq 15, 3) := by decide +kernel
theorem dX12_lock_12 : decode cX12_lock 12 = .ok (.iload_n 2, 1) := by decide +kernel
theorem dX12_lock_13 : decode cX12_lock 13 = .ok (.i2l, 1) := by decide +kernel
theorem dX12_lock_14 : decode cX12_lock 14 = .ok (.lconst 0, 1) := by decide +kernel
theorem dX12_lock_15 : decode cX12_lock 15 = .ok (.ldc2_w 240, 3) := by decide +kernel
theorem dX12_lock_18 : decode cX12_lock 18 = .ok (.invokestatic 56, 3) := by decide +kernel
theorem dX12_lock_21 : decode cX12_lock 21 = .ok (.ifCond .ne 9, 3) := by decide +kernel
theorem dX12_lock_24 : decode cX12_lock 24 = .ok (.aload_n 0, 1) := by decide +kernel
theorem dX12_lock_25 : decode cX12_lock 25 = .ok (.iconst 1, 1) := by decide +kernel
theorem dX12_lock_26 : decode cX12_lock 26 = .ok (.invokevirtual 119, 3) := by decide +kernel
theorem dX12_lock_29 : decode cX12_lock 29 = .ok (.ireturn, 1) := by decide +kernel
theorem dX12_lock_30 : decode cX12_lock 30 = .ok (.aload_n 0, 1) := by decide +kernel
theorem dX12_lock_31 : decode cX12_lock 31 = .ok (.getfield 7, 3) := by decide +kernel
theorem dX12_lock_34 : decode cX12_lock 34 = .ok (.bipush 6, 2) := by decide +kernel
theorem dX12_lock_36 : decode cX12_lock 36 = .ok (.iload_n 1, 1) := by decide +kernel
theorem dX12_lock_37 : decode cX12_lock 37 = .ok (.iastore, 1) := by decide +kernel
theorem dX12_lock_38 : decode cX12_lock 38 = .ok (.aload_n 0, 1) := by decide +kernel
theorem dX12_lock_39 : decode cX12_lock 39 = .ok (.getfield 7, 3) := by decide +kernel
theorem dX12_lock_42 : decode cX12_lock 42 = .ok (.bipush 7, 2) := by decide +kernel
theorem dX12_lock_44 : decode cX12_lock 44 = .ok (.iload_n 2, 1) := by decide +kernel
theorem dX12_lock_45 : decode cX12_lock 45 = .ok (.iastore, 1) := by decide +kernel
theorem dX12_lock_46 : decode cX12_lock 46 = .ok (.aload_n 0, 1) := by decide +kernel
theorem dX12_lock_47 : decode cX12_lock 47 = .ok (.invokevirtual 161, 3) := by decide +kernel
theorem dX12_lock_50 : decode cX12_lock 50 = .ok (.ifCond .eq 7, 3) := by decide +kernel
theorem dX12_lock_53 : decode cX12_lock 53 = .ok (.iconst 1, 1) := by decide +kernel
theorem dX12_lock_54 : decode cX12_lock 54 = .ok (.goto 4, 3) := by decide +kernel
theorem dX12_lock_57 : decode cX12_lock 57 = .ok (.iconst 0, 1) := by decide +kernel
theorem dX12_lock_58 : decode cX12_lock 58 = .ok (.ireturn, 1) := by decide +kernel
theorem dX12_rests_0 : decode cX12_rests 0 = .ok (.aload_n 0, 1) := by decide +kernel
theorem dX12_rests_1 : decode cX12_rests 1 = .ok (.invokevirtual 242, 3) := by decide +kernel
theorem dX12_rests_4 : decode cX12_rests 4 = .ok (.iconst 0, 1) := by decide +kernel
theorem dX12_rests_5 : decode cX12_rests 5 = .ok (.istore_n 1, 1) := by decide +kernel
theorem dX12_rests_6 : decode cX12_rests 6 = .ok (.iload_n 1, 1) := by decide +kernel
theorem dX12_rests_7 : decode cX12_rests 7 = .ok (.bipush 100, 2) := by decide +kernel
theorem dX12_rests_9 : decode cX12_rests 9 = .ok (.if_icmp .gt 16, 3) := by decide +kernel
theorem dX12_rests_12 : decode cX12_rests 12 = .ok (.aload_n 0, 1) := by decide +kernel
theorem dX12_rests_13 : decode cX12_rests 13 = .ok (.invokevirtual 222, 3) := by decide +kernel
theorem dX12_rests_16 : decode cX12_rests 16 = .ok (.ifCond .le 9, 3) := by decide +kernel
theorem dX12_rests_19 : decode cX12_rests 19 = .ok (.iinc 1 1, 3) := by decide +kernel
theorem dX12_rests_22 : decode cX12_rests 22 = .ok (.goto (-16), 3) := by decide +kernel
theorem dX12_rests_25 : decode cX12_rests 25 = .ok (.aload_n 0, 1) := by decide +kernel
theorem dX12_rests_26 : decode cX12_rests 26 = .ok (.invokevirtual 245, 3) := by decide +kernel
theorem dX12_rests_29 : decode cX12_rests 29 = .ok (.iload_n 1, 1) := by decide +kernel
theorem dX12_rests_30 : decode cX12_rests 30 = .ok (.bipush 100, 2) := by decide +kernel
theorem dX12_rests_32 : decode cX12_rests 32 = .ok (.if_icmp .le 11, 3) := by decide +kernel
theorem dX12_rests_35 : decode cX12_rests 35 = .ok (.aload_n 0, 1) := by decide +kernel
theorem dX12_rests_36 : decode cX12_rests 36 = .ok (.iconst 2, 1) := by decide +kernel
theorem dX12_rests_37 : decode cX12_rests 37 = .ok (.invokevirtual 119, 3) := by decide +kernel
theorem dX12_rests_40 : decode cX12_rests 40 = .ok (.goto 4, 3) := by decide +kernel
theorem dX12_rests_43 : decode cX12_rests 43 = .ok (.iload_n 1, 1) := by decide +kernel
theorem dX12_rests_44 : decode cX12_rests 44 = .ok (.ireturn, 1) := by decide +kernel
theorem dX12_then_0 : decode cX12_then 0 = .ok (.iload_n 1, 1) := by decide +kernel
theorem dX12_then_1 : decode cX12_then 1 = .ok (.i2l, 1) := by decide +kernel
theorem dX12_then_2 : decode cX12_then 2 = .ok (.lconst 0, 1) := by decide +kernel
theorem dX12_then_3 : decode cX12_then 3 = .ok (.ldc2_w 229, 3) := by decide +kernel
theorem dX12_then_6 : decode cX12_then 6 = .ok (.invokestatic 56, 3) := by decide +kernel
theorem dX12_then_9 : decode cX12_then 9 = .ok (.ifCond .eq 11, 3) := by decide +kernel
theorem dX12_then_12 : decode cX12_then 12 = .ok (.aload_n 0, 1) := by decide +kernel
theorem dX12_then_13 : decode cX12_then 13 = .ok (.iload_n 2, 1) := by decide +kernel
theorem dX12_then_14 : decode cX12_then 14 = .ok (.invokevirtual 152, 3) := by decide +kernel
theorem dX12_then_17 : decode cX12_then 17 = .ok (.ifCond .ne 9, 3) := by decide +kernel
theorem dX12_then_20 : decode cX12_then 20 = .ok (.aload_n 0, 1) := by decide +kernel
theorem dX12_then_21 : decode cX12_then 21 = .ok (.iconst 1, 1) := by decide +kernel
theorem dX12_then_22 : decode cX12_then 22 = .ok (.invokevirtual 119, 3) := by decide +kernel
theorem dX12_then_25 : decode cX12_then 25 = .ok (.ireturn, 1) := by decide +kernel
theorem dX12_then_26 : decode cX12_then 26 = .ok (.aload_n 0, 1) := by decide +kernel
theorem dX12_then_27 : decode cX12_then 27 = .ok (.invokevirtual 242, 3) := by decide +kernel
theorem dX12_then_30 : decode cX12_then 30 = .ok (.iconst 0, 1) := by decide +kernel
theorem dX12_then_31 : decode cX12_then 31 = .ok (.istore_n 3, 1) := by decide +kernel
theorem dX12_then_32 : decode cX12_then 32 = .ok (.iload_n 3, 1) := by decide +kernel
theorem dX12_then_33 : decode cX12_then 33 = .ok (.iload_n 1, 1) := by decide +kernel
theorem dX12_then_34 : decode cX12_then 34 = .ok (.if_icmp .ge 13, 3) := by decide +kernel
theorem dX12_then_37 : decode cX12_then 37 = .ok (.aload_n 0, 1) := by decide +kernel
theorem dX12_then_38 : decode cX12_then 38 = .ok (.invokevirtual 231, 3) := by decide +kernel
theorem dX12_then_41 : decode cX12_then 41 = .ok (.iinc 3 1, 3) := by decide +kernel
theorem dX12_then_44 : decode cX12_then 44 = .ok (.goto (-12), 3) := by decide +kernel
theorem dX12_then_47 : decode cX12_then 47 = .ok (.aload_n 0, 1) := by decide +kernel
theorem dX12_then_48 : decode cX12_then 48 = .ok (.iload_n 2, 1) := by decide +kernel
theorem dX12_then_49 : decode cX12_then 49 = .ok (.iconst 1, 1) := by decide +kernel
theorem dX12_then_50 : decode cX12_then 50 = .ok (.invokevirtual 148, 3) := by decide +kernel
theorem dX12_then_53 : decode cX12_then 53 = .ok (.istore_n 3, 1) := by decide +kernel
theorem dX12_then_54 : decode cX12_then 54 = .ok (.aload_n 0, 1) := by decide +kernel
theorem dX12_then_55 : decode cX12_then 55 = .ok (.invokevirtual 245, 3) := by decide +kernel
theorem dX12_then_58 : decode cX12_then 58 = .ok (.iload_n 3, 1) := by decide +kernel
theorem dX12_then_59 : decode cX12_then 59 = .ok (.ireturn, 1) := by decide +kernel
theorem dX12_isLoose_0 : decode cX12_isLoose 0 = .ok (.aload_n 0, 1) := by decide +kernel
theorem dX12_isLoose_1 : decode cX12_isLoose 1 = .ok (.iload_n 1, 1) := by decide +kernel
theorem dX12_isLoose_2 : decode cX12_isLoose 2 = .ok (.iconst 2, 1) := by decide +kernel
theorem dX12_isLoose_3 : decode cX12_isLoose 3 = .ok (.invokevirtual 148, 3) := by decide +kernel
theorem dX12_isLoose_6 : decode cX12_isLoose 6 = .ok (.ifCond .le 16, 3) := by decide +kernel
theorem dX12_isLoose_9 : decode cX12_isLoose 9 = .ok (.aload_n 0, 1) := by decide +kernel
theorem dX12_isLoose_10 : decode cX12_isLoose 10 = .ok (.iload_n 1, 1) := by decide +kernel
theorem dX12_isLoose_11 : decode cX12_isLoose 11 = .ok (.iconst 3, 1) := by decide +kernel
theorem dX12_isLoose_12 : decode cX12_isLoose 12 = .ok (.invokevirtual 148, 3) := by decide +kernel
theorem dX12_isLoose_15 : decode cX12_isLoose 15 = .ok (.ifCond .ne 7, 3) := by decide +kernel
theorem dX12_isLoose_18 : decode cX12_isLoose 18 = .ok (.iconst 1, 1) := by decide +kernel
theorem dX12_isLoose_19 : decode cX12_isLoose 19 = .ok (.goto 4, 3) := by decide +kernel
theorem dX12_isLoose_22 : decode cX12_isLoose 22 = .ok (.iconst 0, 1) := by decide +kernel
theorem dX12_isLoose_23 : decode cX12_isLoose 23 = .ok (.ireturn, 1) := by decide +kernel
theorem dX12_looksAt_0 : decode cX12_looksAt 0 = .ok (.iconst 0, 1) := by decide +kernel
theorem dX12_looksAt_1 : decode cX12_looksAt 1 = .ok (.istore_n 2, 1) := by decide +kernel
theorem dX12_looksAt_2 : decode cX12_looksAt 2 = .ok (.iconst 0, 1) := by decide +kernel
theorem dX12_looksAt_3 : decode cX12_looksAt 3 = .ok (.istore_n 3, 1) := by decide +kernel
theorem dX12_looksAt_4 : decode cX12_looksAt 4 = .ok (.iload_n 3, 1) := by decide +kernel
theorem dX12_looksAt_5 : decode cX12_looksAt 5 = .ok (.aload_n 0, 1) := by decide +kernel
theorem dX12_looksAt_6 : decode cX12_looksAt 6 = .ok (.getfield 7, 3) := by decide +kernel
theorem dX12_looksAt_9 : decode cX12_looksAt 9 = .ok (.iconst 0, 1) := by decide +kernel
theorem dX12_looksAt_10 : decode cX12_looksAt 10 = .ok (.iaload, 1) := by decide +kernel
theorem dX12_looksAt_11 : decode cX12_looksAt 11 = .ok (.if_icmp .ge 56, 3) := by decide +kernel
theorem dX12_looksAt_14 : decode cX12_looksAt 14 = .ok (.iload_n 2, 1) := by decide +kernel
theorem dX12_looksAt_15 : decode cX12_looksAt 15 = .ok (.aload_n 0, 1) := by decide +kernel
theorem dX12_looksAt_16 : decode cX12_looksAt 16 = .ok (.getfield 25, 3) := by decide +kernel
theorem dX12_looksAt_19 : decode cX12_looksAt 19 = .ok (.iload_n 3, 1) := by decide +kernel
theorem dX12_looksAt_20 : decode cX12_looksAt 20 = .ok (.iaload, 1) := by decide +kernel
theorem dX12_looksAt_21 : decode cX12_looksAt 21 = .ok (.aload_n 0, 1) := by decide +kernel
theorem dX12_looksAt_22 : decode cX12_looksAt 22 = .ok (.getfield 28, 3) := by decide +kernel
theorem dX12_looksAt_25 : decode cX12_looksAt 25 = .ok (.iload_n 3, 1) := by decide +kernel
theorem dX12_looksAt_26 : decode cX12_looksAt 26 = .ok (.iaload, 1) := by decide +kernel
theorem dX12_looksAt_27 : decode cX12_looksAt 27 = .ok (.if_icmp .le 19, 3) := by decide +kernel
theorem dX12_looksAt_30 : decode cX12_looksAt 30 = .ok (.aload_n 0, 1) := by decide +kernel
theorem dX12_looksAt_31 : decode cX12_looksAt 31 = .ok (.getfield 25, 3) := by decide +kernel
theorem dX12_looksAt_34 : decode cX12_looksAt 34 = .ok (.iload_n 3, 1) := by decide +kernel
theorem dX12_looksAt_35 : decode cX12_looksAt 35 = .ok (.iaload, 1) := by decide +kernel
theorem dX12_looksAt_36 : decode cX12_looksAt 36 = .ok (.aload_n 0, 1) := by decide +kernel
theorem dX12_looksAt_37 : decode cX12_looksAt 37 = .ok (.getfield 28, 3) := by decide +kernel
theorem dX12_looksAt_40 : decode cX12_looksAt 40 = .ok (.iload_n 3, 1) := by decide +kernel
theorem dX12_looksAt_41 : decode cX12_looksAt 41 = .ok (.iaload, 1) := by decide +kernel
theorem dX12_looksAt_42 : decode cX12_looksAt 42 = .ok (.isub, 1) := by decide +kernel
theorem dX12_looksAt_43 : decode cX12_looksAt 43 = .ok (.goto 4, 3) := by decide +kernel
theorem dX12_looksAt_46 : decode cX12_looksAt 46 = .ok (.iconst 0, 1) := by decide +kernel
theorem dX12_looksAt_47 : decode cX12_looksAt 47 = .ok (.iadd, 1) := by decide +kernel
theorem dX12_looksAt_48 : decode cX12_looksAt 48 = .ok (.istore_n 2, 1) := by decide +kernel
theorem dX12_looksAt_49 : decode cX12_looksAt 49 = .ok (.aload_n 0, 1) := by decide +kernel
theorem dX12_looksAt_50 : decode cX12_looksAt 50 = .ok (.iload_n 3, 1) := by decide +kernel
theorem dX12_looksAt_51 : decode cX12_looksAt 51 = .ok (.iconst 1, 1) := by decide +kernel
theorem dX12_looksAt_52 : decode cX12_looksAt 52 = .ok (.aload_n 0, 1) := by decide +kernel
theorem dX12_looksAt_53 : decode cX12_looksAt 53 = .ok (.getfield 25, 3) := by decide +kernel
theorem dX12_looksAt_56 : decode cX12_looksAt 56 = .ok (.iload_n 3, 1) := by decide +kernel
theorem dX12_looksAt_57 : decode cX12_looksAt 57 = .ok (.iaload, 1) := by decide +kernel
theorem dX12_looksAt_58 : decode cX12_looksAt 58 = .ok (.invokevirtual 137, 3) := by decide +kernel
theorem dX12_looksAt_61 : decode cX12_looksAt 61 = .ok (.iinc 3 1, 3) := by decide +kernel
theorem dX12_looksAt_64 : decode cX12_looksAt 64 = .ok (.goto (-60), 3) := by decide +kernel
theorem dX12_looksAt_67 : decode cX12_looksAt 67 = .ok (.aload_n 0, 1) := by decide +kernel
theorem dX12_looksAt_68 : decode cX12_looksAt 68 = .ok (.invokevirtual 210, 3) := by decide +kernel
theorem dX12_looksAt_71 : decode cX12_looksAt 71 = .ok (.invokestatic 141, 3) := by decide +kernel
theorem dX12_looksAt_74 : decode cX12_looksAt 74 = .ok (.istore_n 3, 1) := by decide +kernel
theorem dX12_looksAt_75 : decode cX12_looksAt 75 = .ok (.iconst 0, 1) := by decide +kernel
theorem dX12_looksAt_76 : decode cX12_looksAt 76 = .ok (.istore 4, 2) := by decide +kernel
theorem dX12_looksAt_78 : decode cX12_looksAt 78 = .ok (.iload 4, 2) := by decide +kernel
theorem dX12_looksAt_80 : decode cX12_looksAt 80 = .ok (.aload_n 0, 1) := by decide +kernel
theorem dX12_looksAt_81 : decode cX12_looksAt 81 = .ok (.getfield 7, 3) := by decide +kernel
theorem dX12_looksAt_84 : decode cX12_looksAt 84 = .ok (.iconst 0, 1) := by decide +kernel
theorem dX12_looksAt_85 : decode cX12_looksAt 85 = .ok (.iaload, 1) := by decide +kernel
theorem dX12_looksAt_86 : decode cX12_looksAt 86 = .ok (.if_icmp .ge 23, 3) := by decide +kernel
theorem dX12_looksAt_89 : decode cX12_looksAt 89 = .ok (.aload_n 0, 1) := by decide +kernel
theorem dX12_looksAt_90 : decode cX12_looksAt 90 = .ok (.iload 4, 2) := by decide +kernel
theorem dX12_looksAt_92 : decode cX12_looksAt 92 = .ok (.iconst 1, 1) := by decide +kernel
theorem dX12_looksAt_93 : decode cX12_looksAt 93 = .ok (.aload_n 0, 1) := by decide +kernel
theorem dX12_looksAt_94 : decode cX12_looksAt 94 = .ok (.getfield 28, 3) := by decide +kernel
theorem dX12_looksAt_97 : decode cX12_looksAt 97 = .ok (.iload 4, 2) := by decide +kernel
theorem dX12_looksAt_99 : decode cX12_looksAt 99 = .ok (.iaload, 1) := by decide +kernel
theorem dX12_looksAt_100 : decode cX12_looksAt 100 = .ok (.invokevirtual 137, 3) := by decide +kernel
theorem dX12_looksAt_103 : decode cX12_looksAt 103 = .ok (.iinc 4 1, 3) := by decide +kernel
theorem dX12_looksAt_106 : decode cX12_looksAt 106 = .ok (.goto (-28), 3) := by decide +kernel
theorem dX12_looksAt_109 : decode cX12_looksAt 109 = .ok (.iload_n 1, 1) := by decide +kernel
theorem dX12_looksAt_110 : decode cX12_looksAt 110 = .ok (.ifCond .eq 13, 3) := by decide +kernel
theorem dX12_looksAt_113 : decode cX12_looksAt 113 = .ok (.iload_n 3, 1) := by decide +kernel
theorem dX12_looksAt_114 : decode cX12_looksAt 114 = .ok (.aload_n 0, 1) := by decide +kernel
theorem dX12_looksAt_115 : decode cX12_looksAt 115 = .ok (.getfield 7, 3) := by decide +kernel
theorem dX12_looksAt_118 : decode cX12_looksAt 118 = .ok (.iconst 2, 1) := by decide +kernel
theorem dX12_looksAt_119 : decode cX12_looksAt 119 = .ok (.iaload, 1) := by decide +kernel
theorem dX12_looksAt_120 : decode cX12_looksAt 120 = .ok (.if_icmp .ne 7, 3) := by decide +kernel
theorem dX12_looksAt_123 : decode cX12_looksAt 123 = .ok (.iconst 1, 1) := by decide +kernel
theorem dX12_looksAt_124 : decode cX12_looksAt 124 = .ok (.goto 4, 3) := by decide +kernel
theorem dX12_looksAt_127 : decode cX12_looksAt 127 = .ok (.iconst 0, 1) := by decide +kernel
theorem dX12_looksAt_128 : decode cX12_looksAt 128 = .ok (.istore 4, 2) := by decide +kernel
theorem dX12_looksAt_130 : decode cX12_looksAt 130 = .ok (.aload_n 0, 1) := by decide +kernel
theorem dX12_looksAt_131 : decode cX12_looksAt 131 = .ok (.getfield 248, 3) := by decide +kernel
theorem dX12_looksAt_134 : decode cX12_looksAt 134 = .ok (.ifCond .lt 34, 3) := by decide +kernel
theorem dX12_looksAt_137 : decode cX12_looksAt 137 = .ok (.iload_n 3, 1) := by decide +kernel
theorem dX12_looksAt_138 : decode cX12_looksAt 138 = .ok (.aload_n 0, 1) := by decide +kernel
theorem dX12_looksAt_139 : decode cX12_looksAt 139 = .ok (.getfield 251, 3) := by decide +kernel
theorem dX12_looksAt_142 : decode cX12_looksAt 142 = .ok (.if_icmp .eq 7, 3) := by decide +kernel
theorem dX12_looksAt_145 : decode cX12_looksAt 145 = .ok (.iload_n 1, 1) := by decide +kernel
theorem dX12_looksAt_146 : decode cX12_looksAt 146 = .ok (.ifCond .eq 14, 3) := by decide +kernel
theorem dX12_looksAt_149 : decode cX12_looksAt 149 = .ok (.iload_n 2, 1) := by decide +kernel
theorem dX12_looksAt_150 : decode cX12_looksAt 150 = .ok (.aload_n 0, 1) := by decide +kernel
theorem dX12_looksAt_151 : decode cX12_looksAt 151 = .ok (.getfield 248, 3) := by decide +kernel
theorem dX12_looksAt_154 : decode cX12_looksAt 154 = .ok (.if_icmp .ge 18, 3) := by decide +kernel
theorem dX12_looksAt_157 : decode cX12_looksAt 157 = .ok (.goto 11, 3) := by decide +kernel
theorem dX12_looksAt_160 : decode cX12_looksAt 160 = .ok (.iload_n 3, 1) := by decide +kernel
theorem dX12_looksAt_161 : decode cX12_looksAt 161 = .ok (.aload_n 0, 1) := by decide +kernel
theorem dX12_looksAt_162 : decode cX12_looksAt 162 = .ok (.getfield 251, 3) := by decide +kernel
theorem dX12_looksAt_165 : decode cX12_looksAt 165 = .ok (.if_icmp .le 7, 3) := by decide +kernel
theorem dX12_looksAt_168 : decode cX12_looksAt 168 = .ok (.iconst 1, 1) := by decide +kernel
theorem dX12_looksAt_169 : decode cX12_looksAt 169 = .ok (.goto 4, 3) := by decide +kernel
theorem dX12_looksAt_172 : decode cX12_looksAt 172 = .ok (.iconst 0, 1) := by decide +kernel
theorem dX12_looksAt_173 : decode cX12_looksAt 173 = .ok (.istore 5, 2) := by decide +kernel
theorem dX12_looksAt_175 : decode cX12_looksAt 175 = .ok (.iload 4, 2) := by decide +kernel
theorem dX12_looksAt_177 : decode cX12_looksAt 177 = .ok (.ifCond .eq 52, 3) := by decide +kernel
theorem dX12_looksAt_180 : decode cX12_looksAt 180 = .ok (.iload 5, 2) := by decide +kernel
theorem dX12_looksAt_182 : decode cX12_looksAt 182 = .ok (.ifCond .eq 47, 3) := by decide +kernel
theorem dX12_looksAt_185 : decode cX12_looksAt 185 = .ok (.aload_n 0, 1) := by decide +kernel
theorem dX12_looksAt_186 : decode cX12_looksAt 186 = .ok (.iload_n 3, 1) := by decide +kernel
theorem dX12_looksAt_187 : decode cX12_looksAt 187 = .ok (.putfield 251, 3) := by decide +kernel
theorem dX12_looksAt_190 : decode cX12_looksAt 190 = .ok (.aload_n 0, 1) := by decide +kernel
theorem dX12_looksAt_191 : decode cX12_looksAt 191 = .ok (.iload_n 2, 1) := by decide +kernel
theorem dX12_looksAt_192 : decode cX12_looksAt 192 = .ok (.putfield 248, 3) := by decide +kernel
theorem dX12_looksAt_195 : decode cX12_looksAt 195 = .ok (.iconst 0, 1) := by decide +kernel
theorem dX12_looksAt_196 : decode cX12_looksAt 196 = .ok (.istore 6, 2) := by decide +kernel
theorem dX12_looksAt_198 : decode cX12_looksAt 198 = .ok (.iload 6, 2) := by decide +kernel
theorem dX12_looksAt_200 : decode cX12_looksAt 200 = .ok (.aload_n 0, 1) := by decide +kernel
theorem dX12_looksAt_201 : decode cX12_looksAt 201 = .ok (.getfield 7, 3) := by decide +kernel
theorem dX12_looksAt_204 : decode cX12_looksAt 204 = .ok (.iconst 0, 1) := by decide +kernel
theorem dX12_looksAt_205 : decode cX12_looksAt 205 = .ok (.iaload, 1) := by decide +kernel
theorem dX12_looksAt_206 : decode cX12_looksAt 206 = .ok (.if_icmp .ge 23, 3) := by decide +kernel
theorem dX12_looksAt_209 : decode cX12_looksAt 209 = .ok (.aload_n 0, 1) := by decide +kernel
theorem dX12_looksAt_210 : decode cX12_looksAt 210 = .ok (.getfield 37, 3) := by decide +kernel
theorem dX12_looksAt_213 : decode cX12_looksAt 213 = .ok (.iload 6, 2) := by decide +kernel
theorem dX12_looksAt_215 : decode cX12_looksAt 215 = .ok (.aload_n 0, 1) := by decide +kernel
theorem dX12_looksAt_216 : decode cX12_looksAt 216 = .ok (.getfield 25, 3) := by decide +kernel
theorem dX12_looksAt_219 : decode cX12_looksAt 219 = .ok (.iload 6, 2) := by decide +kernel
theorem dX12_looksAt_221 : decode cX12_looksAt 221 = .ok (.iaload, 1) := by decide +kernel
theorem dX12_looksAt_222 : decode cX12_looksAt 222 = .ok (.iastore, 1) := by decide +kernel
theorem dX12_looksAt_223 : decode cX12_looksAt 223 = .ok (.iinc 6 1, 3) := by decide +kernel
theorem dX12_looksAt_226 : decode cX12_looksAt 226 = .ok (.goto (-28), 3) := by decide +kernel
theorem dX12_looksAt_229 : decode cX12_looksAt 229 = .ok (.return_, 1) := by decide +kernel
theorem dX12_nextOf_0 : decode cX12_nextOf 0 = .ok (.aload_n 0, 1) := by decide +kernel
theorem dX12_nextOf_1 : decode cX12_nextOf 1 = .ok (.iload_n 1, 1) := by decide +kernel
theorem dX12_nextOf_2 : decode cX12_nextOf 2 = .ok (.iconst 2, 1) := by decide +kernel
theorem dX12_nextOf_3 : decode cX12_nextOf 3 = .ok (.invokevirtual 148, 3) := by decide +kernel
theorem dX12_nextOf_6 : decode cX12_nextOf 6 = .ok (.istore_n 2, 1) := by decide +kernel
theorem dX12_nextOf_7 : decode cX12_nextOf 7 = .ok (.aload_n 0, 1) := by decide +kernel
theorem dX12_nextOf_8 : decode cX12_nextOf 8 = .ok (.getfield 25, 3) := by decide +kernel
theorem dX12_nextOf_11 : decode cX12_nextOf 11 = .ok (.iload_n 1, 1) := by decide +kernel
theorem dX12_nextOf_12 : decode cX12_nextOf 12 = .ok (.iaload, 1) := by decide +kernel
theorem dX12_nextOf_13 : decode cX12_nextOf 13 = .ok (.istore_n 3, 1) := by decide +kernel
theorem dX12_nextOf_14 : decode cX12_nextOf 14 = .ok (.aload_n 0, 1) := by decide +kernel
theorem dX12_nextOf_15 : decode cX12_nextOf 15 = .ok (.iload_n 1, 1) := by decide +kernel
theorem dX12_nextOf_16 : decode cX12_nextOf 16 = .ok (.invokevirtual 254, 3) := by decide +kernel
theorem dX12_nextOf_19 : decode cX12_nextOf 19 = .ok (.ifCond .ne 33, 3) := by decide +kernel
theorem dX12_nextOf_22 : decode cX12_nextOf 22 = .ok (.aload_n 0, 1) := by decide +kernel
theorem dX12_nextOf_23 : decode cX12_nextOf 23 = .ok (.getfield 25, 3) := by decide +kernel
theorem dX12_nextOf_26 : decode cX12_nextOf 26 = .ok (.iload_n 1, 1) := by decide +kernel
theorem dX12_nextOf_27 : decode cX12_nextOf 27 = .ok (.iload_n 3, 1) := by decide +kernel
theorem dX12_nextOf_28 : decode cX12_nextOf 28 = .ok (.ifCond .ge 12, 3) := by decide +kernel
theorem dX12_nextOf_31 : decode cX12_nextOf 31 = .ok (.aload_n 0, 1) := by decide +kernel
theorem dX12_nextOf_32 : decode cX12_nextOf 32 = .ok (.getfield 28, 3) := by decide +kernel
theorem dX12_nextOf_35 : decode cX12_nextOf 35 = .ok (.iload_n 1, 1) := by decide +kernel
theorem dX12_nextOf_36 : decode cX12_nextOf 36 = .ok (.iaload, 1) := by decide +kernel
theorem dX12_nextOf_37 : decode cX12_nextOf 37 = .ok (.goto 4, 3) := by decide +kernel
theorem dX12_nextOf_40 : decode cX12_nextOf 40 = .ok (.iconst (-1), 1) := by decide +kernel
theorem dX12_nextOf_41 : decode cX12_nextOf 41 = .ok (.iastore, 1) := by decide +kernel
theorem dX12_nextOf_42 : decode cX12_nextOf 42 = .ok (.iload_n 3, 1) := by decide +kernel
theorem dX12_nextOf_43 : decode cX12_nextOf 43 = .ok (.ifCond .ge 7, 3) := by decide +kernel
theorem dX12_nextOf_46 : decode cX12_nextOf 46 = .ok (.iconst 1, 1) := by decide +kernel
theorem dX12_nextOf_47 : decode cX12_nextOf 47 = .ok (.goto 4, 3) := by decide +kernel
theorem dX12_nextOf_50 : decode cX12_nextOf 50 = .ok (.iconst 0, 1) := by decide +kernel
theorem dX12_nextOf_51 : decode cX12_nextOf 51 = .ok (.ireturn, 1) := by decide +kernel
theorem dX12_nextOf_52 : decode cX12_nextOf 52 = .ok (.aload_n 0, 1) := by decide +kernel
theorem dX12_nextOf_53 : decode cX12_nextOf 53 = .ok (.getfield 31, 3) := by decide +kernel
theorem dX12_nextOf_56 : decode cX12_nextOf 56 = .ok (.iload_n 2, 1) := by decide +kernel
theorem dX12_nextOf_57 : decode cX12_nextOf 57 = .ok (.dup2, 1) := by decide +kernel
theorem dX12_nextOf_58 : decode cX12_nextOf 58 = .ok (.iaload, 1) := by decide +kernel
theorem dX12_nextOf_59 : decode cX12_nextOf 59 = .ok (.iload_n 3, 1) := by decide +kernel
theorem dX12_nextOf_60 : decode cX12_nextOf 60 = .ok (.ifCond .ge 7, 3) := by decide +kernel
theorem dX12_nextOf_63 : decode cX12_nextOf 63 = .ok (.iconst 0, 1) := by decide +kernel
theorem dX12_nextOf_64 : decode cX12_nextOf 64 = .ok (.goto 4, 3) := by decide +kernel
theorem dX12_nextOf_67 : decode cX12_nextOf 67 = .ok (.iload_n 3, 1) := by decide +kernel
theorem dX12_nextOf_68 : decode cX12_nextOf 68 = .ok (.iadd, 1) := by decide +kernel
theorem dX12_nextOf_69 : decode cX12_nextOf 69 = .ok (.iastore, 1) := by decide +kernel
theorem dX12_nextOf_70 : decode cX12_nextOf 70 = .ok (.aload_n 0, 1) := by decide +kernel
theorem dX12_nextOf_71 : decode cX12_nextOf 71 = .ok (.getfield 34, 3) := by decide +kernel
theorem dX12_nextOf_74 : decode cX12_nextOf 74 = .ok (.iload_n 2, 1) := by decide +kernel
theorem dX12_nextOf_75 : decode cX12_nextOf 75 = .ok (.iaload, 1) := by decide +kernel
theorem dX12_nextOf_76 : decode cX12_nextOf 76 = .ok (.iload_n 1, 1) := by decide +kernel
theorem dX12_nextOf_77 : decode cX12_nextOf 77 = .ok (.if_icmp .ne 21, 3) := by decide +kernel
theorem dX12_nextOf_80 : decode cX12_nextOf 80 = .ok (.iload_n 3, 1) := by decide +kernel
theorem dX12_nextOf_81 : decode cX12_nextOf 81 = .ok (.ifCond .ge 12, 3) := by decide +kernel
theorem dX12_nextOf_84 : decode cX12_nextOf 84 = .ok (.aload_n 0, 1) := by decide +kernel
theorem dX12_nextOf_85 : decode cX12_nextOf 85 = .ok (.getfield 31, 3) := by decide +kernel
theorem dX12_nextOf_88 : decode cX12_nextOf 88 = .ok (.iload_n 2, 1) := by decide +kernel
theorem dX12_nextOf_89 : decode cX12_nextOf 89 = .ok (.iaload, 1) := by decide +kernel
theorem dX12_nextOf_90 : decode cX12_nextOf 90 = .ok (.goto 11, 3) := by decide +kernel
theorem dX12_nextOf_93 : decode cX12_nextOf 93 = .ok (.bipush 10, 2) := by decide +kernel
theorem dX12_nextOf_95 : decode cX12_nextOf 95 = .ok (.goto 6, 3) := by decide +kernel
theorem dX12_nextOf_98 : decode cX12_nextOf 98 = .ok (.iload_n 3, 1) := by decide +kernel
theorem dX12_nextOf_99 : decode cX12_nextOf 99 = .ok (.iconst 1, 1) := by decide +kernel
theorem dX12_nextOf_100 : decode cX12_nextOf 100 = .ok (.iadd, 1) := by decide +kernel
theorem dX12_nextOf_101 : decode cX12_nextOf 101 = .ok (.istore 4, 2) := by decide +kernel
theorem dX12_nextOf_103 : decode cX12_nextOf 103 = .ok (.iload 4, 2) := by decide +kernel
theorem dX12_nextOf_105 : decode cX12_nextOf 105 = .ok (.bipush 9, 2) := by decide +kernel
theorem dX12_nextOf_107 : decode cX12_nextOf 107 = .ok (.if_icmp .gt 18, 3) := by decide +kernel
theorem dX12_nextOf_110 : decode cX12_nextOf 110 = .ok (.iload 4, 2) := by decide +kernel
theorem dX12_nextOf_112 : decode cX12_nextOf 112 = .ok (.aload_n 0, 1) := by decide +kernel
theorem dX12_nextOf_113 : decode cX12_nextOf 113 = .ok (.getfield 31, 3) := by decide +kernel
theorem dX12_nextOf_116 : decode cX12_nextOf 116 = .ok (.iload_n 2, 1) := by decide +kernel
theorem dX12_nextOf_117 : decode cX12_nextOf 117 = .ok (.iaload, 1) := by decide +kernel
theorem dX12_nextOf_118 : decode cX12_nextOf 118 = .ok (.if_icmp .gt 7, 3) := by decide +kernel
theorem dX12_nextOf_121 : decode cX12_nextOf 121 = .ok (.iconst 1, 1) := by decide +kernel
theorem dX12_nextOf_122 : decode cX12_nextOf 122 = .ok (.goto 4, 3) := by decide +kernel
theorem dX12_nextOf_125 : decode cX12_nextOf 125 = .ok (.iconst 0, 1) := by decide +kernel
theorem dX12_nextOf_126 : decode cX12_nextOf 126 = .ok (.istore 5, 2) := by decide +kernel
theorem dX12_nextOf_128 : decode cX12_nextOf 128 = .ok (.aload_n 0, 1) := by decide +kernel
theorem dX12_nextOf_129 : decode cX12_nextOf 129 = .ok (.getfield 25, 3) := by decide +kernel
theorem dX12_nextOf_132 : decode cX12_nextOf 132 = .ok (.iload_n 1, 1) := by decide +kernel
theorem dX12_nextOf_133 : decode cX12_nextOf 133 = .ok (.iload 5, 2) := by decide +kernel
theorem dX12_nextOf_135 : decode cX12_nextOf 135 = .ok (.ifCond .eq 8, 3) := by decide +kernel
theorem dX12_nextOf_138 : decode cX12_nextOf 138 = .ok (.iload 4, 2) := by decide +kernel
theorem dX12_nextOf_140 : decode cX12_nextOf 140 = .ok (.goto 4, 3) := by decide +kernel
theorem dX12_nextOf_143 : decode cX12_nextOf 143 = .ok (.iconst (-1), 1) := by decide +kernel
theorem dX12_nextOf_144 : decode cX12_nextOf 144 = .ok (.iastore, 1) := by decide +kernel
theorem dX12_nextOf_145 : decode cX12_nextOf 145 = .ok (.aload_n 0, 1) := by decide +kernel
theorem dX12_nextOf_146 : decode cX12_nextOf 146 = .ok (.getfield 31, 3) := by decide +kernel
theorem dX12_nextOf_149 : decode cX12_nextOf 149 = .ok (.iload_n 2, 1) := by decide +kernel
theorem dX12_nextOf_150 : decode cX12_nextOf 150 = .ok (.dup2, 1) := by decide +kernel
theorem dX12_nextOf_151 : decode cX12_nextOf 151 = .ok (.iaload, 1) := by decide +kernel
theorem dX12_nextOf_152 : decode cX12_nextOf 152 = .ok (.iload 5, 2) := by decide +kernel
theorem dX12_nextOf_154 : decode cX12_nextOf 154 = .ok (.ifCond .eq 8, 3) := by decide +kernel
theorem dX12_nextOf_157 : decode cX12_nextOf 157 = .ok (.iload 4, 2) := by decide +kernel
theorem dX12_nextOf_159 : decode cX12_nextOf 159 = .ok (.goto 4, 3) := by decide +kernel
theorem dX12_nextOf_162 : decode cX12_nextOf 162 = .ok (.iconst 0, 1) := by decide +kernel
theorem dX12_nextOf_163 : decode cX12_nextOf 163 = .ok (.isub, 1) := by decide +kernel
theorem dX12_nextOf_164 : decode cX12_nextOf 164 = .ok (.iastore, 1) := by decide +kernel
theorem dX12_nextOf_165 : decode cX12_nextOf 165 = .ok (.iload 5, 2) := by decide +kernel
theorem dX12_nextOf_167 : decode cX12_nextOf 167 = .ok (.ireturn, 1) := by decide +kernel
theorem dX12_goThrough_0 : decode cX12_goThrough 0 = .ok (.iconst 0, 1) := by decide +kernel
theorem dX12_goThrough_1 : decode cX12_goThrough 1 = .ok (.istore_n 3, 1) := by decide +kernel
theorem dX12_goThrough_2 : decode cX12_goThrough 2 = .ok (.iload_n 3, 1) := by decide +kernel
theorem dX12_goThrough_3 : decode cX12_goThrough 3 = .ok (.iconst 5, 1) := by decide +kernel
theorem dX12_goThrough_4 : decode cX12_goThrough 4 = .ok (.if_icmp .ge 23, 3) := by decide +kernel
theorem dX12_goThrough_7 : decode cX12_goThrough 7 = .ok (.aload_n 0, 1) := by decide +kernel
theorem dX12_goThrough_8 : decode cX12_goThrough 8 = .ok (.getfield 31, 3) := by decide +kernel
theorem dX12_goThrough_11 : decode cX12_goThrough 11 = .ok (.iload_n 3, 1) := by decide +kernel
theorem dX12_goThrough_12 : decode cX12_goThrough 12 = .ok (.iconst 0, 1) := by decide +kernel
theorem dX12_goThrough_13 : decode cX12_goThrough 13 = .ok (.iastore, 1) := by decide +kernel
theorem dX12_goThrough_14 : decode cX12_goThrough 14 = .ok (.aload_n 0, 1) := by decide +kernel
theorem dX12_goThrough_15 : decode cX12_goThrough 15 = .ok (.getfield 34, 3) := by decide +kernel
theorem dX12_goThrough_18 : decode cX12_goThrough 18 = .ok (.iload_n 3, 1) := by decide +kernel
theorem dX12_goThrough_19 : decode cX12_goThrough 19 = .ok (.iconst (-1), 1) := by decide +kernel
theorem dX12_goThrough_20 : decode cX12_goThrough 20 = .ok (.iastore, 1) := by decide +kernel
theorem dX12_goThrough_21 : decode cX12_goThrough 21 = .ok (.iinc 3 1, 3) := by decide +kernel
theorem dX12_goThrough_24 : decode cX12_goThrough 24 = .ok (.goto (-22), 3) := by decide +kernel
theorem dX12_goThrough_27 : decode cX12_goThrough 27 = .ok (.iconst 0, 1) := by decide +kernel
theorem dX12_goThrough_28 : decode cX12_goThrough 28 = .ok (.istore_n 3, 1) := by decide +kernel
theorem dX12_goThrough_29 : decode cX12_goThrough 29 = .ok (.iload_n 3, 1) := by decide +kernel
theorem dX12_goThrough_30 : decode cX12_goThrough 30 = .ok (.aload_n 0, 1) := by decide +kernel
theorem dX12_goThrough_31 : decode cX12_goThrough 31 = .ok (.getfield 7, 3) := by decide +kernel
theorem dX12_goThrough_34 : decode cX12_goThrough 34 = .ok (.iconst 0, 1) := by decide +kernel
theorem dX12_goThrough_35 : decode cX12_goThrough 35 = .ok (.iaload, 1) := by decide +kernel
theorem dX12_goThrough_36 : decode cX12_goThrough 36 = .ok (.if_icmp .ge 61, 3) := by decide +kernel
theorem dX12_goThrough_39 : decode cX12_goThrough 39 = .ok (.aload_n 0, 1) := by decide +kernel
theorem dX12_goThrough_40 : decode cX12_goThrough 40 = .ok (.getfield 28, 3) := by decide +kernel
theorem dX12_goThrough_43 : decode cX12_goThrough 43 = .ok (.iload_n 3, 1) := by decide +kernel
theorem dX12_goThrough_44 : decode cX12_goThrough 44 = .ok (.aload_n 0, 1) := by decide +kernel
theorem dX12_goThrough_45 : decode cX12_goThrough 45 = .ok (.iload_n 3, 1) := by decide +kernel
theorem dX12_goThrough_46 : decode cX12_goThrough 46 = .ok (.iconst 1, 1) := by decide +kernel
theorem dX12_goThrough_47 : decode cX12_goThrough 47 = .ok (.invokevirtual 148, 3) := by decide +kernel
theorem dX12_goThrough_50 : decode cX12_goThrough 50 = .ok (.iastore, 1) := by decide +kernel
theorem dX12_goThrough_51 : decode cX12_goThrough 51 = .ok (.aload_n 0, 1) := by decide +kernel
theorem dX12_goThrough_52 : decode cX12_goThrough 52 = .ok (.iload_n 3, 1) := by decide +kernel
theorem dX12_goThrough_53 : decode cX12_goThrough 53 = .ok (.invokevirtual 254, 3) := by decide +kernel
theorem dX12_goThrough_56 : decode cX12_goThrough 56 = .ok (.ifCond .eq 35, 3) := by decide +kernel
theorem dX12_goThrough_59 : decode cX12_goThrough 59 = .ok (.aload_n 0, 1) := by decide +kernel
theorem dX12_goThrough_60 : decode cX12_goThrough 60 = .ok (.getfield 31, 3) := by decide +kernel
theorem dX12_goThrough_63 : decode cX12_goThrough 63 = .ok (.aload_n 0, 1) := by decide +kernel
theorem dX12_goThrough_64 : decode cX12_goThrough 64 = .ok (.iload_n 3, 1) := by decide +kernel
theorem dX12_goThrough_65 : decode cX12_goThrough 65 = .ok (.iconst 2, 1) := by decide +kernel
theorem dX12_goThrough_66 : decode cX12_goThrough 66 = .ok (.invokevirtual 148, 3) := by decide +kernel
theorem dX12_goThrough_69 : decode cX12_goThrough 69 = .ok (.dup2, 1) := by decide +kernel
theorem dX12_goThrough_70 : decode cX12_goThrough 70 = .ok (.iaload, 1) := by decide +kernel
theorem dX12_goThrough_71 : decode cX12_goThrough 71 = .ok (.aload_n 0, 1) := by decide +kernel
theorem dX12_goThrough_72 : decode cX12_goThrough 72 = .ok (.iload_n 3, 1) := by decide +kernel
theorem dX12_goThrough_73 : decode cX12_goThrough 73 = .ok (.iconst 1, 1) := by decide +kernel
theorem dX12_goThrough_74 : decode cX12_goThrough 74 = .ok (.invokevirtual 148, 3) := by decide +kernel
theorem dX12_goThrough_77 : decode cX12_goThrough 77 = .ok (.iadd, 1) := by decide +kernel
theorem dX12_goThrough_78 : decode cX12_goThrough 78 = .ok (.iastore, 1) := by decide +kernel
theorem dX12_goThrough_79 : decode cX12_goThrough 79 = .ok (.aload_n 0, 1) := by decide +kernel
theorem dX12_goThrough_80 : decode cX12_goThrough 80 = .ok (.getfield 34, 3) := by decide +kernel
theorem dX12_goThrough_83 : decode cX12_goThrough 83 = .ok (.aload_n 0, 1) := by decide +kernel
theorem dX12_goThrough_84 : decode cX12_goThrough 84 = .ok (.iload_n 3, 1) := by decide +kernel
theorem dX12_goThrough_85 : decode cX12_goThrough 85 = .ok (.iconst 2, 1) := by decide +kernel
theorem dX12_goThrough_86 : decode cX12_goThrough 86 = .ok (.invokevirtual 148, 3) := by decide +kernel
theorem dX12_goThrough_89 : decode cX12_goThrough 89 = .ok (.iload_n 3, 1) := by decide +kernel
theorem dX12_goThrough_90 : decode cX12_goThrough 90 = .ok (.iastore, 1) := by decide +kernel
theorem dX12_goThrough_91 : decode cX12_goThrough 91 = .ok (.iinc 3 1, 3) := by decide +kernel
theorem dX12_goThrough_94 : decode cX12_goThrough 94 = .ok (.goto (-65), 3) := by decide +kernel
theorem dX12_goThrough_97 : decode cX12_goThrough 97 = .ok (.aload_n 0, 1) := by decide +kernel
theorem dX12_goThrough_98 : decode cX12_goThrough 98 = .ok (.iconst 0, 1) := by decide +kernel
theorem dX12_goThrough_99 : decode cX12_goThrough 99 = .ok (.putfield 257, 3) := by decide +kernel
theorem dX12_goThrough_102 : decode cX12_goThrough 102 = .ok (.aload_n 0, 1) := by decide +kernel
theorem dX12_goThrough_103 : decode cX12_goThrough 103 = .ok (.iconst (-1), 1) := by decide +kernel
theorem dX12_goThrough_104 : decode cX12_goThrough 104 = .ok (.putfield 248, 3) := by decide +kernel
theorem dX12_goThrough_107 : decode cX12_goThrough 107 = .ok (.aload_n 0, 1) := by decide +kernel
theorem dX12_goThrough_108 : decode cX12_goThrough 108 = .ok (.iconst 0, 1) := by decide +kernel
theorem dX12_goThrough_109 : decode cX12_goThrough 109 = .ok (.putfield 251, 3) := by decide +kernel
theorem dX12_goThrough_112 : decode cX12_goThrough 112 = .ok (.iconst 0, 1) := by decide +kernel
theorem dX12_goThrough_113 : decode cX12_goThrough 113 = .ok (.istore_n 3, 1) := by decide +kernel
theorem dX12_goThrough_114 : decode cX12_goThrough 114 = .ok (.aload_n 0, 1) := by decide +kernel
theorem dX12_goThrough_115 : decode cX12_goThrough 115 = .ok (.getfield 25, 3) := by decide +kernel
theorem dX12_goThrough_118 : decode cX12_goThrough 118 = .ok (.iconst 0, 1) := by decide +kernel
theorem dX12_goThrough_119 : decode cX12_goThrough 119 = .ok (.iconst (-1), 1) := by decide +kernel
theorem dX12_goThrough_120 : decode cX12_goThrough 120 = .ok (.iastore, 1) := by decide +kernel
theorem dX12_goThrough_121 : decode cX12_goThrough 121 = .ok (.iload_n 3, 1) := by decide +kernel
theorem dX12_goThrough_122 : decode cX12_goThrough 122 = .ok (.ifCond .lt 65, 3) := by decide +kernel
theorem dX12_goThrough_125 : decode cX12_goThrough 125 = .ok (.iload_n 3, 1) := by decide +kernel
theorem dX12_goThrough_126 : decode cX12_goThrough 126 = .ok (.aload_n 0, 1) := by decide +kernel
theorem dX12_goThrough_127 : decode cX12_goThrough 127 = .ok (.getfield 7, 3) := by decide +kernel
theorem dX12_goThrough_130 : decode cX12_goThrough 130 = .ok (.iconst 0, 1) := by decide +kernel
theorem dX12_goThrough_131 : decode cX12_goThrough 131 = .ok (.iaload, 1) := by decide +kernel
theorem dX12_goThrough_132 : decode cX12_goThrough 132 = .ok (.if_icmp .ne 28, 3) := by decide +kernel
theorem dX12_goThrough_135 : decode cX12_goThrough 135 = .ok (.aload_n 0, 1) := by decide +kernel
theorem dX12_goThrough_136 : decode cX12_goThrough 136 = .ok (.dup, 1) := by decide +kernel
theorem dX12_goThrough_137 : decode cX12_goThrough 137 = .ok (.getfield 257, 3) := by decide +kernel
theorem dX12_goThrough_140 : decode cX12_goThrough 140 = .ok (.iconst 1, 1) := by decide +kernel
theorem dX12_goThrough_141 : decode cX12_goThrough 141 = .ok (.iadd, 1) := by decide +kernel
theorem dX12_goThrough_142 : decode cX12_goThrough 142 = .ok (.putfield 257, 3) := by decide +kernel
theorem dX12_goThrough_145 : decode cX12_goThrough 145 = .ok (.iload_n 1, 1) := by decide +kernel
theorem dX12_goThrough_146 : decode cX12_goThrough 146 = .ok (.ifCond .eq 8, 3) := by decide +kernel
theorem dX12_goThrough_149 : decode cX12_goThrough 149 = .ok (.aload_n 0, 1) := by decide +kernel
theorem dX12_goThrough_150 : decode cX12_goThrough 150 = .ok (.iload_n 2, 1) := by decide +kernel
theorem dX12_goThrough_151 : decode cX12_goThrough 151 = .ok (.invokevirtual 260, 3) := by decide +kernel
theorem dX12_goThrough_154 : decode cX12_goThrough 154 = .ok (.iinc 3 (-1), 3) := by decide +kernel
theorem dX12_goThrough_157 : decode cX12_goThrough 157 = .ok (.goto (-36), 3) := by decide +kernel
theorem dX12_goThrough_160 : decode cX12_goThrough 160 = .ok (.aload_n 0, 1) := by decide +kernel
theorem dX12_goThrough_161 : decode cX12_goThrough 161 = .ok (.iload_n 3, 1) := by decide +kernel
theorem dX12_goThrough_162 : decode cX12_goThrough 162 = .ok (.invokevirtual 264, 3) := by decide +kernel
theorem dX12_goThrough_165 : decode cX12_goThrough 165 = .ok (.ifCond .eq 16, 3) := by decide +kernel
theorem dX12_goThrough_168 : decode cX12_goThrough 168 = .ok (.iinc 3 1, 3) := by decide +kernel
theorem dX12_goThrough_171 : decode cX12_goThrough 171 = .ok (.aload_n 0, 1) := by decide +kernel
theorem dX12_goThrough_172 : decode cX12_goThrough 172 = .ok (.getfield 25, 3) := by decide +kernel
theorem dX12_goThrough_175 : decode cX12_goThrough 175 = .ok (.iload_n 3, 1) := by decide +kernel
theorem dX12_goThrough_176 : decode cX12_goThrough 176 = .ok (.iconst (-1), 1) := by decide +kernel
theorem dX12_goThrough_177 : decode cX12_goThrough 177 = .ok (.iastore, 1) := by decide +kernel
theorem dX12_goThrough_178 : decode cX12_goThrough 178 = .ok (.goto (-57), 3) := by decide +kernel
theorem dX12_goThrough_181 : decode cX12_goThrough 181 = .ok (.iinc 3 (-1), 3) := by decide +kernel
theorem dX12_goThrough_184 : decode cX12_goThrough 184 = .ok (.goto (-63), 3) := by decide +kernel
theorem dX12_goThrough_187 : decode cX12_goThrough 187 = .ok (.return_, 1) := by decide +kernel
theorem dX12_standings_0 : decode cX12_standings 0 = .ok (.aload_n 0, 1) := by decide +kernel
theorem dX12_standings_1 : decode cX12_standings 1 = .ok (.iconst 0, 1) := by decide +kernel
theorem dX12_standings_2 : decode cX12_standings 2 = .ok (.iconst 0, 1) := by decide +kernel
theorem dX12_standings_3 : decode cX12_standings 3 = .ok (.invokevirtual 267, 3) := by decide +kernel
theorem dX12_standings_6 : decode cX12_standings 6 = .ok (.aload_n 0, 1) := by decide +kernel
theorem dX12_standings_7 : decode cX12_standings 7 = .ok (.getfield 257, 3) := by decide +kernel
theorem dX12_standings_10 : decode cX12_standings 10 = .ok (.ireturn, 1) := by decide +kernel
theorem dX12_fewest_0 : decode cX12_fewest 0 = .ok (.iload_n 1, 1) := by decide +kernel
theorem dX12_fewest_1 : decode cX12_fewest 1 = .ok (.iconst (-1), 1) := by decide +kernel
theorem dX12_fewest_2 : decode cX12_fewest 2 = .ok (.if_icmp .eq 17, 3) := by decide +kernel
theorem dX12_fewest_5 : decode cX12_fewest 5 = .ok (.aload_n 0, 1) := by decide +kernel
theorem dX12_fewest_6 : decode cX12_fewest 6 = .ok (.iload_n 1, 1) := by decide +kernel
theorem dX12_fewest_7 : decode cX12_fewest 7 = .ok (.invokevirtual 152, 3) := by decide +kernel
theorem dX12_fewest_10 : decode cX12_fewest 10 = .ok (.ifCond .ne 9, 3) := by decide +kernel
theorem dX12_fewest_13 : decode cX12_fewest 13 = .ok (.aload_n 0, 1) := by decide +kernel
theorem dX12_fewest_14 : decode cX12_fewest 14 = .ok (.iconst 1, 1) := by decide +kernel
theorem dX12_fewest_15 : decode cX12_fewest 15 = .ok (.invokevirtual 119, 3) := by decide +kernel
theorem dX12_fewest_18 : decode cX12_fewest 18 = .ok (.ireturn, 1) := by decide +kernel
theorem dX12_fewest_19 : decode cX12_fewest 19 = .ok (.aload_n 0, 1) := by decide +kernel
theorem dX12_fewest_20 : decode cX12_fewest 20 = .ok (.iconst 1, 1) := by decide +kernel
theorem dX12_fewest_21 : decode cX12_fewest 21 = .ok (.iconst 1, 1) := by decide +kernel
theorem dX12_fewest_22 : decode cX12_fewest 22 = .ok (.invokevirtual 267, 3) := by decide +kernel
theorem dX12_fewest_25 : decode cX12_fewest 25 = .ok (.aload_n 0, 1) := by decide +kernel
theorem dX12_fewest_26 : decode cX12_fewest 26 = .ok (.getfield 248, 3) := by decide +kernel
theorem dX12_fewest_29 : decode cX12_fewest 29 = .ok (.ifCond .ge 9, 3) := by decide +kernel
theorem dX12_fewest_32 : decode cX12_fewest 32 = .ok (.aload_n 0, 1) := by decide +kernel
theorem dX12_fewest_33 : decode cX12_fewest 33 = .ok (.iconst 2, 1) := by decide +kernel
theorem dX12_fewest_34 : decode cX12_fewest 34 = .ok (.invokevirtual 119, 3) := by decide +kernel
theorem dX12_fewest_37 : decode cX12_fewest 37 = .ok (.ireturn, 1) := by decide +kernel
theorem dX12_fewest_38 : decode cX12_fewest 38 = .ok (.iload_n 1, 1) := by decide +kernel
theorem dX12_fewest_39 : decode cX12_fewest 39 = .ok (.ifCond .ge 10, 3) := by decide +kernel
theorem dX12_fewest_42 : decode cX12_fewest 42 = .ok (.aload_n 0, 1) := by decide +kernel
theorem dX12_fewest_43 : decode cX12_fewest 43 = .ok (.getfield 248, 3) := by decide +kernel
theorem dX12_fewest_46 : decode cX12_fewest 46 = .ok (.goto 9, 3) := by decide +kernel
theorem dX12_fewest_49 : decode cX12_fewest 49 = .ok (.aload_n 0, 1) := by decide +kernel
theorem dX12_fewest_50 : decode cX12_fewest 50 = .ok (.getfield 37, 3) := by decide +kernel
theorem dX12_fewest_53 : decode cX12_fewest 53 = .ok (.iload_n 1, 1) := by decide +kernel
theorem dX12_fewest_54 : decode cX12_fewest 54 = .ok (.iaload, 1) := by decide +kernel
theorem dX12_fewest_55 : decode cX12_fewest 55 = .ok (.ireturn, 1) := by decide +kernel
theorem dX12_most_0 : decode cX12_most 0 = .ok (.iload_n 1, 1) := by decide +kernel
theorem dX12_most_1 : decode cX12_most 1 = .ok (.bipush (-2), 2) := by decide +kernel
theorem dX12_most_3 : decode cX12_most 3 = .ok (.if_icmp .eq 22, 3) := by decide +kernel
theorem dX12_most_6 : decode cX12_most 6 = .ok (.iload_n 1, 1) := by decide +kernel
theorem dX12_most_7 : decode cX12_most 7 = .ok (.iconst (-1), 1) := by decide +kernel
theorem dX12_most_8 : decode cX12_most 8 = .ok (.if_icmp .eq 17, 3) := by decide +kernel
theorem dX12_most_11 : decode cX12_most 11 = .ok (.aload_n 0, 1) := by decide +kernel
theorem dX12_most_12 : decode cX12_most 12 = .ok (.iload_n 1, 1) := by decide +kernel
theorem dX12_most_13 : decode cX12_most 13 = .ok (.invokevirtual 152, 3) := by decide +kernel
theorem dX12_most_16 : decode cX12_most 16 = .ok (.ifCond .ne 9, 3) := by decide +kernel
theorem dX12_most_19 : decode cX12_most 19 = .ok (.aload_n 0, 1) := by decide +kernel
theorem dX12_most_20 : decode cX12_most 20 = .ok (.iconst 1, 1) := by decide +kernel
theorem dX12_most_21 : decode cX12_most 21 = .ok (.invokevirtual 119, 3) := by decide +kernel
theorem dX12_most_24 : decode cX12_most 24 = .ok (.ireturn, 1) := by decide +kernel
theorem dX12_most_25 : decode cX12_most 25 = .ok (.aload_n 0, 1) := by decide +kernel
theorem dX12_most_26 : decode cX12_most 26 = .ok (.iconst 1, 1) := by decide +kernel
theorem dX12_most_27 : decode cX12_most 27 = .ok (.iconst 0, 1) := by decide +kernel
theorem dX12_most_28 : decode cX12_most 28 = .ok (.invokevirtual 267, 3) := by decide +kernel
theorem dX12_most_31 : decode cX12_most 31 = .ok (.iload_n 1, 1) := by decide +kernel
theorem dX12_most_32 : decode cX12_most 32 = .ok (.bipush (-2), 2) := by decide +kernel
theorem dX12_most_34 : decode cX12_most 34 = .ok (.if_icmp .ne 10, 3) := by decide +kernel
theorem dX12_most_37 : decode cX12_most 37 = .ok (.aload_n 0, 1) := by decide +kernel
theorem dX12_most_38 : decode cX12_most 38 = .ok (.getfield 251, 3) := by decide +kernel
theorem dX12_most_41 : decode cX12_most 41 = .ok (.goto 21, 3) := by decide +kernel
theorem dX12_most_44 : decode cX12_most 44 = .ok (.iload_n 1, 1) := by decide +kernel
theorem dX12_most_45 : decode cX12_most 45 = .ok (.iconst (-1), 1) := by decide +kernel
theorem dX12_most_46 : decode cX12_most 46 = .ok (.if_icmp .ne 10, 3) := by decide +kernel
theorem dX12_most_49 : decode cX12_most 49 = .ok (.aload_n 0, 1) := by decide +kernel
theorem dX12_most_50 : decode cX12_most 50 = .ok (.getfield 248, 3) := by decide +kernel
theorem dX12_most_53 : decode cX12_most 53 = .ok (.goto 9, 3) := by decide +kernel
theorem dX12_most_56 : decode cX12_most 56 = .ok (.aload_n 0, 1) := by decide +kernel
theorem dX12_most_57 : decode cX12_most 57 = .ok (.getfield 37, 3) := by decide +kernel
theorem dX12_most_60 : decode cX12_most 60 = .ok (.iload_n 1, 1) := by decide +kernel
theorem dX12_most_61 : decode cX12_most 61 = .ok (.iaload, 1) := by decide +kernel
theorem dX12_most_62 : decode cX12_most 62 = .ok (.ireturn, 1) := by decide +kernel
theorem dX12_findHelps_0 : decode cX12_findHelps 0 = .ok (.aload_n 0, 1) := by decide +kernel
theorem dX12_findHelps_1 : decode cX12_findHelps 1 = .ok (.iconst (-1), 1) := by decide +kernel
theorem dX12_findHelps_2 : decode cX12_findHelps 2 = .ok (.putfield 271, 3) := by decide +kernel
theorem dX12_findHelps_5 : decode cX12_findHelps 5 = .ok (.aload_n 0, 1) := by decide +kernel
theorem dX12_findHelps_6 : decode cX12_findHelps 6 = .ok (.iconst (-1), 1) := by decide +kernel
theorem dX12_findHelps_7 : decode cX12_findHelps 7 = .ok (.putfield 274, 3) := by decide +kernel
theorem dX12_findHelps_10 : decode cX12_findHelps 10 = .ok (.aload_n 0, 1) := by decide +kernel
theorem dX12_findHelps_11 : decode cX12_findHelps 11 = .ok (.invokevirtual 242, 3) := by decide +kernel
theorem dX12_findHelps_14 : decode cX12_findHelps 14 = .ok (.iconst 0, 1) := by decide +kernel
theorem dX12_findHelps_15 : decode cX12_findHelps 15 = .ok (.istore_n 1, 1) := by decide +kernel
theorem dX12_findHelps_16 : decode cX12_findHelps 16 = .ok (.iload_n 1, 1) := by decide +kernel
theorem dX12_findHelps_17 : decode cX12_findHelps 17 = .ok (.aload_n 0, 1) := by decide +kernel
theorem dX12_findHelps_18 : decode cX12_findHelps 18 = .ok (.getfield 7, 3) := by decide +kernel
theorem dX12_findHelps_21 : decode cX12_findHelps 21 = .ok (.iconst 0, 1) := by decide +kernel
theorem dX12_findHelps_22 : decode cX12_findHelps 22 = .ok (.iaload, 1) := by decide +kernel
theorem dX12_findHelps_23 : decode cX12_findHelps 23 = .ok (.if_icmp .ge 116, 3) := by decide +kernel
theorem dX12_findHelps_26 : decode cX12_findHelps 26 = .ok (.iload_n 1, 1) := by decide +kernel
theorem dX12_findHelps_27 : decode cX12_findHelps 27 = .ok (.iconst 1, 1) := by decide +kernel
theorem dX12_findHelps_28 : decode cX12_findHelps 28 = .ok (.iadd, 1) := by decide +kernel
theorem dX12_findHelps_29 : decode cX12_findHelps 29 = .ok (.istore_n 2, 1) := by decide +kernel
theorem dX12_findHelps_30 : decode cX12_findHelps 30 = .ok (.iload_n 2, 1) := by decide +kernel
theorem dX12_findHelps_31 : decode cX12_findHelps 31 = .ok (.aload_n 0, 1) := by decide +kernel
theorem dX12_findHelps_32 : decode cX12_findHelps 32 = .ok (.getfield 7, 3) := by decide +kernel
theorem dX12_findHelps_35 : decode cX12_findHelps 35 = .ok (.iconst 0, 1) := by decide +kernel
theorem dX12_findHelps_36 : decode cX12_findHelps 36 = .ok (.iaload, 1) := by decide +kernel
theorem dX12_findHelps_37 : decode cX12_findHelps 37 = .ok (.if_icmp .ge 96, 3) := by decide +kernel
theorem dX12_findHelps_40 : decode cX12_findHelps 40 = .ok (.aload_n 0, 1) := by decide +kernel
theorem dX12_findHelps_41 : decode cX12_findHelps 41 = .ok (.iload_n 1, 1) := by decide +kernel
theorem dX12_findHelps_42 : decode cX12_findHelps 42 = .ok (.iconst 2, 1) := by decide +kernel
theorem dX12_findHelps_43 : decode cX12_findHelps 43 = .ok (.invokevirtual 148, 3) := by decide +kernel
theorem dX12_findHelps_46 : decode cX12_findHelps 46 = .ok (.aload_n 0, 1) := by decide +kernel
theorem dX12_findHelps_47 : decode cX12_findHelps 47 = .ok (.iload_n 2, 1) := by decide +kernel
theorem dX12_findHelps_48 : decode cX12_findHelps 48 = .ok (.iconst 2, 1) := by decide +kernel
theorem dX12_findHelps_49 : decode cX12_findHelps 49 = .ok (.invokevirtual 148, 3) := by decide +kernel
theorem dX12_findHelps_52 : decode cX12_findHelps 52 = .ok (.if_icmp .eq 75, 3) := by decide +kernel
theorem dX12_findHelps_55 : decode cX12_findHelps 55 = .ok (.aload_n 0, 1) := by decide +kernel
theorem dX12_findHelps_56 : decode cX12_findHelps 56 = .ok (.iload_n 1, 1) := by decide +kernel
theorem dX12_findHelps_57 : decode cX12_findHelps 57 = .ok (.iload_n 2, 1) := by decide +kernel
theorem dX12_findHelps_58 : decode cX12_findHelps 58 = .ok (.invokevirtual 173, 3) := by decide +kernel
theorem dX12_findHelps_61 : decode cX12_findHelps 61 = .ok (.aload_n 0, 1) := by decide +kernel
theorem dX12_findHelps_62 : decode cX12_findHelps 62 = .ok (.invokevirtual 222, 3) := by decide +kernel
theorem dX12_findHelps_65 : decode cX12_findHelps 65 = .ok (.istore_n 3, 1) := by decide +kernel
theorem dX12_findHelps_66 : decode cX12_findHelps 66 = .ok (.aload_n 0, 1) := by decide +kernel
theorem dX12_findHelps_67 : decode cX12_findHelps 67 = .ok (.invokevirtual 210, 3) := by decide +kernel
theorem dX12_findHelps_70 : decode cX12_findHelps 70 = .ok (.invokestatic 141, 3) := by decide +kernel
theorem dX12_findHelps_73 : decode cX12_findHelps 73 = .ok (.istore 4, 2) := by decide +kernel
theorem dX12_findHelps_75 : decode cX12_findHelps 75 = .ok (.aload_n 0, 1) := by decide +kernel
theorem dX12_findHelps_76 : decode cX12_findHelps 76 = .ok (.invokevirtual 245, 3) := by decide +kernel
theorem dX12_findHelps_79 : decode cX12_findHelps 79 = .ok (.aload_n 0, 1) := by decide +kernel
theorem dX12_findHelps_80 : decode cX12_findHelps 80 = .ok (.iload 4, 2) := by decide +kernel
theorem dX12_findHelps_82 : decode cX12_findHelps 82 = .ok (.aload_n 0, 1) := by decide +kernel
theorem dX12_findHelps_83 : decode cX12_findHelps 83 = .ok (.getfield 274, 3) := by decide +kernel
theorem dX12_findHelps_86 : decode cX12_findHelps 86 = .ok (.if_icmp .le 12, 3) := by decide +kernel
theorem dX12_findHelps_89 : decode cX12_findHelps 89 = .ok (.bipush 10, 2) := by decide +kernel
theorem dX12_findHelps_91 : decode cX12_findHelps 91 = .ok (.iload_n 1, 1) := by decide +kernel
theorem dX12_findHelps_92 : decode cX12_findHelps 92 = .ok (.imul, 1) := by decide +kernel
theorem dX12_findHelps_93 : decode cX12_findHelps 93 = .ok (.iload_n 2, 1) := by decide +kernel
theorem dX12_findHelps_94 : decode cX12_findHelps 94 = .ok (.iadd, 1) := by decide +kernel
theorem dX12_findHelps_95 : decode cX12_findHelps 95 = .ok (.goto 7, 3) := by decide +kernel
theorem dX12_findHelps_98 : decode cX12_findHelps 98 = .ok (.aload_n 0, 1) := by decide +kernel
theorem dX12_findHelps_99 : decode cX12_findHelps 99 = .ok (.getfield 271, 3) := by decide +kernel
theorem dX12_findHelps_102 : decode cX12_findHelps 102 = .ok (.putfield 271, 3) := by decide +kernel
theorem dX12_findHelps_105 : decode cX12_findHelps 105 = .ok (.aload_n 0, 1) := by decide +kernel
theorem dX12_findHelps_106 : decode cX12_findHelps 106 = .ok (.iload 4, 2) := by decide +kernel
theorem dX12_findHelps_108 : decode cX12_findHelps 108 = .ok (.aload_n 0, 1) := by decide +kernel
theorem dX12_findHelps_109 : decode cX12_findHelps 109 = .ok (.getfield 274, 3) := by decide +kernel
theorem dX12_findHelps_112 : decode cX12_findHelps 112 = .ok (.if_icmp .le 8, 3) := by decide +kernel
theorem dX12_findHelps_115 : decode cX12_findHelps 115 = .ok (.iload 4, 2) := by decide +kernel
theorem dX12_findHelps_117 : decode cX12_findHelps 117 = .ok (.goto 7, 3) := by decide +kernel
theorem dX12_findHelps_120 : decode cX12_findHelps 120 = .ok (.aload_n 0, 1) := by decide +kernel
theorem dX12_findHelps_121 : decode cX12_findHelps 121 = .ok (.getfield 274, 3) := by decide +kernel
theorem dX12_findHelps_124 : decode cX12_findHelps 124 = .ok (.putfield 274, 3) := by decide +kernel
theorem dX12_findHelps_127 : decode cX12_findHelps 127 = .ok (.iinc 2 1, 3) := by decide +kernel
theorem dX12_findHelps_130 : decode cX12_findHelps 130 = .ok (.goto (-100), 3) := by decide +kernel
theorem dX12_findHelps_133 : decode cX12_findHelps 133 = .ok (.iinc 1 1, 3) := by decide +kernel
theorem dX12_findHelps_136 : decode cX12_findHelps 136 = .ok (.goto (-120), 3) := by decide +kernel
theorem dX12_findHelps_139 : decode cX12_findHelps 139 = .ok (.return_, 1) := by decide +kernel
theorem dX12_helps_0 : decode cX12_helps 0 = .ok (.iload_n 1, 1) := by decide +kernel
theorem dX12_helps_1 : decode cX12_helps 1 = .ok (.i2l, 1) := by decide +kernel
theorem dX12_helps_2 : decode cX12_helps 2 = .ok (.lconst 0, 1) := by decide +kernel
theorem dX12_helps_3 : decode cX12_helps 3 = .ok (.lconst 1, 1) := by decide +kernel
theorem dX12_helps_4 : decode cX12_helps 4 = .ok (.invokestatic 56, 3) := by decide +kernel
theorem dX12_helps_7 : decode cX12_helps 7 = .ok (.ifCond .ne 9, 3) := by decide +kernel
theorem dX12_helps_10 : decode cX12_helps 10 = .ok (.aload_n 0, 1) := by decide +kernel
theorem dX12_helps_11 : decode cX12_helps 11 = .ok (.iconst 1, 1) := by decide +kernel
theorem dX12_helps_12 : decode cX12_helps 12 = .ok (.invokevirtual 119, 3) := by decide +kernel
theorem dX12_helps_15 : decode cX12_helps 15 = .ok (.ireturn, 1) := by decide +kernel
theorem dX12_helps_16 : decode cX12_helps 16 = .ok (.aload_n 0, 1) := by decide +kernel
theorem dX12_helps_17 : decode cX12_helps 17 = .ok (.invokevirtual 277, 3) := by decide +kernel
theorem dX12_helps_20 : decode cX12_helps 20 = .ok (.aload_n 0, 1) := by decide +kernel
theorem dX12_helps_21 : decode cX12_helps 21 = .ok (.getfield 271, 3) := by decide +kernel
theorem dX12_helps_24 : decode cX12_helps 24 = .ok (.ifCond .ge 11, 3) := by decide +kernel
theorem dX12_helps_27 : decode cX12_helps 27 = .ok (.aload_n 0, 1) := by decide +kernel
theorem dX12_helps_28 : decode cX12_helps 28 = .ok (.iconst 2, 1) := by decide +kernel
theorem dX12_helps_29 : decode cX12_helps 29 = .ok (.invokevirtual 119, 3) := by decide +kernel
theorem dX12_helps_32 : decode cX12_helps 32 = .ok (.goto 18, 3) := by decide +kernel
theorem dX12_helps_35 : decode cX12_helps 35 = .ok (.iload_n 1, 1) := by decide +kernel
theorem dX12_helps_36 : decode cX12_helps 36 = .ok (.ifCond .ne 10, 3) := by decide +kernel
theorem dX12_helps_39 : decode cX12_helps 39 = .ok (.aload_n 0, 1) := by decide +kernel
theorem dX12_helps_40 : decode cX12_helps 40 = .ok (.getfield 271, 3) := by decide +kernel
theorem dX12_helps_43 : decode cX12_helps 43 = .ok (.goto 7, 3) := by decide +kernel
theorem dX12_helps_46 : decode cX12_helps 46 = .ok (.aload_n 0, 1) := by decide +kernel
theorem dX12_helps_47 : decode cX12_helps 47 = .ok (.getfield 274, 3) := by decide +kernel
theorem dX12_helps_50 : decode cX12_helps 50 = .ok (.ireturn, 1) := by decide +kernel
theorem dX12_who_0 : decode cX12_who 0 = .ok (.iload_n 1, 1) := by decide +kernel
theorem dX12_who_1 : decode cX12_who 1 = .ok (.invokestatic 280, 3) := by decide +kernel
theorem dX12_who_4 : decode cX12_who 4 = .ok (.ifCond .ne 9, 3) := by decide +kernel
theorem dX12_who_7 : decode cX12_who 7 = .ok (.aload_n 0, 1) := by decide +kernel
theorem dX12_who_8 : decode cX12_who 8 = .ok (.iconst 1, 1) := by decide +kernel
theorem dX12_who_9 : decode cX12_who 9 = .ok (.invokevirtual 119, 3) := by decide +kernel
theorem dX12_who_12 : decode cX12_who 12 = .ok (.ireturn, 1) := by decide +kernel
theorem dX12_who_13 : decode cX12_who 13 = .ok (.aload_n 0, 1) := by decide +kernel
theorem dX12_who_14 : decode cX12_who 14 = .ok (.getfield 43, 3) := by decide +kernel
theorem dX12_who_17 : decode cX12_who 17 = .ok (.iload_n 1, 1) := by decide +kernel
theorem dX12_who_18 : decode cX12_who 18 = .ok (.iaload, 1) := by decide +kernel
theorem dX12_who_19 : decode cX12_who 19 = .ok (.ifCond .eq 18, 3) := by decide +kernel
theorem dX12_who_22 : decode cX12_who 22 = .ok (.aload_n 0, 1) := by decide +kernel
theorem dX12_who_23 : decode cX12_who 23 = .ok (.getfield 46, 3) := by decide +kernel
theorem dX12_who_26 : decode cX12_who 26 = .ok (.iload_n 1, 1) := by decide +kernel
theorem dX12_who_27 : decode cX12_who 27 = .ok (.iaload, 1) := by decide +kernel
theorem dX12_who_28 : decode cX12_who 28 = .ok (.aload_n 0, 1) := by decide +kernel
theorem dX12_who_29 : decode cX12_who 29 = .ok (.getfield 7, 3) := by decide +kernel
theorem dX12_who_32 : decode cX12_who 32 = .ok (.iconst 0, 1) := by decide +kernel
theorem dX12_who_33 : decode cX12_who 33 = .ok (.iaload, 1) := by decide +kernel
theorem dX12_who_34 : decode cX12_who 34 = .ok (.if_icmp .eq 9, 3) := by decide +kernel
theorem dX12_who_37 : decode cX12_who 37 = .ok (.aload_n 0, 1) := by decide +kernel
theorem dX12_who_38 : decode cX12_who 38 = .ok (.iconst 2, 1) := by decide +kernel
theorem dX12_who_39 : decode cX12_who 39 = .ok (.invokevirtual 119, 3) := by decide +kernel
theorem dX12_who_42 : decode cX12_who 42 = .ok (.ireturn, 1) := by decide +kernel
theorem dX12_who_43 : decode cX12_who 43 = .ok (.iconst 0, 1) := by decide +kernel
theorem dX12_who_44 : decode cX12_who 44 = .ok (.istore_n 2, 1) := by decide +kernel
theorem dX12_who_45 : decode cX12_who 45 = .ok (.aload_n 0, 1) := by decide +kernel
theorem dX12_who_46 : decode cX12_who 46 = .ok (.invokevirtual 242, 3) := by decide +kernel
theorem dX12_who_49 : decode cX12_who 49 = .ok (.iconst 0, 1) := by decide +kernel
theorem dX12_who_50 : decode cX12_who 50 = .ok (.istore_n 3, 1) := by decide +kernel
theorem dX12_who_51 : decode cX12_who 51 = .ok (.iload_n 3, 1) := by decide +kernel
theorem dX12_who_52 : decode cX12_who 52 = .ok (.aload_n 0, 1) := by decide +kernel
theorem dX12_who_53 : decode cX12_who 53 = .ok (.getfield 7, 3) := by decide +kernel
theorem dX12_who_56 : decode cX12_who 56 = .ok (.iconst 2, 1) := by decide +kernel
theorem dX12_who_57 : decode cX12_who 57 = .ok (.iaload, 1) := by decide +kernel
theorem dX12_who_58 : decode cX12_who 58 = .ok (.if_icmp .ge 97, 3) := by decide +kernel
theorem dX12_who_61 : decode cX12_who 61 = .ok (.aload_n 0, 1) := by decide +kernel
theorem dX12_who_62 : decode cX12_who 62 = .ok (.iload_n 3, 1) := by decide +kernel
theorem dX12_who_63 : decode cX12_who 63 = .ok (.invokevirtual 219, 3) := by decide +kernel
theorem dX12_who_66 : decode cX12_who 66 = .ok (.ifCond .le 7, 3) := by decide +kernel
theorem dX12_who_69 : decode cX12_who 69 = .ok (.iconst 1, 1) := by decide +kernel
theorem dX12_who_70 : decode cX12_who 70 = .ok (.goto 4, 3) := by decide +kernel
theorem dX12_who_73 : decode cX12_who 73 = .ok (.iconst 0, 1) := by decide +kernel
theorem dX12_who_74 : decode cX12_who 74 = .ok (.istore 4, 2) := by decide +kernel
theorem dX12_who_76 : decode cX12_who 76 = .ok (.iconst 0, 1) := by decide +kernel
theorem dX12_who_77 : decode cX12_who 77 = .ok (.istore 5, 2) := by decide +kernel
theorem dX12_who_79 : decode cX12_who 79 = .ok (.iload 5, 2) := by decide +kernel
theorem dX12_who_81 : decode cX12_who 81 = .ok (.aload_n 0, 1) := by decide +kernel
theorem dX12_who_82 : decode cX12_who 82 = .ok (.getfield 7, 3) := by decide +kernel
theorem dX12_who_85 : decode cX12_who 85 = .ok (.iconst 0, 1) := by decide +kernel
theorem dX12_who_86 : decode cX12_who 86 = .ok (.iaload, 1) := by decide +kernel
theorem dX12_who_87 : decode cX12_who 87 = .ok (.if_icmp .ge 43, 3) := by decide +kernel
theorem dX12_who_90 : decode cX12_who 90 = .ok (.iload 4, 2) := by decide +kernel
theorem dX12_who_92 : decode cX12_who 92 = .ok (.ifCond .eq 29, 3) := by decide +kernel
theorem dX12_who_95 : decode cX12_who 95 = .ok (.aload_n 0, 1) := by decide +kernel
theorem dX12_who_96 : decode cX12_who 96 = .ok (.iload 5, 2) := by decide +kernel
theorem dX12_who_98 : decode cX12_who 98 = .ok (.iconst 1, 1) := by decide +kernel
theorem dX12_who_99 : decode cX12_who 99 = .ok (.invokevirtual 148, 3) := by decide +kernel
theorem dX12_who_102 : decode cX12_who 102 = .ok (.aload_n 0, 1) := by decide +kernel
theorem dX12_who_103 : decode cX12_who 103 = .ok (.getfield 49, 3) := by decide +kernel
theorem dX12_who_106 : decode cX12_who 106 = .ok (.bipush 40, 2) := by decide +kernel
theorem dX12_who_108 : decode cX12_who 108 = .ok (.iload_n 1, 1) := by decide +kernel
theorem dX12_who_109 : decode cX12_who 109 = .ok (.imul, 1) := by decide +kernel
theorem dX12_who_110 : decode cX12_who 110 = .ok (.iload 5, 2) := by decide +kernel
theorem dX12_who_112 : decode cX12_who 112 = .ok (.iadd, 1) := by decide +kernel
theorem dX12_who_113 : decode cX12_who 113 = .ok (.iaload, 1) := by decide +kernel
theorem dX12_who_114 : decode cX12_who 114 = .ok (.if_icmp .ne 7, 3) := by decide +kernel
theorem dX12_who_117 : decode cX12_who 117 = .ok (.iconst 1, 1) := by decide +kernel
theorem dX12_who_118 : decode cX12_who 118 = .ok (.goto 4, 3) := by decide +kernel
theorem dX12_who_121 : decode cX12_who 121 = .ok (.iconst 0, 1) := by decide +kernel
theorem dX12_who_122 : decode cX12_who 122 = .ok (.istore 4, 2) := by decide +kernel
theorem dX12_who_124 : decode cX12_who 124 = .ok (.iinc 5 1, 3) := by decide +kernel
theorem dX12_who_127 : decode cX12_who 127 = .ok (.goto (-48), 3) := by decide +kernel
theorem dX12_who_130 : decode cX12_who 130 = .ok (.aload_n 0, 1) := by decide +kernel
theorem dX12_who_131 : decode cX12_who 131 = .ok (.invokevirtual 245, 3) := by decide +kernel
theorem dX12_who_134 : decode cX12_who 134 = .ok (.iload_n 2, 1) := by decide +kernel
theorem dX12_who_135 : decode cX12_who 135 = .ok (.iload 4, 2) := by decide +kernel
theorem dX12_who_137 : decode cX12_who 137 = .ok (.ifCond .eq 9, 3) := by decide +kernel
theorem dX12_who_140 : decode cX12_who 140 = .ok (.iconst 1, 1) := by decide +kernel
theorem dX12_who_141 : decode cX12_who 141 = .ok (.iload_n 3, 1) := by decide +kernel
theorem dX12_who_142 : decode cX12_who 142 = .ok (.ishl, 1) := by decide +kernel
theorem dX12_who_143 : decode cX12_who 143 = .ok (.goto 4, 3) := by decide +kernel
theorem dX12_who_146 : decode cX12_who 146 = .ok (.iconst 0, 1) := by decide +kernel
theorem dX12_who_147 : decode cX12_who 147 = .ok (.ior, 1) := by decide +kernel
theorem dX12_who_148 : decode cX12_who 148 = .ok (.istore_n 2, 1) := by decide +kernel
theorem dX12_who_149 : decode cX12_who 149 = .ok (.iinc 3 1, 3) := by decide +kernel
theorem dX12_who_152 : decode cX12_who 152 = .ok (.goto (-101), 3) := by decide +kernel
theorem dX12_who_155 : decode cX12_who 155 = .ok (.iload_n 2, 1) := by decide +kernel
theorem dX12_who_156 : decode cX12_who 156 = .ok (.ireturn, 1) := by decide +kernel
theorem dX12_seed_0 : decode cX12_seed 0 = .ok (.aload_n 0, 1) := by decide +kernel
theorem dX12_seed_1 : decode cX12_seed 1 = .ok (.getfield 7, 3) := by decide +kernel
theorem dX12_seed_4 : decode cX12_seed 4 = .ok (.bipush 8, 2) := by decide +kernel
theorem dX12_seed_6 : decode cX12_seed 6 = .ok (.iaload, 1) := by decide +kernel
theorem dX12_seed_7 : decode cX12_seed 7 = .ok (.istore_n 2, 1) := by decide +kernel
theorem dX12_seed_8 : decode cX12_seed 8 = .ok (.aload_n 0, 1) := by decide +kernel
theorem dX12_seed_9 : decode cX12_seed 9 = .ok (.getfield 7, 3) := by decide +kernel
theorem dX12_seed_12 : decode cX12_seed 12 = .ok (.bipush 8, 2) := by decide +kernel
theorem dX12_seed_14 : decode cX12_seed 14 = .ok (.iload_n 1, 1) := by decide +kernel
theorem dX12_seed_15 : decode cX12_seed 15 = .ok (.iastore, 1) := by decide +kernel
theorem dX12_seed_16 : decode cX12_seed 16 = .ok (.iload_n 2, 1) := by decide +kernel
theorem dX12_seed_17 : decode cX12_seed 17 = .ok (.ireturn, 1) := by decide +kernel
theorem dX12_ran_0 : decode cX12_ran 0 = .ok (.aload_n 0, 1) := by decide +kernel
theorem dX12_ran_1 : decode cX12_ran 1 = .ok (.getfield 283, 3) := by decide +kernel
theorem dX12_ran_4 : decode cX12_ran 4 = .ok (.bipush 40, 2) := by decide +kernel
theorem dX12_ran_6 : decode cX12_ran 6 = .ok (.if_icmp .ge 23, 3) := by decide +kernel
theorem dX12_ran_9 : decode cX12_ran 9 = .ok (.aload_n 0, 1) := by decide +kernel
theorem dX12_ran_10 : decode cX12_ran 10 = .ok (.getfield 40, 3) := by decide +kernel
theorem dX12_ran_13 : decode cX12_ran 13 = .ok (.aload_n 0, 1) := by decide +kernel
theorem dX12_ran_14 : decode cX12_ran 14 = .ok (.getfield 283, 3) := by decide +kernel
theorem dX12_ran_17 : decode cX12_ran 17 = .ok (.iload_n 1, 1) := by decide +kernel
theorem dX12_ran_18 : decode cX12_ran 18 = .ok (.iastore, 1) := by decide +kernel
theorem dX12_ran_19 : decode cX12_ran 19 = .ok (.aload_n 0, 1) := by decide +kernel
theorem dX12_ran_20 : decode cX12_ran 20 = .ok (.dup, 1) := by decide +kernel
theorem dX12_ran_21 : decode cX12_ran 21 = .ok (.getfield 283, 3) := by decide +kernel
theorem dX12_ran_24 : decode cX12_ran 24 = .ok (.iconst 1, 1) := by decide +kernel
theorem dX12_ran_25 : decode cX12_ran 25 = .ok (.iadd, 1) := by decide +kernel
theorem dX12_ran_26 : decode cX12_ran 26 = .ok (.putfield 283, 3) := by decide +kernel
theorem dX12_ran_29 : decode cX12_ran 29 = .ok (.return_, 1) := by decide +kernel
theorem dX12_own_0 : decode cX12_own 0 = .ok (.aload_n 0, 1) := by decide +kernel
theorem dX12_own_1 : decode cX12_own 1 = .ok (.aload_n 0, 1) := by decide +kernel
theorem dX12_own_2 : decode cX12_own 2 = .ok (.getfield 286, 3) := by decide +kernel
theorem dX12_own_5 : decode cX12_own 5 = .ok (.iconst 0, 1) := by decide +kernel
theorem dX12_own_6 : decode cX12_own 6 = .ok (.invokevirtual 182, 3) := by decide +kernel
theorem dX12_own_9 : decode cX12_own 9 = .ok (.ireturn, 1) := by decide +kernel
theorem dX12_wakesBy_0 : decode cX12_wakesBy 0 = .ok (.iload_n 1, 1) := by decide +kernel
theorem dX12_wakesBy_1 : decode cX12_wakesBy 1 = .ok (.lookupswitch 58 #[(0, 27), (2, 40)], 27) := by decide +kernel
theorem dX12_wakesBy_28 : decode cX12_wakesBy 28 = .ok (.aload_n 0, 1) := by decide +kernel
theorem dX12_wakesBy_29 : decode cX12_wakesBy 29 = .ok (.bipush 10, 2) := by decide +kernel
theorem dX12_wakesBy_31 : decode cX12_wakesBy 31 = .ok (.invokevirtual 289, 3) := by decide +kernel
theorem dX12_wakesBy_34 : decode cX12_wakesBy 34 = .ok (.iload_n 2, 1) := by decide +kernel
theorem dX12_wakesBy_35 : decode cX12_wakesBy 35 = .ok (.aload_n 0, 1) := by decide +kernel
theorem dX12_wakesBy_36 : decode cX12_wakesBy 36 = .ok (.getfield 286, 3) := by decide +kernel
theorem dX12_wakesBy_39 : decode cX12_wakesBy 39 = .ok (.iadd, 1) := by decide +kernel
theorem dX12_wakesBy_40 : decode cX12_wakesBy 40 = .ok (.ireturn, 1) := by decide +kernel
theorem dX12_wakesBy_41 : decode cX12_wakesBy 41 = .ok (.aload_n 0, 1) := by decide +kernel
theorem dX12_wakesBy_42 : decode cX12_wakesBy 42 = .ok (.bipush 30, 2) := by decide +kernel
theorem dX12_wakesBy_44 : decode cX12_wakesBy 44 = .ok (.invokevirtual 289, 3) := by decide +kernel
theorem dX12_wakesBy_47 : decode cX12_wakesBy 47 = .ok (.aload_n 0, 1) := by decide +kernel
theorem dX12_wakesBy_48 : decode cX12_wakesBy 48 = .ok (.iconst 2, 1) := by decide +kernel
theorem dX12_wakesBy_49 : decode cX12_wakesBy 49 = .ok (.invokestatic 207, 3) := by decide +kernel
theorem dX12_wakesBy_52 : decode cX12_wakesBy 52 = .ok (.iload_n 2, 1) := by decide +kernel
theorem dX12_wakesBy_53 : decode cX12_wakesBy 53 = .ok (.invokevirtual 293, 3) := by decide +kernel
theorem dX12_wakesBy_56 : decode cX12_wakesBy 56 = .ok (.iconst 3, 1) := by decide +kernel
theorem dX12_wakesBy_57 : decode cX12_wakesBy 57 = .ok (.imul, 1) := by decide +kernel
theorem dX12_wakesBy_58 : decode cX12_wakesBy 58 = .ok (.ireturn, 1) := by decide +kernel
theorem dX12_wakesBy_59 : decode cX12_wakesBy 59 = .ok (.aload_n 0, 1) := by decide +kernel
theorem dX12_wakesBy_60 : decode cX12_wakesBy 60 = .ok (.iload_n 1, 1) := by decide +kernel
theorem dX12_wakesBy_61 : decode cX12_wakesBy 61 = .ok (.invokestatic 207, 3) := by decide +kernel
theorem dX12_wakesBy_64 : decode cX12_wakesBy 64 = .ok (.iload_n 2, 1) := by decide +kernel
theorem dX12_wakesBy_65 : decode cX12_wakesBy 65 = .ok (.invokevirtual 293, 3) := by decide +kernel
theorem dX12_wakesBy_68 : decode cX12_wakesBy 68 = .ok (.ireturn, 1) := by decide +kernel
theorem dX12_pullsBy_0 : decode cX12_pullsBy 0 = .ok (.iload_n 1, 1) := by decide +kernel
theorem dX12_pullsBy_1 : decode cX12_pullsBy 1 = .ok (.tableswitch 99 0 4 #[35, 53, 99, 99, 81], 35) := by decide +kernel
theorem dX12_pullsBy_36 : decode cX12_pullsBy 36 = .ok (.aload_n 0, 1) := by decide +kernel
theorem dX12_pullsBy_37 : decode cX12_pullsBy 37 = .ok (.bipush 11, 2) := by decide +kernel
theorem dX12_pullsBy_39 : decode cX12_pullsBy 39 = .ok (.invokevirtual 289, 3) := by decide +kernel
theorem dX12_pullsBy_42 : decode cX12_pullsBy 42 = .ok (.aload_n 0, 1) := by decide +kernel
theorem dX12_pullsBy_43 : decode cX12_pullsBy 43 = .ok (.aload_n 0, 1) := by decide +kernel
theorem dX12_pullsBy_44 : decode cX12_pullsBy 44 = .ok (.invokevirtual 296, 3) := by decide +kernel
theorem dX12_pullsBy_47 : decode cX12_pullsBy 47 = .ok (.iload_n 2, 1) := by decide +kernel
theorem dX12_pullsBy_48 : decode cX12_pullsBy 48 = .ok (.invokevirtual 293, 3) := by decide +kernel
theorem dX12_pullsBy_51 : decode cX12_pullsBy 51 = .ok (.iconst 2, 1) := by decide +kernel
theorem dX12_pullsBy_52 : decode cX12_pullsBy 52 = .ok (.imul, 1) := by decide +kernel
theorem dX12_pullsBy_53 : decode cX12_pullsBy 53 = .ok (.ireturn, 1) := by decide +kernel
theorem dX12_pullsBy_54 : decode cX12_pullsBy 54 = .ok (.aload_n 0, 1) := by decide +kernel
theorem dX12_pullsBy_55 : decode cX12_pullsBy 55 = .ok (.bipush 20, 2) := by decide +kernel
theorem dX12_pullsBy_57 : decode cX12_pullsBy 57 = .ok (.invokevirtual 289, 3) := by decide +kernel
theorem dX12_pullsBy_60 : decode cX12_pullsBy 60 = .ok (.aload_n 0, 1) := by decide +kernel
theorem dX12_pullsBy_61 : decode cX12_pullsBy 61 = .ok (.iconst 1, 1) := by decide +kernel
theorem dX12_pullsBy_62 : decode cX12_pullsBy 62 = .ok (.invokestatic 207, 3) := by decide +kernel
theorem dX12_pullsBy_65 : decode cX12_pullsBy 65 = .ok (.iload_n 2, 1) := by decide +kernel
theorem dX12_pullsBy_66 : decode cX12_pullsBy 66 = .ok (.invokevirtual 299, 3) := by decide +kernel
theorem dX12_pullsBy_69 : decode cX12_pullsBy 69 = .ok (.istore_n 3, 1) := by decide +kernel
theorem dX12_pullsBy_70 : decode cX12_pullsBy 70 = .ok (.iload_n 3, 1) := by decide +kernel
theorem dX12_pullsBy_71 : decode cX12_pullsBy 71 = .ok (.aload_n 0, 1) := by decide +kernel
theorem dX12_pullsBy_72 : decode cX12_pullsBy 72 = .ok (.aload_n 0, 1) := by decide +kernel
theorem dX12_pullsBy_73 : decode cX12_pullsBy 73 = .ok (.invokevirtual 296, 3) := by decide +kernel
theorem dX12_pullsBy_76 : decode cX12_pullsBy 76 = .ok (.iconst 1, 1) := by decide +kernel
theorem dX12_pullsBy_77 : decode cX12_pullsBy 77 = .ok (.invokevirtual 302, 3) := by decide +kernel
theorem dX12_pullsBy_80 : decode cX12_pullsBy 80 = .ok (.isub, 1) := by decide +kernel
theorem dX12_pullsBy_81 : decode cX12_pullsBy 81 = .ok (.ireturn, 1) := by decide +kernel
theorem dX12_pullsBy_82 : decode cX12_pullsBy 82 = .ok (.aload_n 0, 1) := by decide +kernel
theorem dX12_pullsBy_83 : decode cX12_pullsBy 83 = .ok (.bipush 50, 2) := by decide +kernel
theorem dX12_pullsBy_85 : decode cX12_pullsBy 85 = .ok (.invokevirtual 289, 3) := by decide +kernel
theorem dX12_pullsBy_88 : decode cX12_pullsBy 88 = .ok (.aload_n 0, 1) := by decide +kernel
theorem dX12_pullsBy_89 : decode cX12_pullsBy 89 = .ok (.iconst 4, 1) := by decide +kernel
theorem dX12_pullsBy_90 : decode cX12_pullsBy 90 = .ok (.invokestatic 207, 3) := by decide +kernel
theorem dX12_pullsBy_93 : decode cX12_pullsBy 93 = .ok (.iload_n 2, 1) := by decide +kernel
theorem dX12_pullsBy_94 : decode cX12_pullsBy 94 = .ok (.iconst 1, 1) := by decide +kernel
theorem dX12_pullsBy_95 : decode cX12_pullsBy 95 = .ok (.iadd, 1) := by decide +kernel
theorem dX12_pullsBy_96 : decode cX12_pullsBy 96 = .ok (.invokevirtual 299, 3) := by decide +kernel
theorem dX12_pullsBy_99 : decode cX12_pullsBy 99 = .ok (.ireturn, 1) := by decide +kernel
theorem dX12_pullsBy_100 : decode cX12_pullsBy 100 = .ok (.aload_n 0, 1) := by decide +kernel
theorem dX12_pullsBy_101 : decode cX12_pullsBy 101 = .ok (.iload_n 1, 1) := by decide +kernel
theorem dX12_pullsBy_102 : decode cX12_pullsBy 102 = .ok (.invokestatic 207, 3) := by decide +kernel
theorem dX12_pullsBy_105 : decode cX12_pullsBy 105 = .ok (.iload_n 2, 1) := by decide +kernel
theorem dX12_pullsBy_106 : decode cX12_pullsBy 106 = .ok (.invokevirtual 299, 3) := by decide +kernel
theorem dX12_pullsBy_109 : decode cX12_pullsBy 109 = .ok (.ireturn, 1) := by decide +kernel
theorem dX12_shutsBy_0 : decode cX12_shutsBy 0 = .ok (.iload_n 1, 1) := by decide +kernel
theorem dX12_shutsBy_1 : decode cX12_shutsBy 1 = .ok (.lookupswitch 92 #[(0, 35), (3, 53), (6, 70)], 35) := by decide +kernel
theorem dX12_shutsBy_36 : decode cX12_shutsBy 36 = .ok (.aload_n 0, 1) := by decide +kernel
theorem dX12_shutsBy_37 : decode cX12_shutsBy 37 = .ok (.bipush 12, 2) := by decide +kernel
theorem dX12_shutsBy_39 : decode cX12_shutsBy 39 = .ok (.invokevirtual 289, 3) := by decide +kernel
theorem dX12_shutsBy_42 : decode cX12_shutsBy 42 = .ok (.iload_n 2, 1) := by decide +kernel
theorem dX12_shutsBy_43 : decode cX12_shutsBy 43 = .ok (.aload_n 0, 1) := by decide +kernel
theorem dX12_shutsBy_44 : decode cX12_shutsBy 44 = .ok (.aload_n 0, 1) := by decide +kernel
theorem dX12_shutsBy_45 : decode cX12_shutsBy 45 = .ok (.getfield 286, 3) := by decide +kernel
theorem dX12_shutsBy_48 : decode cX12_shutsBy 48 = .ok (.iconst 1, 1) := by decide +kernel
theorem dX12_shutsBy_49 : decode cX12_shutsBy 49 = .ok (.invokevirtual 182, 3) := by decide +kernel
theorem dX12_shutsBy_52 : decode cX12_shutsBy 52 = .ok (.isub, 1) := by decide +kernel
theorem dX12_shutsBy_53 : decode cX12_shutsBy 53 = .ok (.ireturn, 1) := by decide +kernel
theorem dX12_shutsBy_54 : decode cX12_shutsBy 54 = .ok (.aload_n 0, 1) := by decide +kernel
theorem dX12_shutsBy_55 : decode cX12_shutsBy 55 = .ok (.bipush 40, 2) := by decide +kernel
theorem dX12_shutsBy_57 : decode cX12_shutsBy 57 = .ok (.invokevirtual 289, 3) := by decide +kernel
theorem dX12_shutsBy_60 : decode cX12_shutsBy 60 = .ok (.aload_n 0, 1) := by decide +kernel
theorem dX12_shutsBy_61 : decode cX12_shutsBy 61 = .ok (.iconst 3, 1) := by decide +kernel
theorem dX12_shutsBy_62 : decode cX12_shutsBy 62 = .ok (.invokestatic 207, 3) := by decide +kernel
theorem dX12_shutsBy_65 : decode cX12_shutsBy 65 = .ok (.iload_n 2, 1) := by decide +kernel
theorem dX12_shutsBy_66 : decode cX12_shutsBy 66 = .ok (.invokevirtual 302, 3) := by decide +kernel
theorem dX12_shutsBy_69 : decode cX12_shutsBy 69 = .ok (.ineg, 1) := by decide +kernel
theorem dX12_shutsBy_70 : decode cX12_shutsBy 70 = .ok (.ireturn, 1) := by decide +kernel
theorem dX12_shutsBy_71 : decode cX12_shutsBy 71 = .ok (.aload_n 0, 1) := by decide +kernel
theorem dX12_shutsBy_72 : decode cX12_shutsBy 72 = .ok (.bipush 70, 2) := by decide +kernel
theorem dX12_shutsBy_74 : decode cX12_shutsBy 74 = .ok (.invokevirtual 289, 3) := by decide +kernel
theorem dX12_shutsBy_77 : decode cX12_shutsBy 77 = .ok (.aload_n 0, 1) := by decide +kernel
theorem dX12_shutsBy_78 : decode cX12_shutsBy 78 = .ok (.bipush 6, 2) := by decide +kernel
theorem dX12_shutsBy_80 : decode cX12_shutsBy 80 = .ok (.invokestatic 207, 3) := by decide +kernel
theorem dX12_shutsBy_83 : decode cX12_shutsBy 83 = .ok (.iload_n 2, 1) := by decide +kernel
theorem dX12_shutsBy_84 : decode cX12_shutsBy 84 = .ok (.invokevirtual 302, 3) := by decide +kernel
theorem dX12_shutsBy_87 : decode cX12_shutsBy 87 = .ok (.aload_n 0, 1) := by decide +kernel
theorem dX12_shutsBy_88 : decode cX12_shutsBy 88 = .ok (.getfield 286, 3) := by decide +kernel
theorem dX12_shutsBy_91 : decode cX12_shutsBy 91 = .ok (.ixor, 1) := by decide +kernel
theorem dX12_shutsBy_92 : decode cX12_shutsBy 92 = .ok (.ireturn, 1) := by decide +kernel
theorem dX12_shutsBy_93 : decode cX12_shutsBy 93 = .ok (.aload_n 0, 1) := by decide +kernel
theorem dX12_shutsBy_94 : decode cX12_shutsBy 94 = .ok (.iload_n 1, 1) := by decide +kernel
theorem dX12_shutsBy_95 : decode cX12_shutsBy 95 = .ok (.invokestatic 207, 3) := by decide +kernel
theorem dX12_shutsBy_98 : decode cX12_shutsBy 98 = .ok (.iload_n 2, 1) := by decide +kernel
theorem dX12_shutsBy_99 : decode cX12_shutsBy 99 = .ok (.invokevirtual 302, 3) := by decide +kernel
theorem dX12_shutsBy_102 : decode cX12_shutsBy 102 = .ok (.ireturn, 1) := by decide +kernel
theorem dX12_tellsBy_0 : decode cX12_tellsBy 0 = .ok (.iload_n 1, 1) := by decide +kernel
theorem dX12_tellsBy_1 : decode cX12_tellsBy 1 = .ok (.lookupswitch 120 #[(0, 35), (5, 63), (6, 91)], 35) := by decide +kernel
theorem dX12_tellsBy_36 : decode cX12_tellsBy 36 = .ok (.aload_n 0, 1) := by decide +kernel
theorem dX12_tellsBy_37 : decode cX12_tellsBy 37 = .ok (.bipush 13, 2) := by decide +kernel
theorem dX12_tellsBy_39 : decode cX12_tellsBy 39 = .ok (.invokevirtual 289, 3) := by decide +kernel
theorem dX12_tellsBy_42 : decode cX12_tellsBy 42 = .ok (.aload_n 0, 1) := by decide +kernel
theorem dX12_tellsBy_43 : decode cX12_tellsBy 43 = .ok (.aload_n 0, 1) := by decide +kernel
theorem dX12_tellsBy_44 : decode cX12_tellsBy 44 = .ok (.invokevirtual 296, 3) := by decide +kernel
theorem dX12_tellsBy_47 : decode cX12_tellsBy 47 = .ok (.iload_n 2, 1) := by decide +kernel
theorem dX12_tellsBy_48 : decode cX12_tellsBy 48 = .ok (.invokevirtual 299, 3) := by decide +kernel
theorem dX12_tellsBy_51 : decode cX12_tellsBy 51 = .ok (.istore_n 3, 1) := by decide +kernel
theorem dX12_tellsBy_52 : decode cX12_tellsBy 52 = .ok (.iload_n 3, 1) := by decide +kernel
theorem dX12_tellsBy_53 : decode cX12_tellsBy 53 = .ok (.aload_n 0, 1) := by decide +kernel
theorem dX12_tellsBy_54 : decode cX12_tellsBy 54 = .ok (.aload_n 0, 1) := by decide +kernel
theorem dX12_tellsBy_55 : decode cX12_tellsBy 55 = .ok (.invokevirtual 296, 3) := by decide +kernel
theorem dX12_tellsBy_58 : decode cX12_tellsBy 58 = .ok (.iload_n 2, 1) := by decide +kernel
theorem dX12_tellsBy_59 : decode cX12_tellsBy 59 = .ok (.invokevirtual 302, 3) := by decide +kernel
theorem dX12_tellsBy_62 : decode cX12_tellsBy 62 = .ok (.ixor, 1) := by decide +kernel
theorem dX12_tellsBy_63 : decode cX12_tellsBy 63 = .ok (.ireturn, 1) := by decide +kernel
theorem dX12_tellsBy_64 : decode cX12_tellsBy 64 = .ok (.aload_n 0, 1) := by decide +kernel
theorem dX12_tellsBy_65 : decode cX12_tellsBy 65 = .ok (.bipush 60, 2) := by decide +kernel
theorem dX12_tellsBy_67 : decode cX12_tellsBy 67 = .ok (.invokevirtual 289, 3) := by decide +kernel
theorem dX12_tellsBy_70 : decode cX12_tellsBy 70 = .ok (.aload_n 0, 1) := by decide +kernel
theorem dX12_tellsBy_71 : decode cX12_tellsBy 71 = .ok (.iconst 5, 1) := by decide +kernel
theorem dX12_tellsBy_72 : decode cX12_tellsBy 72 = .ok (.invokestatic 207, 3) := by decide +kernel
theorem dX12_tellsBy_75 : decode cX12_tellsBy 75 = .ok (.iload_n 2, 1) := by decide +kernel
theorem dX12_tellsBy_76 : decode cX12_tellsBy 76 = .ok (.invokevirtual 305, 3) := by decide +kernel
theorem dX12_tellsBy_79 : decode cX12_tellsBy 79 = .ok (.istore_n 3, 1) := by decide +kernel
theorem dX12_tellsBy_80 : decode cX12_tellsBy 80 = .ok (.iload_n 3, 1) := by decide +kernel
theorem dX12_tellsBy_81 : decode cX12_tellsBy 81 = .ok (.aload_n 0, 1) := by decide +kernel
theorem dX12_tellsBy_82 : decode cX12_tellsBy 82 = .ok (.aload_n 0, 1) := by decide +kernel
theorem dX12_tellsBy_83 : decode cX12_tellsBy 83 = .ok (.invokevirtual 296, 3) := by decide +kernel
theorem dX12_tellsBy_86 : decode cX12_tellsBy 86 = .ok (.iconst 2, 1) := by decide +kernel
theorem dX12_tellsBy_87 : decode cX12_tellsBy 87 = .ok (.invokevirtual 293, 3) := by decide +kernel
theorem dX12_tellsBy_90 : decode cX12_tellsBy 90 = .ok (.isub, 1) := by decide +kernel
theorem dX12_tellsBy_91 : decode cX12_tellsBy 91 = .ok (.ireturn, 1) := by decide +kernel
theorem dX12_tellsBy_92 : decode cX12_tellsBy 92 = .ok (.aload_n 0, 1) := by decide +kernel
theorem dX12_tellsBy_93 : decode cX12_tellsBy 93 = .ok (.bipush 71, 2) := by decide +kernel
theorem dX12_tellsBy_95 : decode cX12_tellsBy 95 = .ok (.invokevirtual 289, 3) := by decide +kernel
theorem dX12_tellsBy_98 : decode cX12_tellsBy 98 = .ok (.aload_n 0, 1) := by decide +kernel
theorem dX12_tellsBy_99 : decode cX12_tellsBy 99 = .ok (.aload_n 0, 1) := by decide +kernel
theorem dX12_tellsBy_100 : decode cX12_tellsBy 100 = .ok (.invokevirtual 296, 3) := by decide +kernel
theorem dX12_tellsBy_103 : decode cX12_tellsBy 103 = .ok (.iload_n 2, 1) := by decide +kernel
theorem dX12_tellsBy_104 : decode cX12_tellsBy 104 = .ok (.invokevirtual 299, 3) := by decide +kernel
theorem dX12_tellsBy_107 : decode cX12_tellsBy 107 = .ok (.istore_n 3, 1) := by decide +kernel
theorem dX12_tellsBy_108 : decode cX12_tellsBy 108 = .ok (.iload_n 3, 1) := by decide +kernel
theorem dX12_tellsBy_109 : decode cX12_tellsBy 109 = .ok (.aload_n 0, 1) := by decide +kernel
theorem dX12_tellsBy_110 : decode cX12_tellsBy 110 = .ok (.bipush 6, 2) := by decide +kernel
theorem dX12_tellsBy_112 : decode cX12_tellsBy 112 = .ok (.invokestatic 207, 3) := by decide +kernel
theorem dX12_tellsBy_115 : decode cX12_tellsBy 115 = .ok (.iload_n 2, 1) := by decide +kernel
theorem dX12_tellsBy_116 : decode cX12_tellsBy 116 = .ok (.invokevirtual 305, 3) := by decide +kernel
theorem dX12_tellsBy_119 : decode cX12_tellsBy 119 = .ok (.isub, 1) := by decide +kernel
theorem dX12_tellsBy_120 : decode cX12_tellsBy 120 = .ok (.ireturn, 1) := by decide +kernel
theorem dX12_tellsBy_121 : decode cX12_tellsBy 121 = .ok (.aload_n 0, 1) := by decide +kernel
theorem dX12_tellsBy_122 : decode cX12_tellsBy 122 = .ok (.iload_n 1, 1) := by decide +kernel
theorem dX12_tellsBy_123 : decode cX12_tellsBy 123 = .ok (.invokestatic 207, 3) := by decide +kernel
theorem dX12_tellsBy_126 : decode cX12_tellsBy 126 = .ok (.iload_n 2, 1) := by decide +kernel
theorem dX12_tellsBy_127 : decode cX12_tellsBy 127 = .ok (.invokevirtual 305, 3) := by decide +kernel
theorem dX12_tellsBy_130 : decode cX12_tellsBy 130 = .ok (.ireturn, 1) := by decide +kernel
theorem dX12_voice_0 : decode cX12_voice 0 = .ok (.aload_n 0, 1) := by decide +kernel
theorem dX12_voice_1 : decode cX12_voice 1 = .ok (.iload_n 1, 1) := by decide +kernel
theorem dX12_voice_2 : decode cX12_voice 2 = .ok (.invokevirtual 199, 3) := by decide +kernel
theorem dX12_voice_5 : decode cX12_voice 5 = .ok (.ifCond .eq 15, 3) := by decide +kernel
theorem dX12_voice_8 : decode cX12_voice 8 = .ok (.iload_n 2, 1) := by decide +kernel
theorem dX12_voice_9 : decode cX12_voice 9 = .ok (.i2l, 1) := by decide +kernel
theorem dX12_voice_10 : decode cX12_voice 10 = .ok (.lconst 0, 1) := by decide +kernel
theorem dX12_voice_11 : decode cX12_voice 11 = .ok (.ldc2_w 146, 3) := by decide +kernel
theorem dX12_voice_14 : decode cX12_voice 14 = .ok (.invokestatic 56, 3) := by decide +kernel
theorem dX12_voice_17 : decode cX12_voice 17 = .ok (.ifCond .ne 9, 3) := by decide +kernel
theorem dX12_voice_20 : decode cX12_voice 20 = .ok (.aload_n 0, 1) := by decide +kernel
theorem dX12_voice_21 : decode cX12_voice 21 = .ok (.iconst 1, 1) := by decide +kernel
theorem dX12_voice_22 : decode cX12_voice 22 = .ok (.invokevirtual 119, 3) := by decide +kernel
theorem dX12_voice_25 : decode cX12_voice 25 = .ok (.ireturn, 1) := by decide +kernel
theorem dX12_voice_26 : decode cX12_voice 26 = .ok (.aload_n 0, 1) := by decide +kernel
theorem dX12_voice_27 : decode cX12_voice 27 = .ok (.iconst 0, 1) := by decide +kernel
theorem dX12_voice_28 : decode cX12_voice 28 = .ok (.putfield 283, 3) := by decide +kernel
theorem dX12_voice_31 : decode cX12_voice 31 = .ok (.aload_n 0, 1) := by decide +kernel
theorem dX12_voice_32 : decode cX12_voice 32 = .ok (.iload_n 1, 1) := by decide +kernel
theorem dX12_voice_33 : decode cX12_voice 33 = .ok (.putfield 286, 3) := by decide +kernel
theorem dX12_voice_36 : decode cX12_voice 36 = .ok (.aload_n 0, 1) := by decide +kernel
theorem dX12_voice_37 : decode cX12_voice 37 = .ok (.invokevirtual 296, 3) := by decide +kernel
theorem dX12_voice_40 : decode cX12_voice 40 = .ok (.istore 4, 2) := by decide +kernel
theorem dX12_voice_42 : decode cX12_voice 42 = .ok (.iload_n 2, 1) := by decide +kernel
theorem dX12_voice_43 : decode cX12_voice 43 = .ok (.ifCond .ne 13, 3) := by decide +kernel
theorem dX12_voice_46 : decode cX12_voice 46 = .ok (.aload_n 0, 1) := by decide +kernel
theorem dX12_voice_47 : decode cX12_voice 47 = .ok (.iload 4, 2) := by decide +kernel
theorem dX12_voice_49 : decode cX12_voice 49 = .ok (.iload_n 3, 1) := by decide +kernel
theorem dX12_voice_50 : decode cX12_voice 50 = .ok (.invokevirtual 293, 3) := by decide +kernel
theorem dX12_voice_53 : decode cX12_voice 53 = .ok (.goto 40, 3) := by decide +kernel
theorem dX12_voice_56 : decode cX12_voice 56 = .ok (.iload_n 2, 1) := by decide +kernel
theorem dX12_voice_57 : decode cX12_voice 57 = .ok (.iconst 1, 1) := by decide +kernel
theorem dX12_voice_58 : decode cX12_voice 58 = .ok (.if_icmp .ne 13, 3) := by decide +kernel
theorem dX12_voice_61 : decode cX12_voice 61 = .ok (.aload_n 0, 1) := by decide +kernel
theorem dX12_voice_62 : decode cX12_voice 62 = .ok (.iload 4, 2) := by decide +kernel
theorem dX12_voice_64 : decode cX12_voice 64 = .ok (.iload_n 3, 1) := by decide +kernel
theorem dX12_voice_65 : decode cX12_voice 65 = .ok (.invokevirtual 299, 3) := by decide +kernel
theorem dX12_voice_68 : decode cX12_voice 68 = .ok (.goto 25, 3) := by decide +kernel
theorem dX12_voice_71 : decode cX12_voice 71 = .ok (.iload_n 2, 1) := by decide +kernel
theorem dX12_voice_72 : decode cX12_voice 72 = .ok (.iconst 2, 1) := by decide +kernel
theorem dX12_voice_73 : decode cX12_voice 73 = .ok (.if_icmp .ne 13, 3) := by decide +kernel
theorem dX12_voice_76 : decode cX12_voice 76 = .ok (.aload_n 0, 1) := by decide +kernel
theorem dX12_voice_77 : decode cX12_voice 77 = .ok (.iload 4, 2) := by decide +kernel
theorem dX12_voice_79 : decode cX12_voice 79 = .ok (.iload_n 3, 1) := by decide +kernel
theorem dX12_voice_80 : decode cX12_voice 80 = .ok (.invokevirtual 302, 3) := by decide +kernel
theorem dX12_voice_83 : decode cX12_voice 83 = .ok (.goto 10, 3) := by decide +kernel
theorem dX12_voice_86 : decode cX12_voice 86 = .ok (.aload_n 0, 1) := by decide +kernel
theorem dX12_voice_87 : decode cX12_voice 87 = .ok (.iload 4, 2) := by decide +kernel
theorem dX12_voice_89 : decode cX12_voice 89 = .ok (.iload_n 3, 1) := by decide +kernel
theorem dX12_voice_90 : decode cX12_voice 90 = .ok (.invokevirtual 305, 3) := by decide +kernel
theorem dX12_voice_93 : decode cX12_voice 93 = .ok (.ireturn, 1) := by decide +kernel
theorem dX12_trace_0 : decode cX12_trace 0 = .ok (.iload_n 1, 1) := by decide +kernel
theorem dX12_trace_1 : decode cX12_trace 1 = .ok (.i2l, 1) := by decide +kernel
theorem dX12_trace_2 : decode cX12_trace 2 = .ok (.lconst 0, 1) := by decide +kernel
theorem dX12_trace_3 : decode cX12_trace 3 = .ok (.aload_n 0, 1) := by decide +kernel
theorem dX12_trace_4 : decode cX12_trace 4 = .ok (.getfield 283, 3) := by decide +kernel
theorem dX12_trace_7 : decode cX12_trace 7 = .ok (.iconst 1, 1) := by decide +kernel
theorem dX12_trace_8 : decode cX12_trace 8 = .ok (.isub, 1) := by decide +kernel
theorem dX12_trace_9 : decode cX12_trace 9 = .ok (.i2l, 1) := by decide +kernel
theorem dX12_trace_10 : decode cX12_trace 10 = .ok (.invokestatic 56, 3) := by decide +kernel
theorem dX12_trace_13 : decode cX12_trace 13 = .ok (.ifCond .eq 12, 3) := by decide +kernel
theorem dX12_trace_16 : decode cX12_trace 16 = .ok (.aload_n 0, 1) := by decide +kernel
theorem dX12_trace_17 : decode cX12_trace 17 = .ok (.getfield 40, 3) := by decide +kernel
theorem dX12_trace_20 : decode cX12_trace 20 = .ok (.iload_n 1, 1) := by decide +kernel
theorem dX12_trace_21 : decode cX12_trace 21 = .ok (.iaload, 1) := by decide +kernel
theorem dX12_trace_22 : decode cX12_trace 22 = .ok (.goto 8, 3) := by decide +kernel
theorem dX12_trace_25 : decode cX12_trace 25 = .ok (.aload_n 0, 1) := by decide +kernel
theorem dX12_trace_26 : decode cX12_trace 26 = .ok (.iconst 2, 1) := by decide +kernel
theorem dX12_trace_27 : decode cX12_trace 27 = .ok (.invokevirtual 119, 3) := by decide +kernel
theorem dX12_trace_30 : decode cX12_trace 30 = .ok (.ireturn, 1) := by decide +kernel
theorem dX12_isSheet_0 : decode cX12_isSheet 0 = .ok (.iload_n 0, 1) := by decide +kernel
theorem dX12_isSheet_1 : decode cX12_isSheet 1 = .ok (.i2l, 1) := by decide +kernel
theorem dX12_isSheet_2 : decode cX12_isSheet 2 = .ok (.lconst 0, 1) := by decide +kernel
theorem dX12_isSheet_3 : decode cX12_isSheet 3 = .ok (.ldc2_w 146, 3) := by decide +kernel
theorem dX12_isSheet_6 : decode cX12_isSheet 6 = .ok (.invokestatic 56, 3) := by decide +kernel
theorem dX12_isSheet_9 : decode cX12_isSheet 9 = .ok (.ireturn, 1) := by decide +kernel
theorem dX12_sheet_0 : decode cX12_sheet 0 = .ok (.iload_n 1, 1) := by decide +kernel
theorem dX12_sheet_1 : decode cX12_sheet 1 = .ok (.invokestatic 280, 3) := by decide +kernel
theorem dX12_sheet_4 : decode cX12_sheet 4 = .ok (.ifCond .eq 25, 3) := by decide +kernel
theorem dX12_sheet_7 : decode cX12_sheet 7 = .ok (.iload_n 2, 1) := by decide +kernel
theorem dX12_sheet_8 : decode cX12_sheet 8 = .ok (.ifCond .eq 27, 3) := by decide +kernel
theorem dX12_sheet_11 : decode cX12_sheet 11 = .ok (.iload_n 2, 1) := by decide +kernel
theorem dX12_sheet_12 : decode cX12_sheet 12 = .ok (.bipush 8, 2) := by decide +kernel
theorem dX12_sheet_14 : decode cX12_sheet 14 = .ok (.if_icmp .eq 21, 3) := by decide +kernel
theorem dX12_sheet_17 : decode cX12_sheet 17 = .ok (.iload_n 2, 1) := by decide +kernel
theorem dX12_sheet_18 : decode cX12_sheet 18 = .ok (.bipush 16, 2) := by decide +kernel
theorem dX12_sheet_20 : decode cX12_sheet 20 = .ok (.if_icmp .eq 15, 3) := by decide +kernel
theorem dX12_sheet_23 : decode cX12_sheet 23 = .ok (.iload_n 2, 1) := by decide +kernel
theorem dX12_sheet_24 : decode cX12_sheet 24 = .ok (.bipush 32, 2) := by decide +kernel
theorem dX12_sheet_26 : decode cX12_sheet 26 = .ok (.if_icmp .eq 9, 3) := by decide +kernel
theorem dX12_sheet_29 : decode cX12_sheet 29 = .ok (.aload_n 0, 1) := by decide +kernel
theorem dX12_sheet_30 : decode cX12_sheet 30 = .ok (.iconst 1, 1) := by decide +kernel
theorem dX12_sheet_31 : decode cX12_sheet 31 = .ok (.invokevirtual 119, 3) := by decide +kernel
theorem dX12_sheet_34 : decode cX12_sheet 34 = .ok (.ireturn, 1) := by decide +kernel
theorem dX12_sheet_35 : decode cX12_sheet 35 = .ok (.iload_n 2, 1) := by decide +kernel
theorem dX12_sheet_36 : decode cX12_sheet 36 = .ok (.ifCond .eq 13, 3) := by decide +kernel
theorem dX12_sheet_39 : decode cX12_sheet 39 = .ok (.iload_n 3, 1) := by decide +kernel
theorem dX12_sheet_40 : decode cX12_sheet 40 = .ok (.ifCond .ge 9, 3) := by decide +kernel
theorem dX12_sheet_43 : decode cX12_sheet 43 = .ok (.aload_n 0, 1) := by decide +kernel
theorem dX12_sheet_44 : decode cX12_sheet 44 = .ok (.iconst 3, 1) := by decide +kernel
theorem dX12_sheet_45 : decode cX12_sheet 45 = .ok (.invokevirtual 119, 3) := by decide +kernel
theorem dX12_sheet_48 : decode cX12_sheet 48 = .ok (.ireturn, 1) := by decide +kernel
theorem dX12_sheet_49 : decode cX12_sheet 49 = .ok (.iload_n 2, 1) := by decide +kernel
theorem dX12_sheet_50 : decode cX12_sheet 50 = .ok (.ifCond .eq 15, 3) := by decide +kernel
theorem dX12_sheet_53 : decode cX12_sheet 53 = .ok (.iload_n 3, 1) := by decide +kernel
theorem dX12_sheet_54 : decode cX12_sheet 54 = .ok (.bipush 40, 2) := by decide +kernel
theorem dX12_sheet_56 : decode cX12_sheet 56 = .ok (.if_icmp .le 9, 3) := by decide +kernel
theorem dX12_sheet_59 : decode cX12_sheet 59 = .ok (.aload_n 0, 1) := by decide +kernel
theorem dX12_sheet_60 : decode cX12_sheet 60 = .ok (.iconst 1, 1) := by decide +kernel
theorem dX12_sheet_61 : decode cX12_sheet 61 = .ok (.invokevirtual 119, 3) := by decide +kernel
theorem dX12_sheet_64 : decode cX12_sheet 64 = .ok (.ireturn, 1) := by decide +kernel
theorem dX12_sheet_65 : decode cX12_sheet 65 = .ok (.aload_n 0, 1) := by decide +kernel
theorem dX12_sheet_66 : decode cX12_sheet 66 = .ok (.getfield 43, 3) := by decide +kernel
theorem dX12_sheet_69 : decode cX12_sheet 69 = .ok (.iload_n 1, 1) := by decide +kernel
theorem dX12_sheet_70 : decode cX12_sheet 70 = .ok (.iload_n 2, 1) := by decide +kernel
theorem dX12_sheet_71 : decode cX12_sheet 71 = .ok (.iastore, 1) := by decide +kernel
theorem dX12_sheet_72 : decode cX12_sheet 72 = .ok (.aload_n 0, 1) := by decide +kernel
theorem dX12_sheet_73 : decode cX12_sheet 73 = .ok (.getfield 46, 3) := by decide +kernel
theorem dX12_sheet_76 : decode cX12_sheet 76 = .ok (.iload_n 1, 1) := by decide +kernel
theorem dX12_sheet_77 : decode cX12_sheet 77 = .ok (.iload_n 2, 1) := by decide +kernel
theorem dX12_sheet_78 : decode cX12_sheet 78 = .ok (.ifCond .ne 7, 3) := by decide +kernel
theorem dX12_sheet_81 : decode cX12_sheet 81 = .ok (.iconst 0, 1) := by decide +kernel
theorem dX12_sheet_82 : decode cX12_sheet 82 = .ok (.goto 4, 3) := by decide +kernel
theorem dX12_sheet_85 : decode cX12_sheet 85 = .ok (.iload_n 3, 1) := by decide +kernel
theorem dX12_sheet_86 : decode cX12_sheet 86 = .ok (.iastore, 1) := by decide +kernel
theorem dX12_sheet_87 : decode cX12_sheet 87 = .ok (.iconst 0, 1) := by decide +kernel
theorem dX12_sheet_88 : decode cX12_sheet 88 = .ok (.istore 4, 2) := by decide +kernel
theorem dX12_sheet_90 : decode cX12_sheet 90 = .ok (.iload 4, 2) := by decide +kernel
theorem dX12_sheet_92 : decode cX12_sheet 92 = .ok (.bipush 40, 2) := by decide +kernel
theorem dX12_sheet_94 : decode cX12_sheet 94 = .ok (.if_icmp .ge 22, 3) := by decide +kernel
theorem dX12_sheet_97 : decode cX12_sheet 97 = .ok (.aload_n 0, 1) := by decide +kernel
theorem dX12_sheet_98 : decode cX12_sheet 98 = .ok (.getfield 49, 3) := by decide +kernel
theorem dX12_sheet_101 : decode cX12_sheet 101 = .ok (.bipush 40, 2) := by decide +kernel
theorem dX12_sheet_103 : decode cX12_sheet 103 = .ok (.iload_n 1, 1) := by decide +kernel
theorem dX12_sheet_104 : decode cX12_sheet 104 = .ok (.imul, 1) := by decide +kernel
theorem dX12_sheet_105 : decode cX12_sheet 105 = .ok (.iload 4, 2) := by decide +kernel
theorem dX12_sheet_107 : decode cX12_sheet 107 = .ok (.iadd, 1) := by decide +kernel
theorem dX12_sheet_108 : decode cX12_sheet 108 = .ok (.iconst 0, 1) := by decide +kernel
theorem dX12_sheet_109 : decode cX12_sheet 109 = .ok (.iastore, 1) := by decide +kernel
theorem dX12_sheet_110 : decode cX12_sheet 110 = .ok (.iinc 4 1, 3) := by decide +kernel
theorem dX12_sheet_113 : decode cX12_sheet 113 = .ok (.goto (-23), 3) := by decide +kernel
theorem dX12_sheet_116 : decode cX12_sheet 116 = .ok (.iconst 1, 1) := by decide +kernel
theorem dX12_sheet_117 : decode cX12_sheet 117 = .ok (.ireturn, 1) := by decide +kernel
theorem dX12_put_0 : decode cX12_put 0 = .ok (.iload_n 1, 1) := by decide +kernel
theorem dX12_put_1 : decode cX12_put 1 = .ok (.invokestatic 280, 3) := by decide +kernel
theorem dX12_put_4 : decode cX12_put 4 = .ok (.ifCond .ne 9, 3) := by decide +kernel
theorem dX12_put_7 : decode cX12_put 7 = .ok (.aload_n 0, 1) := by decide +kernel
theorem dX12_put_8 : decode cX12_put 8 = .ok (.iconst 1, 1) := by decide +kernel
theorem dX12_put_9 : decode cX12_put 9 = .ok (.invokevirtual 119, 3) := by decide +kernel
theorem dX12_put_12 : decode cX12_put 12 = .ok (.ireturn, 1) := by decide +kernel
theorem dX12_put_13 : decode cX12_put 13 = .ok (.aload_n 0, 1) := by decide +kernel
theorem dX12_put_14 : decode cX12_put 14 = .ok (.getfield 43, 3) := by decide +kernel
theorem dX12_put_17 : decode cX12_put 17 = .ok (.iload_n 1, 1) := by decide +kernel
theorem dX12_put_18 : decode cX12_put 18 = .ok (.iaload, 1) := by decide +kernel
theorem dX12_put_19 : decode cX12_put 19 = .ok (.ifCond .ne 9, 3) := by decide +kernel
theorem dX12_put_22 : decode cX12_put 22 = .ok (.aload_n 0, 1) := by decide +kernel
theorem dX12_put_23 : decode cX12_put 23 = .ok (.iconst 2, 1) := by decide +kernel
theorem dX12_put_24 : decode cX12_put 24 = .ok (.invokevirtual 119, 3) := by decide +kernel
theorem dX12_put_27 : decode cX12_put 27 = .ok (.ireturn, 1) := by decide +kernel
theorem dX12_put_28 : decode cX12_put 28 = .ok (.iload_n 2, 1) := by decide +kernel
theorem dX12_put_29 : decode cX12_put 29 = .ok (.i2l, 1) := by decide +kernel
theorem dX12_put_30 : decode cX12_put 30 = .ok (.lconst 0, 1) := by decide +kernel
theorem dX12_put_31 : decode cX12_put 31 = .ok (.aload_n 0, 1) := by decide +kernel
theorem dX12_put_32 : decode cX12_put 32 = .ok (.getfield 46, 3) := by decide +kernel
theorem dX12_put_35 : decode cX12_put 35 = .ok (.iload_n 1, 1) := by decide +kernel
theorem dX12_put_36 : decode cX12_put 36 = .ok (.iaload, 1) := by decide +kernel
theorem dX12_put_37 : decode cX12_put 37 = .ok (.iconst 1, 1) := by decide +kernel
theorem dX12_put_38 : decode cX12_put 38 = .ok (.isub, 1) := by decide +kernel
theorem dX12_put_39 : decode cX12_put 39 = .ok (.i2l, 1) := by decide +kernel
theorem dX12_put_40 : decode cX12_put 40 = .ok (.invokestatic 56, 3) := by decide +kernel
theorem dX12_put_43 : decode cX12_put 43 = .ok (.ifCond .ne 9, 3) := by decide +kernel
theorem dX12_put_46 : decode cX12_put 46 = .ok (.aload_n 0, 1) := by decide +kernel
theorem dX12_put_47 : decode cX12_put 47 = .ok (.iconst 1, 1) := by decide +kernel
theorem dX12_put_48 : decode cX12_put 48 = .ok (.invokevirtual 119, 3) := by decide +kernel
theorem dX12_put_51 : decode cX12_put 51 = .ok (.ireturn, 1) := by decide +kernel
theorem dX12_put_52 : decode cX12_put 52 = .ok (.aload_n 0, 1) := by decide +kernel
theorem dX12_put_53 : decode cX12_put 53 = .ok (.getfield 49, 3) := by decide +kernel
theorem dX12_put_56 : decode cX12_put 56 = .ok (.bipush 40, 2) := by decide +kernel
theorem dX12_put_58 : decode cX12_put 58 = .ok (.iload_n 1, 1) := by decide +kernel
theorem dX12_put_59 : decode cX12_put 59 = .ok (.imul, 1) := by decide +kernel
theorem dX12_put_60 : decode cX12_put 60 = .ok (.iload_n 2, 1) := by decide +kernel
theorem dX12_put_61 : decode cX12_put 61 = .ok (.iadd, 1) := by decide +kernel
theorem dX12_put_62 : decode cX12_put 62 = .ok (.aload_n 0, 1) := by decide +kernel
theorem dX12_put_63 : decode cX12_put 63 = .ok (.getfield 43, 3) := by decide +kernel
theorem dX12_put_66 : decode cX12_put 66 = .ok (.iload_n 1, 1) := by decide +kernel
theorem dX12_put_67 : decode cX12_put 67 = .ok (.iaload, 1) := by decide +kernel
theorem dX12_put_68 : decode cX12_put 68 = .ok (.bipush 8, 2) := by decide +kernel
theorem dX12_put_70 : decode cX12_put 70 = .ok (.if_icmp .ne 8, 3) := by decide +kernel
theorem dX12_put_73 : decode cX12_put 73 = .ok (.iload_n 3, 1) := by decide +kernel
theorem dX12_put_74 : decode cX12_put 74 = .ok (.i2b, 1) := by decide +kernel
theorem dX12_put_75 : decode cX12_put 75 = .ok (.goto 20, 3) := by decide +kernel
theorem dX12_put_78 : decode cX12_put 78 = .ok (.aload_n 0, 1) := by decide +kernel
theorem dX12_put_79 : decode cX12_put 79 = .ok (.getfield 43, 3) := by decide +kernel
theorem dX12_put_82 : decode cX12_put 82 = .ok (.iload_n 1, 1) := by decide +kernel
theorem dX12_put_83 : decode cX12_put 83 = .ok (.iaload, 1) := by decide +kernel
theorem dX12_put_84 : decode cX12_put 84 = .ok (.bipush 16, 2) := by decide +kernel
theorem dX12_put_86 : decode cX12_put 86 = .ok (.if_icmp .ne 8, 3) := by decide +kernel
theorem dX12_put_89 : decode cX12_put 89 = .ok (.iload_n 3, 1) := by decide +kernel
theorem dX12_put_90 : decode cX12_put 90 = .ok (.i2s, 1) := by decide +kernel
theorem dX12_put_91 : decode cX12_put 91 = .ok (.goto 4, 3) := by decide +kernel
theorem dX12_put_94 : decode cX12_put 94 = .ok (.iload_n 3, 1) := by decide +kernel
theorem dX12_put_95 : decode cX12_put 95 = .ok (.iastore, 1) := by decide +kernel
theorem dX12_put_96 : decode cX12_put 96 = .ok (.iconst 1, 1) := by decide +kernel
theorem dX12_put_97 : decode cX12_put 97 = .ok (.ireturn, 1) := by decide +kernel
theorem dX12_move_0 : decode cX12_move 0 = .ok (.iload_n 1, 1) := by decide +kernel
theorem dX12_move_1 : decode cX12_move 1 = .ok (.invokestatic 280, 3) := by decide +kernel
theorem dX12_move_4 : decode cX12_move 4 = .ok (.ifCond .eq 10, 3) := by decide +kernel
theorem dX12_move_7 : decode cX12_move 7 = .ok (.iload_n 3, 1) := by decide +kernel
theorem dX12_move_8 : decode cX12_move 8 = .ok (.invokestatic 280, 3) := by decide +kernel
theorem dX12_move_11 : decode cX12_move 11 = .ok (.ifCond .ne 9, 3) := by decide +kernel
theorem dX12_move_14 : decode cX12_move 14 = .ok (.aload_n 0, 1) := by decide +kernel
theorem dX12_move_15 : decode cX12_move 15 = .ok (.iconst 1, 1) := by decide +kernel
theorem dX12_move_16 : decode cX12_move 16 = .ok (.invokevirtual 119, 3) := by decide +kernel
theorem dX12_move_19 : decode cX12_move 19 = .ok (.ireturn, 1) := by decide +kernel
theorem dX12_move_20 : decode cX12_move 20 = .ok (.aload_n 0, 1) := by decide +kernel
theorem dX12_move_21 : decode cX12_move 21 = .ok (.getfield 43, 3) := by decide +kernel
theorem dX12_move_24 : decode cX12_move 24 = .ok (.iload_n 1, 1) := by decide +kernel
theorem dX12_move_25 : decode cX12_move 25 = .ok (.iaload, 1) := by decide +kernel
theorem dX12_move_26 : decode cX12_move 26 = .ok (.ifCond .eq 12, 3) := by decide +kernel
theorem dX12_move_29 : decode cX12_move 29 = .ok (.aload_n 0, 1) := by decide +kernel
theorem dX12_move_30 : decode cX12_move 30 = .ok (.getfield 43, 3) := by decide +kernel
theorem dX12_move_33 : decode cX12_move 33 = .ok (.iload_n 3, 1) := by decide +kernel
theorem dX12_move_34 : decode cX12_move 34 = .ok (.iaload, 1) := by decide +kernel
theorem dX12_move_35 : decode cX12_move 35 = .ok (.ifCond .ne 9, 3) := by decide +kernel
theorem dX12_move_38 : decode cX12_move 38 = .ok (.aload_n 0, 1) := by decide +kernel
theorem dX12_move_39 : decode cX12_move 39 = .ok (.iconst 2, 1) := by decide +kernel
theorem dX12_move_40 : decode cX12_move 40 = .ok (.invokevirtual 119, 3) := by decide +kernel
theorem dX12_move_43 : decode cX12_move 43 = .ok (.ireturn, 1) := by decide +kernel
theorem dX12_move_44 : decode cX12_move 44 = .ok (.aload_n 0, 1) := by decide +kernel
theorem dX12_move_45 : decode cX12_move 45 = .ok (.getfield 43, 3) := by decide +kernel
theorem dX12_move_48 : decode cX12_move 48 = .ok (.iload_n 1, 1) := by decide +kernel
theorem dX12_move_49 : decode cX12_move 49 = .ok (.iaload, 1) := by decide +kernel
theorem dX12_move_50 : decode cX12_move 50 = .ok (.aload_n 0, 1) := by decide +kernel
theorem dX12_move_51 : decode cX12_move 51 = .ok (.getfield 43, 3) := by decide +kernel
theorem dX12_move_54 : decode cX12_move 54 = .ok (.iload_n 3, 1) := by decide +kernel
theorem dX12_move_55 : decode cX12_move 55 = .ok (.iaload, 1) := by decide +kernel
theorem dX12_move_56 : decode cX12_move 56 = .ok (.if_icmp .eq 9, 3) := by decide +kernel
theorem dX12_move_59 : decode cX12_move 59 = .ok (.aload_n 0, 1) := by decide +kernel
theorem dX12_move_60 : decode cX12_move 60 = .ok (.iconst 5, 1) := by decide +kernel
theorem dX12_move_61 : decode cX12_move 61 = .ok (.invokevirtual 119, 3) := by decide +kernel
theorem dX12_move_64 : decode cX12_move 64 = .ok (.ireturn, 1) := by decide +kernel
theorem dX12_move_65 : decode cX12_move 65 = .ok (.iload 5, 2) := by decide +kernel
theorem dX12_move_67 : decode cX12_move 67 = .ok (.ifCond .lt 39, 3) := by decide +kernel
theorem dX12_move_70 : decode cX12_move 70 = .ok (.iload_n 2, 1) := by decide +kernel
theorem dX12_move_71 : decode cX12_move 71 = .ok (.ifCond .lt 35, 3) := by decide +kernel
theorem dX12_move_74 : decode cX12_move 74 = .ok (.iload 4, 2) := by decide +kernel
theorem dX12_move_76 : decode cX12_move 76 = .ok (.ifCond .lt 30, 3) := by decide +kernel
theorem dX12_move_79 : decode cX12_move 79 = .ok (.iload 5, 2) := by decide +kernel
theorem dX12_move_81 : decode cX12_move 81 = .ok (.aload_n 0, 1) := by decide +kernel
theorem dX12_move_82 : decode cX12_move 82 = .ok (.getfield 46, 3) := by decide +kernel
theorem dX12_move_85 : decode cX12_move 85 = .ok (.iload_n 1, 1) := by decide +kernel
theorem dX12_move_86 : decode cX12_move 86 = .ok (.iaload, 1) := by decide +kernel
theorem dX12_move_87 : decode cX12_move 87 = .ok (.iload_n 2, 1) := by decide +kernel
theorem dX12_move_88 : decode cX12_move 88 = .ok (.isub, 1) := by decide +kernel
theorem dX12_move_89 : decode cX12_move 89 = .ok (.if_icmp .gt 17, 3) := by decide +kernel
theorem dX12_move_92 : decode cX12_move 92 = .ok (.iload 5, 2) := by decide +kernel
theorem dX12_move_94 : decode cX12_move 94 = .ok (.aload_n 0, 1) := by decide +kernel
theorem dX12_move_95 : decode cX12_move 95 = .ok (.getfield 46, 3) := by decide +kernel
theorem dX12_move_98 : decode cX12_move 98 = .ok (.iload_n 3, 1) := by decide +kernel
theorem dX12_move_99 : decode cX12_move 99 = .ok (.iaload, 1) := by decide +kernel
theorem dX12_move_100 : decode cX12_move 100 = .ok (.iload 4, 2) := by decide +kernel
theorem dX12_move_102 : decode cX12_move 102 = .ok (.isub, 1) := by decide +kernel
theorem dX12_move_103 : decode cX12_move 103 = .ok (.if_icmp .le 9, 3) := by decide +kernel
theorem dX12_move_106 : decode cX12_move 106 = .ok (.aload_n 0, 1) := by decide +kernel
theorem dX12_move_107 : decode cX12_move 107 = .ok (.iconst 1, 1) := by decide +kernel
theorem dX12_move_108 : decode cX12_move 108 = .ok (.invokevirtual 119, 3) := by decide +kernel
theorem dX12_move_111 : decode cX12_move 111 = .ok (.ireturn, 1) := by decide +kernel
theorem dX12_move_112 : decode cX12_move 112 = .ok (.iconst 0, 1) := by decide +kernel
theorem dX12_move_113 : decode cX12_move 113 = .ok (.istore 6, 2) := by decide +kernel
theorem dX12_move_115 : decode cX12_move 115 = .ok (.iload 6, 2) := by decide +kernel
theorem dX12_move_117 : decode cX12_move 117 = .ok (.iload 5, 2) := by decide +kernel
theorem dX12_move_119 : decode cX12_move 119 = .ok (.if_icmp .ge 30, 3) := by decide +kernel
theorem dX12_move_122 : decode cX12_move 122 = .ok (.aload_n 0, 1) := by decide +kernel
theorem dX12_move_123 : decode cX12_move 123 = .ok (.getfield 52, 3) := by decide +kernel
theorem dX12_move_126 : decode cX12_move 126 = .ok (.iload 6, 2) := by decide +kernel
theorem dX12_move_128 : decode cX12_move 128 = .ok (.aload_n 0, 1) := by decide +kernel
theorem dX12_move_129 : decode cX12_move 129 = .ok (.getfield 49, 3) := by decide +kernel
theorem dX12_move_132 : decode cX12_move 132 = .ok (.bipush 40, 2) := by decide +kernel
theorem dX12_move_134 : decode cX12_move 134 = .ok (.iload_n 1, 1) := by decide +kernel
theorem dX12_move_135 : decode cX12_move 135 = .ok (.imul, 1) := by decide +kernel
theorem dX12_move_136 : decode cX12_move 136 = .ok (.iload_n 2, 1) := by decide +kernel
theorem dX12_move_137 : decode cX12_move 137 = .ok (.iadd, 1) := by decide +kernel
theorem dX12_move_138 : decode cX12_move 138 = .ok (.iload 6, 2) := by decide +kernel
theorem dX12_move_140 : decode cX12_move 140 = .ok (.iadd, 1) := by decide +kernel
theorem dX12_move_141 : decode cX12_move 141 = .ok (.iaload, 1) := by decide +kernel
theorem dX12_move_142 : decode cX12_move 142 = .ok (.iastore, 1) := by decide +kernel
theorem dX12_move_143 : decode cX12_move 143 = .ok (.iinc 6 1, 3) := by decide +kernel
theorem dX12_move_146 : decode cX12_move 146 = .ok (.goto (-31), 3) := by decide +kernel
theorem dX12_move_149 : decode cX12_move 149 = .ok (.iconst 0, 1) := by decide +kernel
theorem dX12_move_150 : decode cX12_move 150 = .ok (.istore 6, 2) := by decide +kernel
theorem dX12_move_152 : decode cX12_move 152 = .ok (.iload 6, 2) := by decide +kernel
theorem dX12_move_154 : decode cX12_move 154 = .ok (.iload 5, 2) := by decide +kernel
theorem dX12_move_156 : decode cX12_move 156 = .ok (.if_icmp .ge 31, 3) := by decide +kernel
theorem dX12_move_159 : decode cX12_move 159 = .ok (.aload_n 0, 1) := by decide +kernel
theorem dX12_move_160 : decode cX12_move 160 = .ok (.getfield 49, 3) := by decide +kernel
theorem dX12_move_163 : decode cX12_move 163 = .ok (.bipush 40, 2) := by decide +kernel
theorem dX12_move_165 : decode cX12_move 165 = .ok (.iload_n 3, 1) := by decide +kernel
theorem dX12_move_166 : decode cX12_move 166 = .ok (.imul, 1) := by decide +kernel
theorem dX12_move_167 : decode cX12_move 167 = .ok (.iload 4, 2) := by decide +kernel
theorem dX12_move_169 : decode cX12_move 169 = .ok (.iadd, 1) := by decide +kernel
theorem dX12_move_170 : decode cX12_move 170 = .ok (.iload 6, 2) := by decide +kernel
theorem dX12_move_172 : decode cX12_move 172 = .ok (.iadd, 1) := by decide +kernel
theorem dX12_move_173 : decode cX12_move 173 = .ok (.aload_n 0, 1) := by decide +kernel
theorem dX12_move_174 : decode cX12_move 174 = .ok (.getfield 52, 3) := by decide +kernel
theorem dX12_move_177 : decode cX12_move 177 = .ok (.iload 6, 2) := by decide +kernel
theorem dX12_move_179 : decode cX12_move 179 = .ok (.iaload, 1) := by decide +kernel
theorem dX12_move_180 : decode cX12_move 180 = .ok (.iastore, 1) := by decide +kernel
theorem dX12_move_181 : decode cX12_move 181 = .ok (.iinc 6 1, 3) := by decide +kernel
theorem dX12_move_184 : decode cX12_move 184 = .ok (.goto (-32), 3) := by decide +kernel
theorem dX12_move_187 : decode cX12_move 187 = .ok (.iload 5, 2) := by decide +kernel
theorem dX12_move_189 : decode cX12_move 189 = .ok (.ireturn, 1) := by decide +kernel
theorem dX12_judge_0 : decode cX12_judge 0 = .ok (.iload_n 1, 1) := by decide +kernel
theorem dX12_judge_1 : decode cX12_judge 1 = .ok (.invokestatic 280, 3) := by decide +kernel
theorem dX12_judge_4 : decode cX12_judge 4 = .ok (.ifCond .ne 9, 3) := by decide +kernel
theorem dX12_judge_7 : decode cX12_judge 7 = .ok (.aload_n 0, 1) := by decide +kernel
theorem dX12_judge_8 : decode cX12_judge 8 = .ok (.iconst 1, 1) := by decide +kernel
theorem dX12_judge_9 : decode cX12_judge 9 = .ok (.invokevirtual 119, 3) := by decide +kernel
theorem dX12_judge_12 : decode cX12_judge 12 = .ok (.ireturn, 1) := by decide +kernel
theorem dX12_judge_13 : decode cX12_judge 13 = .ok (.aload_n 0, 1) := by decide +kernel
theorem dX12_judge_14 : decode cX12_judge 14 = .ok (.getfield 43, 3) := by decide +kernel
theorem dX12_judge_17 : decode cX12_judge 17 = .ok (.iload_n 1, 1) := by decide +kernel
theorem dX12_judge_18 : decode cX12_judge 18 = .ok (.iaload, 1) := by decide +kernel
theorem dX12_judge_19 : decode cX12_judge 19 = .ok (.ifCond .ne 9, 3) := by decide +kernel
theorem dX12_judge_22 : decode cX12_judge 22 = .ok (.aload_n 0, 1) := by decide +kernel
theorem dX12_judge_23 : decode cX12_judge 23 = .ok (.iconst 2, 1) := by decide +kernel
theorem dX12_judge_24 : decode cX12_judge 24 = .ok (.invokevirtual 119, 3) := by decide +kernel
theorem dX12_judge_27 : decode cX12_judge 27 = .ok (.ireturn, 1) := by decide +kernel
theorem dX12_judge_28 : decode cX12_judge 28 = .ok (.iconst 0, 1) := by decide +kernel
theorem dX12_judge_29 : decode cX12_judge 29 = .ok (.istore_n 2, 1) := by decide +kernel
theorem dX12_judge_30 : decode cX12_judge 30 = .ok (.iload_n 2, 1) := by decide +kernel
theorem dX12_judge_31 : decode cX12_judge 31 = .ok (.aload_n 0, 1) := by decide +kernel
theorem dX12_judge_32 : decode cX12_judge 32 = .ok (.getfield 46, 3) := by decide +kernel
theorem dX12_judge_35 : decode cX12_judge 35 = .ok (.iload_n 1, 1) := by decide +kernel
theorem dX12_judge_36 : decode cX12_judge 36 = .ok (.iaload, 1) := by decide +kernel
theorem dX12_judge_37 : decode cX12_judge 37 = .ok (.if_icmp .ge 39, 3) := by decide +kernel
theorem dX12_judge_40 : decode cX12_judge 40 = .ok (.iload_n 2, 1) := by decide +kernel
theorem dX12_judge_41 : decode cX12_judge 41 = .ok (.aload_n 0, 1) := by decide +kernel
theorem dX12_judge_42 : decode cX12_judge 42 = .ok (.getfield 7, 3) := by decide +kernel
theorem dX12_judge_45 : decode cX12_judge 45 = .ok (.iconst 0, 1) := by decide +kernel
theorem dX12_judge_46 : decode cX12_judge 46 = .ok (.iaload, 1) := by decide +kernel
theorem dX12_judge_47 : decode cX12_judge 47 = .ok (.if_icmp .ge 29, 3) := by decide +kernel
theorem dX12_judge_50 : decode cX12_judge 50 = .ok (.aload_n 0, 1) := by decide +kernel
theorem dX12_judge_51 : decode cX12_judge 51 = .ok (.getfield 49, 3) := by decide +kernel
theorem dX12_judge_54 : decode cX12_judge 54 = .ok (.bipush 40, 2) := by decide +kernel
theorem dX12_judge_56 : decode cX12_judge 56 = .ok (.iload_n 1, 1) := by decide +kernel
theorem dX12_judge_57 : decode cX12_judge 57 = .ok (.imul, 1) := by decide +kernel
theorem dX12_judge_58 : decode cX12_judge 58 = .ok (.iload_n 2, 1) := by decide +kernel
theorem dX12_judge_59 : decode cX12_judge 59 = .ok (.iadd, 1) := by decide +kernel
theorem dX12_judge_60 : decode cX12_judge 60 = .ok (.iaload, 1) := by decide +kernel
theorem dX12_judge_61 : decode cX12_judge 61 = .ok (.aload_n 0, 1) := by decide +kernel
theorem dX12_judge_62 : decode cX12_judge 62 = .ok (.iload_n 2, 1) := by decide +kernel
theorem dX12_judge_63 : decode cX12_judge 63 = .ok (.iconst 1, 1) := by decide +kernel
theorem dX12_judge_64 : decode cX12_judge 64 = .ok (.invokevirtual 148, 3) := by decide +kernel
theorem dX12_judge_67 : decode cX12_judge 67 = .ok (.if_icmp .ne 9, 3) := by decide +kernel
theorem dX12_judge_70 : decode cX12_judge 70 = .ok (.iinc 2 1, 3) := by decide +kernel
theorem dX12_judge_73 : decode cX12_judge 73 = .ok (.goto (-43), 3) := by decide +kernel
theorem dX12_judge_76 : decode cX12_judge 76 = .ok (.iload_n 2, 1) := by decide +kernel
theorem dX12_judge_77 : decode cX12_judge 77 = .ok (.aload_n 0, 1) := by decide +kernel
theorem dX12_judge_78 : decode cX12_judge 78 = .ok (.getfield 46, 3) := by decide +kernel
theorem dX12_judge_81 : decode cX12_judge 81 = .ok (.iload_n 1, 1) := by decide +kernel
theorem dX12_judge_82 : decode cX12_judge 82 = .ok (.iaload, 1) := by decide +kernel
theorem dX12_judge_83 : decode cX12_judge 83 = .ok (.if_icmp .ne 17, 3) := by decide +kernel
theorem dX12_judge_86 : decode cX12_judge 86 = .ok (.iload_n 2, 1) := by decide +kernel
theorem dX12_judge_87 : decode cX12_judge 87 = .ok (.aload_n 0, 1) := by decide +kernel
theorem dX12_judge_88 : decode cX12_judge 88 = .ok (.getfield 7, 3) := by decide +kernel
theorem dX12_judge_91 : decode cX12_judge 91 = .ok (.iconst 0, 1) := by decide +kernel
theorem dX12_judge_92 : decode cX12_judge 92 = .ok (.iaload, 1) := by decide +kernel
theorem dX12_judge_93 : decode cX12_judge 93 = .ok (.if_icmp .ne 7, 3) := by decide +kernel
theorem dX12_judge_96 : decode cX12_judge 96 = .ok (.iconst (-1), 1) := by decide +kernel
theorem dX12_judge_97 : decode cX12_judge 97 = .ok (.goto 4, 3) := by decide +kernel
theorem dX12_judge_100 : decode cX12_judge 100 = .ok (.iload_n 2, 1) := by decide +kernel
theorem dX12_judge_101 : decode cX12_judge 101 = .ok (.ireturn, 1) := by decide +kernel
theorem dX12_image_0 : decode cX12_image 0 = .ok (.iconst 0, 1) := by decide +kernel
theorem dX12_image_1 : decode cX12_image 1 = .ok (.istore_n 1, 1) := by decide +kernel
theorem dX12_image_2 : decode cX12_image 2 = .ok (.iload_n 1, 1) := by decide +kernel
theorem dX12_image_3 : decode cX12_image 3 = .ok (.sipush 264, 3) := by decide +kernel
theorem dX12_image_6 : decode cX12_image 6 = .ok (.if_icmp .ge 21, 3) := by decide +kernel
theorem dX12_image_9 : decode cX12_image 9 = .ok (.aload_n 0, 1) := by decide +kernel
theorem dX12_image_10 : decode cX12_image 10 = .ok (.getfield 13, 3) := by decide +kernel
theorem dX12_image_13 : decode cX12_image 13 = .ok (.iload_n 1, 1) := by decide +kernel
theorem dX12_image_14 : decode cX12_image 14 = .ok (.aload_n 0, 1) := by decide +kernel
theorem dX12_image_15 : decode cX12_image 15 = .ok (.getfield 7, 3) := by decide +kernel
theorem dX12_image_18 : decode cX12_image 18 = .ok (.iload_n 1, 1) := by decide +kernel
theorem dX12_image_19 : decode cX12_image 19 = .ok (.iaload, 1) := by decide +kernel
theorem dX12_image_20 : decode cX12_image 20 = .ok (.iastore, 1) := by decide +kernel
theorem dX12_image_21 : decode cX12_image 21 = .ok (.iinc 1 1, 3) := by decide +kernel
theorem dX12_image_24 : decode cX12_image 24 = .ok (.goto (-22), 3) := by decide +kernel
theorem dX12_image_27 : decode cX12_image 27 = .ok (.aload_n 0, 1) := by decide +kernel
theorem dX12_image_28 : decode cX12_image 28 = .ok (.dup, 1) := by decide +kernel
theorem dX12_image_29 : decode cX12_image 29 = .ok (.getfield 308, 3) := by decide +kernel
theorem dX12_image_32 : decode cX12_image 32 = .ok (.iconst 1, 1) := by decide +kernel
theorem dX12_image_33 : decode cX12_image 33 = .ok (.iadd, 1) := by decide +kernel
theorem dX12_image_34 : decode cX12_image 34 = .ok (.putfield 308, 3) := by decide +kernel
theorem dX12_image_37 : decode cX12_image 37 = .ok (.aload_n 0, 1) := by decide +kernel
theorem dX12_image_38 : decode cX12_image 38 = .ok (.getfield 308, 3) := by decide +kernel
theorem dX12_image_41 : decode cX12_image 41 = .ok (.ireturn, 1) := by decide +kernel
theorem dX12_restore_0 : decode cX12_restore 0 = .ok (.aload_n 0, 1) := by decide +kernel
theorem dX12_restore_1 : decode cX12_restore 1 = .ok (.getfield 308, 3) := by decide +kernel
theorem dX12_restore_4 : decode cX12_restore 4 = .ok (.ifCond .ne 9, 3) := by decide +kernel
theorem dX12_restore_7 : decode cX12_restore 7 = .ok (.aload_n 0, 1) := by decide +kernel
theorem dX12_restore_8 : decode cX12_restore 8 = .ok (.iconst 2, 1) := by decide +kernel
theorem dX12_restore_9 : decode cX12_restore 9 = .ok (.invokevirtual 119, 3) := by decide +kernel
theorem dX12_restore_12 : decode cX12_restore 12 = .ok (.ireturn, 1) := by decide +kernel
theorem dX12_restore_13 : decode cX12_restore 13 = .ok (.iconst 0, 1) := by decide +kernel
theorem dX12_restore_14 : decode cX12_restore 14 = .ok (.istore_n 1, 1) := by decide +kernel
theorem dX12_restore_15 : decode cX12_restore 15 = .ok (.iload_n 1, 1) := by decide +kernel
theorem dX12_restore_16 : decode cX12_restore 16 = .ok (.sipush 264, 3) := by decide +kernel
theorem dX12_restore_19 : decode cX12_restore 19 = .ok (.if_icmp .ge 21, 3) := by decide +kernel
theorem dX12_restore_22 : decode cX12_restore 22 = .ok (.aload_n 0, 1) := by decide +kernel
theorem dX12_restore_23 : decode cX12_restore 23 = .ok (.getfield 7, 3) := by decide +kernel
theorem dX12_restore_26 : decode cX12_restore 26 = .ok (.iload_n 1, 1) := by decide +kernel
theorem dX12_restore_27 : decode cX12_restore 27 = .ok (.aload_n 0, 1) := by decide +kernel
theorem dX12_restore_28 : decode cX12_restore 28 = .ok (.getfield 13, 3) := by decide +kernel
theorem dX12_restore_31 : decode cX12_restore 31 = .ok (.iload_n 1, 1) := by decide +kernel
theorem dX12_restore_32 : decode cX12_restore 32 = .ok (.iaload, 1) := by decide +kernel
theorem dX12_restore_33 : decode cX12_restore 33 = .ok (.iastore, 1) := by decide +kernel
theorem dX12_restore_34 : decode cX12_restore 34 = .ok (.iinc 1 1, 3) := by decide +kernel
theorem dX12_restore_37 : decode cX12_restore 37 = .ok (.goto (-22), 3) := by decide +kernel
theorem dX12_restore_40 : decode cX12_restore 40 = .ok (.aload_n 0, 1) := by decide +kernel
theorem dX12_restore_41 : decode cX12_restore 41 = .ok (.getfield 7, 3) := by decide +kernel
theorem dX12_restore_44 : decode cX12_restore 44 = .ok (.iconst 3, 1) := by decide +kernel
theorem dX12_restore_45 : decode cX12_restore 45 = .ok (.iaload, 1) := by decide +kernel
theorem dX12_restore_46 : decode cX12_restore 46 = .ok (.ireturn, 1) := by decide +kernel
theorem dX12_tell_0 : decode cX12_tell 0 = .ok (.aload_n 0, 1) := by decide +kernel
theorem dX12_tell_1 : decode cX12_tell 1 = .ok (.getfield 7, 3) := by decide +kernel
theorem dX12_tell_4 : decode cX12_tell 4 = .ok (.bipush 10, 2) := by decide +kernel
theorem dX12_tell_6 : decode cX12_tell 6 = .ok (.iaload, 1) := by decide +kernel
theorem dX12_tell_7 : decode cX12_tell 7 = .ok (.bipush 20, 2) := by decide +kernel
theorem dX12_tell_9 : decode cX12_tell 9 = .ok (.if_icmp .ne 9, 3) := by decide +kernel
theorem dX12_tell_12 : decode cX12_tell 12 = .ok (.aload_n 0, 1) := by decide +kernel
theorem dX12_tell_13 : decode cX12_tell 13 = .ok (.iconst 4, 1) := by decide +kernel
theorem dX12_tell_14 : decode cX12_tell 14 = .ok (.invokevirtual 119, 3) := by decide +kernel
theorem dX12_tell_17 : decode cX12_tell 17 = .ok (.ireturn, 1) := by decide +kernel
theorem dX12_tell_18 : decode cX12_tell 18 = .ok (.aload_n 0, 1) := by decide +kernel
theorem dX12_tell_19 : decode cX12_tell 19 = .ok (.getfield 7, 3) := by decide +kernel
theorem dX12_tell_22 : decode cX12_tell 22 = .ok (.bipush 92, 2) := by decide +kernel
theorem dX12_tell_24 : decode cX12_tell 24 = .ok (.aload_n 0, 1) := by decide +kernel
theorem dX12_tell_25 : decode cX12_tell 25 = .ok (.getfield 7, 3) := by decide +kernel
theorem dX12_tell_28 : decode cX12_tell 28 = .ok (.bipush 10, 2) := by decide +kernel
theorem dX12_tell_30 : decode cX12_tell 30 = .ok (.iaload, 1) := by decide +kernel
theorem dX12_tell_31 : decode cX12_tell 31 = .ok (.iadd, 1) := by decide +kernel
theorem dX12_tell_32 : decode cX12_tell 32 = .ok (.iload_n 1, 1) := by decide +kernel
theorem dX12_tell_33 : decode cX12_tell 33 = .ok (.iastore, 1) := by decide +kernel
theorem dX12_tell_34 : decode cX12_tell 34 = .ok (.aload_n 0, 1) := by decide +kernel
theorem dX12_tell_35 : decode cX12_tell 35 = .ok (.getfield 7, 3) := by decide +kernel
theorem dX12_tell_38 : decode cX12_tell 38 = .ok (.bipush 10, 2) := by decide +kernel
theorem dX12_tell_40 : decode cX12_tell 40 = .ok (.dup2, 1) := by decide +kernel
theorem dX12_tell_41 : decode cX12_tell 41 = .ok (.iaload, 1) := by decide +kernel
theorem dX12_tell_42 : decode cX12_tell 42 = .ok (.iconst 1, 1) := by decide +kernel
theorem dX12_tell_43 : decode cX12_tell 43 = .ok (.iadd, 1) := by decide +kernel
theorem dX12_tell_44 : decode cX12_tell 44 = .ok (.iastore, 1) := by decide +kernel
theorem dX12_tell_45 : decode cX12_tell 45 = .ok (.aload_n 0, 1) := by decide +kernel
theorem dX12_tell_46 : decode cX12_tell 46 = .ok (.getfield 7, 3) := by decide +kernel
theorem dX12_tell_49 : decode cX12_tell 49 = .ok (.bipush 10, 2) := by decide +kernel
theorem dX12_tell_51 : decode cX12_tell 51 = .ok (.iaload, 1) := by decide +kernel
theorem dX12_tell_52 : decode cX12_tell 52 = .ok (.ireturn, 1) := by decide +kernel
theorem dX12_check_0 : decode cX12_check 0 = .ok (.aload_n 0, 1) := by decide +kernel
theorem dX12_check_1 : decode cX12_check 1 = .ok (.getfield 7, 3) := by decide +kernel
theorem dX12_check_4 : decode cX12_check 4 = .ok (.bipush 10, 2) := by decide +kernel
theorem dX12_check_6 : decode cX12_check 6 = .ok (.iaload, 1) := by decide +kernel
theorem dX12_check_7 : decode cX12_check 7 = .ok (.istore_n 1, 1) := by decide +kernel
theorem dX12_check_8 : decode cX12_check 8 = .ok (.aload_n 0, 1) := by decide +kernel
theorem dX12_check_9 : decode cX12_check 9 = .ok (.getfield 7, 3) := by decide +kernel
theorem dX12_check_12 : decode cX12_check 12 = .ok (.bipush 10, 2) := by decide +kernel
theorem dX12_check_14 : decode cX12_check 14 = .ok (.iconst 0, 1) := by decide +kernel
theorem dX12_check_15 : decode cX12_check 15 = .ok (.iastore, 1) := by decide +kernel
theorem dX12_check_16 : decode cX12_check 16 = .ok (.iconst 0, 1) := by decide +kernel
theorem dX12_check_17 : decode cX12_check 17 = .ok (.istore_n 2, 1) := by decide +kernel
theorem dX12_check_18 : decode cX12_check 18 = .ok (.iload_n 2, 1) := by decide +kernel
theorem dX12_check_19 : decode cX12_check 19 = .ok (.iload_n 1, 1) := by decide +kernel
theorem dX12_check_20 : decode cX12_check 20 = .ok (.if_icmp .ge 36, 3) := by decide +kernel
theorem dX12_check_23 : decode cX12_check 23 = .ok (.iload_n 2, 1) := by decide +kernel
theorem dX12_check_24 : decode cX12_check 24 = .ok (.bipush 9, 2) := by decide +kernel
theorem dX12_check_26 : decode cX12_check 26 = .ok (.if_icmp .ge 20, 3) := by decide +kernel
theorem dX12_check_29 : decode cX12_check 29 = .ok (.aload_n 0, 1) := by decide +kernel
theorem dX12_check_30 : decode cX12_check 30 = .ok (.getfield 7, 3) := by decide +kernel
theorem dX12_check_33 : decode cX12_check 33 = .ok (.bipush 92, 2) := by decide +kernel
theorem dX12_check_35 : decode cX12_check 35 = .ok (.iload_n 2, 1) := by decide +kernel
theorem dX12_check_36 : decode cX12_check 36 = .ok (.iadd, 1) := by decide +kernel
theorem dX12_check_37 : decode cX12_check 37 = .ok (.iaload, 1) := by decide +kernel
theorem dX12_check_38 : decode cX12_check 38 = .ok (.aload_n 0, 1) := by decide +kernel
theorem dX12_check_39 : decode cX12_check 39 = .ok (.iload_n 2, 1) := by decide +kernel
theorem dX12_check_40 : decode cX12_check 40 = .ok (.invokevirtual 179, 3) := by decide +kernel
theorem dX12_check_43 : decode cX12_check 43 = .ok (.if_icmp .eq 7, 3) := by decide +kernel
theorem dX12_check_46 : decode cX12_check 46 = .ok (.iconst 1, 1) := by decide +kernel
theorem dX12_check_47 : decode cX12_check 47 = .ok (.iload_n 2, 1) := by decide +kernel
theorem dX12_check_48 : decode cX12_check 48 = .ok (.iadd, 1) := by decide +kernel
theorem dX12_check_49 : decode cX12_check 49 = .ok (.ireturn, 1) := by decide +kernel
theorem dX12_check_50 : decode cX12_check 50 = .ok (.iinc 2 1, 3) := by decide +kernel
theorem dX12_check_53 : decode cX12_check 53 = .ok (.goto (-35), 3) := by decide +kernel
theorem dX12_check_56 : decode cX12_check 56 = .ok (.iconst 0, 1) := by decide +kernel
theorem dX12_check_57 : decode cX12_check 57 = .ok (.ireturn, 1) := by decide +kernel
theorem dX12_openOfAll_0 : decode cX12_openOfAll 0 = .ok (.iconst 0, 1) := by decide +kernel
theorem dX12_openOfAll_1 : decode cX12_openOfAll 1 = .ok (.istore_n 1, 1) := by decide +kernel
theorem dX12_openOfAll_2 : decode cX12_openOfAll 2 = .ok (.iconst 0, 1) := by decide +kernel
theorem dX12_openOfAll_3 : decode cX12_openOfAll 3 = .ok (.istore_n 2, 1) := by decide +kernel
theorem dX12_openOfAll_4 : decode cX12_openOfAll 4 = .ok (.iload_n 2, 1) := by decide +kernel
theorem dX12_openOfAll_5 : decode cX12_openOfAll 5 = .ok (.aload_n 0, 1) := by decide +kernel
theorem dX12_openOfAll_6 : decode cX12_openOfAll 6 = .ok (.getfield 7, 3) := by decide +kernel
theorem dX12_openOfAll_9 : decode cX12_openOfAll 9 = .ok (.iconst 0, 1) := by decide +kernel
theorem dX12_openOfAll_10 : decode cX12_openOfAll 10 = .ok (.iaload, 1) := by decide +kernel
theorem dX12_openOfAll_11 : decode cX12_openOfAll 11 = .ok (.if_icmp .ge 18, 3) := by decide +kernel
theorem dX12_openOfAll_14 : decode cX12_openOfAll 14 = .ok (.iload_n 1, 1) := by decide +kernel
theorem dX12_openOfAll_15 : decode cX12_openOfAll 15 = .ok (.aload_n 0, 1) := by decide +kernel
theorem dX12_openOfAll_16 : decode cX12_openOfAll 16 = .ok (.iload_n 2, 1) := by decide +kernel
theorem dX12_openOfAll_17 : decode cX12_openOfAll 17 = .ok (.iconst 1, 1) := by decide +kernel
theorem dX12_openOfAll_18 : decode cX12_openOfAll 18 = .ok (.invokevirtual 148, 3) := by decide +kernel
theorem dX12_openOfAll_21 : decode cX12_openOfAll 21 = .ok (.iadd, 1) := by decide +kernel
theorem dX12_openOfAll_22 : decode cX12_openOfAll 22 = .ok (.istore_n 1, 1) := by decide +kernel
theorem dX12_openOfAll_23 : decode cX12_openOfAll 23 = .ok (.iinc 2 1, 3) := by decide +kernel
theorem dX12_openOfAll_26 : decode cX12_openOfAll 26 = .ok (.goto (-22), 3) := by decide +kernel
theorem dX12_openOfAll_29 : decode cX12_openOfAll 29 = .ok (.iload_n 1, 1) := by decide +kernel
theorem dX12_openOfAll_30 : decode cX12_openOfAll 30 = .ok (.ireturn, 1) := by decide +kernel
theorem dX12_count_0 : decode cX12_count 0 = .ok (.iload_n 1, 1) := by decide +kernel
theorem dX12_count_1 : decode cX12_count 1 = .ok (.tableswitch 152 0 11 #[63, 70, 77, 84, 91, 98, 105, 118, 123, 131, 139, 144], 63) := by decide +kernel
theorem dX12_count_64 : decode cX12_count 64 = .ok (.aload_n 0, 1) := by decide +kernel
theorem dX12_count_65 : decode cX12_count 65 = .ok (.getfield 7, 3) := by decide +kernel
theorem dX12_count_68 : decode cX12_count 68 = .ok (.iconst 0, 1) := by decide +kernel
theorem dX12_count_69 : decode cX12_count 69 = .ok (.iaload, 1) := by decide +kernel
theorem dX12_count_70 : decode cX12_count 70 = .ok (.ireturn, 1) := by decide +kernel
theorem dX12_count_71 : decode cX12_count 71 = .ok (.aload_n 0, 1) := by decide +kernel
theorem dX12_count_72 : decode cX12_count 72 = .ok (.getfield 7, 3) := by decide +kernel
theorem dX12_count_75 : decode cX12_count 75 = .ok (.iconst 1, 1) := by decide +kernel
theorem dX12_count_76 : decode cX12_count 76 = .ok (.iaload, 1) := by decide +kernel
theorem dX12_count_77 : decode cX12_count 77 = .ok (.ireturn, 1) := by decide +kernel
theorem dX12_count_78 : decode cX12_count 78 = .ok (.aload_n 0, 1) := by decide +kernel
theorem dX12_count_79 : decode cX12_count 79 = .ok (.getfield 7, 3) := by decide +kernel
theorem dX12_count_82 : decode cX12_count 82 = .ok (.iconst 2, 1) := by decide +kernel
theorem dX12_count_83 : decode cX12_count 83 = .ok (.iaload, 1) := by decide +kernel
theorem dX12_count_84 : decode cX12_count 84 = .ok (.ireturn, 1) := by decide +kernel
theorem dX12_count_85 : decode cX12_count 85 = .ok (.aload_n 0, 1) := by decide +kernel
theorem dX12_count_86 : decode cX12_count 86 = .ok (.getfield 7, 3) := by decide +kernel
theorem dX12_count_89 : decode cX12_count 89 = .ok (.iconst 3, 1) := by decide +kernel
theorem dX12_count_90 : decode cX12_count 90 = .ok (.iaload, 1) := by decide +kernel
theorem dX12_count_91 : decode cX12_count 91 = .ok (.ireturn, 1) := by decide +kernel
theorem dX12_count_92 : decode cX12_count 92 = .ok (.aload_n 0, 1) := by decide +kernel
theorem dX12_count_93 : decode cX12_count 93 = .ok (.getfield 7, 3) := by decide +kernel
theorem dX12_count_96 : decode cX12_count 96 = .ok (.iconst 4, 1) := by decide +kernel
theorem dX12_count_97 : decode cX12_count 97 = .ok (.iaload, 1) := by decide +kernel
theorem dX12_count_98 : decode cX12_count 98 = .ok (.ireturn, 1) := by decide +kernel
theorem dX12_count_99 : decode cX12_count 99 = .ok (.aload_n 0, 1) := by decide +kernel
theorem dX12_count_100 : decode cX12_count 100 = .ok (.getfield 7, 3) := by decide +kernel
theorem dX12_count_103 : decode cX12_count 103 = .ok (.iconst 5, 1) := by decide +kernel
theorem dX12_count_104 : decode cX12_count 104 = .ok (.iaload, 1) := by decide +kernel
theorem dX12_count_105 : decode cX12_count 105 = .ok (.ireturn, 1) := by decide +kernel
theorem dX12_count_106 : decode cX12_count 106 = .ok (.aload_n 0, 1) := by decide +kernel
theorem dX12_count_107 : decode cX12_count 107 = .ok (.invokevirtual 161, 3) := by decide +kernel
theorem dX12_count_110 : decode cX12_count 110 = .ok (.ifCond .eq 7, 3) := by decide +kernel
theorem dX12_count_113 : decode cX12_count 113 = .ok (.iconst 1, 1) := by decide +kernel
theorem dX12_count_114 : decode cX12_count 114 = .ok (.goto 4, 3) := by decide +kernel
theorem dX12_count_117 : decode cX12_count 117 = .ok (.iconst 0, 1) := by decide +kernel
theorem dX12_count_118 : decode cX12_count 118 = .ok (.ireturn, 1) := by decide +kernel
theorem dX12_count_119 : decode cX12_count 119 = .ok (.aload_n 0, 1) := by decide +kernel
theorem dX12_count_120 : decode cX12_count 120 = .ok (.invokevirtual 311, 3) := by decide +kernel
theorem dX12_count_123 : decode cX12_count 123 = .ok (.ireturn, 1) := by decide +kernel
theorem dX12_count_124 : decode cX12_count 124 = .ok (.aload_n 0, 1) := by decide +kernel
theorem dX12_count_125 : decode cX12_count 125 = .ok (.getfield 7, 3) := by decide +kernel
theorem dX12_count_128 : decode cX12_count 128 = .ok (.bipush 9, 2) := by decide +kernel
theorem dX12_count_130 : decode cX12_count 130 = .ok (.iaload, 1) := by decide +kernel
theorem dX12_count_131 : decode cX12_count 131 = .ok (.ireturn, 1) := by decide +kernel
theorem dX12_count_132 : decode cX12_count 132 = .ok (.aload_n 0, 1) := by decide +kernel
theorem dX12_count_133 : decode cX12_count 133 = .ok (.getfield 7, 3) := by decide +kernel
theorem dX12_count_136 : decode cX12_count 136 = .ok (.bipush 10, 2) := by decide +kernel
theorem dX12_count_138 : decode cX12_count 138 = .ok (.iaload, 1) := by decide +kernel
theorem dX12_count_139 : decode cX12_count 139 = .ok (.ireturn, 1) := by decide +kernel
theorem dX12_count_140 : decode cX12_count 140 = .ok (.aload_n 0, 1) := by decide +kernel
theorem dX12_count_141 : decode cX12_count 141 = .ok (.getfield 283, 3) := by decide +kernel
theorem dX12_count_144 : decode cX12_count 144 = .ok (.ireturn, 1) := by decide +kernel
theorem dX12_count_145 : decode cX12_count 145 = .ok (.aload_n 0, 1) := by decide +kernel
theorem dX12_count_146 : decode cX12_count 146 = .ok (.getfield 7, 3) := by decide +kernel
theorem dX12_count_149 : decode cX12_count 149 = .ok (.bipush 8, 2) := by decide +kernel
theorem dX12_count_151 : decode cX12_count 151 = .ok (.iaload, 1) := by decide +kernel
theorem dX12_count_152 : decode cX12_count 152 = .ok (.ireturn, 1) := by decide +kernel
theorem dX12_count_153 : decode cX12_count 153 = .ok (.aload_n 0, 1) := by decide +kernel
theorem dX12_count_154 : decode cX12_count 154 = .ok (.iconst 1, 1) := by decide +kernel
theorem dX12_count_155 : decode cX12_count 155 = .ok (.invokevirtual 119, 3) := by decide +kernel
theorem dX12_count_158 : decode cX12_count 158 = .ok (.ireturn, 1) := by decide +kernel
theorem dX12_told_0 : decode cX12_told 0 = .ok (.iload_n 1, 1) := by decide +kernel
theorem dX12_told_1 : decode cX12_told 1 = .ok (.i2l, 1) := by decide +kernel
theorem dX12_told_2 : decode cX12_told 2 = .ok (.lconst 1, 1) := by decide +kernel
theorem dX12_told_3 : decode cX12_told 3 = .ok (.ldc2_w 314, 3) := by decide +kernel
theorem dX12_told_6 : decode cX12_told 6 = .ok (.invokestatic 56, 3) := by decide +kernel
theorem dX12_told_9 : decode cX12_told 9 = .ok (.ifCond .eq 12, 3) := by decide +kernel
theorem dX12_told_12 : decode cX12_told 12 = .ok (.aload_n 0, 1) := by decide +kernel
theorem dX12_told_13 : decode cX12_told 13 = .ok (.getfield 19, 3) := by decide +kernel
theorem dX12_told_16 : decode cX12_told 16 = .ok (.iload_n 1, 1) := by decide +kernel
theorem dX12_told_17 : decode cX12_told 17 = .ok (.iaload, 1) := by decide +kernel
theorem dX12_told_18 : decode cX12_told 18 = .ok (.goto 8, 3) := by decide +kernel
theorem dX12_told_21 : decode cX12_told 21 = .ok (.aload_n 0, 1) := by decide +kernel
theorem dX12_told_22 : decode cX12_told 22 = .ok (.iconst 1, 1) := by decide +kernel
theorem dX12_told_23 : decode cX12_told 23 = .ok (.invokevirtual 119, 3) := by decide +kernel
theorem dX12_told_26 : decode cX12_told 26 = .ok (.ireturn, 1) := by decide +kernel
