theorem dX0_init_0 : decode cX0_init 0 = .ok (.aload_n 0, 1) := by decide +kernel
theorem dX0_init_1 : decode cX0_init 1 = .ok (.invokespecial 3, 3) := by decide +kernel
theorem dX0_init_4 : decode cX0_init 4 = .ok (.aload_n 0, 1) := by decide +kernel
theorem dX0_init_5 : decode cX0_init 5 = .ok (.bipush 6, 2) := by decide +kernel
theorem dX0_init_7 : decode cX0_init 7 = .ok (.newarray .int, 2) := by decide +kernel
theorem dX0_init_9 : decode cX0_init 9 = .ok (.putfield 9, 3) := by decide +kernel
theorem dX0_init_12 : decode cX0_init 12 = .ok (.aload_n 0, 1) := by decide +kernel
theorem dX0_init_13 : decode cX0_init 13 = .ok (.bipush 24, 2) := by decide +kernel
theorem dX0_init_15 : decode cX0_init 15 = .ok (.newarray .int, 2) := by decide +kernel
theorem dX0_init_17 : decode cX0_init 17 = .ok (.putfield 15, 3) := by decide +kernel
theorem dX0_init_20 : decode cX0_init 20 = .ok (.aload_n 0, 1) := by decide +kernel
theorem dX0_init_21 : decode cX0_init 21 = .ok (.bipush 6, 2) := by decide +kernel
theorem dX0_init_23 : decode cX0_init 23 = .ok (.newarray .int, 2) := by decide +kernel
theorem dX0_init_25 : decode cX0_init 25 = .ok (.putfield 18, 3) := by decide +kernel
theorem dX0_init_28 : decode cX0_init 28 = .ok (.return_, 1) := by decide +kernel
theorem dX0_knows_0 : decode cX0_knows 0 = .ok (.iload_n 1, 1) := by decide +kernel
theorem dX0_knows_1 : decode cX0_knows 1 = .ok (.ifCond .lt 15, 3) := by decide +kernel
theorem dX0_knows_4 : decode cX0_knows 4 = .ok (.iload_n 1, 1) := by decide +kernel
theorem dX0_knows_5 : decode cX0_knows 5 = .ok (.aload_n 0, 1) := by decide +kernel
theorem dX0_knows_6 : decode cX0_knows 6 = .ok (.getfield 21, 3) := by decide +kernel
theorem dX0_knows_9 : decode cX0_knows 9 = .ok (.if_icmp .ge 7, 3) := by decide +kernel
theorem dX0_knows_12 : decode cX0_knows 12 = .ok (.iconst 1, 1) := by decide +kernel
theorem dX0_knows_13 : decode cX0_knows 13 = .ok (.goto 4, 3) := by decide +kernel
theorem dX0_knows_16 : decode cX0_knows 16 = .ok (.iconst 0, 1) := by decide +kernel
theorem dX0_knows_17 : decode cX0_knows 17 = .ok (.ireturn, 1) := by decide +kernel
theorem dX0_knowsValue_0 : decode cX0_knowsValue 0 = .ok (.aload_n 0, 1) := by decide +kernel
theorem dX0_knowsValue_1 : decode cX0_knowsValue 1 = .ok (.iload_n 1, 1) := by decide +kernel
theorem dX0_knowsValue_2 : decode cX0_knowsValue 2 = .ok (.invokevirtual 25, 3) := by decide +kernel
theorem dX0_knowsValue_5 : decode cX0_knowsValue 5 = .ok (.ifCond .eq 21, 3) := by decide +kernel
theorem dX0_knowsValue_8 : decode cX0_knowsValue 8 = .ok (.iload_n 2, 1) := by decide +kernel
theorem dX0_knowsValue_9 : decode cX0_knowsValue 9 = .ok (.ifCond .lt 17, 3) := by decide +kernel
theorem dX0_knowsValue_12 : decode cX0_knowsValue 12 = .ok (.iload_n 2, 1) := by decide +kernel
theorem dX0_knowsValue_13 : decode cX0_knowsValue 13 = .ok (.aload_n 0, 1) := by decide +kernel
theorem dX0_knowsValue_14 : decode cX0_knowsValue 14 = .ok (.getfield 9, 3) := by decide +kernel
theorem dX0_knowsValue_17 : decode cX0_knowsValue 17 = .ok (.iload_n 1, 1) := by decide +kernel
theorem dX0_knowsValue_18 : decode cX0_knowsValue 18 = .ok (.iaload, 1) := by decide +kernel
theorem dX0_knowsValue_19 : decode cX0_knowsValue 19 = .ok (.if_icmp .ge 7, 3) := by decide +kernel
theorem dX0_knowsValue_22 : decode cX0_knowsValue 22 = .ok (.iconst 1, 1) := by decide +kernel
theorem dX0_knowsValue_23 : decode cX0_knowsValue 23 = .ok (.goto 4, 3) := by decide +kernel
theorem dX0_knowsValue_26 : decode cX0_knowsValue 26 = .ok (.iconst 0, 1) := by decide +kernel
theorem dX0_knowsValue_27 : decode cX0_knowsValue 27 = .ok (.ireturn, 1) := by decide +kernel
theorem dX1_init_0 : decode cX1_init 0 = .ok (.aload_n 0, 1) := by decide +kernel
theorem dX1_init_1 : decode cX1_init 1 = .ok (.invokespecial 3, 3) := by decide +kernel
theorem dX1_init_4 : decode cX1_init 4 = .ok (.aload_n 0, 1) := by decide +kernel
theorem dX1_init_5 : decode cX1_init 5 = .ok (.sipush 200, 3) := by decide +kernel
theorem dX1_init_8 : decode cX1_init 8 = .ok (.newarray .int, 2) := by decide +kernel
theorem dX1_init_10 : decode cX1_init 10 = .ok (.putfield 9, 3) := by decide +kernel
theorem dX1_init_13 : decode cX1_init 13 = .ok (.aload_n 0, 1) := by decide +kernel
theorem dX1_init_14 : decode cX1_init 14 = .ok (.sipush 200, 3) := by decide +kernel
theorem dX1_init_17 : decode cX1_init 17 = .ok (.newarray .int, 2) := by decide +kernel
theorem dX1_init_19 : decode cX1_init 19 = .ok (.putfield 15, 3) := by decide +kernel
theorem dX1_init_22 : decode cX1_init 22 = .ok (.aload_n 0, 1) := by decide +kernel
theorem dX1_init_23 : decode cX1_init 23 = .ok (.sipush 200, 3) := by decide +kernel
theorem dX1_init_26 : decode cX1_init 26 = .ok (.newarray .int, 2) := by decide +kernel
theorem dX1_init_28 : decode cX1_init 28 = .ok (.putfield 18, 3) := by decide +kernel
theorem dX1_init_31 : decode cX1_init 31 = .ok (.aload_n 0, 1) := by decide +kernel
theorem dX1_init_32 : decode cX1_init 32 = .ok (.sipush 200, 3) := by decide +kernel
theorem dX1_init_35 : decode cX1_init 35 = .ok (.newarray .int, 2) := by decide +kernel
theorem dX1_init_37 : decode cX1_init 37 = .ok (.putfield 21, 3) := by decide +kernel
theorem dX1_init_40 : decode cX1_init 40 = .ok (.aload_n 0, 1) := by decide +kernel
theorem dX1_init_41 : decode cX1_init 41 = .ok (.sipush 200, 3) := by decide +kernel
theorem dX1_init_44 : decode cX1_init 44 = .ok (.newarray .int, 2) := by decide +kernel
theorem dX1_init_46 : decode cX1_init 46 = .ok (.putfield 24, 3) := by decide +kernel
theorem dX1_init_49 : decode cX1_init 49 = .ok (.aload_n 0, 1) := by decide +kernel
theorem dX1_init_50 : decode cX1_init 50 = .ok (.sipush 600, 3) := by decide +kernel
theorem dX1_init_53 : decode cX1_init 53 = .ok (.newarray .int, 2) := by decide +kernel
theorem dX1_init_55 : decode cX1_init 55 = .ok (.putfield 27, 3) := by decide +kernel
theorem dX1_init_58 : decode cX1_init 58 = .ok (.return_, 1) := by decide +kernel
theorem dX1_knows_0 : decode cX1_knows 0 = .ok (.iload_n 1, 1) := by decide +kernel
theorem dX1_knows_1 : decode cX1_knows 1 = .ok (.ifCond .lt 15, 3) := by decide +kernel
theorem dX1_knows_4 : decode cX1_knows 4 = .ok (.iload_n 1, 1) := by decide +kernel
theorem dX1_knows_5 : decode cX1_knows 5 = .ok (.aload_n 0, 1) := by decide +kernel
theorem dX1_knows_6 : decode cX1_knows 6 = .ok (.getfield 30, 3) := by decide +kernel
theorem dX1_knows_9 : decode cX1_knows 9 = .ok (.if_icmp .ge 7, 3) := by decide +kernel
theorem dX1_knows_12 : decode cX1_knows 12 = .ok (.iconst 1, 1) := by decide +kernel
theorem dX1_knows_13 : decode cX1_knows 13 = .ok (.goto 4, 3) := by decide +kernel
theorem dX1_knows_16 : decode cX1_knows 16 = .ok (.iconst 0, 1) := by decide +kernel
theorem dX1_knows_17 : decode cX1_knows 17 = .ok (.ireturn, 1) := by decide +kernel
theorem dX1_add_0 : decode cX1_add 0 = .ok (.aload_n 0, 1) := by decide +kernel
theorem dX1_add_1 : decode cX1_add 1 = .ok (.getfield 9, 3) := by decide +kernel
theorem dX1_add_4 : decode cX1_add 4 = .ok (.aload_n 0, 1) := by decide +kernel
theorem dX1_add_5 : decode cX1_add 5 = .ok (.getfield 30, 3) := by decide +kernel
theorem dX1_add_8 : decode cX1_add 8 = .ok (.iload_n 1, 1) := by decide +kernel
theorem dX1_add_9 : decode cX1_add 9 = .ok (.iastore, 1) := by decide +kernel
theorem dX1_add_10 : decode cX1_add 10 = .ok (.aload_n 0, 1) := by decide +kernel
theorem dX1_add_11 : decode cX1_add 11 = .ok (.getfield 15, 3) := by decide +kernel
theorem dX1_add_14 : decode cX1_add 14 = .ok (.aload_n 0, 1) := by decide +kernel
theorem dX1_add_15 : decode cX1_add 15 = .ok (.getfield 30, 3) := by decide +kernel
theorem dX1_add_18 : decode cX1_add 18 = .ok (.iload_n 2, 1) := by decide +kernel
theorem dX1_add_19 : decode cX1_add 19 = .ok (.iastore, 1) := by decide +kernel
theorem dX1_add_20 : decode cX1_add 20 = .ok (.aload_n 0, 1) := by decide +kernel
theorem dX1_add_21 : decode cX1_add 21 = .ok (.getfield 18, 3) := by decide +kernel
theorem dX1_add_24 : decode cX1_add 24 = .ok (.aload_n 0, 1) := by decide +kernel
theorem dX1_add_25 : decode cX1_add 25 = .ok (.getfield 30, 3) := by decide +kernel
theorem dX1_add_28 : decode cX1_add 28 = .ok (.iload_n 3, 1) := by decide +kernel
theorem dX1_add_29 : decode cX1_add 29 = .ok (.iastore, 1) := by decide +kernel
theorem dX1_add_30 : decode cX1_add 30 = .ok (.aload_n 0, 1) := by decide +kernel
theorem dX1_add_31 : decode cX1_add 31 = .ok (.getfield 21, 3) := by decide +kernel
theorem dX1_add_34 : decode cX1_add 34 = .ok (.aload_n 0, 1) := by decide +kernel
theorem dX1_add_35 : decode cX1_add 35 = .ok (.getfield 30, 3) := by decide +kernel
theorem dX1_add_38 : decode cX1_add 38 = .ok (.iload 4, 2) := by decide +kernel
theorem dX1_add_40 : decode cX1_add 40 = .ok (.iastore, 1) := by decide +kernel
theorem dX1_add_41 : decode cX1_add 41 = .ok (.iconst 0, 1) := by decide +kernel
theorem dX1_add_42 : decode cX1_add 42 = .ok (.istore 6, 2) := by decide +kernel
theorem dX1_add_44 : decode cX1_add 44 = .ok (.iconst 0, 1) := by decide +kernel
theorem dX1_add_45 : decode cX1_add 45 = .ok (.istore 7, 2) := by decide +kernel
theorem dX1_add_47 : decode cX1_add 47 = .ok (.iload 7, 2) := by decide +kernel
theorem dX1_add_49 : decode cX1_add 49 = .ok (.aload 5, 2) := by decide +kernel
theorem dX1_add_51 : decode cX1_add 51 = .ok (.getfield 34, 3) := by decide +kernel
theorem dX1_add_54 : decode cX1_add 54 = .ok (.if_icmp .ge 58, 3) := by decide +kernel
theorem dX1_add_57 : decode cX1_add 57 = .ok (.aload 5, 2) := by decide +kernel
theorem dX1_add_59 : decode cX1_add 59 = .ok (.getfield 39, 3) := by decide +kernel
theorem dX1_add_62 : decode cX1_add 62 = .ok (.iload 7, 2) := by decide +kernel
theorem dX1_add_64 : decode cX1_add 64 = .ok (.iaload, 1) := by decide +kernel
theorem dX1_add_65 : decode cX1_add 65 = .ok (.iconst (-1), 1) := by decide +kernel
theorem dX1_add_66 : decode cX1_add 66 = .ok (.if_icmp .eq 40, 3) := by decide +kernel
theorem dX1_add_69 : decode cX1_add 69 = .ok (.aload_n 0, 1) := by decide +kernel
theorem dX1_add_70 : decode cX1_add 70 = .ok (.getfield 27, 3) := by decide +kernel
theorem dX1_add_73 : decode cX1_add 73 = .ok (.aload_n 0, 1) := by decide +kernel
theorem dX1_add_74 : decode cX1_add 74 = .ok (.getfield 30, 3) := by decide +kernel
theorem dX1_add_77 : decode cX1_add 77 = .ok (.iconst 3, 1) := by decide +kernel
theorem dX1_add_78 : decode cX1_add 78 = .ok (.imul, 1) := by decide +kernel
theorem dX1_add_79 : decode cX1_add 79 = .ok (.iload 6, 2) := by decide +kernel
theorem dX1_add_81 : decode cX1_add 81 = .ok (.iadd, 1) := by decide +kernel
theorem dX1_add_82 : decode cX1_add 82 = .ok (.bipush 10, 2) := by decide +kernel
theorem dX1_add_84 : decode cX1_add 84 = .ok (.aload 5, 2) := by decide +kernel
theorem dX1_add_86 : decode cX1_add 86 = .ok (.getfield 42, 3) := by decide +kernel
theorem dX1_add_89 : decode cX1_add 89 = .ok (.iload 7, 2) := by decide +kernel
theorem dX1_add_91 : decode cX1_add 91 = .ok (.iaload, 1) := by decide +kernel
theorem dX1_add_92 : decode cX1_add 92 = .ok (.imul, 1) := by decide +kernel
theorem dX1_add_93 : decode cX1_add 93 = .ok (.aload 5, 2) := by decide +kernel
theorem dX1_add_95 : decode cX1_add 95 = .ok (.getfield 39, 3) := by decide +kernel
theorem dX1_add_98 : decode cX1_add 98 = .ok (.iload 7, 2) := by decide +kernel
theorem dX1_add_100 : decode cX1_add 100 = .ok (.iaload, 1) := by decide +kernel
theorem dX1_add_101 : decode cX1_add 101 = .ok (.iadd, 1) := by decide +kernel
theorem dX1_add_102 : decode cX1_add 102 = .ok (.iastore, 1) := by decide +kernel
theorem dX1_add_103 : decode cX1_add 103 = .ok (.iinc 6 1, 3) := by decide +kernel
theorem dX1_add_106 : decode cX1_add 106 = .ok (.iinc 7 1, 3) := by decide +kernel
theorem dX1_add_109 : decode cX1_add 109 = .ok (.goto (-62), 3) := by decide +kernel
theorem dX1_add_112 : decode cX1_add 112 = .ok (.aload_n 0, 1) := by decide +kernel
theorem dX1_add_113 : decode cX1_add 113 = .ok (.getfield 24, 3) := by decide +kernel
theorem dX1_add_116 : decode cX1_add 116 = .ok (.aload_n 0, 1) := by decide +kernel
theorem dX1_add_117 : decode cX1_add 117 = .ok (.getfield 30, 3) := by decide +kernel
theorem dX1_add_120 : decode cX1_add 120 = .ok (.iload 6, 2) := by decide +kernel
theorem dX1_add_122 : decode cX1_add 122 = .ok (.iastore, 1) := by decide +kernel
theorem dX1_add_123 : decode cX1_add 123 = .ok (.aload_n 0, 1) := by decide +kernel
theorem dX1_add_124 : decode cX1_add 124 = .ok (.dup, 1) := by decide +kernel
theorem dX1_add_125 : decode cX1_add 125 = .ok (.getfield 30, 3) := by decide +kernel
theorem dX1_add_128 : decode cX1_add 128 = .ok (.iconst 1, 1) := by decide +kernel
theorem dX1_add_129 : decode cX1_add 129 = .ok (.iadd, 1) := by decide +kernel
theorem dX1_add_130 : decode cX1_add 130 = .ok (.putfield 30, 3) := by decide +kernel
theorem dX1_add_133 : decode cX1_add 133 = .ok (.return_, 1) := by decide +kernel
theorem dX1_isMetBy_0 : decode cX1_isMetBy 0 = .ok (.iconst 0, 1) := by decide +kernel
theorem dX1_isMetBy_1 : decode cX1_isMetBy 1 = .ok (.istore_n 3, 1) := by decide +kernel
theorem dX1_isMetBy_2 : decode cX1_isMetBy 2 = .ok (.iload_n 3, 1) := by decide +kernel
theorem dX1_isMetBy_3 : decode cX1_isMetBy 3 = .ok (.aload_n 0, 1) := by decide +kernel
theorem dX1_isMetBy_4 : decode cX1_isMetBy 4 = .ok (.getfield 24, 3) := by decide +kernel
theorem dX1_isMetBy_7 : decode cX1_isMetBy 7 = .ok (.iload_n 1, 1) := by decide +kernel
theorem dX1_isMetBy_8 : decode cX1_isMetBy 8 = .ok (.iaload, 1) := by decide +kernel
theorem dX1_isMetBy_9 : decode cX1_isMetBy 9 = .ok (.if_icmp .ge 38, 3) := by decide +kernel
theorem dX1_isMetBy_12 : decode cX1_isMetBy 12 = .ok (.aload_n 0, 1) := by decide +kernel
theorem dX1_isMetBy_13 : decode cX1_isMetBy 13 = .ok (.getfield 27, 3) := by decide +kernel
theorem dX1_isMetBy_16 : decode cX1_isMetBy 16 = .ok (.iload_n 1, 1) := by decide +kernel
theorem dX1_isMetBy_17 : decode cX1_isMetBy 17 = .ok (.iconst 3, 1) := by decide +kernel
theorem dX1_isMetBy_18 : decode cX1_isMetBy 18 = .ok (.imul, 1) := by decide +kernel
theorem dX1_isMetBy_19 : decode cX1_isMetBy 19 = .ok (.iload_n 3, 1) := by decide +kernel
theorem dX1_isMetBy_20 : decode cX1_isMetBy 20 = .ok (.iadd, 1) := by decide +kernel
theorem dX1_isMetBy_21 : decode cX1_isMetBy 21 = .ok (.iaload, 1) := by decide +kernel
theorem dX1_isMetBy_22 : decode cX1_isMetBy 22 = .ok (.istore 4, 2) := by decide +kernel
theorem dX1_isMetBy_24 : decode cX1_isMetBy 24 = .ok (.aload_n 2, 1) := by decide +kernel
theorem dX1_isMetBy_25 : decode cX1_isMetBy 25 = .ok (.iload 4, 2) := by decide +kernel
theorem dX1_isMetBy_27 : decode cX1_isMetBy 27 = .ok (.bipush 10, 2) := by decide +kernel
theorem dX1_isMetBy_29 : decode cX1_isMetBy 29 = .ok (.idiv, 1) := by decide +kernel
theorem dX1_isMetBy_30 : decode cX1_isMetBy 30 = .ok (.iaload, 1) := by decide +kernel
theorem dX1_isMetBy_31 : decode cX1_isMetBy 31 = .ok (.iload 4, 2) := by decide +kernel
theorem dX1_isMetBy_33 : decode cX1_isMetBy 33 = .ok (.bipush 10, 2) := by decide +kernel
theorem dX1_isMetBy_35 : decode cX1_isMetBy 35 = .ok (.irem, 1) := by decide +kernel
theorem dX1_isMetBy_36 : decode cX1_isMetBy 36 = .ok (.if_icmp .eq 5, 3) := by decide +kernel
theorem dX1_isMetBy_39 : decode cX1_isMetBy 39 = .ok (.iconst 0, 1) := by decide +kernel
theorem dX1_isMetBy_40 : decode cX1_isMetBy 40 = .ok (.ireturn, 1) := by decide +kernel
theorem dX1_isMetBy_41 : decode cX1_isMetBy 41 = .ok (.iinc 3 1, 3) := by decide +kernel
theorem dX1_isMetBy_44 : decode cX1_isMetBy 44 = .ok (.goto (-42), 3) := by decide +kernel
theorem dX1_isMetBy_47 : decode cX1_isMetBy 47 = .ok (.iconst 1, 1) := by decide +kernel
theorem dX1_isMetBy_48 : decode cX1_isMetBy 48 = .ok (.ireturn, 1) := by decide +kernel
theorem dX1_takeAway_0 : decode cX1_takeAway 0 = .ok (.iconst 0, 1) := by decide +kernel
theorem dX1_takeAway_1 : decode cX1_takeAway 1 = .ok (.istore_n 2, 1) := by decide +kernel
theorem dX1_takeAway_2 : decode cX1_takeAway 2 = .ok (.iconst 0, 1) := by decide +kernel
theorem dX1_takeAway_3 : decode cX1_takeAway 3 = .ok (.istore_n 3, 1) := by decide +kernel
theorem dX1_takeAway_4 : decode cX1_takeAway 4 = .ok (.iload_n 3, 1) := by decide +kernel
theorem dX1_takeAway_5 : decode cX1_takeAway 5 = .ok (.aload_n 0, 1) := by decide +kernel
theorem dX1_takeAway_6 : decode cX1_takeAway 6 = .ok (.getfield 30, 3) := by decide +kernel
theorem dX1_takeAway_9 : decode cX1_takeAway 9 = .ok (.if_icmp .ge 28, 3) := by decide +kernel
theorem dX1_takeAway_12 : decode cX1_takeAway 12 = .ok (.aload_n 0, 1) := by decide +kernel
theorem dX1_takeAway_13 : decode cX1_takeAway 13 = .ok (.getfield 9, 3) := by decide +kernel
theorem dX1_takeAway_16 : decode cX1_takeAway 16 = .ok (.iload_n 3, 1) := by decide +kernel
theorem dX1_takeAway_17 : decode cX1_takeAway 17 = .ok (.iaload, 1) := by decide +kernel
theorem dX1_takeAway_18 : decode cX1_takeAway 18 = .ok (.iload_n 1, 1) := by decide +kernel
theorem dX1_takeAway_19 : decode cX1_takeAway 19 = .ok (.if_icmp .eq 12, 3) := by decide +kernel
theorem dX1_takeAway_22 : decode cX1_takeAway 22 = .ok (.aload_n 0, 1) := by decide +kernel
theorem dX1_takeAway_23 : decode cX1_takeAway 23 = .ok (.iload_n 3, 1) := by decide +kernel
theorem dX1_takeAway_24 : decode cX1_takeAway 24 = .ok (.iload_n 2, 1) := by decide +kernel
theorem dX1_takeAway_25 : decode cX1_takeAway 25 = .ok (.invokevirtual 45, 3) := by decide +kernel
theorem dX1_takeAway_28 : decode cX1_takeAway 28 = .ok (.iinc 2 1, 3) := by decide +kernel
theorem dX1_takeAway_31 : decode cX1_takeAway 31 = .ok (.iinc 3 1, 3) := by decide +kernel
theorem dX1_takeAway_34 : decode cX1_takeAway 34 = .ok (.goto (-30), 3) := by decide +kernel
theorem dX1_takeAway_37 : decode cX1_takeAway 37 = .ok (.aload_n 0, 1) := by decide +kernel
theorem dX1_takeAway_38 : decode cX1_takeAway 38 = .ok (.iload_n 2, 1) := by decide +kernel
theorem dX1_takeAway_39 : decode cX1_takeAway 39 = .ok (.putfield 30, 3) := by decide +kernel
theorem dX1_takeAway_42 : decode cX1_takeAway 42 = .ok (.return_, 1) := by decide +kernel
theorem dX1_move_0 : decode cX1_move 0 = .ok (.aload_n 0, 1) := by decide +kernel
theorem dX1_move_1 : decode cX1_move 1 = .ok (.getfield 9, 3) := by decide +kernel
theorem dX1_move_4 : decode cX1_move 4 = .ok (.iload_n 2, 1) := by decide +kernel
theorem dX1_move_5 : decode cX1_move 5 = .ok (.aload_n 0, 1) := by decide +kernel
theorem dX1_move_6 : decode cX1_move 6 = .ok (.getfield 9, 3) := by decide +kernel
theorem dX1_move_9 : decode cX1_move 9 = .ok (.iload_n 1, 1) := by decide +kernel
theorem dX1_move_10 : decode cX1_move 10 = .ok (.iaload, 1) := by decide +kernel
theorem dX1_move_11 : decode cX1_move 11 = .ok (.iastore, 1) := by decide +kernel
theorem dX1_move_12 : decode cX1_move 12 = .ok (.aload_n 0, 1) := by decide +kernel
theorem dX1_move_13 : decode cX1_move 13 = .ok (.getfield 15, 3) := by decide +kernel
theorem dX1_move_16 : decode cX1_move 16 = .ok (.iload_n 2, 1) := by decide +kernel
theorem dX1_move_17 : decode cX1_move 17 = .ok (.aload_n 0, 1) := by decide +kernel
theorem dX1_move_18 : decode cX1_move 18 = .ok (.getfield 15, 3) := by decide +kernel
theorem dX1_move_21 : decode cX1_move 21 = .ok (.iload_n 1, 1) := by decide +kernel
theorem dX1_move_22 : decode cX1_move 22 = .ok (.iaload, 1) := by decide +kernel
theorem dX1_move_23 : decode cX1_move 23 = .ok (.iastore, 1) := by decide +kernel
theorem dX1_move_24 : decode cX1_move 24 = .ok (.aload_n 0, 1) := by decide +kernel
theorem dX1_move_25 : decode cX1_move 25 = .ok (.getfield 18, 3) := by decide +kernel
theorem dX1_move_28 : decode cX1_move 28 = .ok (.iload_n 2, 1) := by decide +kernel
theorem dX1_move_29 : decode cX1_move 29 = .ok (.aload_n 0, 1) := by decide +kernel
theorem dX1_move_30 : decode cX1_move 30 = .ok (.getfield 18, 3) := by decide +kernel
theorem dX1_move_33 : decode cX1_move 33 = .ok (.iload_n 1, 1) := by decide +kernel
theorem dX1_move_34 : decode cX1_move 34 = .ok (.iaload, 1) := by decide +kernel
theorem dX1_move_35 : decode cX1_move 35 = .ok (.iastore, 1) := by decide +kernel
theorem dX1_move_36 : decode cX1_move 36 = .ok (.aload_n 0, 1) := by decide +kernel
theorem dX1_move_37 : decode cX1_move 37 = .ok (.getfield 21, 3) := by decide +kernel
theorem dX1_move_40 : decode cX1_move 40 = .ok (.iload_n 2, 1) := by decide +kernel
theorem dX1_move_41 : decode cX1_move 41 = .ok (.aload_n 0, 1) := by decide +kernel
theorem dX1_move_42 : decode cX1_move 42 = .ok (.getfield 21, 3) := by decide +kernel
theorem dX1_move_45 : decode cX1_move 45 = .ok (.iload_n 1, 1) := by decide +kernel
theorem dX1_move_46 : decode cX1_move 46 = .ok (.iaload, 1) := by decide +kernel
theorem dX1_move_47 : decode cX1_move 47 = .ok (.iastore, 1) := by decide +kernel
theorem dX1_move_48 : decode cX1_move 48 = .ok (.aload_n 0, 1) := by decide +kernel
theorem dX1_move_49 : decode cX1_move 49 = .ok (.getfield 24, 3) := by decide +kernel
theorem dX1_move_52 : decode cX1_move 52 = .ok (.iload_n 2, 1) := by decide +kernel
theorem dX1_move_53 : decode cX1_move 53 = .ok (.aload_n 0, 1) := by decide +kernel
theorem dX1_move_54 : decode cX1_move 54 = .ok (.getfield 24, 3) := by decide +kernel
theorem dX1_move_57 : decode cX1_move 57 = .ok (.iload_n 1, 1) := by decide +kernel
theorem dX1_move_58 : decode cX1_move 58 = .ok (.iaload, 1) := by decide +kernel
theorem dX1_move_59 : decode cX1_move 59 = .ok (.iastore, 1) := by decide +kernel
theorem dX1_move_60 : decode cX1_move 60 = .ok (.iconst 0, 1) := by decide +kernel
theorem dX1_move_61 : decode cX1_move 61 = .ok (.istore_n 3, 1) := by decide +kernel
theorem dX1_move_62 : decode cX1_move 62 = .ok (.iload_n 3, 1) := by decide +kernel
theorem dX1_move_63 : decode cX1_move 63 = .ok (.iconst 3, 1) := by decide +kernel
theorem dX1_move_64 : decode cX1_move 64 = .ok (.if_icmp .ge 29, 3) := by decide +kernel
theorem dX1_move_67 : decode cX1_move 67 = .ok (.aload_n 0, 1) := by decide +kernel
theorem dX1_move_68 : decode cX1_move 68 = .ok (.getfield 27, 3) := by decide +kernel
theorem dX1_move_71 : decode cX1_move 71 = .ok (.iload_n 2, 1) := by decide +kernel
theorem dX1_move_72 : decode cX1_move 72 = .ok (.iconst 3, 1) := by decide +kernel
theorem dX1_move_73 : decode cX1_move 73 = .ok (.imul, 1) := by decide +kernel
theorem dX1_move_74 : decode cX1_move 74 = .ok (.iload_n 3, 1) := by decide +kernel
theorem dX1_move_75 : decode cX1_move 75 = .ok (.iadd, 1) := by decide +kernel
theorem dX1_move_76 : decode cX1_move 76 = .ok (.aload_n 0, 1) := by decide +kernel
theorem dX1_move_77 : decode cX1_move 77 = .ok (.getfield 27, 3) := by decide +kernel
theorem dX1_move_80 : decode cX1_move 80 = .ok (.iload_n 1, 1) := by decide +kernel
theorem dX1_move_81 : decode cX1_move 81 = .ok (.iconst 3, 1) := by decide +kernel
theorem dX1_move_82 : decode cX1_move 82 = .ok (.imul, 1) := by decide +kernel
theorem dX1_move_83 : decode cX1_move 83 = .ok (.iload_n 3, 1) := by decide +kernel
theorem dX1_move_84 : decode cX1_move 84 = .ok (.iadd, 1) := by decide +kernel
theorem dX1_move_85 : decode cX1_move 85 = .ok (.iaload, 1) := by decide +kernel
theorem dX1_move_86 : decode cX1_move 86 = .ok (.iastore, 1) := by decide +kernel
theorem dX1_move_87 : decode cX1_move 87 = .ok (.iinc 3 1, 3) := by decide +kernel
theorem dX1_move_90 : decode cX1_move 90 = .ok (.goto (-28), 3) := by decide +kernel
theorem dX1_move_93 : decode cX1_move 93 = .ok (.return_, 1) := by decide +kernel
theorem dX2_init_0 : decode cX2_init 0 = .ok (.aload_n 0, 1) := by decide +kernel
theorem dX2_init_1 : decode cX2_init 1 = .ok (.invokespecial 3, 3) := by decide +kernel
theorem dX2_init_4 : decode cX2_init 4 = .ok (.aload_n 0, 1) := by decide +kernel
theorem dX2_init_5 : decode cX2_init 5 = .ok (.iconst 1, 1) := by decide +kernel
theorem dX2_init_6 : decode cX2_init 6 = .ok (.putfield 9, 3) := by decide +kernel
theorem dX2_init_9 : decode cX2_init 9 = .ok (.aload_n 0, 1) := by decide +kernel
theorem dX2_init_10 : decode cX2_init 10 = .ok (.iconst 4, 1) := by decide +kernel
theorem dX2_init_11 : decode cX2_init 11 = .ok (.newarray .int, 2) := by decide +kernel
theorem dX2_init_13 : decode cX2_init 13 = .ok (.putfield 15, 3) := by decide +kernel
theorem dX2_init_16 : decode cX2_init 16 = .ok (.aload_n 0, 1) := by decide +kernel
theorem dX2_init_17 : decode cX2_init 17 = .ok (.getfield 15, 3) := by decide +kernel
theorem dX2_init_20 : decode cX2_init 20 = .ok (.iconst 0, 1) := by decide +kernel
theorem dX2_init_21 : decode cX2_init 21 = .ok (.iconst 1, 1) := by decide +kernel
theorem dX2_init_22 : decode cX2_init 22 = .ok (.iastore, 1) := by decide +kernel
theorem dX2_init_23 : decode cX2_init 23 = .ok (.return_, 1) := by decide +kernel
theorem dX2_knows_0 : decode cX2_knows 0 = .ok (.iload_n 1, 1) := by decide +kernel
theorem dX2_knows_1 : decode cX2_knows 1 = .ok (.ifCond .lt 15, 3) := by decide +kernel
theorem dX2_knows_4 : decode cX2_knows 4 = .ok (.iload_n 1, 1) := by decide +kernel
theorem dX2_knows_5 : decode cX2_knows 5 = .ok (.aload_n 0, 1) := by decide +kernel
theorem dX2_knows_6 : decode cX2_knows 6 = .ok (.getfield 9, 3) := by decide +kernel
theorem dX2_knows_9 : decode cX2_knows 9 = .ok (.if_icmp .ge 7, 3) := by decide +kernel
theorem dX2_knows_12 : decode cX2_knows 12 = .ok (.iconst 1, 1) := by decide +kernel
theorem dX2_knows_13 : decode cX2_knows 13 = .ok (.goto 4, 3) := by decide +kernel
theorem dX2_knows_16 : decode cX2_knows 16 = .ok (.iconst 0, 1) := by decide +kernel
theorem dX2_knows_17 : decode cX2_knows 17 = .ok (.ireturn, 1) := by decide +kernel
theorem dX2_sumOfWeights_0 : decode cX2_sumOfWeights 0 = .ok (.iconst 0, 1) := by decide +kernel
theorem dX2_sumOfWeights_1 : decode cX2_sumOfWeights 1 = .ok (.istore_n 1, 1) := by decide +kernel
theorem dX2_sumOfWeights_2 : decode cX2_sumOfWeights 2 = .ok (.iconst 0, 1) := by decide +kernel
theorem dX2_sumOfWeights_3 : decode cX2_sumOfWeights 3 = .ok (.istore_n 2, 1) := by decide +kernel
theorem dX2_sumOfWeights_4 : decode cX2_sumOfWeights 4 = .ok (.iload_n 2, 1) := by decide +kernel
theorem dX2_sumOfWeights_5 : decode cX2_sumOfWeights 5 = .ok (.aload_n 0, 1) := by decide +kernel
theorem dX2_sumOfWeights_6 : decode cX2_sumOfWeights 6 = .ok (.getfield 9, 3) := by decide +kernel
theorem dX2_sumOfWeights_9 : decode cX2_sumOfWeights 9 = .ok (.if_icmp .ge 18, 3) := by decide +kernel
theorem dX2_sumOfWeights_12 : decode cX2_sumOfWeights 12 = .ok (.iload_n 1, 1) := by decide +kernel
theorem dX2_sumOfWeights_13 : decode cX2_sumOfWeights 13 = .ok (.aload_n 0, 1) := by decide +kernel
theorem dX2_sumOfWeights_14 : decode cX2_sumOfWeights 14 = .ok (.getfield 15, 3) := by decide +kernel
theorem dX2_sumOfWeights_17 : decode cX2_sumOfWeights 17 = .ok (.iload_n 2, 1) := by decide +kernel
theorem dX2_sumOfWeights_18 : decode cX2_sumOfWeights 18 = .ok (.iaload, 1) := by decide +kernel
theorem dX2_sumOfWeights_19 : decode cX2_sumOfWeights 19 = .ok (.iadd, 1) := by decide +kernel
theorem dX2_sumOfWeights_20 : decode cX2_sumOfWeights 20 = .ok (.istore_n 1, 1) := by decide +kernel
theorem dX2_sumOfWeights_21 : decode cX2_sumOfWeights 21 = .ok (.iinc 2 1, 3) := by decide +kernel
theorem dX2_sumOfWeights_24 : decode cX2_sumOfWeights 24 = .ok (.goto (-20), 3) := by decide +kernel
theorem dX2_sumOfWeights_27 : decode cX2_sumOfWeights 27 = .ok (.iload_n 1, 1) := by decide +kernel
theorem dX2_sumOfWeights_28 : decode cX2_sumOfWeights 28 = .ok (.ireturn, 1) := by decide +kernel
theorem dX3_init_0 : decode cX3_init 0 = .ok (.aload_n 0, 1) := by decide +kernel
theorem dX3_init_1 : decode cX3_init 1 = .ok (.invokespecial 3, 3) := by decide +kernel
theorem dX3_init_4 : decode cX3_init 4 = .ok (.aload_n 0, 1) := by decide +kernel
theorem dX3_init_5 : decode cX3_init 5 = .ok (.iconst 3, 1) := by decide +kernel
theorem dX3_init_6 : decode cX3_init 6 = .ok (.newarray .int, 2) := by decide +kernel
theorem dX3_init_8 : decode cX3_init 8 = .ok (.putfield 9, 3) := by decide +kernel
theorem dX3_init_11 : decode cX3_init 11 = .ok (.aload_n 0, 1) := by decide +kernel
theorem dX3_init_12 : decode cX3_init 12 = .ok (.iconst 3, 1) := by decide +kernel
theorem dX3_init_13 : decode cX3_init 13 = .ok (.newarray .int, 2) := by decide +kernel
theorem dX3_init_15 : decode cX3_init 15 = .ok (.putfield 15, 3) := by decide +kernel
theorem dX3_init_18 : decode cX3_init 18 = .ok (.aload_n 0, 1) := by decide +kernel
theorem dX3_init_19 : decode cX3_init 19 = .ok (.iconst 4, 1) := by decide +kernel
theorem dX3_init_20 : decode cX3_init 20 = .ok (.newarray .int, 2) := by decide +kernel
theorem dX3_init_22 : decode cX3_init 22 = .ok (.putfield 18, 3) := by decide +kernel
theorem dX3_init_25 : decode cX3_init 25 = .ok (.aload_n 0, 1) := by decide +kernel
theorem dX3_init_26 : decode cX3_init 26 = .ok (.iconst 4, 1) := by decide +kernel
theorem dX3_init_27 : decode cX3_init 27 = .ok (.newarray .int, 2) := by decide +kernel
theorem dX3_init_29 : decode cX3_init 29 = .ok (.putfield 21, 3) := by decide +kernel
theorem dX3_init_32 : decode cX3_init 32 = .ok (.aload_n 0, 1) := by decide +kernel
theorem dX3_init_33 : decode cX3_init 33 = .ok (.bipush 6, 2) := by decide +kernel
theorem dX3_init_35 : decode cX3_init 35 = .ok (.newarray .int, 2) := by decide +kernel
theorem dX3_init_37 : decode cX3_init 37 = .ok (.putfield 24, 3) := by decide +kernel
theorem dX3_init_40 : decode cX3_init 40 = .ok (.aload_n 0, 1) := by decide +kernel
theorem dX3_init_41 : decode cX3_init 41 = .ok (.bipush 60, 2) := by decide +kernel
theorem dX3_init_43 : decode cX3_init 43 = .ok (.newarray .int, 2) := by decide +kernel
theorem dX3_init_45 : decode cX3_init 45 = .ok (.putfield 27, 3) := by decide +kernel
theorem dX3_init_48 : decode cX3_init 48 = .ok (.aload_n 0, 1) := by decide +kernel
theorem dX3_init_49 : decode cX3_init 49 = .ok (.bipush 24, 2) := by decide +kernel
theorem dX3_init_51 : decode cX3_init 51 = .ok (.newarray .int, 2) := by decide +kernel
theorem dX3_init_53 : decode cX3_init 53 = .ok (.putfield 30, 3) := by decide +kernel
theorem dX3_init_56 : decode cX3_init 56 = .ok (.aload_n 0, 1) := by decide +kernel
theorem dX3_init_57 : decode cX3_init 57 = .ok (.sipush 256, 3) := by decide +kernel
theorem dX3_init_60 : decode cX3_init 60 = .ok (.newarray .int, 2) := by decide +kernel
theorem dX3_init_62 : decode cX3_init 62 = .ok (.putfield 33, 3) := by decide +kernel
theorem dX3_init_65 : decode cX3_init 65 = .ok (.aload_n 0, 1) := by decide +kernel
theorem dX3_init_66 : decode cX3_init 66 = .ok (.sipush 256, 3) := by decide +kernel
theorem dX3_init_69 : decode cX3_init 69 = .ok (.newarray .int, 2) := by decide +kernel
theorem dX3_init_71 : decode cX3_init 71 = .ok (.putfield 36, 3) := by decide +kernel
theorem dX3_init_74 : decode cX3_init 74 = .ok (.aload_n 0, 1) := by decide +kernel
theorem dX3_init_75 : decode cX3_init 75 = .ok (.bipush 6, 2) := by decide +kernel
theorem dX3_init_77 : decode cX3_init 77 = .ok (.newarray .int, 2) := by decide +kernel
theorem dX3_init_79 : decode cX3_init 79 = .ok (.putfield 39, 3) := by decide +kernel
theorem dX3_init_82 : decode cX3_init 82 = .ok (.aload_n 0, 1) := by decide +kernel
theorem dX3_init_83 : decode cX3_init 83 = .ok (.iconst 4, 1) := by decide +kernel
theorem dX3_init_84 : decode cX3_init 84 = .ok (.newarray .int, 2) := by decide +kernel
theorem dX3_init_86 : decode cX3_init 86 = .ok (.putfield 42, 3) := by decide +kernel
theorem dX3_init_89 : decode cX3_init 89 = .ok (.aload_n 0, 1) := by decide +kernel
theorem dX3_init_90 : decode cX3_init 90 = .ok (.iconst 4, 1) := by decide +kernel
theorem dX3_init_91 : decode cX3_init 91 = .ok (.newarray .int, 2) := by decide +kernel
theorem dX3_init_93 : decode cX3_init 93 = .ok (.putfield 45, 3) := by decide +kernel
theorem dX3_init_96 : decode cX3_init 96 = .ok (.aload_n 0, 1) := by decide +kernel
theorem dX3_init_97 : decode cX3_init 97 = .ok (.iconst 3, 1) := by decide +kernel
theorem dX3_init_98 : decode cX3_init 98 = .ok (.newarray .int, 2) := by decide +kernel
theorem dX3_init_100 : decode cX3_init 100 = .ok (.putfield 48, 3) := by decide +kernel
theorem dX3_init_103 : decode cX3_init 103 = .ok (.aload_n 0, 1) := by decide +kernel
theorem dX3_init_104 : decode cX3_init 104 = .ok (.getfield 33, 3) := by decide +kernel
theorem dX3_init_107 : decode cX3_init 107 = .ok (.bipush (-9), 2) := by decide +kernel
theorem dX3_init_109 : decode cX3_init 109 = .ok (.invokestatic 51, 3) := by decide +kernel
theorem dX3_init_112 : decode cX3_init 112 = .ok (.return_, 1) := by decide +kernel
theorem dX3_forget_0 : decode cX3_forget 0 = .ok (.aload_n 0, 1) := by decide +kernel
theorem dX3_forget_1 : decode cX3_forget 1 = .ok (.getfield 33, 3) := by decide +kernel
theorem dX3_forget_4 : decode cX3_forget 4 = .ok (.bipush (-9), 2) := by decide +kernel
theorem dX3_forget_6 : decode cX3_forget 6 = .ok (.invokestatic 51, 3) := by decide +kernel
theorem dX3_forget_9 : decode cX3_forget 9 = .ok (.aload_n 0, 1) := by decide +kernel
theorem dX3_forget_10 : decode cX3_forget 10 = .ok (.getfield 36, 3) := by decide +kernel
theorem dX3_forget_13 : decode cX3_forget 13 = .ok (.iconst 0, 1) := by decide +kernel
theorem dX3_forget_14 : decode cX3_forget 14 = .ok (.invokestatic 51, 3) := by decide +kernel
theorem dX3_forget_17 : decode cX3_forget 17 = .ok (.return_, 1) := by decide +kernel
theorem dX3_isJoinedTo_0 : decode cX3_isJoinedTo 0 = .ok (.iconst 0, 1) := by decide +kernel
theorem dX3_isJoinedTo_1 : decode cX3_isJoinedTo 1 = .ok (.istore_n 2, 1) := by decide +kernel
theorem dX3_isJoinedTo_2 : decode cX3_isJoinedTo 2 = .ok (.iload_n 2, 1) := by decide +kernel
theorem dX3_isJoinedTo_3 : decode cX3_isJoinedTo 3 = .ok (.aload_n 0, 1) := by decide +kernel
theorem dX3_isJoinedTo_4 : decode cX3_isJoinedTo 4 = .ok (.getfield 57, 3) := by decide +kernel
theorem dX3_isJoinedTo_7 : decode cX3_isJoinedTo 7 = .ok (.if_icmp .ge 21, 3) := by decide +kernel
theorem dX3_isJoinedTo_10 : decode cX3_isJoinedTo 10 = .ok (.aload_n 0, 1) := by decide +kernel
theorem dX3_isJoinedTo_11 : decode cX3_isJoinedTo 11 = .ok (.getfield 9, 3) := by decide +kernel
theorem dX3_isJoinedTo_14 : decode cX3_isJoinedTo 14 = .ok (.iload_n 2, 1) := by decide +kernel
theorem dX3_isJoinedTo_15 : decode cX3_isJoinedTo 15 = .ok (.iaload, 1) := by decide +kernel
theorem dX3_isJoinedTo_16 : decode cX3_isJoinedTo 16 = .ok (.iload_n 1, 1) := by decide +kernel
theorem dX3_isJoinedTo_17 : decode cX3_isJoinedTo 17 = .ok (.if_icmp .ne 5, 3) := by decide +kernel
theorem dX3_isJoinedTo_20 : decode cX3_isJoinedTo 20 = .ok (.iconst 1, 1) := by decide +kernel
theorem dX3_isJoinedTo_21 : decode cX3_isJoinedTo 21 = .ok (.ireturn, 1) := by decide +kernel
theorem dX3_isJoinedTo_22 : decode cX3_isJoinedTo 22 = .ok (.iinc 2 1, 3) := by decide +kernel
theorem dX3_isJoinedTo_25 : decode cX3_isJoinedTo 25 = .ok (.goto (-23), 3) := by decide +kernel
theorem dX3_isJoinedTo_28 : decode cX3_isJoinedTo 28 = .ok (.iconst 0, 1) := by decide +kernel
theorem dX3_isJoinedTo_29 : decode cX3_isJoinedTo 29 = .ok (.ireturn, 1) := by decide +kernel
theorem dX3_knowsLocal_0 : decode cX3_knowsLocal 0 = .ok (.iload_n 1, 1) := by decide +kernel
theorem dX3_knowsLocal_1 : decode cX3_knowsLocal 1 = .ok (.ifCond .lt 15, 3) := by decide +kernel
theorem dX3_knowsLocal_4 : decode cX3_knowsLocal 4 = .ok (.iload_n 1, 1) := by decide +kernel
theorem dX3_knowsLocal_5 : decode cX3_knowsLocal 5 = .ok (.aload_n 0, 1) := by decide +kernel
theorem dX3_knowsLocal_6 : decode cX3_knowsLocal 6 = .ok (.getfield 61, 3) := by decide +kernel
theorem dX3_knowsLocal_9 : decode cX3_knowsLocal 9 = .ok (.if_icmp .ge 7, 3) := by decide +kernel
theorem dX3_knowsLocal_12 : decode cX3_knowsLocal 12 = .ok (.iconst 1, 1) := by decide +kernel
theorem dX3_knowsLocal_13 : decode cX3_knowsLocal 13 = .ok (.goto 4, 3) := by decide +kernel
theorem dX3_knowsLocal_16 : decode cX3_knowsLocal 16 = .ok (.iconst 0, 1) := by decide +kernel
theorem dX3_knowsLocal_17 : decode cX3_knowsLocal 17 = .ok (.ireturn, 1) := by decide +kernel
theorem dX3_joinTo_0 : decode cX3_joinTo 0 = .ok (.aload_n 0, 1) := by decide +kernel
theorem dX3_joinTo_1 : decode cX3_joinTo 1 = .ok (.getfield 57, 3) := by decide +kernel
theorem dX3_joinTo_4 : decode cX3_joinTo 4 = .ok (.istore_n 3, 1) := by decide +kernel
theorem dX3_joinTo_5 : decode cX3_joinTo 5 = .ok (.iload_n 3, 1) := by decide +kernel
theorem dX3_joinTo_6 : decode cX3_joinTo 6 = .ok (.ifCond .le 49, 3) := by decide +kernel
theorem dX3_joinTo_9 : decode cX3_joinTo 9 = .ok (.aload_n 0, 1) := by decide +kernel
theorem dX3_joinTo_10 : decode cX3_joinTo 10 = .ok (.getfield 9, 3) := by decide +kernel
theorem dX3_joinTo_13 : decode cX3_joinTo 13 = .ok (.iload_n 3, 1) := by decide +kernel
theorem dX3_joinTo_14 : decode cX3_joinTo 14 = .ok (.iconst 1, 1) := by decide +kernel
theorem dX3_joinTo_15 : decode cX3_joinTo 15 = .ok (.isub, 1) := by decide +kernel
theorem dX3_joinTo_16 : decode cX3_joinTo 16 = .ok (.iaload, 1) := by decide +kernel
theorem dX3_joinTo_17 : decode cX3_joinTo 17 = .ok (.iload_n 1, 1) := by decide +kernel
theorem dX3_joinTo_18 : decode cX3_joinTo 18 = .ok (.if_icmp .le 37, 3) := by decide +kernel
theorem dX3_joinTo_21 : decode cX3_joinTo 21 = .ok (.aload_n 0, 1) := by decide +kernel
theorem dX3_joinTo_22 : decode cX3_joinTo 22 = .ok (.getfield 9, 3) := by decide +kernel
theorem dX3_joinTo_25 : decode cX3_joinTo 25 = .ok (.iload_n 3, 1) := by decide +kernel
theorem dX3_joinTo_26 : decode cX3_joinTo 26 = .ok (.aload_n 0, 1) := by decide +kernel
theorem dX3_joinTo_27 : decode cX3_joinTo 27 = .ok (.getfield 9, 3) := by decide +kernel
theorem dX3_joinTo_30 : decode cX3_joinTo 30 = .ok (.iload_n 3, 1) := by decide +kernel
theorem dX3_joinTo_31 : decode cX3_joinTo 31 = .ok (.iconst 1, 1) := by decide +kernel
theorem dX3_joinTo_32 : decode cX3_joinTo 32 = .ok (.isub, 1) := by decide +kernel
theorem dX3_joinTo_33 : decode cX3_joinTo 33 = .ok (.iaload, 1) := by decide +kernel
theorem dX3_joinTo_34 : decode cX3_joinTo 34 = .ok (.iastore, 1) := by decide +kernel
theorem dX3_joinTo_35 : decode cX3_joinTo 35 = .ok (.aload_n 0, 1) := by decide +kernel
theorem dX3_joinTo_36 : decode cX3_joinTo 36 = .ok (.getfield 15, 3) := by decide +kernel
theorem dX3_joinTo_39 : decode cX3_joinTo 39 = .ok (.iload_n 3, 1) := by decide +kernel
theorem dX3_joinTo_40 : decode cX3_joinTo 40 = .ok (.aload_n 0, 1) := by decide +kernel
theorem dX3_joinTo_41 : decode cX3_joinTo 41 = .ok (.getfield 15, 3) := by decide +kernel
theorem dX3_joinTo_44 : decode cX3_joinTo 44 = .ok (.iload_n 3, 1) := by decide +kernel
theorem dX3_joinTo_45 : decode cX3_joinTo 45 = .ok (.iconst 1, 1) := by decide +kernel
theorem dX3_joinTo_46 : decode cX3_joinTo 46 = .ok (.isub, 1) := by decide +kernel
theorem dX3_joinTo_47 : decode cX3_joinTo 47 = .ok (.iaload, 1) := by decide +kernel
theorem dX3_joinTo_48 : decode cX3_joinTo 48 = .ok (.iastore, 1) := by decide +kernel
theorem dX3_joinTo_49 : decode cX3_joinTo 49 = .ok (.iinc 3 (-1), 3) := by decide +kernel
theorem dX3_joinTo_52 : decode cX3_joinTo 52 = .ok (.goto (-47), 3) := by decide +kernel
theorem dX3_joinTo_55 : decode cX3_joinTo 55 = .ok (.aload_n 0, 1) := by decide +kernel
theorem dX3_joinTo_56 : decode cX3_joinTo 56 = .ok (.getfield 9, 3) := by decide +kernel
theorem dX3_joinTo_59 : decode cX3_joinTo 59 = .ok (.iload_n 3, 1) := by decide +kernel
theorem dX3_joinTo_60 : decode cX3_joinTo 60 = .ok (.iload_n 1, 1) := by decide +kernel
theorem dX3_joinTo_61 : decode cX3_joinTo 61 = .ok (.iastore, 1) := by decide +kernel
theorem dX3_joinTo_62 : decode cX3_joinTo 62 = .ok (.aload_n 0, 1) := by decide +kernel
theorem dX3_joinTo_63 : decode cX3_joinTo 63 = .ok (.getfield 15, 3) := by decide +kernel
theorem dX3_joinTo_66 : decode cX3_joinTo 66 = .ok (.iload_n 3, 1) := by decide +kernel
theorem dX3_joinTo_67 : decode cX3_joinTo 67 = .ok (.iload_n 2, 1) := by decide +kernel
theorem dX3_joinTo_68 : decode cX3_joinTo 68 = .ok (.iastore, 1) := by decide +kernel
theorem dX3_joinTo_69 : decode cX3_joinTo 69 = .ok (.aload_n 0, 1) := by decide +kernel
theorem dX3_joinTo_70 : decode cX3_joinTo 70 = .ok (.dup, 1) := by decide +kernel
theorem dX3_joinTo_71 : decode cX3_joinTo 71 = .ok (.getfield 57, 3) := by decide +kernel
theorem dX3_joinTo_74 : decode cX3_joinTo 74 = .ok (.iconst 1, 1) := by decide +kernel
theorem dX3_joinTo_75 : decode cX3_joinTo 75 = .ok (.iadd, 1) := by decide +kernel
theorem dX3_joinTo_76 : decode cX3_joinTo 76 = .ok (.putfield 57, 3) := by decide +kernel
theorem dX3_joinTo_79 : decode cX3_joinTo 79 = .ok (.return_, 1) := by decide +kernel
theorem dX3_settledAt_0 : decode cX3_settledAt 0 = .ok (.aload_n 0, 1) := by decide +kernel
theorem dX3_settledAt_1 : decode cX3_settledAt 1 = .ok (.getfield 57, 3) := by decide +kernel
theorem dX3_settledAt_4 : decode cX3_settledAt 4 = .ok (.ifCond .ne 7, 3) := by decide +kernel
theorem dX3_settledAt_7 : decode cX3_settledAt 7 = .ok (.iconst 0, 1) := by decide +kernel
theorem dX3_settledAt_8 : decode cX3_settledAt 8 = .ok (.goto 16, 3) := by decide +kernel
theorem dX3_settledAt_11 : decode cX3_settledAt 11 = .ok (.aload_n 0, 1) := by decide +kernel
theorem dX3_settledAt_12 : decode cX3_settledAt 12 = .ok (.getfield 9, 3) := by decide +kernel
theorem dX3_settledAt_15 : decode cX3_settledAt 15 = .ok (.aload_n 0, 1) := by decide +kernel
theorem dX3_settledAt_16 : decode cX3_settledAt 16 = .ok (.getfield 57, 3) := by decide +kernel
theorem dX3_settledAt_19 : decode cX3_settledAt 19 = .ok (.iconst 1, 1) := by decide +kernel
theorem dX3_settledAt_20 : decode cX3_settledAt 20 = .ok (.isub, 1) := by decide +kernel
theorem dX3_settledAt_21 : decode cX3_settledAt 21 = .ok (.iaload, 1) := by decide +kernel
theorem dX3_settledAt_22 : decode cX3_settledAt 22 = .ok (.iconst 1, 1) := by decide +kernel
theorem dX3_settledAt_23 : decode cX3_settledAt 23 = .ok (.iadd, 1) := by decide +kernel
theorem dX3_settledAt_24 : decode cX3_settledAt 24 = .ok (.ireturn, 1) := by decide +kernel
theorem dX3_spotOf_0 : decode cX3_spotOf 0 = .ok (.iconst 0, 1) := by decide +kernel
theorem dX3_spotOf_1 : decode cX3_spotOf 1 = .ok (.istore_n 2, 1) := by decide +kernel
theorem dX3_spotOf_2 : decode cX3_spotOf 2 = .ok (.iconst 0, 1) := by decide +kernel
theorem dX3_spotOf_3 : decode cX3_spotOf 3 = .ok (.istore_n 3, 1) := by decide +kernel
theorem dX3_spotOf_4 : decode cX3_spotOf 4 = .ok (.iload_n 3, 1) := by decide +kernel
theorem dX3_spotOf_5 : decode cX3_spotOf 5 = .ok (.aload_n 0, 1) := by decide +kernel
theorem dX3_spotOf_6 : decode cX3_spotOf 6 = .ok (.getfield 57, 3) := by decide +kernel
theorem dX3_spotOf_9 : decode cX3_spotOf 9 = .ok (.if_icmp .ge 24, 3) := by decide +kernel
theorem dX3_spotOf_12 : decode cX3_spotOf 12 = .ok (.iload_n 2, 1) := by decide +kernel
theorem dX3_spotOf_13 : decode cX3_spotOf 13 = .ok (.aload_n 1, 1) := by decide +kernel
theorem dX3_spotOf_14 : decode cX3_spotOf 14 = .ok (.aload_n 0, 1) := by decide +kernel
theorem dX3_spotOf_15 : decode cX3_spotOf 15 = .ok (.getfield 9, 3) := by decide +kernel
theorem dX3_spotOf_18 : decode cX3_spotOf 18 = .ok (.iload_n 3, 1) := by decide +kernel
theorem dX3_spotOf_19 : decode cX3_spotOf 19 = .ok (.iaload, 1) := by decide +kernel
theorem dX3_spotOf_20 : decode cX3_spotOf 20 = .ok (.iaload, 1) := by decide +kernel
theorem dX3_spotOf_21 : decode cX3_spotOf 21 = .ok (.iload_n 3, 1) := by decide +kernel
theorem dX3_spotOf_22 : decode cX3_spotOf 22 = .ok (.iconst 2, 1) := by decide +kernel
theorem dX3_spotOf_23 : decode cX3_spotOf 23 = .ok (.imul, 1) := by decide +kernel
theorem dX3_spotOf_24 : decode cX3_spotOf 24 = .ok (.ishl, 1) := by decide +kernel
theorem dX3_spotOf_25 : decode cX3_spotOf 25 = .ok (.ior, 1) := by decide +kernel
theorem dX3_spotOf_26 : decode cX3_spotOf 26 = .ok (.istore_n 2, 1) := by decide +kernel
theorem dX3_spotOf_27 : decode cX3_spotOf 27 = .ok (.iinc 3 1, 3) := by decide +kernel
theorem dX3_spotOf_30 : decode cX3_spotOf 30 = .ok (.goto (-26), 3) := by decide +kernel
theorem dX3_spotOf_33 : decode cX3_spotOf 33 = .ok (.iload_n 2, 1) := by decide +kernel
theorem dX3_spotOf_34 : decode cX3_spotOf 34 = .ok (.ireturn, 1) := by decide +kernel
theorem dX3_costTo_0 : decode cX3_costTo 0 = .ok (.aload_n 0, 1) := by decide +kernel
theorem dX3_costTo_1 : decode cX3_costTo 1 = .ok (.aload_n 1, 1) := by decide +kernel
theorem dX3_costTo_2 : decode cX3_costTo 2 = .ok (.invokevirtual 64, 3) := by decide +kernel
theorem dX3_costTo_5 : decode cX3_costTo 5 = .ok (.istore 4, 2) := by decide +kernel
theorem dX3_costTo_7 : decode cX3_costTo 7 = .ok (.iconst 0, 1) := by decide +kernel
theorem dX3_costTo_8 : decode cX3_costTo 8 = .ok (.istore 5, 2) := by decide +kernel
theorem dX3_costTo_10 : decode cX3_costTo 10 = .ok (.iconst 0, 1) := by decide +kernel
theorem dX3_costTo_11 : decode cX3_costTo 11 = .ok (.istore 6, 2) := by decide +kernel
theorem dX3_costTo_13 : decode cX3_costTo 13 = .ok (.iload 6, 2) := by decide +kernel
theorem dX3_costTo_15 : decode cX3_costTo 15 = .ok (.aload_n 2, 1) := by decide +kernel
theorem dX3_costTo_16 : decode cX3_costTo 16 = .ok (.getfield 68, 3) := by decide +kernel
theorem dX3_costTo_19 : decode cX3_costTo 19 = .ok (.if_icmp .ge 64, 3) := by decide +kernel
theorem dX3_costTo_22 : decode cX3_costTo 22 = .ok (.iload_n 3, 1) := by decide +kernel
theorem dX3_costTo_23 : decode cX3_costTo 23 = .ok (.ifCond .eq 19, 3) := by decide +kernel
theorem dX3_costTo_26 : decode cX3_costTo 26 = .ok (.aload_n 0, 1) := by decide +kernel
theorem dX3_costTo_27 : decode cX3_costTo 27 = .ok (.getfield 36, 3) := by decide +kernel
theorem dX3_costTo_30 : decode cX3_costTo 30 = .ok (.iload 6, 2) := by decide +kernel
theorem dX3_costTo_32 : decode cX3_costTo 32 = .ok (.bipush 64, 2) := by decide +kernel
theorem dX3_costTo_34 : decode cX3_costTo 34 = .ok (.imul, 1) := by decide +kernel
theorem dX3_costTo_35 : decode cX3_costTo 35 = .ok (.iload 4, 2) := by decide +kernel
theorem dX3_costTo_37 : decode cX3_costTo 37 = .ok (.iadd, 1) := by decide +kernel
theorem dX3_costTo_38 : decode cX3_costTo 38 = .ok (.iaload, 1) := by decide +kernel
theorem dX3_costTo_39 : decode cX3_costTo 39 = .ok (.goto 11, 3) := by decide +kernel
theorem dX3_costTo_42 : decode cX3_costTo 42 = .ok (.aload_n 0, 1) := by decide +kernel
theorem dX3_costTo_43 : decode cX3_costTo 43 = .ok (.iload 4, 2) := by decide +kernel
theorem dX3_costTo_45 : decode cX3_costTo 45 = .ok (.iload 6, 2) := by decide +kernel
theorem dX3_costTo_47 : decode cX3_costTo 47 = .ok (.invokevirtual 73, 3) := by decide +kernel
theorem dX3_costTo_50 : decode cX3_costTo 50 = .ok (.istore 7, 2) := by decide +kernel
theorem dX3_costTo_52 : decode cX3_costTo 52 = .ok (.iload 7, 2) := by decide +kernel
theorem dX3_costTo_54 : decode cX3_costTo 54 = .ok (.bipush (-4), 2) := by decide +kernel
theorem dX3_costTo_56 : decode cX3_costTo 56 = .ok (.if_icmp .ne 6, 3) := by decide +kernel
theorem dX3_costTo_59 : decode cX3_costTo 59 = .ok (.bipush (-4), 2) := by decide +kernel
theorem dX3_costTo_61 : decode cX3_costTo 61 = .ok (.ireturn, 1) := by decide +kernel
theorem dX3_costTo_62 : decode cX3_costTo 62 = .ok (.iload 5, 2) := by decide +kernel
theorem dX3_costTo_64 : decode cX3_costTo 64 = .ok (.aload_n 2, 1) := by decide +kernel
theorem dX3_costTo_65 : decode cX3_costTo 65 = .ok (.getfield 77, 3) := by decide +kernel
theorem dX3_costTo_68 : decode cX3_costTo 68 = .ok (.iload 6, 2) := by decide +kernel
theorem dX3_costTo_70 : decode cX3_costTo 70 = .ok (.iaload, 1) := by decide +kernel
theorem dX3_costTo_71 : decode cX3_costTo 71 = .ok (.iload 7, 2) := by decide +kernel
theorem dX3_costTo_73 : decode cX3_costTo 73 = .ok (.imul, 1) := by decide +kernel
theorem dX3_costTo_74 : decode cX3_costTo 74 = .ok (.iadd, 1) := by decide +kernel
theorem dX3_costTo_75 : decode cX3_costTo 75 = .ok (.istore 5, 2) := by decide +kernel
theorem dX3_costTo_77 : decode cX3_costTo 77 = .ok (.iinc 6 1, 3) := by decide +kernel
theorem dX3_costTo_80 : decode cX3_costTo 80 = .ok (.goto (-67), 3) := by decide +kernel
theorem dX3_costTo_83 : decode cX3_costTo 83 = .ok (.iload 5, 2) := by decide +kernel
theorem dX3_costTo_85 : decode cX3_costTo 85 = .ok (.ireturn, 1) := by decide +kernel
theorem dX3_answerTo_0 : decode cX3_answerTo 0 = .ok (.iload_n 2, 1) := by decide +kernel
theorem dX3_answerTo_1 : decode cX3_answerTo 1 = .ok (.bipush 64, 2) := by decide +kernel
theorem dX3_answerTo_3 : decode cX3_answerTo 3 = .ok (.imul, 1) := by decide +kernel
theorem dX3_answerTo_4 : decode cX3_answerTo 4 = .ok (.iload_n 1, 1) := by decide +kernel
theorem dX3_answerTo_5 : decode cX3_answerTo 5 = .ok (.iadd, 1) := by decide +kernel
theorem dX3_answerTo_6 : decode cX3_answerTo 6 = .ok (.istore_n 3, 1) := by decide +kernel
theorem dX3_answerTo_7 : decode cX3_answerTo 7 = .ok (.aload_n 0, 1) := by decide +kernel
theorem dX3_answerTo_8 : decode cX3_answerTo 8 = .ok (.getfield 33, 3) := by decide +kernel
theorem dX3_answerTo_11 : decode cX3_answerTo 11 = .ok (.iload_n 3, 1) := by decide +kernel
theorem dX3_answerTo_12 : decode cX3_answerTo 12 = .ok (.iaload, 1) := by decide +kernel
theorem dX3_answerTo_13 : decode cX3_answerTo 13 = .ok (.bipush (-9), 2) := by decide +kernel
theorem dX3_answerTo_15 : decode cX3_answerTo 15 = .ok (.if_icmp .ne 15, 3) := by decide +kernel
theorem dX3_answerTo_18 : decode cX3_answerTo 18 = .ok (.aload_n 0, 1) := by decide +kernel
theorem dX3_answerTo_19 : decode cX3_answerTo 19 = .ok (.getfield 33, 3) := by decide +kernel
theorem dX3_answerTo_22 : decode cX3_answerTo 22 = .ok (.iload_n 3, 1) := by decide +kernel
theorem dX3_answerTo_23 : decode cX3_answerTo 23 = .ok (.aload_n 0, 1) := by decide +kernel
theorem dX3_answerTo_24 : decode cX3_answerTo 24 = .ok (.iload_n 1, 1) := by decide +kernel
theorem dX3_answerTo_25 : decode cX3_answerTo 25 = .ok (.iload_n 2, 1) := by decide +kernel
theorem dX3_answerTo_26 : decode cX3_answerTo 26 = .ok (.invokevirtual 80, 3) := by decide +kernel
theorem dX3_answerTo_29 : decode cX3_answerTo 29 = .ok (.iastore, 1) := by decide +kernel
theorem dX3_answerTo_30 : decode cX3_answerTo 30 = .ok (.aload_n 0, 1) := by decide +kernel
theorem dX3_answerTo_31 : decode cX3_answerTo 31 = .ok (.getfield 33, 3) := by decide +kernel
theorem dX3_answerTo_34 : decode cX3_answerTo 34 = .ok (.iload_n 3, 1) := by decide +kernel
theorem dX3_answerTo_35 : decode cX3_answerTo 35 = .ok (.iaload, 1) := by decide +kernel
theorem dX3_answerTo_36 : decode cX3_answerTo 36 = .ok (.ireturn, 1) := by decide +kernel
theorem dX3_solve_0 : decode cX3_solve 0 = .ok (.aload_n 0, 1) := by decide +kernel
theorem dX3_solve_1 : decode cX3_solve 1 = .ok (.iload_n 1, 1) := by decide +kernel
theorem dX3_solve_2 : decode cX3_solve 2 = .ok (.iload_n 2, 1) := by decide +kernel
theorem dX3_solve_3 : decode cX3_solve 3 = .ok (.invokevirtual 83, 3) := by decide +kernel
theorem dX3_solve_6 : decode cX3_solve 6 = .ok (.aload_n 0, 1) := by decide +kernel
theorem dX3_solve_7 : decode cX3_solve 7 = .ok (.getfield 42, 3) := by decide +kernel
theorem dX3_solve_10 : decode cX3_solve 10 = .ok (.iconst 0, 1) := by decide +kernel
theorem dX3_solve_11 : decode cX3_solve 11 = .ok (.invokestatic 51, 3) := by decide +kernel
theorem dX3_solve_14 : decode cX3_solve 14 = .ok (.bipush (-4), 2) := by decide +kernel
theorem dX3_solve_16 : decode cX3_solve 16 = .ok (.istore_n 3, 1) := by decide +kernel
theorem dX3_solve_17 : decode cX3_solve 17 = .ok (.iconst 1, 1) := by decide +kernel
theorem dX3_solve_18 : decode cX3_solve 18 = .ok (.istore 4, 2) := by decide +kernel
theorem dX3_solve_20 : decode cX3_solve 20 = .ok (.iconst 0, 1) := by decide +kernel
theorem dX3_solve_21 : decode cX3_solve 21 = .ok (.istore 5, 2) := by decide +kernel
theorem dX3_solve_23 : decode cX3_solve 23 = .ok (.iload 5, 2) := by decide +kernel
theorem dX3_solve_25 : decode cX3_solve 25 = .ok (.sipush 256, 3) := by decide +kernel
theorem dX3_solve_28 : decode cX3_solve 28 = .ok (.if_icmp .ge 97, 3) := by decide +kernel
theorem dX3_solve_31 : decode cX3_solve 31 = .ok (.iload 4, 2) := by decide +kernel
theorem dX3_solve_33 : decode cX3_solve 33 = .ok (.ifCond .eq 92, 3) := by decide +kernel
theorem dX3_solve_36 : decode cX3_solve 36 = .ok (.aload_n 0, 1) := by decide +kernel
theorem dX3_solve_37 : decode cX3_solve 37 = .ok (.invokevirtual 87, 3) := by decide +kernel
theorem dX3_solve_40 : decode cX3_solve 40 = .ok (.istore 6, 2) := by decide +kernel
theorem dX3_solve_42 : decode cX3_solve 42 = .ok (.iload_n 3, 1) := by decide +kernel
theorem dX3_solve_43 : decode cX3_solve 43 = .ok (.bipush (-4), 2) := by decide +kernel
theorem dX3_solve_45 : decode cX3_solve 45 = .ok (.if_icmp .eq 13, 3) := by decide +kernel
theorem dX3_solve_48 : decode cX3_solve 48 = .ok (.iload 6, 2) := by decide +kernel
theorem dX3_solve_50 : decode cX3_solve 50 = .ok (.iload_n 3, 1) := by decide +kernel
theorem dX3_solve_51 : decode cX3_solve 51 = .ok (.if_icmp .lt 7, 3) := by decide +kernel
theorem dX3_solve_54 : decode cX3_solve 54 = .ok (.iconst 1, 1) := by decide +kernel
theorem dX3_solve_55 : decode cX3_solve 55 = .ok (.goto 4, 3) := by decide +kernel
theorem dX3_solve_58 : decode cX3_solve 58 = .ok (.iconst 0, 1) := by decide +kernel
theorem dX3_solve_59 : decode cX3_solve 59 = .ok (.istore 7, 2) := by decide +kernel
theorem dX3_solve_61 : decode cX3_solve 61 = .ok (.iload 7, 2) := by decide +kernel
theorem dX3_solve_63 : decode cX3_solve 63 = .ok (.ifCond .ne 30, 3) := by decide +kernel
theorem dX3_solve_66 : decode cX3_solve 66 = .ok (.aload_n 0, 1) := by decide +kernel
theorem dX3_solve_67 : decode cX3_solve 67 = .ok (.invokevirtual 91, 3) := by decide +kernel
theorem dX3_solve_70 : decode cX3_solve 70 = .ok (.ifCond .eq 23, 3) := by decide +kernel
theorem dX3_solve_73 : decode cX3_solve 73 = .ok (.iload 6, 2) := by decide +kernel
theorem dX3_solve_75 : decode cX3_solve 75 = .ok (.istore_n 3, 1) := by decide +kernel
theorem dX3_solve_76 : decode cX3_solve 76 = .ok (.aload_n 0, 1) := by decide +kernel
theorem dX3_solve_77 : decode cX3_solve 77 = .ok (.getfield 42, 3) := by decide +kernel
theorem dX3_solve_80 : decode cX3_solve 80 = .ok (.iconst 0, 1) := by decide +kernel
theorem dX3_solve_81 : decode cX3_solve 81 = .ok (.aload_n 0, 1) := by decide +kernel
theorem dX3_solve_82 : decode cX3_solve 82 = .ok (.getfield 45, 3) := by decide +kernel
theorem dX3_solve_85 : decode cX3_solve 85 = .ok (.iconst 0, 1) := by decide +kernel
theorem dX3_solve_86 : decode cX3_solve 86 = .ok (.iconst 4, 1) := by decide +kernel
theorem dX3_solve_87 : decode cX3_solve 87 = .ok (.invokestatic 95, 3) := by decide +kernel
theorem dX3_solve_90 : decode cX3_solve 90 = .ok (.iconst 1, 1) := by decide +kernel
theorem dX3_solve_91 : decode cX3_solve 91 = .ok (.istore 7, 2) := by decide +kernel
theorem dX3_solve_93 : decode cX3_solve 93 = .ok (.aload_n 0, 1) := by decide +kernel
theorem dX3_solve_94 : decode cX3_solve 94 = .ok (.iload 7, 2) := by decide +kernel
theorem dX3_solve_96 : decode cX3_solve 96 = .ok (.ifCond .eq 12, 3) := by decide +kernel
theorem dX3_solve_99 : decode cX3_solve 99 = .ok (.aload_n 0, 1) := by decide +kernel
theorem dX3_solve_100 : decode cX3_solve 100 = .ok (.invokevirtual 101, 3) := by decide +kernel
theorem dX3_solve_103 : decode cX3_solve 103 = .ok (.iconst 1, 1) := by decide +kernel
theorem dX3_solve_104 : decode cX3_solve 104 = .ok (.isub, 1) := by decide +kernel
theorem dX3_solve_105 : decode cX3_solve 105 = .ok (.goto 9, 3) := by decide +kernel
theorem dX3_solve_108 : decode cX3_solve 108 = .ok (.aload_n 0, 1) := by decide +kernel
theorem dX3_solve_109 : decode cX3_solve 109 = .ok (.getfield 61, 3) := by decide +kernel
theorem dX3_solve_112 : decode cX3_solve 112 = .ok (.iconst 1, 1) := by decide +kernel
theorem dX3_solve_113 : decode cX3_solve 113 = .ok (.isub, 1) := by decide +kernel
theorem dX3_solve_114 : decode cX3_solve 114 = .ok (.invokevirtual 104, 3) := by decide +kernel
theorem dX3_solve_117 : decode cX3_solve 117 = .ok (.istore 4, 2) := by decide +kernel
theorem dX3_solve_119 : decode cX3_solve 119 = .ok (.iinc 5 1, 3) := by decide +kernel
theorem dX3_solve_122 : decode cX3_solve 122 = .ok (.goto (-99), 3) := by decide +kernel
theorem dX3_solve_125 : decode cX3_solve 125 = .ok (.iload_n 3, 1) := by decide +kernel
theorem dX3_solve_126 : decode cX3_solve 126 = .ok (.ireturn, 1) := by decide +kernel
theorem dX3_measureRooms_0 : decode cX3_measureRooms 0 = .ok (.iconst 0, 1) := by decide +kernel
theorem dX3_measureRooms_1 : decode cX3_measureRooms 1 = .ok (.istore_n 3, 1) := by decide +kernel
theorem dX3_measureRooms_2 : decode cX3_measureRooms 2 = .ok (.iload_n 3, 1) := by decide +kernel
theorem dX3_measureRooms_3 : decode cX3_measureRooms 3 = .ok (.aload_n 0, 1) := by decide +kernel
theorem dX3_measureRooms_4 : decode cX3_measureRooms 4 = .ok (.getfield 108, 3) := by decide +kernel
theorem dX3_measureRooms_7 : decode cX3_measureRooms 7 = .ok (.if_icmp .ge 92, 3) := by decide +kernel
theorem dX3_measureRooms_10 : decode cX3_measureRooms 10 = .ok (.aload_n 0, 1) := by decide +kernel
theorem dX3_measureRooms_11 : decode cX3_measureRooms 11 = .ok (.getfield 24, 3) := by decide +kernel
theorem dX3_measureRooms_14 : decode cX3_measureRooms 14 = .ok (.iload_n 3, 1) := by decide +kernel
theorem dX3_measureRooms_15 : decode cX3_measureRooms 15 = .ok (.iaload, 1) := by decide +kernel
theorem dX3_measureRooms_16 : decode cX3_measureRooms 16 = .ok (.aload_n 0, 1) := by decide +kernel
theorem dX3_measureRooms_17 : decode cX3_measureRooms 17 = .ok (.getfield 30, 3) := by decide +kernel
theorem dX3_measureRooms_20 : decode cX3_measureRooms 20 = .ok (.iload_n 2, 1) := by decide +kernel
theorem dX3_measureRooms_21 : decode cX3_measureRooms 21 = .ok (.bipush 6, 2) := by decide +kernel
theorem dX3_measureRooms_23 : decode cX3_measureRooms 23 = .ok (.imul, 1) := by decide +kernel
theorem dX3_measureRooms_24 : decode cX3_measureRooms 24 = .ok (.iload_n 3, 1) := by decide +kernel
theorem dX3_measureRooms_25 : decode cX3_measureRooms 25 = .ok (.iadd, 1) := by decide +kernel
theorem dX3_measureRooms_26 : decode cX3_measureRooms 26 = .ok (.iaload, 1) := by decide +kernel
theorem dX3_measureRooms_27 : decode cX3_measureRooms 27 = .ok (.iadd, 1) := by decide +kernel
theorem dX3_measureRooms_28 : decode cX3_measureRooms 28 = .ok (.istore 4, 2) := by decide +kernel
theorem dX3_measureRooms_30 : decode cX3_measureRooms 30 = .ok (.iconst 0, 1) := by decide +kernel
theorem dX3_measureRooms_31 : decode cX3_measureRooms 31 = .ok (.istore 5, 2) := by decide +kernel
theorem dX3_measureRooms_33 : decode cX3_measureRooms 33 = .ok (.iload 5, 2) := by decide +kernel
theorem dX3_measureRooms_35 : decode cX3_measureRooms 35 = .ok (.aload_n 0, 1) := by decide +kernel
theorem dX3_measureRooms_36 : decode cX3_measureRooms 36 = .ok (.getfield 57, 3) := by decide +kernel
theorem dX3_measureRooms_39 : decode cX3_measureRooms 39 = .ok (.if_icmp .ge 46, 3) := by decide +kernel
theorem dX3_measureRooms_42 : decode cX3_measureRooms 42 = .ok (.iload_n 1, 1) := by decide +kernel
theorem dX3_measureRooms_43 : decode cX3_measureRooms 43 = .ok (.iload 5, 2) := by decide +kernel
theorem dX3_measureRooms_45 : decode cX3_measureRooms 45 = .ok (.iconst 2, 1) := by decide +kernel
theorem dX3_measureRooms_46 : decode cX3_measureRooms 46 = .ok (.imul, 1) := by decide +kernel
theorem dX3_measureRooms_47 : decode cX3_measureRooms 47 = .ok (.ishr, 1) := by decide +kernel
theorem dX3_measureRooms_48 : decode cX3_measureRooms 48 = .ok (.iconst 3, 1) := by decide +kernel
theorem dX3_measureRooms_49 : decode cX3_measureRooms 49 = .ok (.iand, 1) := by decide +kernel
theorem dX3_measureRooms_50 : decode cX3_measureRooms 50 = .ok (.istore 6, 2) := by decide +kernel
theorem dX3_measureRooms_52 : decode cX3_measureRooms 52 = .ok (.iload 4, 2) := by decide +kernel
theorem dX3_measureRooms_54 : decode cX3_measureRooms 54 = .ok (.aload_n 0, 1) := by decide +kernel
theorem dX3_measureRooms_55 : decode cX3_measureRooms 55 = .ok (.getfield 27, 3) := by decide +kernel
theorem dX3_measureRooms_58 : decode cX3_measureRooms 58 = .ok (.iload_n 3, 1) := by decide +kernel
theorem dX3_measureRooms_59 : decode cX3_measureRooms 59 = .ok (.bipush 10, 2) := by decide +kernel
theorem dX3_measureRooms_61 : decode cX3_measureRooms 61 = .ok (.imul, 1) := by decide +kernel
theorem dX3_measureRooms_62 : decode cX3_measureRooms 62 = .ok (.iconst 4, 1) := by decide +kernel
theorem dX3_measureRooms_63 : decode cX3_measureRooms 63 = .ok (.iadd, 1) := by decide +kernel
theorem dX3_measureRooms_64 : decode cX3_measureRooms 64 = .ok (.aload_n 0, 1) := by decide +kernel
theorem dX3_measureRooms_65 : decode cX3_measureRooms 65 = .ok (.getfield 9, 3) := by decide +kernel
theorem dX3_measureRooms_68 : decode cX3_measureRooms 68 = .ok (.iload 5, 2) := by decide +kernel
theorem dX3_measureRooms_70 : decode cX3_measureRooms 70 = .ok (.iaload, 1) := by decide +kernel
theorem dX3_measureRooms_71 : decode cX3_measureRooms 71 = .ok (.iadd, 1) := by decide +kernel
theorem dX3_measureRooms_72 : decode cX3_measureRooms 72 = .ok (.iaload, 1) := by decide +kernel
theorem dX3_measureRooms_73 : decode cX3_measureRooms 73 = .ok (.iload 6, 2) := by decide +kernel
theorem dX3_measureRooms_75 : decode cX3_measureRooms 75 = .ok (.imul, 1) := by decide +kernel
theorem dX3_measureRooms_76 : decode cX3_measureRooms 76 = .ok (.isub, 1) := by decide +kernel
theorem dX3_measureRooms_77 : decode cX3_measureRooms 77 = .ok (.istore 4, 2) := by decide +kernel
theorem dX3_measureRooms_79 : decode cX3_measureRooms 79 = .ok (.iinc 5 1, 3) := by decide +kernel
theorem dX3_measureRooms_82 : decode cX3_measureRooms 82 = .ok (.goto (-49), 3) := by decide +kernel
theorem dX3_measureRooms_85 : decode cX3_measureRooms 85 = .ok (.aload_n 0, 1) := by decide +kernel
theorem dX3_measureRooms_86 : decode cX3_measureRooms 86 = .ok (.getfield 39, 3) := by decide +kernel
theorem dX3_measureRooms_89 : decode cX3_measureRooms 89 = .ok (.iload_n 3, 1) := by decide +kernel
theorem dX3_measureRooms_90 : decode cX3_measureRooms 90 = .ok (.iload 4, 2) := by decide +kernel
theorem dX3_measureRooms_92 : decode cX3_measureRooms 92 = .ok (.iastore, 1) := by decide +kernel
theorem dX3_measureRooms_93 : decode cX3_measureRooms 93 = .ok (.iinc 3 1, 3) := by decide +kernel
theorem dX3_measureRooms_96 : decode cX3_measureRooms 96 = .ok (.goto (-94), 3) := by decide +kernel
theorem dX3_measureRooms_99 : decode cX3_measureRooms 99 = .ok (.return_, 1) := by decide +kernel
theorem dX3_priceOfUnits_0 : decode cX3_priceOfUnits 0 = .ok (.iconst 0, 1) := by decide +kernel
theorem dX3_priceOfUnits_1 : decode cX3_priceOfUnits 1 = .ok (.istore_n 1, 1) := by decide +kernel
theorem dX3_priceOfUnits_2 : decode cX3_priceOfUnits 2 = .ok (.iconst 0, 1) := by decide +kernel
theorem dX3_priceOfUnits_3 : decode cX3_priceOfUnits 3 = .ok (.istore_n 2, 1) := by decide +kernel
theorem dX3_priceOfUnits_4 : decode cX3_priceOfUnits 4 = .ok (.iload_n 2, 1) := by decide +kernel
theorem dX3_priceOfUnits_5 : decode cX3_priceOfUnits 5 = .ok (.aload_n 0, 1) := by decide +kernel
theorem dX3_priceOfUnits_6 : decode cX3_priceOfUnits 6 = .ok (.getfield 61, 3) := by decide +kernel
theorem dX3_priceOfUnits_9 : decode cX3_priceOfUnits 9 = .ok (.if_icmp .ge 25, 3) := by decide +kernel
theorem dX3_priceOfUnits_12 : decode cX3_priceOfUnits 12 = .ok (.iload_n 1, 1) := by decide +kernel
theorem dX3_priceOfUnits_13 : decode cX3_priceOfUnits 13 = .ok (.aload_n 0, 1) := by decide +kernel
theorem dX3_priceOfUnits_14 : decode cX3_priceOfUnits 14 = .ok (.getfield 42, 3) := by decide +kernel
theorem dX3_priceOfUnits_17 : decode cX3_priceOfUnits 17 = .ok (.iload_n 2, 1) := by decide +kernel
theorem dX3_priceOfUnits_18 : decode cX3_priceOfUnits 18 = .ok (.iaload, 1) := by decide +kernel
theorem dX3_priceOfUnits_19 : decode cX3_priceOfUnits 19 = .ok (.aload_n 0, 1) := by decide +kernel
theorem dX3_priceOfUnits_20 : decode cX3_priceOfUnits 20 = .ok (.getfield 21, 3) := by decide +kernel
theorem dX3_priceOfUnits_23 : decode cX3_priceOfUnits 23 = .ok (.iload_n 2, 1) := by decide +kernel
theorem dX3_priceOfUnits_24 : decode cX3_priceOfUnits 24 = .ok (.iaload, 1) := by decide +kernel
theorem dX3_priceOfUnits_25 : decode cX3_priceOfUnits 25 = .ok (.imul, 1) := by decide +kernel
theorem dX3_priceOfUnits_26 : decode cX3_priceOfUnits 26 = .ok (.iadd, 1) := by decide +kernel
theorem dX3_priceOfUnits_27 : decode cX3_priceOfUnits 27 = .ok (.istore_n 1, 1) := by decide +kernel
theorem dX3_priceOfUnits_28 : decode cX3_priceOfUnits 28 = .ok (.iinc 2 1, 3) := by decide +kernel
theorem dX3_priceOfUnits_31 : decode cX3_priceOfUnits 31 = .ok (.goto (-27), 3) := by decide +kernel
theorem dX3_priceOfUnits_34 : decode cX3_priceOfUnits 34 = .ok (.iload_n 1, 1) := by decide +kernel
theorem dX3_priceOfUnits_35 : decode cX3_priceOfUnits 35 = .ok (.ireturn, 1) := by decide +kernel
theorem dX3_rowsHold_0 : decode cX3_rowsHold 0 = .ok (.iconst 0, 1) := by decide +kernel
theorem dX3_rowsHold_1 : decode cX3_rowsHold 1 = .ok (.istore_n 1, 1) := by decide +kernel
theorem dX3_rowsHold_2 : decode cX3_rowsHold 2 = .ok (.iload_n 1, 1) := by decide +kernel
theorem dX3_rowsHold_3 : decode cX3_rowsHold 3 = .ok (.aload_n 0, 1) := by decide +kernel
theorem dX3_rowsHold_4 : decode cX3_rowsHold 4 = .ok (.getfield 108, 3) := by decide +kernel
theorem dX3_rowsHold_7 : decode cX3_rowsHold 7 = .ok (.if_icmp .ge 60, 3) := by decide +kernel
theorem dX3_rowsHold_10 : decode cX3_rowsHold 10 = .ok (.iconst 0, 1) := by decide +kernel
theorem dX3_rowsHold_11 : decode cX3_rowsHold 11 = .ok (.istore_n 2, 1) := by decide +kernel
theorem dX3_rowsHold_12 : decode cX3_rowsHold 12 = .ok (.iconst 0, 1) := by decide +kernel
theorem dX3_rowsHold_13 : decode cX3_rowsHold 13 = .ok (.istore_n 3, 1) := by decide +kernel
theorem dX3_rowsHold_14 : decode cX3_rowsHold 14 = .ok (.iload_n 3, 1) := by decide +kernel
theorem dX3_rowsHold_15 : decode cX3_rowsHold 15 = .ok (.aload_n 0, 1) := by decide +kernel
theorem dX3_rowsHold_16 : decode cX3_rowsHold 16 = .ok (.getfield 61, 3) := by decide +kernel
theorem dX3_rowsHold_19 : decode cX3_rowsHold 19 = .ok (.if_icmp .ge 30, 3) := by decide +kernel
theorem dX3_rowsHold_22 : decode cX3_rowsHold 22 = .ok (.iload_n 2, 1) := by decide +kernel
theorem dX3_rowsHold_23 : decode cX3_rowsHold 23 = .ok (.aload_n 0, 1) := by decide +kernel
theorem dX3_rowsHold_24 : decode cX3_rowsHold 24 = .ok (.getfield 27, 3) := by decide +kernel
theorem dX3_rowsHold_27 : decode cX3_rowsHold 27 = .ok (.iload_n 1, 1) := by decide +kernel
theorem dX3_rowsHold_28 : decode cX3_rowsHold 28 = .ok (.bipush 10, 2) := by decide +kernel
theorem dX3_rowsHold_30 : decode cX3_rowsHold 30 = .ok (.imul, 1) := by decide +kernel
theorem dX3_rowsHold_31 : decode cX3_rowsHold 31 = .ok (.iload_n 3, 1) := by decide +kernel
theorem dX3_rowsHold_32 : decode cX3_rowsHold 32 = .ok (.iadd, 1) := by decide +kernel
theorem dX3_rowsHold_33 : decode cX3_rowsHold 33 = .ok (.iaload, 1) := by decide +kernel
theorem dX3_rowsHold_34 : decode cX3_rowsHold 34 = .ok (.aload_n 0, 1) := by decide +kernel
theorem dX3_rowsHold_35 : decode cX3_rowsHold 35 = .ok (.getfield 42, 3) := by decide +kernel
theorem dX3_rowsHold_38 : decode cX3_rowsHold 38 = .ok (.iload_n 3, 1) := by decide +kernel
theorem dX3_rowsHold_39 : decode cX3_rowsHold 39 = .ok (.iaload, 1) := by decide +kernel
theorem dX3_rowsHold_40 : decode cX3_rowsHold 40 = .ok (.imul, 1) := by decide +kernel
theorem dX3_rowsHold_41 : decode cX3_rowsHold 41 = .ok (.iadd, 1) := by decide +kernel
theorem dX3_rowsHold_42 : decode cX3_rowsHold 42 = .ok (.istore_n 2, 1) := by decide +kernel
theorem dX3_rowsHold_43 : decode cX3_rowsHold 43 = .ok (.iinc 3 1, 3) := by decide +kernel
theorem dX3_rowsHold_46 : decode cX3_rowsHold 46 = .ok (.goto (-32), 3) := by decide +kernel
theorem dX3_rowsHold_49 : decode cX3_rowsHold 49 = .ok (.iload_n 2, 1) := by decide +kernel
theorem dX3_rowsHold_50 : decode cX3_rowsHold 50 = .ok (.aload_n 0, 1) := by decide +kernel
theorem dX3_rowsHold_51 : decode cX3_rowsHold 51 = .ok (.getfield 39, 3) := by decide +kernel
theorem dX3_rowsHold_54 : decode cX3_rowsHold 54 = .ok (.iload_n 1, 1) := by decide +kernel
theorem dX3_rowsHold_55 : decode cX3_rowsHold 55 = .ok (.iaload, 1) := by decide +kernel
theorem dX3_rowsHold_56 : decode cX3_rowsHold 56 = .ok (.if_icmp .le 5, 3) := by decide +kernel
theorem dX3_rowsHold_59 : decode cX3_rowsHold 59 = .ok (.iconst 0, 1) := by decide +kernel
theorem dX3_rowsHold_60 : decode cX3_rowsHold 60 = .ok (.ireturn, 1) := by decide +kernel
theorem dX3_rowsHold_61 : decode cX3_rowsHold 61 = .ok (.iinc 1 1, 3) := by decide +kernel
theorem dX3_rowsHold_64 : decode cX3_rowsHold 64 = .ok (.goto (-62), 3) := by decide +kernel
theorem dX3_rowsHold_67 : decode cX3_rowsHold 67 = .ok (.iconst 1, 1) := by decide +kernel
theorem dX3_rowsHold_68 : decode cX3_rowsHold 68 = .ok (.ireturn, 1) := by decide +kernel
theorem dX3_clearLastUsed_0 : decode cX3_clearLastUsed 0 = .ok (.aload_n 0, 1) := by decide +kernel
theorem dX3_clearLastUsed_1 : decode cX3_clearLastUsed 1 = .ok (.getfield 61, 3) := by decide +kernel
theorem dX3_clearLastUsed_4 : decode cX3_clearLastUsed 4 = .ok (.iconst 1, 1) := by decide +kernel
theorem dX3_clearLastUsed_5 : decode cX3_clearLastUsed 5 = .ok (.isub, 1) := by decide +kernel
theorem dX3_clearLastUsed_6 : decode cX3_clearLastUsed 6 = .ok (.istore_n 1, 1) := by decide +kernel
theorem dX3_clearLastUsed_7 : decode cX3_clearLastUsed 7 = .ok (.iload_n 1, 1) := by decide +kernel
theorem dX3_clearLastUsed_8 : decode cX3_clearLastUsed 8 = .ok (.ifCond .le 18, 3) := by decide +kernel
theorem dX3_clearLastUsed_11 : decode cX3_clearLastUsed 11 = .ok (.aload_n 0, 1) := by decide +kernel
theorem dX3_clearLastUsed_12 : decode cX3_clearLastUsed 12 = .ok (.getfield 42, 3) := by decide +kernel
theorem dX3_clearLastUsed_15 : decode cX3_clearLastUsed 15 = .ok (.iload_n 1, 1) := by decide +kernel
theorem dX3_clearLastUsed_16 : decode cX3_clearLastUsed 16 = .ok (.iaload, 1) := by decide +kernel
theorem dX3_clearLastUsed_17 : decode cX3_clearLastUsed 17 = .ok (.ifCond .ne 9, 3) := by decide +kernel
theorem dX3_clearLastUsed_20 : decode cX3_clearLastUsed 20 = .ok (.iinc 1 (-1), 3) := by decide +kernel
theorem dX3_clearLastUsed_23 : decode cX3_clearLastUsed 23 = .ok (.goto (-16), 3) := by decide +kernel
theorem dX3_clearLastUsed_26 : decode cX3_clearLastUsed 26 = .ok (.iload_n 1, 1) := by decide +kernel
theorem dX3_clearLastUsed_27 : decode cX3_clearLastUsed 27 = .ok (.ifCond .lt 10, 3) := by decide +kernel
theorem dX3_clearLastUsed_30 : decode cX3_clearLastUsed 30 = .ok (.aload_n 0, 1) := by decide +kernel
theorem dX3_clearLastUsed_31 : decode cX3_clearLastUsed 31 = .ok (.getfield 42, 3) := by decide +kernel
theorem dX3_clearLastUsed_34 : decode cX3_clearLastUsed 34 = .ok (.iload_n 1, 1) := by decide +kernel
theorem dX3_clearLastUsed_35 : decode cX3_clearLastUsed 35 = .ok (.iconst 0, 1) := by decide +kernel
theorem dX3_clearLastUsed_36 : decode cX3_clearLastUsed 36 = .ok (.iastore, 1) := by decide +kernel
theorem dX3_clearLastUsed_37 : decode cX3_clearLastUsed 37 = .ok (.iload_n 1, 1) := by decide +kernel
theorem dX3_clearLastUsed_38 : decode cX3_clearLastUsed 38 = .ok (.ireturn, 1) := by decide +kernel
theorem dX3_raiseFrom_0 : decode cX3_raiseFrom 0 = .ok (.iload_n 1, 1) := by decide +kernel
theorem dX3_raiseFrom_1 : decode cX3_raiseFrom 1 = .ok (.istore_n 2, 1) := by decide +kernel
theorem dX3_raiseFrom_2 : decode cX3_raiseFrom 2 = .ok (.iload_n 2, 1) := by decide +kernel
theorem dX3_raiseFrom_3 : decode cX3_raiseFrom 3 = .ok (.ifCond .lt 43, 3) := by decide +kernel
theorem dX3_raiseFrom_6 : decode cX3_raiseFrom 6 = .ok (.aload_n 0, 1) := by decide +kernel
theorem dX3_raiseFrom_7 : decode cX3_raiseFrom 7 = .ok (.getfield 42, 3) := by decide +kernel
theorem dX3_raiseFrom_10 : decode cX3_raiseFrom 10 = .ok (.iload_n 2, 1) := by decide +kernel
theorem dX3_raiseFrom_11 : decode cX3_raiseFrom 11 = .ok (.iaload, 1) := by decide +kernel
theorem dX3_raiseFrom_12 : decode cX3_raiseFrom 12 = .ok (.aload_n 0, 1) := by decide +kernel
theorem dX3_raiseFrom_13 : decode cX3_raiseFrom 13 = .ok (.getfield 18, 3) := by decide +kernel
theorem dX3_raiseFrom_16 : decode cX3_raiseFrom 16 = .ok (.iload_n 2, 1) := by decide +kernel
theorem dX3_raiseFrom_17 : decode cX3_raiseFrom 17 = .ok (.iaload, 1) := by decide +kernel
theorem dX3_raiseFrom_18 : decode cX3_raiseFrom 18 = .ok (.if_icmp .ge 15, 3) := by decide +kernel
theorem dX3_raiseFrom_21 : decode cX3_raiseFrom 21 = .ok (.aload_n 0, 1) := by decide +kernel
theorem dX3_raiseFrom_22 : decode cX3_raiseFrom 22 = .ok (.getfield 42, 3) := by decide +kernel
theorem dX3_raiseFrom_25 : decode cX3_raiseFrom 25 = .ok (.iload_n 2, 1) := by decide +kernel
theorem dX3_raiseFrom_26 : decode cX3_raiseFrom 26 = .ok (.dup2, 1) := by decide +kernel
theorem dX3_raiseFrom_27 : decode cX3_raiseFrom 27 = .ok (.iaload, 1) := by decide +kernel
theorem dX3_raiseFrom_28 : decode cX3_raiseFrom 28 = .ok (.iconst 1, 1) := by decide +kernel
theorem dX3_raiseFrom_29 : decode cX3_raiseFrom 29 = .ok (.iadd, 1) := by decide +kernel
theorem dX3_raiseFrom_30 : decode cX3_raiseFrom 30 = .ok (.iastore, 1) := by decide +kernel
theorem dX3_raiseFrom_31 : decode cX3_raiseFrom 31 = .ok (.iconst 1, 1) := by decide +kernel
theorem dX3_raiseFrom_32 : decode cX3_raiseFrom 32 = .ok (.ireturn, 1) := by decide +kernel
theorem dX3_raiseFrom_33 : decode cX3_raiseFrom 33 = .ok (.aload_n 0, 1) := by decide +kernel
theorem dX3_raiseFrom_34 : decode cX3_raiseFrom 34 = .ok (.getfield 42, 3) := by decide +kernel
theorem dX3_raiseFrom_37 : decode cX3_raiseFrom 37 = .ok (.iload_n 2, 1) := by decide +kernel
theorem dX3_raiseFrom_38 : decode cX3_raiseFrom 38 = .ok (.iconst 0, 1) := by decide +kernel
theorem dX3_raiseFrom_39 : decode cX3_raiseFrom 39 = .ok (.iastore, 1) := by decide +kernel
theorem dX3_raiseFrom_40 : decode cX3_raiseFrom 40 = .ok (.iinc 2 (-1), 3) := by decide +kernel
theorem dX3_raiseFrom_43 : decode cX3_raiseFrom 43 = .ok (.goto (-41), 3) := by decide +kernel
theorem dX3_raiseFrom_46 : decode cX3_raiseFrom 46 = .ok (.iconst 0, 1) := by decide +kernel
theorem dX3_raiseFrom_47 : decode cX3_raiseFrom 47 = .ok (.ireturn, 1) := by decide +kernel
theorem dX3_findReasons_0 : decode cX3_findReasons 0 = .ok (.iconst 0, 1) := by decide +kernel
theorem dX3_findReasons_1 : decode cX3_findReasons 1 = .ok (.istore 4, 2) := by decide +kernel
theorem dX3_findReasons_3 : decode cX3_findReasons 3 = .ok (.iload 4, 2) := by decide +kernel
theorem dX3_findReasons_5 : decode cX3_findReasons 5 = .ok (.aload_n 0, 1) := by decide +kernel
theorem dX3_findReasons_6 : decode cX3_findReasons 6 = .ok (.getfield 57, 3) := by decide +kernel
theorem dX3_findReasons_9 : decode cX3_findReasons 9 = .ok (.if_icmp .ge 24, 3) := by decide +kernel
theorem dX3_findReasons_12 : decode cX3_findReasons 12 = .ok (.aload_n 0, 1) := by decide +kernel
theorem dX3_findReasons_13 : decode cX3_findReasons 13 = .ok (.getfield 48, 3) := by decide +kernel
theorem dX3_findReasons_16 : decode cX3_findReasons 16 = .ok (.iload 4, 2) := by decide +kernel
theorem dX3_findReasons_18 : decode cX3_findReasons 18 = .ok (.iload_n 1, 1) := by decide +kernel
theorem dX3_findReasons_19 : decode cX3_findReasons 19 = .ok (.iload 4, 2) := by decide +kernel
theorem dX3_findReasons_21 : decode cX3_findReasons 21 = .ok (.iconst 2, 1) := by decide +kernel
theorem dX3_findReasons_22 : decode cX3_findReasons 22 = .ok (.imul, 1) := by decide +kernel
theorem dX3_findReasons_23 : decode cX3_findReasons 23 = .ok (.ishr, 1) := by decide +kernel
theorem dX3_findReasons_24 : decode cX3_findReasons 24 = .ok (.iconst 3, 1) := by decide +kernel
theorem dX3_findReasons_25 : decode cX3_findReasons 25 = .ok (.iand, 1) := by decide +kernel
theorem dX3_findReasons_26 : decode cX3_findReasons 26 = .ok (.iastore, 1) := by decide +kernel
theorem dX3_findReasons_27 : decode cX3_findReasons 27 = .ok (.iinc 4 1, 3) := by decide +kernel
theorem dX3_findReasons_30 : decode cX3_findReasons 30 = .ok (.goto (-27), 3) := by decide +kernel
theorem dX3_findReasons_33 : decode cX3_findReasons 33 = .ok (.iconst 0, 1) := by decide +kernel
theorem dX3_findReasons_34 : decode cX3_findReasons 34 = .ok (.istore 4, 2) := by decide +kernel
theorem dX3_findReasons_36 : decode cX3_findReasons 36 = .ok (.iload 4, 2) := by decide +kernel
theorem dX3_findReasons_38 : decode cX3_findReasons 38 = .ok (.aload_n 0, 1) := by decide +kernel
theorem dX3_findReasons_39 : decode cX3_findReasons 39 = .ok (.getfield 57, 3) := by decide +kernel
theorem dX3_findReasons_42 : decode cX3_findReasons 42 = .ok (.if_icmp .ge 44, 3) := by decide +kernel
theorem dX3_findReasons_45 : decode cX3_findReasons 45 = .ok (.aload_n 0, 1) := by decide +kernel
theorem dX3_findReasons_46 : decode cX3_findReasons 46 = .ok (.getfield 48, 3) := by decide +kernel
theorem dX3_findReasons_49 : decode cX3_findReasons 49 = .ok (.iload 4, 2) := by decide +kernel
theorem dX3_findReasons_51 : decode cX3_findReasons 51 = .ok (.iaload, 1) := by decide +kernel
theorem dX3_findReasons_52 : decode cX3_findReasons 52 = .ok (.istore 5, 2) := by decide +kernel
theorem dX3_findReasons_54 : decode cX3_findReasons 54 = .ok (.aload_n 0, 1) := by decide +kernel
theorem dX3_findReasons_55 : decode cX3_findReasons 55 = .ok (.getfield 48, 3) := by decide +kernel
theorem dX3_findReasons_58 : decode cX3_findReasons 58 = .ok (.iload 4, 2) := by decide +kernel
theorem dX3_findReasons_60 : decode cX3_findReasons 60 = .ok (.iconst (-1), 1) := by decide +kernel
theorem dX3_findReasons_61 : decode cX3_findReasons 61 = .ok (.iastore, 1) := by decide +kernel
theorem dX3_findReasons_62 : decode cX3_findReasons 62 = .ok (.aload_n 0, 1) := by decide +kernel
theorem dX3_findReasons_63 : decode cX3_findReasons 63 = .ok (.iload_n 2, 1) := by decide +kernel
theorem dX3_findReasons_64 : decode cX3_findReasons 64 = .ok (.iload_n 3, 1) := by decide +kernel
theorem dX3_findReasons_65 : decode cX3_findReasons 65 = .ok (.invokevirtual 111, 3) := by decide +kernel
theorem dX3_findReasons_68 : decode cX3_findReasons 68 = .ok (.ifCond .ne 12, 3) := by decide +kernel
theorem dX3_findReasons_71 : decode cX3_findReasons 71 = .ok (.aload_n 0, 1) := by decide +kernel
theorem dX3_findReasons_72 : decode cX3_findReasons 72 = .ok (.getfield 48, 3) := by decide +kernel
theorem dX3_findReasons_75 : decode cX3_findReasons 75 = .ok (.iload 4, 2) := by decide +kernel
theorem dX3_findReasons_77 : decode cX3_findReasons 77 = .ok (.iload 5, 2) := by decide +kernel
theorem dX3_findReasons_79 : decode cX3_findReasons 79 = .ok (.iastore, 1) := by decide +kernel
theorem dX3_findReasons_80 : decode cX3_findReasons 80 = .ok (.iinc 4 1, 3) := by decide +kernel
theorem dX3_findReasons_83 : decode cX3_findReasons 83 = .ok (.goto (-47), 3) := by decide +kernel
theorem dX3_findReasons_86 : decode cX3_findReasons 86 = .ok (.return_, 1) := by decide +kernel
theorem dX3_isTrue_0 : decode cX3_isTrue 0 = .ok (.iconst 1, 1) := by decide +kernel
theorem dX3_isTrue_1 : decode cX3_isTrue 1 = .ok (.aload_n 0, 1) := by decide +kernel
theorem dX3_isTrue_2 : decode cX3_isTrue 2 = .ok (.getfield 57, 3) := by decide +kernel
theorem dX3_isTrue_5 : decode cX3_isTrue 5 = .ok (.iconst 2, 1) := by decide +kernel
theorem dX3_isTrue_6 : decode cX3_isTrue 6 = .ok (.imul, 1) := by decide +kernel
theorem dX3_isTrue_7 : decode cX3_isTrue 7 = .ok (.ishl, 1) := by decide +kernel
theorem dX3_isTrue_8 : decode cX3_isTrue 8 = .ok (.istore_n 3, 1) := by decide +kernel
theorem dX3_isTrue_9 : decode cX3_isTrue 9 = .ok (.iconst 0, 1) := by decide +kernel
theorem dX3_isTrue_10 : decode cX3_isTrue 10 = .ok (.istore 4, 2) := by decide +kernel
theorem dX3_isTrue_12 : decode cX3_isTrue 12 = .ok (.iload 4, 2) := by decide +kernel
theorem dX3_isTrue_14 : decode cX3_isTrue 14 = .ok (.iload_n 3, 1) := by decide +kernel
theorem dX3_isTrue_15 : decode cX3_isTrue 15 = .ok (.if_icmp .ge 48, 3) := by decide +kernel
theorem dX3_isTrue_18 : decode cX3_isTrue 18 = .ok (.aload_n 0, 1) := by decide +kernel
theorem dX3_isTrue_19 : decode cX3_isTrue 19 = .ok (.iload 4, 2) := by decide +kernel
theorem dX3_isTrue_21 : decode cX3_isTrue 21 = .ok (.invokevirtual 115, 3) := by decide +kernel
theorem dX3_isTrue_24 : decode cX3_isTrue 24 = .ok (.ifCond .eq 33, 3) := by decide +kernel
theorem dX3_isTrue_27 : decode cX3_isTrue 27 = .ok (.aload_n 0, 1) := by decide +kernel
theorem dX3_isTrue_28 : decode cX3_isTrue 28 = .ok (.iload 4, 2) := by decide +kernel
theorem dX3_isTrue_30 : decode cX3_isTrue 30 = .ok (.iload_n 1, 1) := by decide +kernel
theorem dX3_isTrue_31 : decode cX3_isTrue 31 = .ok (.invokevirtual 73, 3) := by decide +kernel
theorem dX3_isTrue_34 : decode cX3_isTrue 34 = .ok (.istore 5, 2) := by decide +kernel
theorem dX3_isTrue_36 : decode cX3_isTrue 36 = .ok (.iload 5, 2) := by decide +kernel
theorem dX3_isTrue_38 : decode cX3_isTrue 38 = .ok (.bipush (-4), 2) := by decide +kernel
theorem dX3_isTrue_40 : decode cX3_isTrue 40 = .ok (.if_icmp .eq 17, 3) := by decide +kernel
theorem dX3_isTrue_43 : decode cX3_isTrue 43 = .ok (.iload_n 2, 1) := by decide +kernel
theorem dX3_isTrue_44 : decode cX3_isTrue 44 = .ok (.bipush (-4), 2) := by decide +kernel
theorem dX3_isTrue_46 : decode cX3_isTrue 46 = .ok (.if_icmp .eq 9, 3) := by decide +kernel
theorem dX3_isTrue_49 : decode cX3_isTrue 49 = .ok (.iload 5, 2) := by decide +kernel
theorem dX3_isTrue_51 : decode cX3_isTrue 51 = .ok (.iload_n 2, 1) := by decide +kernel
theorem dX3_isTrue_52 : decode cX3_isTrue 52 = .ok (.if_icmp .ge 5, 3) := by decide +kernel
theorem dX3_isTrue_55 : decode cX3_isTrue 55 = .ok (.iconst 0, 1) := by decide +kernel
theorem dX3_isTrue_56 : decode cX3_isTrue 56 = .ok (.ireturn, 1) := by decide +kernel
theorem dX3_isTrue_57 : decode cX3_isTrue 57 = .ok (.iinc 4 1, 3) := by decide +kernel
theorem dX3_isTrue_60 : decode cX3_isTrue 60 = .ok (.goto (-48), 3) := by decide +kernel
theorem dX3_isTrue_63 : decode cX3_isTrue 63 = .ok (.iconst 1, 1) := by decide +kernel
theorem dX3_isTrue_64 : decode cX3_isTrue 64 = .ok (.ireturn, 1) := by decide +kernel
theorem dX3_meets_0 : decode cX3_meets 0 = .ok (.iconst 0, 1) := by decide +kernel
theorem dX3_meets_1 : decode cX3_meets 1 = .ok (.istore_n 2, 1) := by decide +kernel
theorem dX3_meets_2 : decode cX3_meets 2 = .ok (.iload_n 2, 1) := by decide +kernel
theorem dX3_meets_3 : decode cX3_meets 3 = .ok (.aload_n 0, 1) := by decide +kernel
theorem dX3_meets_4 : decode cX3_meets 4 = .ok (.getfield 57, 3) := by decide +kernel
theorem dX3_meets_7 : decode cX3_meets 7 = .ok (.if_icmp .ge 49, 3) := by decide +kernel
theorem dX3_meets_10 : decode cX3_meets 10 = .ok (.iload_n 1, 1) := by decide +kernel
theorem dX3_meets_11 : decode cX3_meets 11 = .ok (.iload_n 2, 1) := by decide +kernel
theorem dX3_meets_12 : decode cX3_meets 12 = .ok (.iconst 2, 1) := by decide +kernel
theorem dX3_meets_13 : decode cX3_meets 13 = .ok (.imul, 1) := by decide +kernel
theorem dX3_meets_14 : decode cX3_meets 14 = .ok (.ishr, 1) := by decide +kernel
theorem dX3_meets_15 : decode cX3_meets 15 = .ok (.iconst 3, 1) := by decide +kernel
theorem dX3_meets_16 : decode cX3_meets 16 = .ok (.iand, 1) := by decide +kernel
theorem dX3_meets_17 : decode cX3_meets 17 = .ok (.istore_n 3, 1) := by decide +kernel
theorem dX3_meets_18 : decode cX3_meets 18 = .ok (.iload_n 3, 1) := by decide +kernel
theorem dX3_meets_19 : decode cX3_meets 19 = .ok (.aload_n 0, 1) := by decide +kernel
theorem dX3_meets_20 : decode cX3_meets 20 = .ok (.getfield 15, 3) := by decide +kernel
theorem dX3_meets_23 : decode cX3_meets 23 = .ok (.iload_n 2, 1) := by decide +kernel
theorem dX3_meets_24 : decode cX3_meets 24 = .ok (.iaload, 1) := by decide +kernel
theorem dX3_meets_25 : decode cX3_meets 25 = .ok (.if_icmp .ge 23, 3) := by decide +kernel
theorem dX3_meets_28 : decode cX3_meets 28 = .ok (.aload_n 0, 1) := by decide +kernel
theorem dX3_meets_29 : decode cX3_meets 29 = .ok (.getfield 48, 3) := by decide +kernel
theorem dX3_meets_32 : decode cX3_meets 32 = .ok (.iload_n 2, 1) := by decide +kernel
theorem dX3_meets_33 : decode cX3_meets 33 = .ok (.iaload, 1) := by decide +kernel
theorem dX3_meets_34 : decode cX3_meets 34 = .ok (.iconst (-1), 1) := by decide +kernel
theorem dX3_meets_35 : decode cX3_meets 35 = .ok (.if_icmp .eq 15, 3) := by decide +kernel
theorem dX3_meets_38 : decode cX3_meets 38 = .ok (.aload_n 0, 1) := by decide +kernel
theorem dX3_meets_39 : decode cX3_meets 39 = .ok (.getfield 48, 3) := by decide +kernel
theorem dX3_meets_42 : decode cX3_meets 42 = .ok (.iload_n 2, 1) := by decide +kernel
theorem dX3_meets_43 : decode cX3_meets 43 = .ok (.iaload, 1) := by decide +kernel
theorem dX3_meets_44 : decode cX3_meets 44 = .ok (.iload_n 3, 1) := by decide +kernel
theorem dX3_meets_45 : decode cX3_meets 45 = .ok (.if_icmp .eq 5, 3) := by decide +kernel
theorem dX3_meets_48 : decode cX3_meets 48 = .ok (.iconst 0, 1) := by decide +kernel
theorem dX3_meets_49 : decode cX3_meets 49 = .ok (.ireturn, 1) := by decide +kernel
theorem dX3_meets_50 : decode cX3_meets 50 = .ok (.iinc 2 1, 3) := by decide +kernel
theorem dX3_meets_53 : decode cX3_meets 53 = .ok (.goto (-51), 3) := by decide +kernel
theorem dX3_meets_56 : decode cX3_meets 56 = .ok (.iconst 1, 1) := by decide +kernel
theorem dX3_meets_57 : decode cX3_meets 57 = .ok (.ireturn, 1) := by decide +kernel
theorem dX3_raiseFloors_0 : decode cX3_raiseFloors 0 = .ok (.iconst 1, 1) := by decide +kernel
theorem dX3_raiseFloors_1 : decode cX3_raiseFloors 1 = .ok (.aload_n 0, 1) := by decide +kernel
theorem dX3_raiseFloors_2 : decode cX3_raiseFloors 2 = .ok (.getfield 57, 3) := by decide +kernel
theorem dX3_raiseFloors_5 : decode cX3_raiseFloors 5 = .ok (.iconst 2, 1) := by decide +kernel
theorem dX3_raiseFloors_6 : decode cX3_raiseFloors 6 = .ok (.imul, 1) := by decide +kernel
theorem dX3_raiseFloors_7 : decode cX3_raiseFloors 7 = .ok (.ishl, 1) := by decide +kernel
theorem dX3_raiseFloors_8 : decode cX3_raiseFloors 8 = .ok (.istore_n 3, 1) := by decide +kernel
theorem dX3_raiseFloors_9 : decode cX3_raiseFloors 9 = .ok (.iconst 0, 1) := by decide +kernel
theorem dX3_raiseFloors_10 : decode cX3_raiseFloors 10 = .ok (.istore 4, 2) := by decide +kernel
theorem dX3_raiseFloors_12 : decode cX3_raiseFloors 12 = .ok (.iload 4, 2) := by decide +kernel
theorem dX3_raiseFloors_14 : decode cX3_raiseFloors 14 = .ok (.iload_n 3, 1) := by decide +kernel
theorem dX3_raiseFloors_15 : decode cX3_raiseFloors 15 = .ok (.if_icmp .ge 64, 3) := by decide +kernel
theorem dX3_raiseFloors_18 : decode cX3_raiseFloors 18 = .ok (.iload_n 1, 1) := by decide +kernel
theorem dX3_raiseFloors_19 : decode cX3_raiseFloors 19 = .ok (.bipush 64, 2) := by decide +kernel
theorem dX3_raiseFloors_21 : decode cX3_raiseFloors 21 = .ok (.imul, 1) := by decide +kernel
theorem dX3_raiseFloors_22 : decode cX3_raiseFloors 22 = .ok (.iload 4, 2) := by decide +kernel
theorem dX3_raiseFloors_24 : decode cX3_raiseFloors 24 = .ok (.iadd, 1) := by decide +kernel
theorem dX3_raiseFloors_25 : decode cX3_raiseFloors 25 = .ok (.istore 5, 2) := by decide +kernel
theorem dX3_raiseFloors_27 : decode cX3_raiseFloors 27 = .ok (.aload_n 0, 1) := by decide +kernel
theorem dX3_raiseFloors_28 : decode cX3_raiseFloors 28 = .ok (.iload 4, 2) := by decide +kernel
theorem dX3_raiseFloors_30 : decode cX3_raiseFloors 30 = .ok (.invokevirtual 115, 3) := by decide +kernel
theorem dX3_raiseFloors_33 : decode cX3_raiseFloors 33 = .ok (.ifCond .eq 40, 3) := by decide +kernel
theorem dX3_raiseFloors_36 : decode cX3_raiseFloors 36 = .ok (.aload_n 0, 1) := by decide +kernel
theorem dX3_raiseFloors_37 : decode cX3_raiseFloors 37 = .ok (.getfield 36, 3) := by decide +kernel
theorem dX3_raiseFloors_40 : decode cX3_raiseFloors 40 = .ok (.iload 5, 2) := by decide +kernel
theorem dX3_raiseFloors_42 : decode cX3_raiseFloors 42 = .ok (.iaload, 1) := by decide +kernel
theorem dX3_raiseFloors_43 : decode cX3_raiseFloors 43 = .ok (.bipush (-4), 2) := by decide +kernel
theorem dX3_raiseFloors_45 : decode cX3_raiseFloors 45 = .ok (.if_icmp .eq 28, 3) := by decide +kernel
theorem dX3_raiseFloors_48 : decode cX3_raiseFloors 48 = .ok (.iload_n 2, 1) := by decide +kernel
theorem dX3_raiseFloors_49 : decode cX3_raiseFloors 49 = .ok (.bipush (-4), 2) := by decide +kernel
theorem dX3_raiseFloors_51 : decode cX3_raiseFloors 51 = .ok (.if_icmp .eq 14, 3) := by decide +kernel
theorem dX3_raiseFloors_54 : decode cX3_raiseFloors 54 = .ok (.iload_n 2, 1) := by decide +kernel
theorem dX3_raiseFloors_55 : decode cX3_raiseFloors 55 = .ok (.aload_n 0, 1) := by decide +kernel
theorem dX3_raiseFloors_56 : decode cX3_raiseFloors 56 = .ok (.getfield 36, 3) := by decide +kernel
theorem dX3_raiseFloors_59 : decode cX3_raiseFloors 59 = .ok (.iload 5, 2) := by decide +kernel
theorem dX3_raiseFloors_61 : decode cX3_raiseFloors 61 = .ok (.iaload, 1) := by decide +kernel
theorem dX3_raiseFloors_62 : decode cX3_raiseFloors 62 = .ok (.if_icmp .le 11, 3) := by decide +kernel
theorem dX3_raiseFloors_65 : decode cX3_raiseFloors 65 = .ok (.aload_n 0, 1) := by decide +kernel
theorem dX3_raiseFloors_66 : decode cX3_raiseFloors 66 = .ok (.getfield 36, 3) := by decide +kernel
theorem dX3_raiseFloors_69 : decode cX3_raiseFloors 69 = .ok (.iload 5, 2) := by decide +kernel
theorem dX3_raiseFloors_71 : decode cX3_raiseFloors 71 = .ok (.iload_n 2, 1) := by decide +kernel
theorem dX3_raiseFloors_72 : decode cX3_raiseFloors 72 = .ok (.iastore, 1) := by decide +kernel
theorem dX3_raiseFloors_73 : decode cX3_raiseFloors 73 = .ok (.iinc 4 1, 3) := by decide +kernel
theorem dX3_raiseFloors_76 : decode cX3_raiseFloors 76 = .ok (.goto (-64), 3) := by decide +kernel
theorem dX3_raiseFloors_79 : decode cX3_raiseFloors 79 = .ok (.return_, 1) := by decide +kernel
theorem dX4_init_0 : decode cX4_init 0 = .ok (.aload_n 0, 1) := by decide +kernel
theorem dX4_init_1 : decode cX4_init 1 = .ok (.invokespecial 3, 3) := by decide +kernel
theorem dX4_init_4 : decode cX4_init 4 = .ok (.aload_n 0, 1) := by decide +kernel
theorem dX4_init_5 : decode cX4_init 5 = .ok (.iconst 0, 1) := by decide +kernel
theorem dX4_init_6 : decode cX4_init 6 = .ok (.putfield 9, 3) := by decide +kernel
theorem dX4_init_9 : decode cX4_init 9 = .ok (.aload_n 0, 1) := by decide +kernel
theorem dX4_init_10 : decode cX4_init 10 = .ok (.bipush (-4), 2) := by decide +kernel
theorem dX4_init_12 : decode cX4_init 12 = .ok (.putfield 15, 3) := by decide +kernel
theorem dX4_init_15 : decode cX4_init 15 = .ok (.aload_n 0, 1) := by decide +kernel
theorem dX4_init_16 : decode cX4_init 16 = .ok (.bipush (-4), 2) := by decide +kernel
theorem dX4_init_18 : decode cX4_init 18 = .ok (.putfield 18, 3) := by decide +kernel
theorem dX4_init_21 : decode cX4_init 21 = .ok (.aload_n 0, 1) := by decide +kernel
theorem dX4_init_22 : decode cX4_init 22 = .ok (.bipush 6, 2) := by decide +kernel
theorem dX4_init_24 : decode cX4_init 24 = .ok (.newarray .int, 2) := by decide +kernel
theorem dX4_init_26 : decode cX4_init 26 = .ok (.putfield 21, 3) := by decide +kernel
theorem dX4_init_29 : decode cX4_init 29 = .ok (.aload_n 0, 1) := by decide +kernel
theorem dX4_init_30 : decode cX4_init 30 = .ok (.bipush 6, 2) := by decide +kernel
theorem dX4_init_32 : decode cX4_init 32 = .ok (.newarray .int, 2) := by decide +kernel
theorem dX4_init_34 : decode cX4_init 34 = .ok (.putfield 25, 3) := by decide +kernel
theorem dX4_init_37 : decode cX4_init 37 = .ok (.return_, 1) := by decide +kernel
theorem dX4_restart_0 : decode cX4_restart 0 = .ok (.aload_n 0, 1) := by decide +kernel
theorem dX4_restart_1 : decode cX4_restart 1 = .ok (.iconst 0, 1) := by decide +kernel
theorem dX4_restart_2 : decode cX4_restart 2 = .ok (.putfield 28, 3) := by decide +kernel
theorem dX4_restart_5 : decode cX4_restart 5 = .ok (.aload_n 0, 1) := by decide +kernel
theorem dX4_restart_6 : decode cX4_restart 6 = .ok (.iconst 0, 1) := by decide +kernel
theorem dX4_restart_7 : decode cX4_restart 7 = .ok (.putfield 9, 3) := by decide +kernel
theorem dX4_restart_10 : decode cX4_restart 10 = .ok (.aload_n 0, 1) := by decide +kernel
theorem dX4_restart_11 : decode cX4_restart 11 = .ok (.bipush (-4), 2) := by decide +kernel
theorem dX4_restart_13 : decode cX4_restart 13 = .ok (.putfield 15, 3) := by decide +kernel
theorem dX4_restart_16 : decode cX4_restart 16 = .ok (.aload_n 0, 1) := by decide +kernel
theorem dX4_restart_17 : decode cX4_restart 17 = .ok (.bipush (-4), 2) := by decide +kernel
theorem dX4_restart_19 : decode cX4_restart 19 = .ok (.putfield 18, 3) := by decide +kernel
theorem dX4_restart_22 : decode cX4_restart 22 = .ok (.return_, 1) := by decide +kernel
theorem dX4_hasMaster_0 : decode cX4_hasMaster 0 = .ok (.aload_n 0, 1) := by decide +kernel
theorem dX4_hasMaster_1 : decode cX4_hasMaster 1 = .ok (.getfield 15, 3) := by decide +kernel
theorem dX4_hasMaster_4 : decode cX4_hasMaster 4 = .ok (.bipush (-4), 2) := by decide +kernel
theorem dX4_hasMaster_6 : decode cX4_hasMaster 6 = .ok (.if_icmp .eq 7, 3) := by decide +kernel
theorem dX4_hasMaster_9 : decode cX4_hasMaster 9 = .ok (.iconst 1, 1) := by decide +kernel
theorem dX4_hasMaster_10 : decode cX4_hasMaster 10 = .ok (.goto 4, 3) := by decide +kernel
theorem dX4_hasMaster_13 : decode cX4_hasMaster 13 = .ok (.iconst 0, 1) := by decide +kernel
theorem dX4_hasMaster_14 : decode cX4_hasMaster 14 = .ok (.ireturn, 1) := by decide +kernel
theorem dX4_hasBest_0 : decode cX4_hasBest 0 = .ok (.aload_n 0, 1) := by decide +kernel
theorem dX4_hasBest_1 : decode cX4_hasBest 1 = .ok (.getfield 18, 3) := by decide +kernel
theorem dX4_hasBest_4 : decode cX4_hasBest 4 = .ok (.bipush (-4), 2) := by decide +kernel
theorem dX4_hasBest_6 : decode cX4_hasBest 6 = .ok (.if_icmp .eq 7, 3) := by decide +kernel
theorem dX4_hasBest_9 : decode cX4_hasBest 9 = .ok (.iconst 1, 1) := by decide +kernel
theorem dX4_hasBest_10 : decode cX4_hasBest 10 = .ok (.goto 4, 3) := by decide +kernel
theorem dX4_hasBest_13 : decode cX4_hasBest 13 = .ok (.iconst 0, 1) := by decide +kernel
theorem dX4_hasBest_14 : decode cX4_hasBest 14 = .ok (.ireturn, 1) := by decide +kernel
theorem dX4_takeMaster_0 : decode cX4_takeMaster 0 = .ok (.aload_n 0, 1) := by decide +kernel
theorem dX4_takeMaster_1 : decode cX4_takeMaster 1 = .ok (.iload_n 2, 1) := by decide +kernel
theorem dX4_takeMaster_2 : decode cX4_takeMaster 2 = .ok (.putfield 15, 3) := by decide +kernel
theorem dX4_takeMaster_5 : decode cX4_takeMaster 5 = .ok (.iload_n 2, 1) := by decide +kernel
theorem dX4_takeMaster_6 : decode cX4_takeMaster 6 = .ok (.bipush (-4), 2) := by decide +kernel
theorem dX4_takeMaster_8 : decode cX4_takeMaster 8 = .ok (.if_icmp .ne 11, 3) := by decide +kernel
theorem dX4_takeMaster_11 : decode cX4_takeMaster 11 = .ok (.aload_n 0, 1) := by decide +kernel
theorem dX4_takeMaster_12 : decode cX4_takeMaster 12 = .ok (.iconst 2, 1) := by decide +kernel
theorem dX4_takeMaster_13 : decode cX4_takeMaster 13 = .ok (.putfield 9, 3) := by decide +kernel
theorem dX4_takeMaster_16 : decode cX4_takeMaster 16 = .ok (.goto 15, 3) := by decide +kernel
theorem dX4_takeMaster_19 : decode cX4_takeMaster 19 = .ok (.aload_n 1, 1) := by decide +kernel
theorem dX4_takeMaster_20 : decode cX4_takeMaster 20 = .ok (.iconst 0, 1) := by decide +kernel
theorem dX4_takeMaster_21 : decode cX4_takeMaster 21 = .ok (.aload_n 0, 1) := by decide +kernel
theorem dX4_takeMaster_22 : decode cX4_takeMaster 22 = .ok (.getfield 21, 3) := by decide +kernel
theorem dX4_takeMaster_25 : decode cX4_takeMaster 25 = .ok (.iconst 0, 1) := by decide +kernel
theorem dX4_takeMaster_26 : decode cX4_takeMaster 26 = .ok (.bipush 6, 2) := by decide +kernel
theorem dX4_takeMaster_28 : decode cX4_takeMaster 28 = .ok (.invokestatic 31, 3) := by decide +kernel
theorem dX4_takeMaster_31 : decode cX4_takeMaster 31 = .ok (.return_, 1) := by decide +kernel
theorem dX4_takeCost_0 : decode cX4_takeCost 0 = .ok (.iload_n 1, 1) := by decide +kernel
theorem dX4_takeCost_1 : decode cX4_takeCost 1 = .ok (.bipush (-4), 2) := by decide +kernel
theorem dX4_takeCost_3 : decode cX4_takeCost 3 = .ok (.if_icmp .eq 40, 3) := by decide +kernel
theorem dX4_takeCost_6 : decode cX4_takeCost 6 = .ok (.aload_n 0, 1) := by decide +kernel
theorem dX4_takeCost_7 : decode cX4_takeCost 7 = .ok (.getfield 18, 3) := by decide +kernel
theorem dX4_takeCost_10 : decode cX4_takeCost 10 = .ok (.bipush (-4), 2) := by decide +kernel
theorem dX4_takeCost_12 : decode cX4_takeCost 12 = .ok (.if_icmp .eq 11, 3) := by decide +kernel
theorem dX4_takeCost_15 : decode cX4_takeCost 15 = .ok (.iload_n 1, 1) := by decide +kernel
theorem dX4_takeCost_16 : decode cX4_takeCost 16 = .ok (.aload_n 0, 1) := by decide +kernel
theorem dX4_takeCost_17 : decode cX4_takeCost 17 = .ok (.getfield 18, 3) := by decide +kernel
theorem dX4_takeCost_20 : decode cX4_takeCost 20 = .ok (.if_icmp .ge 23, 3) := by decide +kernel
theorem dX4_takeCost_23 : decode cX4_takeCost 23 = .ok (.aload_n 0, 1) := by decide +kernel
theorem dX4_takeCost_24 : decode cX4_takeCost 24 = .ok (.iload_n 1, 1) := by decide +kernel
theorem dX4_takeCost_25 : decode cX4_takeCost 25 = .ok (.putfield 18, 3) := by decide +kernel
theorem dX4_takeCost_28 : decode cX4_takeCost 28 = .ok (.aload_n 0, 1) := by decide +kernel
theorem dX4_takeCost_29 : decode cX4_takeCost 29 = .ok (.getfield 21, 3) := by decide +kernel
theorem dX4_takeCost_32 : decode cX4_takeCost 32 = .ok (.iconst 0, 1) := by decide +kernel
theorem dX4_takeCost_33 : decode cX4_takeCost 33 = .ok (.aload_n 0, 1) := by decide +kernel
theorem dX4_takeCost_34 : decode cX4_takeCost 34 = .ok (.getfield 25, 3) := by decide +kernel
theorem dX4_takeCost_37 : decode cX4_takeCost 37 = .ok (.iconst 0, 1) := by decide +kernel
theorem dX4_takeCost_38 : decode cX4_takeCost 38 = .ok (.bipush 6, 2) := by decide +kernel
theorem dX4_takeCost_40 : decode cX4_takeCost 40 = .ok (.invokestatic 31, 3) := by decide +kernel
theorem dX4_takeCost_43 : decode cX4_takeCost 43 = .ok (.aload_n 0, 1) := by decide +kernel
theorem dX4_takeCost_44 : decode cX4_takeCost 44 = .ok (.getfield 18, 3) := by decide +kernel
theorem dX4_takeCost_47 : decode cX4_takeCost 47 = .ok (.bipush (-4), 2) := by decide +kernel
theorem dX4_takeCost_49 : decode cX4_takeCost 49 = .ok (.if_icmp .eq 19, 3) := by decide +kernel
theorem dX4_takeCost_52 : decode cX4_takeCost 52 = .ok (.aload_n 0, 1) := by decide +kernel
theorem dX4_takeCost_53 : decode cX4_takeCost 53 = .ok (.getfield 15, 3) := by decide +kernel
theorem dX4_takeCost_56 : decode cX4_takeCost 56 = .ok (.aload_n 0, 1) := by decide +kernel
theorem dX4_takeCost_57 : decode cX4_takeCost 57 = .ok (.getfield 18, 3) := by decide +kernel
theorem dX4_takeCost_60 : decode cX4_takeCost 60 = .ok (.if_icmp .lt 8, 3) := by decide +kernel
theorem dX4_takeCost_63 : decode cX4_takeCost 63 = .ok (.aload_n 0, 1) := by decide +kernel
theorem dX4_takeCost_64 : decode cX4_takeCost 64 = .ok (.iconst 1, 1) := by decide +kernel
theorem dX4_takeCost_65 : decode cX4_takeCost 65 = .ok (.putfield 9, 3) := by decide +kernel
theorem dX4_takeCost_68 : decode cX4_takeCost 68 = .ok (.return_, 1) := by decide +kernel
theorem dX5_init_0 : decode cX5_init 0 = .ok (.aload_n 0, 1) := by decide +kernel
theorem dX5_init_1 : decode cX5_init 1 = .ok (.invokespecial 3, 3) := by decide +kernel
theorem dX5_init_4 : decode cX5_init 4 = .ok (.aload_n 0, 1) := by decide +kernel
theorem dX5_init_5 : decode cX5_init 5 = .ok (.new 9, 3) := by decide +kernel
theorem dX5_init_8 : decode cX5_init 8 = .ok (.dup, 1) := by decide +kernel
theorem dX5_init_9 : decode cX5_init 9 = .ok (.invokespecial 11, 3) := by decide +kernel
theorem dX5_init_12 : decode cX5_init 12 = .ok (.putfield 12, 3) := by decide +kernel
theorem dX5_init_15 : decode cX5_init 15 = .ok (.aload_n 0, 1) := by decide +kernel
theorem dX5_init_16 : decode cX5_init 16 = .ok (.new 16, 3) := by decide +kernel
theorem dX5_init_19 : decode cX5_init 19 = .ok (.dup, 1) := by decide +kernel
theorem dX5_init_20 : decode cX5_init 20 = .ok (.invokespecial 18, 3) := by decide +kernel
theorem dX5_init_23 : decode cX5_init 23 = .ok (.putfield 19, 3) := by decide +kernel
theorem dX5_init_26 : decode cX5_init 26 = .ok (.aload_n 0, 1) := by decide +kernel
theorem dX5_init_27 : decode cX5_init 27 = .ok (.iconst 4, 1) := by decide +kernel
theorem dX5_init_28 : decode cX5_init 28 = .ok (.anewarray 23, 3) := by decide +kernel
theorem dX5_init_31 : decode cX5_init 31 = .ok (.putfield 25, 3) := by decide +kernel
theorem dX5_init_34 : decode cX5_init 34 = .ok (.aload_n 0, 1) := by decide +kernel
theorem dX5_init_35 : decode cX5_init 35 = .ok (.new 29, 3) := by decide +kernel
theorem dX5_init_38 : decode cX5_init 38 = .ok (.dup, 1) := by decide +kernel
theorem dX5_init_39 : decode cX5_init 39 = .ok (.invokespecial 31, 3) := by decide +kernel
theorem dX5_init_42 : decode cX5_init 42 = .ok (.putfield 32, 3) := by decide +kernel
theorem dX5_init_45 : decode cX5_init 45 = .ok (.aload_n 0, 1) := by decide +kernel
theorem dX5_init_46 : decode cX5_init 46 = .ok (.new 36, 3) := by decide +kernel
theorem dX5_init_49 : decode cX5_init 49 = .ok (.dup, 1) := by decide +kernel
theorem dX5_init_50 : decode cX5_init 50 = .ok (.invokespecial 38, 3) := by decide +kernel
theorem dX5_init_53 : decode cX5_init 53 = .ok (.putfield 39, 3) := by decide +kernel
theorem dX5_init_56 : decode cX5_init 56 = .ok (.aload_n 0, 1) := by decide +kernel
theorem dX5_init_57 : decode cX5_init 57 = .ok (.bipush 6, 2) := by decide +kernel
theorem dX5_init_59 : decode cX5_init 59 = .ok (.newarray .int, 2) := by decide +kernel
theorem dX5_init_61 : decode cX5_init 61 = .ok (.putfield 43, 3) := by decide +kernel
theorem dX5_init_64 : decode cX5_init 64 = .ok (.aload_n 0, 1) := by decide +kernel
theorem dX5_init_65 : decode cX5_init 65 = .ok (.bipush 7, 2) := by decide +kernel
theorem dX5_init_67 : decode cX5_init 67 = .ok (.newarray .int, 2) := by decide +kernel
theorem dX5_init_69 : decode cX5_init 69 = .ok (.putfield 47, 3) := by decide +kernel
theorem dX5_init_72 : decode cX5_init 72 = .ok (.aload_n 0, 1) := by decide +kernel
theorem dX5_init_73 : decode cX5_init 73 = .ok (.bipush 6, 2) := by decide +kernel
theorem dX5_init_75 : decode cX5_init 75 = .ok (.newarray .int, 2) := by decide +kernel
theorem dX5_init_77 : decode cX5_init 77 = .ok (.putfield 50, 3) := by decide +kernel
theorem dX5_init_80 : decode cX5_init 80 = .ok (.aload_n 0, 1) := by decide +kernel
theorem dX5_init_81 : decode cX5_init 81 = .ok (.bipush (-4), 2) := by decide +kernel
theorem dX5_init_83 : decode cX5_init 83 = .ok (.putfield 53, 3) := by decide +kernel
theorem dX5_init_86 : decode cX5_init 86 = .ok (.iconst 0, 1) := by decide +kernel
theorem dX5_init_87 : decode cX5_init 87 = .ok (.istore_n 1, 1) := by decide +kernel
theorem dX5_init_88 : decode cX5_init 88 = .ok (.iload_n 1, 1) := by decide +kernel
theorem dX5_init_89 : decode cX5_init 89 = .ok (.iconst 4, 1) := by decide +kernel
theorem dX5_init_90 : decode cX5_init 90 = .ok (.if_icmp .ge 22, 3) := by decide +kernel
theorem dX5_init_93 : decode cX5_init 93 = .ok (.aload_n 0, 1) := by decide +kernel
theorem dX5_init_94 : decode cX5_init 94 = .ok (.getfield 25, 3) := by decide +kernel
theorem dX5_init_97 : decode cX5_init 97 = .ok (.iload_n 1, 1) := by decide +kernel
theorem dX5_init_98 : decode cX5_init 98 = .ok (.new 23, 3) := by decide +kernel
theorem dX5_init_101 : decode cX5_init 101 = .ok (.dup, 1) := by decide +kernel
theorem dX5_init_102 : decode cX5_init 102 = .ok (.invokespecial 57, 3) := by decide +kernel
theorem dX5_init_105 : decode cX5_init 105 = .ok (.aastore, 1) := by decide +kernel
theorem dX5_init_106 : decode cX5_init 106 = .ok (.iinc 1 1, 3) := by decide +kernel
theorem dX5_init_109 : decode cX5_init 109 = .ok (.goto (-21), 3) := by decide +kernel
theorem dX5_init_112 : decode cX5_init 112 = .ok (.return_, 1) := by decide +kernel
theorem dX5_choice_0 : decode cX5_choice 0 = .ok (.iload_n 1, 1) := by decide +kernel
theorem dX5_choice_1 : decode cX5_choice 1 = .ok (.iconst 2, 1) := by decide +kernel
theorem dX5_choice_2 : decode cX5_choice 2 = .ok (.if_icmp .lt 8, 3) := by decide +kernel
theorem dX5_choice_5 : decode cX5_choice 5 = .ok (.iload_n 1, 1) := by decide +kernel
theorem dX5_choice_6 : decode cX5_choice 6 = .ok (.iconst 4, 1) := by decide +kernel
theorem dX5_choice_7 : decode cX5_choice 7 = .ok (.if_icmp .le 6, 3) := by decide +kernel
theorem dX5_choice_10 : decode cX5_choice 10 = .ok (.bipush (-2), 2) := by decide +kernel
theorem dX5_choice_12 : decode cX5_choice 12 = .ok (.ireturn, 1) := by decide +kernel
theorem dX5_choice_13 : decode cX5_choice 13 = .ok (.aload_n 0, 1) := by decide +kernel
theorem dX5_choice_14 : decode cX5_choice 14 = .ok (.getfield 12, 3) := by decide +kernel
theorem dX5_choice_17 : decode cX5_choice 17 = .ok (.getfield 58, 3) := by decide +kernel
theorem dX5_choice_20 : decode cX5_choice 20 = .ok (.bipush 6, 2) := by decide +kernel
theorem dX5_choice_22 : decode cX5_choice 22 = .ok (.if_icmp .lt 6, 3) := by decide +kernel
theorem dX5_choice_25 : decode cX5_choice 25 = .ok (.bipush (-3), 2) := by decide +kernel
theorem dX5_choice_27 : decode cX5_choice 27 = .ok (.ireturn, 1) := by decide +kernel
theorem dX5_choice_28 : decode cX5_choice 28 = .ok (.aload_n 0, 1) := by decide +kernel
theorem dX5_choice_29 : decode cX5_choice 29 = .ok (.getfield 12, 3) := by decide +kernel
theorem dX5_choice_32 : decode cX5_choice 32 = .ok (.getfield 61, 3) := by decide +kernel
theorem dX5_choice_35 : decode cX5_choice 35 = .ok (.aload_n 0, 1) := by decide +kernel
theorem dX5_choice_36 : decode cX5_choice 36 = .ok (.getfield 12, 3) := by decide +kernel
theorem dX5_choice_39 : decode cX5_choice 39 = .ok (.getfield 58, 3) := by decide +kernel
theorem dX5_choice_42 : decode cX5_choice 42 = .ok (.iload_n 1, 1) := by decide +kernel
theorem dX5_choice_43 : decode cX5_choice 43 = .ok (.iastore, 1) := by decide +kernel
theorem dX5_choice_44 : decode cX5_choice 44 = .ok (.aload_n 0, 1) := by decide +kernel
theorem dX5_choice_45 : decode cX5_choice 45 = .ok (.getfield 12, 3) := by decide +kernel
theorem dX5_choice_48 : decode cX5_choice 48 = .ok (.dup, 1) := by decide +kernel
theorem dX5_choice_49 : decode cX5_choice 49 = .ok (.getfield 58, 3) := by decide +kernel
theorem dX5_choice_52 : decode cX5_choice 52 = .ok (.iconst 1, 1) := by decide +kernel
theorem dX5_choice_53 : decode cX5_choice 53 = .ok (.iadd, 1) := by decide +kernel
theorem dX5_choice_54 : decode cX5_choice 54 = .ok (.putfield 58, 3) := by decide +kernel
theorem dX5_choice_57 : decode cX5_choice 57 = .ok (.aload_n 0, 1) := by decide +kernel
theorem dX5_choice_58 : decode cX5_choice 58 = .ok (.getfield 39, 3) := by decide +kernel
theorem dX5_choice_61 : decode cX5_choice 61 = .ok (.invokevirtual 64, 3) := by decide +kernel
theorem dX5_choice_64 : decode cX5_choice 64 = .ok (.aload_n 0, 1) := by decide +kernel
theorem dX5_choice_65 : decode cX5_choice 65 = .ok (.getfield 12, 3) := by decide +kernel
theorem dX5_choice_68 : decode cX5_choice 68 = .ok (.getfield 58, 3) := by decide +kernel
theorem dX5_choice_71 : decode cX5_choice 71 = .ok (.iconst 1, 1) := by decide +kernel
theorem dX5_choice_72 : decode cX5_choice 72 = .ok (.isub, 1) := by decide +kernel
theorem dX5_choice_73 : decode cX5_choice 73 = .ok (.ireturn, 1) := by decide +kernel
theorem dX5_price_0 : decode cX5_price 0 = .ok (.aload_n 0, 1) := by decide +kernel
theorem dX5_price_1 : decode cX5_price 1 = .ok (.getfield 12, 3) := by decide +kernel
theorem dX5_price_4 : decode cX5_price 4 = .ok (.iload_n 1, 1) := by decide +kernel
theorem dX5_price_5 : decode cX5_price 5 = .ok (.iload_n 2, 1) := by decide +kernel
theorem dX5_price_6 : decode cX5_price 6 = .ok (.invokevirtual 67, 3) := by decide +kernel
theorem dX5_price_9 : decode cX5_price 9 = .ok (.ifCond .ne 5, 3) := by decide +kernel
theorem dX5_price_12 : decode cX5_price 12 = .ok (.iconst (-1), 1) := by decide +kernel
theorem dX5_price_13 : decode cX5_price 13 = .ok (.ireturn, 1) := by decide +kernel
theorem dX5_price_14 : decode cX5_price 14 = .ok (.iload_n 3, 1) := by decide +kernel
theorem dX5_price_15 : decode cX5_price 15 = .ok (.bipush (-4), 2) := by decide +kernel
theorem dX5_price_17 : decode cX5_price 17 = .ok (.if_icmp .eq 17, 3) := by decide +kernel
theorem dX5_price_20 : decode cX5_price 20 = .ok (.iload_n 3, 1) := by decide +kernel
theorem dX5_price_21 : decode cX5_price 21 = .ok (.ifCond .lt 10, 3) := by decide +kernel
theorem dX5_price_24 : decode cX5_price 24 = .ok (.iload_n 3, 1) := by decide +kernel
theorem dX5_price_25 : decode cX5_price 25 = .ok (.sipush 200, 3) := by decide +kernel
theorem dX5_price_28 : decode cX5_price 28 = .ok (.if_icmp .le 6, 3) := by decide +kernel
theorem dX5_price_31 : decode cX5_price 31 = .ok (.bipush (-2), 2) := by decide +kernel
theorem dX5_price_33 : decode cX5_price 33 = .ok (.ireturn, 1) := by decide +kernel
theorem dX5_price_34 : decode cX5_price 34 = .ok (.aload_n 0, 1) := by decide +kernel
theorem dX5_price_35 : decode cX5_price 35 = .ok (.getfield 12, 3) := by decide +kernel
theorem dX5_price_38 : decode cX5_price 38 = .ok (.getfield 71, 3) := by decide +kernel
theorem dX5_price_41 : decode cX5_price 41 = .ok (.iload_n 1, 1) := by decide +kernel
theorem dX5_price_42 : decode cX5_price 42 = .ok (.iconst 4, 1) := by decide +kernel
theorem dX5_price_43 : decode cX5_price 43 = .ok (.imul, 1) := by decide +kernel
theorem dX5_price_44 : decode cX5_price 44 = .ok (.iload_n 2, 1) := by decide +kernel
theorem dX5_price_45 : decode cX5_price 45 = .ok (.iadd, 1) := by decide +kernel
theorem dX5_price_46 : decode cX5_price 46 = .ok (.iload_n 3, 1) := by decide +kernel
theorem dX5_price_47 : decode cX5_price 47 = .ok (.iastore, 1) := by decide +kernel
theorem dX5_price_48 : decode cX5_price 48 = .ok (.aload_n 0, 1) := by decide +kernel
theorem dX5_price_49 : decode cX5_price 49 = .ok (.getfield 39, 3) := by decide +kernel
theorem dX5_price_52 : decode cX5_price 52 = .ok (.invokevirtual 64, 3) := by decide +kernel
theorem dX5_price_55 : decode cX5_price 55 = .ok (.iconst 1, 1) := by decide +kernel
theorem dX5_price_56 : decode cX5_price 56 = .ok (.ireturn, 1) := by decide +kernel
theorem dX5_future_0 : decode cX5_future 0 = .ok (.iload_n 1, 1) := by decide +kernel
theorem dX5_future_1 : decode cX5_future 1 = .ok (.invokestatic 74, 3) := by decide +kernel
theorem dX5_future_4 : decode cX5_future 4 = .ok (.ifCond .ne 6, 3) := by decide +kernel
theorem dX5_future_7 : decode cX5_future 7 = .ok (.bipush (-2), 2) := by decide +kernel
theorem dX5_future_9 : decode cX5_future 9 = .ok (.ireturn, 1) := by decide +kernel
theorem dX5_future_10 : decode cX5_future 10 = .ok (.aload_n 0, 1) := by decide +kernel
theorem dX5_future_11 : decode cX5_future 11 = .ok (.getfield 19, 3) := by decide +kernel
theorem dX5_future_14 : decode cX5_future 14 = .ok (.getfield 78, 3) := by decide +kernel
theorem dX5_future_17 : decode cX5_future 17 = .ok (.iconst 4, 1) := by decide +kernel
theorem dX5_future_18 : decode cX5_future 18 = .ok (.if_icmp .lt 6, 3) := by decide +kernel
theorem dX5_future_21 : decode cX5_future 21 = .ok (.bipush (-3), 2) := by decide +kernel
theorem dX5_future_23 : decode cX5_future 23 = .ok (.ireturn, 1) := by decide +kernel
theorem dX5_future_24 : decode cX5_future 24 = .ok (.aload_n 0, 1) := by decide +kernel
theorem dX5_future_25 : decode cX5_future 25 = .ok (.getfield 19, 3) := by decide +kernel
theorem dX5_future_28 : decode cX5_future 28 = .ok (.getfield 79, 3) := by decide +kernel
theorem dX5_future_31 : decode cX5_future 31 = .ok (.aload_n 0, 1) := by decide +kernel
theorem dX5_future_32 : decode cX5_future 32 = .ok (.getfield 19, 3) := by decide +kernel
theorem dX5_future_35 : decode cX5_future 35 = .ok (.getfield 78, 3) := by decide +kernel
theorem dX5_future_38 : decode cX5_future 38 = .ok (.iload_n 1, 1) := by decide +kernel
theorem dX5_future_39 : decode cX5_future 39 = .ok (.iastore, 1) := by decide +kernel
theorem dX5_future_40 : decode cX5_future 40 = .ok (.aload_n 0, 1) := by decide +kernel
theorem dX5_future_41 : decode cX5_future 41 = .ok (.getfield 19, 3) := by decide +kernel
theorem dX5_future_44 : decode cX5_future 44 = .ok (.dup, 1) := by decide +kernel
theorem dX5_future_45 : decode cX5_future 45 = .ok (.getfield 78, 3) := by decide +kernel
theorem dX5_future_48 : decode cX5_future 48 = .ok (.iconst 1, 1) := by decide +kernel
theorem dX5_future_49 : decode cX5_future 49 = .ok (.iadd, 1) := by decide +kernel
theorem dX5_future_50 : decode cX5_future 50 = .ok (.putfield 78, 3) := by decide +kernel
theorem dX5_future_53 : decode cX5_future 53 = .ok (.aload_n 0, 1) := by decide +kernel
theorem dX5_future_54 : decode cX5_future 54 = .ok (.getfield 39, 3) := by decide +kernel
theorem dX5_future_57 : decode cX5_future 57 = .ok (.invokevirtual 64, 3) := by decide +kernel
theorem dX5_future_60 : decode cX5_future 60 = .ok (.aload_n 0, 1) := by decide +kernel
theorem dX5_future_61 : decode cX5_future 61 = .ok (.getfield 19, 3) := by decide +kernel
theorem dX5_future_64 : decode cX5_future 64 = .ok (.getfield 78, 3) := by decide +kernel
theorem dX5_future_67 : decode cX5_future 67 = .ok (.iconst 1, 1) := by decide +kernel
theorem dX5_future_68 : decode cX5_future 68 = .ok (.isub, 1) := by decide +kernel
theorem dX5_future_69 : decode cX5_future 69 = .ok (.ireturn, 1) := by decide +kernel
theorem dX5_weight_0 : decode cX5_weight 0 = .ok (.aload_n 0, 1) := by decide +kernel
theorem dX5_weight_1 : decode cX5_weight 1 = .ok (.getfield 19, 3) := by decide +kernel
theorem dX5_weight_4 : decode cX5_weight 4 = .ok (.iload_n 1, 1) := by decide +kernel
theorem dX5_weight_5 : decode cX5_weight 5 = .ok (.invokevirtual 82, 3) := by decide +kernel
theorem dX5_weight_8 : decode cX5_weight 8 = .ok (.ifCond .ne 5, 3) := by decide +kernel
theorem dX5_weight_11 : decode cX5_weight 11 = .ok (.iconst (-1), 1) := by decide +kernel
theorem dX5_weight_12 : decode cX5_weight 12 = .ok (.ireturn, 1) := by decide +kernel
theorem dX5_weight_13 : decode cX5_weight 13 = .ok (.iload_n 2, 1) := by decide +kernel
theorem dX5_weight_14 : decode cX5_weight 14 = .ok (.invokestatic 74, 3) := by decide +kernel
theorem dX5_weight_17 : decode cX5_weight 17 = .ok (.ifCond .ne 6, 3) := by decide +kernel
theorem dX5_weight_20 : decode cX5_weight 20 = .ok (.bipush (-2), 2) := by decide +kernel
theorem dX5_weight_22 : decode cX5_weight 22 = .ok (.ireturn, 1) := by decide +kernel
theorem dX5_weight_23 : decode cX5_weight 23 = .ok (.aload_n 0, 1) := by decide +kernel
theorem dX5_weight_24 : decode cX5_weight 24 = .ok (.getfield 19, 3) := by decide +kernel
theorem dX5_weight_27 : decode cX5_weight 27 = .ok (.getfield 79, 3) := by decide +kernel
theorem dX5_weight_30 : decode cX5_weight 30 = .ok (.iload_n 1, 1) := by decide +kernel
theorem dX5_weight_31 : decode cX5_weight 31 = .ok (.iaload, 1) := by decide +kernel
theorem dX5_weight_32 : decode cX5_weight 32 = .ok (.istore_n 3, 1) := by decide +kernel
theorem dX5_weight_33 : decode cX5_weight 33 = .ok (.aload_n 0, 1) := by decide +kernel
theorem dX5_weight_34 : decode cX5_weight 34 = .ok (.getfield 19, 3) := by decide +kernel
theorem dX5_weight_37 : decode cX5_weight 37 = .ok (.getfield 79, 3) := by decide +kernel
theorem dX5_weight_40 : decode cX5_weight 40 = .ok (.iload_n 1, 1) := by decide +kernel
theorem dX5_weight_41 : decode cX5_weight 41 = .ok (.iload_n 2, 1) := by decide +kernel
theorem dX5_weight_42 : decode cX5_weight 42 = .ok (.iastore, 1) := by decide +kernel
theorem dX5_weight_43 : decode cX5_weight 43 = .ok (.aload_n 0, 1) := by decide +kernel
theorem dX5_weight_44 : decode cX5_weight 44 = .ok (.getfield 39, 3) := by decide +kernel
theorem dX5_weight_47 : decode cX5_weight 47 = .ok (.invokevirtual 64, 3) := by decide +kernel
theorem dX5_weight_50 : decode cX5_weight 50 = .ok (.iload_n 3, 1) := by decide +kernel
theorem dX5_weight_51 : decode cX5_weight 51 = .ok (.ireturn, 1) := by decide +kernel
theorem dX5_part_0 : decode cX5_part 0 = .ok (.aload_n 0, 1) := by decide +kernel
theorem dX5_part_1 : decode cX5_part 1 = .ok (.getfield 85, 3) := by decide +kernel
theorem dX5_part_4 : decode cX5_part 4 = .ok (.iconst 4, 1) := by decide +kernel
theorem dX5_part_5 : decode cX5_part 5 = .ok (.if_icmp .lt 6, 3) := by decide +kernel
theorem dX5_part_8 : decode cX5_part 8 = .ok (.bipush (-3), 2) := by decide +kernel
theorem dX5_part_10 : decode cX5_part 10 = .ok (.ireturn, 1) := by decide +kernel
theorem dX5_part_11 : decode cX5_part 11 = .ok (.aload_n 0, 1) := by decide +kernel
theorem dX5_part_12 : decode cX5_part 12 = .ok (.dup, 1) := by decide +kernel
theorem dX5_part_13 : decode cX5_part 13 = .ok (.getfield 85, 3) := by decide +kernel
theorem dX5_part_16 : decode cX5_part 16 = .ok (.iconst 1, 1) := by decide +kernel
theorem dX5_part_17 : decode cX5_part 17 = .ok (.iadd, 1) := by decide +kernel
theorem dX5_part_18 : decode cX5_part 18 = .ok (.putfield 85, 3) := by decide +kernel
theorem dX5_part_21 : decode cX5_part 21 = .ok (.aload_n 0, 1) := by decide +kernel
theorem dX5_part_22 : decode cX5_part 22 = .ok (.getfield 39, 3) := by decide +kernel
theorem dX5_part_25 : decode cX5_part 25 = .ok (.invokevirtual 64, 3) := by decide +kernel
theorem dX5_part_28 : decode cX5_part 28 = .ok (.aload_n 0, 1) := by decide +kernel
theorem dX5_part_29 : decode cX5_part 29 = .ok (.getfield 85, 3) := by decide +kernel
theorem dX5_part_32 : decode cX5_part 32 = .ok (.iconst 1, 1) := by decide +kernel
theorem dX5_part_33 : decode cX5_part 33 = .ok (.isub, 1) := by decide +kernel
theorem dX5_part_34 : decode cX5_part 34 = .ok (.ireturn, 1) := by decide +kernel
theorem dX5_join_0 : decode cX5_join 0 = .ok (.aload_n 0, 1) := by decide +kernel
theorem dX5_join_1 : decode cX5_join 1 = .ok (.iload_n 1, 1) := by decide +kernel
theorem dX5_join_2 : decode cX5_join 2 = .ok (.invokevirtual 88, 3) := by decide +kernel
theorem dX5_join_5 : decode cX5_join 5 = .ok (.ifCond .eq 14, 3) := by decide +kernel
theorem dX5_join_8 : decode cX5_join 8 = .ok (.aload_n 0, 1) := by decide +kernel
theorem dX5_join_9 : decode cX5_join 9 = .ok (.getfield 12, 3) := by decide +kernel
theorem dX5_join_12 : decode cX5_join 12 = .ok (.iload_n 2, 1) := by decide +kernel
theorem dX5_join_13 : decode cX5_join 13 = .ok (.invokevirtual 91, 3) := by decide +kernel
theorem dX5_join_16 : decode cX5_join 16 = .ok (.ifCond .ne 5, 3) := by decide +kernel
theorem dX5_join_19 : decode cX5_join 19 = .ok (.iconst (-1), 1) := by decide +kernel
theorem dX5_join_20 : decode cX5_join 20 = .ok (.ireturn, 1) := by decide +kernel
theorem dX5_join_21 : decode cX5_join 21 = .ok (.aload_n 0, 1) := by decide +kernel
theorem dX5_join_22 : decode cX5_join 22 = .ok (.getfield 25, 3) := by decide +kernel
theorem dX5_join_25 : decode cX5_join 25 = .ok (.iload_n 1, 1) := by decide +kernel
theorem dX5_join_26 : decode cX5_join 26 = .ok (.aaload, 1) := by decide +kernel
theorem dX5_join_27 : decode cX5_join 27 = .ok (.iload_n 2, 1) := by decide +kernel
theorem dX5_join_28 : decode cX5_join 28 = .ok (.invokevirtual 92, 3) := by decide +kernel
theorem dX5_join_31 : decode cX5_join 31 = .ok (.ifCond .eq 6, 3) := by decide +kernel
theorem dX5_join_34 : decode cX5_join 34 = .ok (.bipush (-4), 2) := by decide +kernel
theorem dX5_join_36 : decode cX5_join 36 = .ok (.ireturn, 1) := by decide +kernel
theorem dX5_join_37 : decode cX5_join 37 = .ok (.aload_n 0, 1) := by decide +kernel
theorem dX5_join_38 : decode cX5_join 38 = .ok (.getfield 25, 3) := by decide +kernel
theorem dX5_join_41 : decode cX5_join 41 = .ok (.iload_n 1, 1) := by decide +kernel
theorem dX5_join_42 : decode cX5_join 42 = .ok (.aaload, 1) := by decide +kernel
theorem dX5_join_43 : decode cX5_join 43 = .ok (.getfield 95, 3) := by decide +kernel
theorem dX5_join_46 : decode cX5_join 46 = .ok (.iconst 3, 1) := by decide +kernel
theorem dX5_join_47 : decode cX5_join 47 = .ok (.if_icmp .lt 6, 3) := by decide +kernel
theorem dX5_join_50 : decode cX5_join 50 = .ok (.bipush (-3), 2) := by decide +kernel
theorem dX5_join_52 : decode cX5_join 52 = .ok (.ireturn, 1) := by decide +kernel
theorem dX5_join_53 : decode cX5_join 53 = .ok (.aload_n 0, 1) := by decide +kernel
theorem dX5_join_54 : decode cX5_join 54 = .ok (.getfield 25, 3) := by decide +kernel
theorem dX5_join_57 : decode cX5_join 57 = .ok (.iload_n 1, 1) := by decide +kernel
theorem dX5_join_58 : decode cX5_join 58 = .ok (.aaload, 1) := by decide +kernel
theorem dX5_join_59 : decode cX5_join 59 = .ok (.iload_n 2, 1) := by decide +kernel
theorem dX5_join_60 : decode cX5_join 60 = .ok (.aload_n 0, 1) := by decide +kernel
theorem dX5_join_61 : decode cX5_join 61 = .ok (.getfield 12, 3) := by decide +kernel
theorem dX5_join_64 : decode cX5_join 64 = .ok (.getfield 61, 3) := by decide +kernel
theorem dX5_join_67 : decode cX5_join 67 = .ok (.iload_n 2, 1) := by decide +kernel
theorem dX5_join_68 : decode cX5_join 68 = .ok (.iaload, 1) := by decide +kernel
theorem dX5_join_69 : decode cX5_join 69 = .ok (.invokevirtual 98, 3) := by decide +kernel
theorem dX5_join_72 : decode cX5_join 72 = .ok (.aload_n 0, 1) := by decide +kernel
theorem dX5_join_73 : decode cX5_join 73 = .ok (.iload_n 1, 1) := by decide +kernel
theorem dX5_join_74 : decode cX5_join 74 = .ok (.invokevirtual 102, 3) := by decide +kernel
theorem dX5_join_77 : decode cX5_join 77 = .ok (.aload_n 0, 1) := by decide +kernel
theorem dX5_join_78 : decode cX5_join 78 = .ok (.getfield 25, 3) := by decide +kernel
theorem dX5_join_81 : decode cX5_join 81 = .ok (.iload_n 1, 1) := by decide +kernel
theorem dX5_join_82 : decode cX5_join 82 = .ok (.aaload, 1) := by decide +kernel
theorem dX5_join_83 : decode cX5_join 83 = .ok (.getfield 95, 3) := by decide +kernel
theorem dX5_join_86 : decode cX5_join 86 = .ok (.ireturn, 1) := by decide +kernel
theorem dX5_local_0 : decode cX5_local 0 = .ok (.aload_n 0, 1) := by decide +kernel
theorem dX5_local_1 : decode cX5_local 1 = .ok (.iload_n 1, 1) := by decide +kernel
theorem dX5_local_2 : decode cX5_local 2 = .ok (.invokevirtual 88, 3) := by decide +kernel
theorem dX5_local_5 : decode cX5_local 5 = .ok (.ifCond .ne 5, 3) := by decide +kernel
theorem dX5_local_8 : decode cX5_local 8 = .ok (.iconst (-1), 1) := by decide +kernel
theorem dX5_local_9 : decode cX5_local 9 = .ok (.ireturn, 1) := by decide +kernel
theorem dX5_local_10 : decode cX5_local 10 = .ok (.iload_n 2, 1) := by decide +kernel
theorem dX5_local_11 : decode cX5_local 11 = .ok (.iconst 1, 1) := by decide +kernel
theorem dX5_local_12 : decode cX5_local 12 = .ok (.if_icmp .lt 18, 3) := by decide +kernel
theorem dX5_local_15 : decode cX5_local 15 = .ok (.iload_n 2, 1) := by decide +kernel
theorem dX5_local_16 : decode cX5_local 16 = .ok (.iconst 3, 1) := by decide +kernel
theorem dX5_local_17 : decode cX5_local 17 = .ok (.if_icmp .gt 13, 3) := by decide +kernel
theorem dX5_local_20 : decode cX5_local 20 = .ok (.iload_n 3, 1) := by decide +kernel
theorem dX5_local_21 : decode cX5_local 21 = .ok (.ifCond .lt 9, 3) := by decide +kernel
theorem dX5_local_24 : decode cX5_local 24 = .ok (.iload_n 3, 1) := by decide +kernel
theorem dX5_local_25 : decode cX5_local 25 = .ok (.bipush 50, 2) := by decide +kernel
theorem dX5_local_27 : decode cX5_local 27 = .ok (.if_icmp .le 6, 3) := by decide +kernel
theorem dX5_local_30 : decode cX5_local 30 = .ok (.bipush (-2), 2) := by decide +kernel
theorem dX5_local_32 : decode cX5_local 32 = .ok (.ireturn, 1) := by decide +kernel
theorem dX5_local_33 : decode cX5_local 33 = .ok (.aload_n 0, 1) := by decide +kernel
theorem dX5_local_34 : decode cX5_local 34 = .ok (.getfield 25, 3) := by decide +kernel
theorem dX5_local_37 : decode cX5_local 37 = .ok (.iload_n 1, 1) := by decide +kernel
theorem dX5_local_38 : decode cX5_local 38 = .ok (.aaload, 1) := by decide +kernel
theorem dX5_local_39 : decode cX5_local 39 = .ok (.astore 4, 2) := by decide +kernel
theorem dX5_local_41 : decode cX5_local 41 = .ok (.aload 4, 2) := by decide +kernel
theorem dX5_local_43 : decode cX5_local 43 = .ok (.getfield 106, 3) := by decide +kernel
theorem dX5_local_46 : decode cX5_local 46 = .ok (.iconst 4, 1) := by decide +kernel
theorem dX5_local_47 : decode cX5_local 47 = .ok (.if_icmp .lt 6, 3) := by decide +kernel
theorem dX5_local_50 : decode cX5_local 50 = .ok (.bipush (-3), 2) := by decide +kernel
theorem dX5_local_52 : decode cX5_local 52 = .ok (.ireturn, 1) := by decide +kernel
theorem dX5_local_53 : decode cX5_local 53 = .ok (.aload 4, 2) := by decide +kernel
theorem dX5_local_55 : decode cX5_local 55 = .ok (.getfield 109, 3) := by decide +kernel
theorem dX5_local_58 : decode cX5_local 58 = .ok (.aload 4, 2) := by decide +kernel
theorem dX5_local_60 : decode cX5_local 60 = .ok (.getfield 106, 3) := by decide +kernel
theorem dX5_local_63 : decode cX5_local 63 = .ok (.iload_n 2, 1) := by decide +kernel
theorem dX5_local_64 : decode cX5_local 64 = .ok (.iastore, 1) := by decide +kernel
theorem dX5_local_65 : decode cX5_local 65 = .ok (.aload 4, 2) := by decide +kernel
theorem dX5_local_67 : decode cX5_local 67 = .ok (.getfield 112, 3) := by decide +kernel
theorem dX5_local_70 : decode cX5_local 70 = .ok (.aload 4, 2) := by decide +kernel
theorem dX5_local_72 : decode cX5_local 72 = .ok (.getfield 106, 3) := by decide +kernel
theorem dX5_local_75 : decode cX5_local 75 = .ok (.iload_n 3, 1) := by decide +kernel
theorem dX5_local_76 : decode cX5_local 76 = .ok (.iastore, 1) := by decide +kernel
theorem dX5_local_77 : decode cX5_local 77 = .ok (.aload 4, 2) := by decide +kernel
theorem dX5_local_79 : decode cX5_local 79 = .ok (.dup, 1) := by decide +kernel
theorem dX5_local_80 : decode cX5_local 80 = .ok (.getfield 106, 3) := by decide +kernel
theorem dX5_local_83 : decode cX5_local 83 = .ok (.iconst 1, 1) := by decide +kernel
theorem dX5_local_84 : decode cX5_local 84 = .ok (.iadd, 1) := by decide +kernel
theorem dX5_local_85 : decode cX5_local 85 = .ok (.putfield 106, 3) := by decide +kernel
theorem dX5_local_88 : decode cX5_local 88 = .ok (.aload_n 0, 1) := by decide +kernel
theorem dX5_local_89 : decode cX5_local 89 = .ok (.iload_n 1, 1) := by decide +kernel
theorem dX5_local_90 : decode cX5_local 90 = .ok (.invokevirtual 102, 3) := by decide +kernel
theorem dX5_local_93 : decode cX5_local 93 = .ok (.aload 4, 2) := by decide +kernel
theorem dX5_local_95 : decode cX5_local 95 = .ok (.getfield 106, 3) := by decide +kernel
theorem dX5_local_98 : decode cX5_local 98 = .ok (.iconst 1, 1) := by decide +kernel
theorem dX5_local_99 : decode cX5_local 99 = .ok (.isub, 1) := by decide +kernel
theorem dX5_local_100 : decode cX5_local 100 = .ok (.ireturn, 1) := by decide +kernel
theorem dX5_row_0 : decode cX5_row 0 = .ok (.aload_n 0, 1) := by decide +kernel
theorem dX5_row_1 : decode cX5_row 1 = .ok (.iload_n 1, 1) := by decide +kernel
theorem dX5_row_2 : decode cX5_row 2 = .ok (.invokevirtual 88, 3) := by decide +kernel
theorem dX5_row_5 : decode cX5_row 5 = .ok (.ifCond .ne 5, 3) := by decide +kernel
theorem dX5_row_8 : decode cX5_row 8 = .ok (.iconst (-1), 1) := by decide +kernel
theorem dX5_row_9 : decode cX5_row 9 = .ok (.ireturn, 1) := by decide +kernel
theorem dX5_row_10 : decode cX5_row 10 = .ok (.iload_n 2, 1) := by decide +kernel
theorem dX5_row_11 : decode cX5_row 11 = .ok (.bipush 99, 2) := by decide +kernel
theorem dX5_row_13 : decode cX5_row 13 = .ok (.invokestatic 115, 3) := by decide +kernel
theorem dX5_row_16 : decode cX5_row 16 = .ok (.ifCond .ne 6, 3) := by decide +kernel
theorem dX5_row_19 : decode cX5_row 19 = .ok (.bipush (-2), 2) := by decide +kernel
theorem dX5_row_21 : decode cX5_row 21 = .ok (.ireturn, 1) := by decide +kernel
theorem dX5_row_22 : decode cX5_row 22 = .ok (.aload_n 0, 1) := by decide +kernel
theorem dX5_row_23 : decode cX5_row 23 = .ok (.getfield 25, 3) := by decide +kernel
theorem dX5_row_26 : decode cX5_row 26 = .ok (.iload_n 1, 1) := by decide +kernel
theorem dX5_row_27 : decode cX5_row 27 = .ok (.aaload, 1) := by decide +kernel
theorem dX5_row_28 : decode cX5_row 28 = .ok (.astore_n 3, 1) := by decide +kernel
theorem dX5_row_29 : decode cX5_row 29 = .ok (.aload_n 3, 1) := by decide +kernel
theorem dX5_row_30 : decode cX5_row 30 = .ok (.getfield 118, 3) := by decide +kernel
theorem dX5_row_33 : decode cX5_row 33 = .ok (.bipush 6, 2) := by decide +kernel
theorem dX5_row_35 : decode cX5_row 35 = .ok (.if_icmp .lt 6, 3) := by decide +kernel
theorem dX5_row_38 : decode cX5_row 38 = .ok (.bipush (-3), 2) := by decide +kernel
theorem dX5_row_40 : decode cX5_row 40 = .ok (.ireturn, 1) := by decide +kernel
theorem dX5_row_41 : decode cX5_row 41 = .ok (.aload_n 3, 1) := by decide +kernel
theorem dX5_row_42 : decode cX5_row 42 = .ok (.getfield 121, 3) := by decide +kernel
theorem dX5_row_45 : decode cX5_row 45 = .ok (.aload_n 3, 1) := by decide +kernel
theorem dX5_row_46 : decode cX5_row 46 = .ok (.getfield 118, 3) := by decide +kernel
theorem dX5_row_49 : decode cX5_row 49 = .ok (.iload_n 2, 1) := by decide +kernel
theorem dX5_row_50 : decode cX5_row 50 = .ok (.iastore, 1) := by decide +kernel
theorem dX5_row_51 : decode cX5_row 51 = .ok (.aload_n 3, 1) := by decide +kernel
theorem dX5_row_52 : decode cX5_row 52 = .ok (.dup, 1) := by decide +kernel
theorem dX5_row_53 : decode cX5_row 53 = .ok (.getfield 118, 3) := by decide +kernel
theorem dX5_row_56 : decode cX5_row 56 = .ok (.iconst 1, 1) := by decide +kernel
theorem dX5_row_57 : decode cX5_row 57 = .ok (.iadd, 1) := by decide +kernel
theorem dX5_row_58 : decode cX5_row 58 = .ok (.putfield 118, 3) := by decide +kernel
theorem dX5_row_61 : decode cX5_row 61 = .ok (.aload_n 0, 1) := by decide +kernel
theorem dX5_row_62 : decode cX5_row 62 = .ok (.iload_n 1, 1) := by decide +kernel
theorem dX5_row_63 : decode cX5_row 63 = .ok (.invokevirtual 102, 3) := by decide +kernel
theorem dX5_row_66 : decode cX5_row 66 = .ok (.aload_n 3, 1) := by decide +kernel
theorem dX5_row_67 : decode cX5_row 67 = .ok (.getfield 118, 3) := by decide +kernel
theorem dX5_row_70 : decode cX5_row 70 = .ok (.iconst 1, 1) := by decide +kernel
theorem dX5_row_71 : decode cX5_row 71 = .ok (.isub, 1) := by decide +kernel
theorem dX5_row_72 : decode cX5_row 72 = .ok (.ireturn, 1) := by decide +kernel
theorem dX5_weigh_0 : decode cX5_weigh 0 = .ok (.aload_n 0, 1) := by decide +kernel
theorem dX5_weigh_1 : decode cX5_weigh 1 = .ok (.iload_n 1, 1) := by decide +kernel
theorem dX5_weigh_2 : decode cX5_weigh 2 = .ok (.iload_n 2, 1) := by decide +kernel
theorem dX5_weigh_3 : decode cX5_weigh 3 = .ok (.invokevirtual 124, 3) := by decide +kernel
theorem dX5_weigh_6 : decode cX5_weigh 6 = .ok (.ifCond .ne 5, 3) := by decide +kernel
theorem dX5_weigh_9 : decode cX5_weigh 9 = .ok (.iconst (-1), 1) := by decide +kernel
theorem dX5_weigh_10 : decode cX5_weigh 10 = .ok (.ireturn, 1) := by decide +kernel
theorem dX5_weigh_11 : decode cX5_weigh 11 = .ok (.aload_n 0, 1) := by decide +kernel
theorem dX5_weigh_12 : decode cX5_weigh 12 = .ok (.getfield 25, 3) := by decide +kernel
theorem dX5_weigh_15 : decode cX5_weigh 15 = .ok (.iload_n 1, 1) := by decide +kernel
theorem dX5_weigh_16 : decode cX5_weigh 16 = .ok (.aaload, 1) := by decide +kernel
theorem dX5_weigh_17 : decode cX5_weigh 17 = .ok (.astore 6, 2) := by decide +kernel
theorem dX5_weigh_19 : decode cX5_weigh 19 = .ok (.iload_n 3, 1) := by decide +kernel
theorem dX5_weigh_20 : decode cX5_weigh 20 = .ok (.ifCond .eq 16, 3) := by decide +kernel
theorem dX5_weigh_23 : decode cX5_weigh 23 = .ok (.aload 6, 2) := by decide +kernel
theorem dX5_weigh_25 : decode cX5_weigh 25 = .ok (.iload 4, 2) := by decide +kernel
theorem dX5_weigh_27 : decode cX5_weigh 27 = .ok (.invokevirtual 92, 3) := by decide +kernel
theorem dX5_weigh_30 : decode cX5_weigh 30 = .ok (.ifCond .ne 18, 3) := by decide +kernel
theorem dX5_weigh_33 : decode cX5_weigh 33 = .ok (.goto 13, 3) := by decide +kernel
theorem dX5_weigh_36 : decode cX5_weigh 36 = .ok (.aload 6, 2) := by decide +kernel
theorem dX5_weigh_38 : decode cX5_weigh 38 = .ok (.iload 4, 2) := by decide +kernel
theorem dX5_weigh_40 : decode cX5_weigh 40 = .ok (.invokevirtual 127, 3) := by decide +kernel
theorem dX5_weigh_43 : decode cX5_weigh 43 = .ok (.ifCond .ne 5, 3) := by decide +kernel
theorem dX5_weigh_46 : decode cX5_weigh 46 = .ok (.iconst (-1), 1) := by decide +kernel
theorem dX5_weigh_47 : decode cX5_weigh 47 = .ok (.ireturn, 1) := by decide +kernel
theorem dX5_weigh_48 : decode cX5_weigh 48 = .ok (.iload 5, 2) := by decide +kernel
theorem dX5_weigh_50 : decode cX5_weigh 50 = .ok (.bipush 9, 2) := by decide +kernel
theorem dX5_weigh_52 : decode cX5_weigh 52 = .ok (.invokestatic 115, 3) := by decide +kernel
theorem dX5_weigh_55 : decode cX5_weigh 55 = .ok (.ifCond .ne 6, 3) := by decide +kernel
theorem dX5_weigh_58 : decode cX5_weigh 58 = .ok (.bipush (-2), 2) := by decide +kernel
theorem dX5_weigh_60 : decode cX5_weigh 60 = .ok (.ireturn, 1) := by decide +kernel
theorem dX5_weigh_61 : decode cX5_weigh 61 = .ok (.iload_n 2, 1) := by decide +kernel
theorem dX5_weigh_62 : decode cX5_weigh 62 = .ok (.bipush 10, 2) := by decide +kernel
theorem dX5_weigh_64 : decode cX5_weigh 64 = .ok (.imul, 1) := by decide +kernel
theorem dX5_weigh_65 : decode cX5_weigh 65 = .ok (.iload_n 3, 1) := by decide +kernel
theorem dX5_weigh_66 : decode cX5_weigh 66 = .ok (.ifCond .eq 10, 3) := by decide +kernel
theorem dX5_weigh_69 : decode cX5_weigh 69 = .ok (.iconst 4, 1) := by decide +kernel
theorem dX5_weigh_70 : decode cX5_weigh 70 = .ok (.iload 4, 2) := by decide +kernel
theorem dX5_weigh_72 : decode cX5_weigh 72 = .ok (.iadd, 1) := by decide +kernel
theorem dX5_weigh_73 : decode cX5_weigh 73 = .ok (.goto 5, 3) := by decide +kernel
theorem dX5_weigh_76 : decode cX5_weigh 76 = .ok (.iload 4, 2) := by decide +kernel
theorem dX5_weigh_78 : decode cX5_weigh 78 = .ok (.iadd, 1) := by decide +kernel
theorem dX5_weigh_79 : decode cX5_weigh 79 = .ok (.istore 7, 2) := by decide +kernel
theorem dX5_weigh_81 : decode cX5_weigh 81 = .ok (.aload 6, 2) := by decide +kernel
theorem dX5_weigh_83 : decode cX5_weigh 83 = .ok (.getfield 130, 3) := by decide +kernel
theorem dX5_weigh_86 : decode cX5_weigh 86 = .ok (.iload 7, 2) := by decide +kernel
theorem dX5_weigh_88 : decode cX5_weigh 88 = .ok (.iaload, 1) := by decide +kernel
theorem dX5_weigh_89 : decode cX5_weigh 89 = .ok (.istore 8, 2) := by decide +kernel
theorem dX5_weigh_91 : decode cX5_weigh 91 = .ok (.aload 6, 2) := by decide +kernel
theorem dX5_weigh_93 : decode cX5_weigh 93 = .ok (.getfield 130, 3) := by decide +kernel
theorem dX5_weigh_96 : decode cX5_weigh 96 = .ok (.iload 7, 2) := by decide +kernel
theorem dX5_weigh_98 : decode cX5_weigh 98 = .ok (.iload 5, 2) := by decide +kernel
theorem dX5_weigh_100 : decode cX5_weigh 100 = .ok (.iastore, 1) := by decide +kernel
theorem dX5_weigh_101 : decode cX5_weigh 101 = .ok (.aload_n 0, 1) := by decide +kernel
theorem dX5_weigh_102 : decode cX5_weigh 102 = .ok (.iload_n 1, 1) := by decide +kernel
theorem dX5_weigh_103 : decode cX5_weigh 103 = .ok (.invokevirtual 102, 3) := by decide +kernel
theorem dX5_weigh_106 : decode cX5_weigh 106 = .ok (.iload 8, 2) := by decide +kernel
theorem dX5_weigh_108 : decode cX5_weigh 108 = .ok (.ireturn, 1) := by decide +kernel
theorem dX5_shift_0 : decode cX5_shift 0 = .ok (.aload_n 0, 1) := by decide +kernel
theorem dX5_shift_1 : decode cX5_shift 1 = .ok (.getfield 19, 3) := by decide +kernel
theorem dX5_shift_4 : decode cX5_shift 4 = .ok (.iload_n 1, 1) := by decide +kernel
theorem dX5_shift_5 : decode cX5_shift 5 = .ok (.invokevirtual 82, 3) := by decide +kernel
theorem dX5_shift_8 : decode cX5_shift 8 = .ok (.ifCond .eq 12, 3) := by decide +kernel
theorem dX5_shift_11 : decode cX5_shift 11 = .ok (.aload_n 0, 1) := by decide +kernel
theorem dX5_shift_12 : decode cX5_shift 12 = .ok (.iload_n 2, 1) := by decide +kernel
theorem dX5_shift_13 : decode cX5_shift 13 = .ok (.iload_n 3, 1) := by decide +kernel
theorem dX5_shift_14 : decode cX5_shift 14 = .ok (.invokevirtual 124, 3) := by decide +kernel
theorem dX5_shift_17 : decode cX5_shift 17 = .ok (.ifCond .ne 5, 3) := by decide +kernel
theorem dX5_shift_20 : decode cX5_shift 20 = .ok (.iconst (-1), 1) := by decide +kernel
theorem dX5_shift_21 : decode cX5_shift 21 = .ok (.ireturn, 1) := by decide +kernel
theorem dX5_shift_22 : decode cX5_shift 22 = .ok (.iload 4, 2) := by decide +kernel
theorem dX5_shift_24 : decode cX5_shift 24 = .ok (.bipush 99, 2) := by decide +kernel
theorem dX5_shift_26 : decode cX5_shift 26 = .ok (.invokestatic 115, 3) := by decide +kernel
theorem dX5_shift_29 : decode cX5_shift 29 = .ok (.ifCond .ne 6, 3) := by decide +kernel
theorem dX5_shift_32 : decode cX5_shift 32 = .ok (.bipush (-2), 2) := by decide +kernel
theorem dX5_shift_34 : decode cX5_shift 34 = .ok (.ireturn, 1) := by decide +kernel
theorem dX5_shift_35 : decode cX5_shift 35 = .ok (.iload_n 1, 1) := by decide +kernel
theorem dX5_shift_36 : decode cX5_shift 36 = .ok (.bipush 6, 2) := by decide +kernel
theorem dX5_shift_38 : decode cX5_shift 38 = .ok (.imul, 1) := by decide +kernel
theorem dX5_shift_39 : decode cX5_shift 39 = .ok (.iload_n 3, 1) := by decide +kernel
theorem dX5_shift_40 : decode cX5_shift 40 = .ok (.iadd, 1) := by decide +kernel
theorem dX5_shift_41 : decode cX5_shift 41 = .ok (.istore 5, 2) := by decide +kernel
theorem dX5_shift_43 : decode cX5_shift 43 = .ok (.aload_n 0, 1) := by decide +kernel
theorem dX5_shift_44 : decode cX5_shift 44 = .ok (.getfield 25, 3) := by decide +kernel
theorem dX5_shift_47 : decode cX5_shift 47 = .ok (.iload_n 2, 1) := by decide +kernel
theorem dX5_shift_48 : decode cX5_shift 48 = .ok (.aaload, 1) := by decide +kernel
theorem dX5_shift_49 : decode cX5_shift 49 = .ok (.getfield 133, 3) := by decide +kernel
theorem dX5_shift_52 : decode cX5_shift 52 = .ok (.iload 5, 2) := by decide +kernel
theorem dX5_shift_54 : decode cX5_shift 54 = .ok (.iaload, 1) := by decide +kernel
theorem dX5_shift_55 : decode cX5_shift 55 = .ok (.istore 6, 2) := by decide +kernel
theorem dX5_shift_57 : decode cX5_shift 57 = .ok (.aload_n 0, 1) := by decide +kernel
theorem dX5_shift_58 : decode cX5_shift 58 = .ok (.getfield 25, 3) := by decide +kernel
theorem dX5_shift_61 : decode cX5_shift 61 = .ok (.iload_n 2, 1) := by decide +kernel
theorem dX5_shift_62 : decode cX5_shift 62 = .ok (.aaload, 1) := by decide +kernel
theorem dX5_shift_63 : decode cX5_shift 63 = .ok (.getfield 133, 3) := by decide +kernel
theorem dX5_shift_66 : decode cX5_shift 66 = .ok (.iload 5, 2) := by decide +kernel
theorem dX5_shift_68 : decode cX5_shift 68 = .ok (.iload 4, 2) := by decide +kernel
theorem dX5_shift_70 : decode cX5_shift 70 = .ok (.iastore, 1) := by decide +kernel
theorem dX5_shift_71 : decode cX5_shift 71 = .ok (.aload_n 0, 1) := by decide +kernel
theorem dX5_shift_72 : decode cX5_shift 72 = .ok (.iload_n 2, 1) := by decide +kernel
theorem dX5_shift_73 : decode cX5_shift 73 = .ok (.invokevirtual 102, 3) := by decide +kernel
theorem dX5_shift_76 : decode cX5_shift 76 = .ok (.iload 6, 2) := by decide +kernel
theorem dX5_shift_78 : decode cX5_shift 78 = .ok (.ireturn, 1) := by decide +kernel
theorem dX5_run_0 : decode cX5_run 0 = .ok (.iload_n 1, 1) := by decide +kernel
theorem dX5_run_1 : decode cX5_run 1 = .ok (.iconst 1, 1) := by decide +kernel
theorem dX5_run_2 : decode cX5_run 2 = .ok (.if_icmp .lt 9, 3) := by decide +kernel
theorem dX5_run_5 : decode cX5_run 5 = .ok (.iload_n 1, 1) := by decide +kernel
theorem dX5_run_6 : decode cX5_run 6 = .ok (.bipush 50, 2) := by decide +kernel
theorem dX5_run_8 : decode cX5_run 8 = .ok (.if_icmp .le 6, 3) := by decide +kernel
theorem dX5_run_11 : decode cX5_run 11 = .ok (.bipush (-2), 2) := by decide +kernel
theorem dX5_run_13 : decode cX5_run 13 = .ok (.ireturn, 1) := by decide +kernel
theorem dX5_run_14 : decode cX5_run 14 = .ok (.iconst 0, 1) := by decide +kernel
theorem dX5_run_15 : decode cX5_run 15 = .ok (.istore_n 2, 1) := by decide +kernel
theorem dX5_run_16 : decode cX5_run 16 = .ok (.iload_n 2, 1) := by decide +kernel
theorem dX5_run_17 : decode cX5_run 17 = .ok (.iload_n 1, 1) := by decide +kernel
theorem dX5_run_18 : decode cX5_run 18 = .ok (.if_icmp .ge 122, 3) := by decide +kernel
theorem dX5_run_21 : decode cX5_run 21 = .ok (.aload_n 0, 1) := by decide +kernel
theorem dX5_run_22 : decode cX5_run 22 = .ok (.getfield 39, 3) := by decide +kernel
theorem dX5_run_25 : decode cX5_run 25 = .ok (.getfield 136, 3) := by decide +kernel
theorem dX5_run_28 : decode cX5_run 28 = .ok (.ifCond .ne 112, 3) := by decide +kernel
theorem dX5_run_31 : decode cX5_run 31 = .ok (.aload_n 0, 1) := by decide +kernel
theorem dX5_run_32 : decode cX5_run 32 = .ok (.getfield 32, 3) := by decide +kernel
theorem dX5_run_35 : decode cX5_run 35 = .ok (.getfield 139, 3) := by decide +kernel
theorem dX5_run_38 : decode cX5_run 38 = .ok (.istore_n 3, 1) := by decide +kernel
theorem dX5_run_39 : decode cX5_run 39 = .ok (.aload_n 0, 1) := by decide +kernel
theorem dX5_run_40 : decode cX5_run 40 = .ok (.iconst 1, 1) := by decide +kernel
theorem dX5_run_41 : decode cX5_run 41 = .ok (.invokevirtual 140, 3) := by decide +kernel
theorem dX5_run_44 : decode cX5_run 44 = .ok (.aload_n 0, 1) := by decide +kernel
theorem dX5_run_45 : decode cX5_run 45 = .ok (.getfield 39, 3) := by decide +kernel
theorem dX5_run_48 : decode cX5_run 48 = .ok (.aload_n 0, 1) := by decide +kernel
theorem dX5_run_49 : decode cX5_run 49 = .ok (.getfield 50, 3) := by decide +kernel
theorem dX5_run_52 : decode cX5_run 52 = .ok (.aload_n 0, 1) := by decide +kernel
theorem dX5_run_53 : decode cX5_run 53 = .ok (.getfield 53, 3) := by decide +kernel
theorem dX5_run_56 : decode cX5_run 56 = .ok (.invokevirtual 144, 3) := by decide +kernel
theorem dX5_run_59 : decode cX5_run 59 = .ok (.aload_n 0, 1) := by decide +kernel
theorem dX5_run_60 : decode cX5_run 60 = .ok (.getfield 39, 3) := by decide +kernel
theorem dX5_run_63 : decode cX5_run 63 = .ok (.invokevirtual 148, 3) := by decide +kernel
theorem dX5_run_66 : decode cX5_run 66 = .ok (.ifCond .eq 14, 3) := by decide +kernel
theorem dX5_run_69 : decode cX5_run 69 = .ok (.aload_n 0, 1) := by decide +kernel
theorem dX5_run_70 : decode cX5_run 70 = .ok (.getfield 39, 3) := by decide +kernel
theorem dX5_run_73 : decode cX5_run 73 = .ok (.aload_n 0, 1) := by decide +kernel
theorem dX5_run_74 : decode cX5_run 74 = .ok (.invokevirtual 152, 3) := by decide +kernel
theorem dX5_run_77 : decode cX5_run 77 = .ok (.invokevirtual 156, 3) := by decide +kernel
theorem dX5_run_80 : decode cX5_run 80 = .ok (.aload_n 0, 1) := by decide +kernel
theorem dX5_run_81 : decode cX5_run 81 = .ok (.getfield 39, 3) := by decide +kernel
theorem dX5_run_84 : decode cX5_run 84 = .ok (.dup, 1) := by decide +kernel
theorem dX5_run_85 : decode cX5_run 85 = .ok (.getfield 159, 3) := by decide +kernel
theorem dX5_run_88 : decode cX5_run 88 = .ok (.iconst 1, 1) := by decide +kernel
theorem dX5_run_89 : decode cX5_run 89 = .ok (.iadd, 1) := by decide +kernel
theorem dX5_run_90 : decode cX5_run 90 = .ok (.putfield 159, 3) := by decide +kernel
theorem dX5_run_93 : decode cX5_run 93 = .ok (.aload_n 0, 1) := by decide +kernel
theorem dX5_run_94 : decode cX5_run 94 = .ok (.getfield 39, 3) := by decide +kernel
theorem dX5_run_97 : decode cX5_run 97 = .ok (.getfield 136, 3) := by decide +kernel
theorem dX5_run_100 : decode cX5_run 100 = .ok (.ifCond .ne 34, 3) := by decide +kernel
theorem dX5_run_103 : decode cX5_run 103 = .ok (.aload_n 0, 1) := by decide +kernel
theorem dX5_run_104 : decode cX5_run 104 = .ok (.getfield 32, 3) := by decide +kernel
theorem dX5_run_107 : decode cX5_run 107 = .ok (.getfield 139, 3) := by decide +kernel
theorem dX5_run_110 : decode cX5_run 110 = .ok (.iload_n 3, 1) := by decide +kernel
theorem dX5_run_111 : decode cX5_run 111 = .ok (.if_icmp .ne 23, 3) := by decide +kernel
theorem dX5_run_114 : decode cX5_run 114 = .ok (.aload_n 0, 1) := by decide +kernel
theorem dX5_run_115 : decode cX5_run 115 = .ok (.getfield 39, 3) := by decide +kernel
theorem dX5_run_118 : decode cX5_run 118 = .ok (.dup, 1) := by decide +kernel
theorem dX5_run_119 : decode cX5_run 119 = .ok (.getfield 159, 3) := by decide +kernel
theorem dX5_run_122 : decode cX5_run 122 = .ok (.iload_n 1, 1) := by decide +kernel
theorem dX5_run_123 : decode cX5_run 123 = .ok (.iconst 1, 1) := by decide +kernel
theorem dX5_run_124 : decode cX5_run 124 = .ok (.isub, 1) := by decide +kernel
theorem dX5_run_125 : decode cX5_run 125 = .ok (.iload_n 2, 1) := by decide +kernel
theorem dX5_run_126 : decode cX5_run 126 = .ok (.isub, 1) := by decide +kernel
theorem dX5_run_127 : decode cX5_run 127 = .ok (.iadd, 1) := by decide +kernel
theorem dX5_run_128 : decode cX5_run 128 = .ok (.putfield 159, 3) := by decide +kernel
theorem dX5_run_131 : decode cX5_run 131 = .ok (.goto 9, 3) := by decide +kernel
theorem dX5_run_134 : decode cX5_run 134 = .ok (.iinc 2 1, 3) := by decide +kernel
theorem dX5_run_137 : decode cX5_run 137 = .ok (.goto (-121), 3) := by decide +kernel
theorem dX5_run_140 : decode cX5_run 140 = .ok (.aload_n 0, 1) := by decide +kernel
theorem dX5_run_141 : decode cX5_run 141 = .ok (.getfield 39, 3) := by decide +kernel
theorem dX5_run_144 : decode cX5_run 144 = .ok (.getfield 136, 3) := by decide +kernel
theorem dX5_run_147 : decode cX5_run 147 = .ok (.iconst 1, 1) := by decide +kernel
theorem dX5_run_148 : decode cX5_run 148 = .ok (.if_icmp .ne 7, 3) := by decide +kernel
theorem dX5_run_151 : decode cX5_run 151 = .ok (.iconst 1, 1) := by decide +kernel
theorem dX5_run_152 : decode cX5_run 152 = .ok (.goto 19, 3) := by decide +kernel
theorem dX5_run_155 : decode cX5_run 155 = .ok (.aload_n 0, 1) := by decide +kernel
theorem dX5_run_156 : decode cX5_run 156 = .ok (.getfield 39, 3) := by decide +kernel
theorem dX5_run_159 : decode cX5_run 159 = .ok (.getfield 136, 3) := by decide +kernel
theorem dX5_run_162 : decode cX5_run 162 = .ok (.iconst 2, 1) := by decide +kernel
theorem dX5_run_163 : decode cX5_run 163 = .ok (.if_icmp .ne 7, 3) := by decide +kernel
theorem dX5_run_166 : decode cX5_run 166 = .ok (.iconst 0, 1) := by decide +kernel
theorem dX5_run_167 : decode cX5_run 167 = .ok (.goto 4, 3) := by decide +kernel
theorem dX5_run_170 : decode cX5_run 170 = .ok (.iconst 2, 1) := by decide +kernel
theorem dX5_run_171 : decode cX5_run 171 = .ok (.ireturn, 1) := by decide +kernel
theorem dX5_told_0 : decode cX5_told 0 = .ok (.iload_n 1, 1) := by decide +kernel
theorem dX5_told_1 : decode cX5_told 1 = .ok (.tableswitch 120 0 8 #[51, 59, 67, 75, 83, 91, 99, 104, 112], 51) := by decide +kernel
theorem dX5_told_52 : decode cX5_told 52 = .ok (.aload_n 0, 1) := by decide +kernel
theorem dX5_told_53 : decode cX5_told 53 = .ok (.getfield 39, 3) := by decide +kernel
theorem dX5_told_56 : decode cX5_told 56 = .ok (.getfield 159, 3) := by decide +kernel
theorem dX5_told_59 : decode cX5_told 59 = .ok (.ireturn, 1) := by decide +kernel
theorem dX5_told_60 : decode cX5_told 60 = .ok (.aload_n 0, 1) := by decide +kernel
theorem dX5_told_61 : decode cX5_told 61 = .ok (.getfield 32, 3) := by decide +kernel
theorem dX5_told_64 : decode cX5_told 64 = .ok (.getfield 139, 3) := by decide +kernel
theorem dX5_told_67 : decode cX5_told 67 = .ok (.ireturn, 1) := by decide +kernel
theorem dX5_told_68 : decode cX5_told 68 = .ok (.aload_n 0, 1) := by decide +kernel
theorem dX5_told_69 : decode cX5_told 69 = .ok (.getfield 39, 3) := by decide +kernel
theorem dX5_told_72 : decode cX5_told 72 = .ok (.getfield 162, 3) := by decide +kernel
theorem dX5_told_75 : decode cX5_told 75 = .ok (.ireturn, 1) := by decide +kernel
theorem dX5_told_76 : decode cX5_told 76 = .ok (.aload_n 0, 1) := by decide +kernel
theorem dX5_told_77 : decode cX5_told 77 = .ok (.getfield 39, 3) := by decide +kernel
theorem dX5_told_80 : decode cX5_told 80 = .ok (.getfield 165, 3) := by decide +kernel
theorem dX5_told_83 : decode cX5_told 83 = .ok (.ireturn, 1) := by decide +kernel
theorem dX5_told_84 : decode cX5_told 84 = .ok (.aload_n 0, 1) := by decide +kernel
theorem dX5_told_85 : decode cX5_told 85 = .ok (.getfield 19, 3) := by decide +kernel
theorem dX5_told_88 : decode cX5_told 88 = .ok (.invokevirtual 168, 3) := by decide +kernel
theorem dX5_told_91 : decode cX5_told 91 = .ok (.ireturn, 1) := by decide +kernel
theorem dX5_told_92 : decode cX5_told 92 = .ok (.aload_n 0, 1) := by decide +kernel
theorem dX5_told_93 : decode cX5_told 93 = .ok (.getfield 12, 3) := by decide +kernel
theorem dX5_told_96 : decode cX5_told 96 = .ok (.getfield 58, 3) := by decide +kernel
theorem dX5_told_99 : decode cX5_told 99 = .ok (.ireturn, 1) := by decide +kernel
theorem dX5_told_100 : decode cX5_told 100 = .ok (.aload_n 0, 1) := by decide +kernel
theorem dX5_told_101 : decode cX5_told 101 = .ok (.getfield 85, 3) := by decide +kernel
theorem dX5_told_104 : decode cX5_told 104 = .ok (.ireturn, 1) := by decide +kernel
theorem dX5_told_105 : decode cX5_told 105 = .ok (.aload_n 0, 1) := by decide +kernel
theorem dX5_told_106 : decode cX5_told 106 = .ok (.getfield 19, 3) := by decide +kernel
theorem dX5_told_109 : decode cX5_told 109 = .ok (.getfield 78, 3) := by decide +kernel
theorem dX5_told_112 : decode cX5_told 112 = .ok (.ireturn, 1) := by decide +kernel
theorem dX5_told_113 : decode cX5_told 113 = .ok (.aload_n 0, 1) := by decide +kernel
theorem dX5_told_114 : decode cX5_told 114 = .ok (.getfield 39, 3) := by decide +kernel
theorem dX5_told_117 : decode cX5_told 117 = .ok (.getfield 136, 3) := by decide +kernel
theorem dX5_told_120 : decode cX5_told 120 = .ok (.ireturn, 1) := by decide +kernel
theorem dX5_told_121 : decode cX5_told 121 = .ok (.bipush (-2), 2) := by decide +kernel
theorem dX5_told_123 : decode cX5_told 123 = .ok (.ireturn, 1) := by decide +kernel
theorem dX5_best_0 : decode cX5_best 0 = .ok (.aload_n 0, 1) := by decide +kernel
theorem dX5_best_1 : decode cX5_best 1 = .ok (.getfield 12, 3) := by decide +kernel
theorem dX5_best_4 : decode cX5_best 4 = .ok (.iload_n 1, 1) := by decide +kernel
theorem dX5_best_5 : decode cX5_best 5 = .ok (.invokevirtual 91, 3) := by decide +kernel
theorem dX5_best_8 : decode cX5_best 8 = .ok (.ifCond .ne 5, 3) := by decide +kernel
theorem dX5_best_11 : decode cX5_best 11 = .ok (.iconst (-1), 1) := by decide +kernel
theorem dX5_best_12 : decode cX5_best 12 = .ok (.ireturn, 1) := by decide +kernel
theorem dX5_best_13 : decode cX5_best 13 = .ok (.aload_n 0, 1) := by decide +kernel
theorem dX5_best_14 : decode cX5_best 14 = .ok (.getfield 39, 3) := by decide +kernel
theorem dX5_best_17 : decode cX5_best 17 = .ok (.invokevirtual 171, 3) := by decide +kernel
theorem dX5_best_20 : decode cX5_best 20 = .ok (.ifCond .eq 15, 3) := by decide +kernel
theorem dX5_best_23 : decode cX5_best 23 = .ok (.aload_n 0, 1) := by decide +kernel
theorem dX5_best_24 : decode cX5_best 24 = .ok (.getfield 39, 3) := by decide +kernel
theorem dX5_best_27 : decode cX5_best 27 = .ok (.getfield 174, 3) := by decide +kernel
theorem dX5_best_30 : decode cX5_best 30 = .ok (.iload_n 1, 1) := by decide +kernel
theorem dX5_best_31 : decode cX5_best 31 = .ok (.iaload, 1) := by decide +kernel
theorem dX5_best_32 : decode cX5_best 32 = .ok (.goto 5, 3) := by decide +kernel
theorem dX5_best_35 : decode cX5_best 35 = .ok (.bipush (-4), 2) := by decide +kernel
theorem dX5_best_37 : decode cX5_best 37 = .ok (.ireturn, 1) := by decide +kernel
theorem dX5_master_0 : decode cX5_master 0 = .ok (.aload_n 0, 1) := by decide +kernel
theorem dX5_master_1 : decode cX5_master 1 = .ok (.getfield 12, 3) := by decide +kernel
theorem dX5_master_4 : decode cX5_master 4 = .ok (.iload_n 1, 1) := by decide +kernel
theorem dX5_master_5 : decode cX5_master 5 = .ok (.invokevirtual 91, 3) := by decide +kernel
theorem dX5_master_8 : decode cX5_master 8 = .ok (.ifCond .ne 5, 3) := by decide +kernel
theorem dX5_master_11 : decode cX5_master 11 = .ok (.iconst (-1), 1) := by decide +kernel
theorem dX5_master_12 : decode cX5_master 12 = .ok (.ireturn, 1) := by decide +kernel
theorem dX5_master_13 : decode cX5_master 13 = .ok (.aload_n 0, 1) := by decide +kernel
theorem dX5_master_14 : decode cX5_master 14 = .ok (.getfield 39, 3) := by decide +kernel
theorem dX5_master_17 : decode cX5_master 17 = .ok (.invokevirtual 148, 3) := by decide +kernel
theorem dX5_master_20 : decode cX5_master 20 = .ok (.ifCond .eq 15, 3) := by decide +kernel
theorem dX5_master_23 : decode cX5_master 23 = .ok (.aload_n 0, 1) := by decide +kernel
theorem dX5_master_24 : decode cX5_master 24 = .ok (.getfield 39, 3) := by decide +kernel
theorem dX5_master_27 : decode cX5_master 27 = .ok (.getfield 177, 3) := by decide +kernel
theorem dX5_master_30 : decode cX5_master 30 = .ok (.iload_n 1, 1) := by decide +kernel
theorem dX5_master_31 : decode cX5_master 31 = .ok (.iaload, 1) := by decide +kernel
theorem dX5_master_32 : decode cX5_master 32 = .ok (.goto 5, 3) := by decide +kernel
theorem dX5_master_35 : decode cX5_master 35 = .ok (.bipush (-4), 2) := by decide +kernel
theorem dX5_master_37 : decode cX5_master 37 = .ok (.ireturn, 1) := by decide +kernel
theorem dX5_share_0 : decode cX5_share 0 = .ok (.iload_n 1, 1) := by decide +kernel
theorem dX5_share_1 : decode cX5_share 1 = .ok (.bipush (-4), 2) := by decide +kernel
theorem dX5_share_3 : decode cX5_share 3 = .ok (.if_icmp .eq 13, 3) := by decide +kernel
theorem dX5_share_6 : decode cX5_share 6 = .ok (.aload_n 0, 1) := by decide +kernel
theorem dX5_share_7 : decode cX5_share 7 = .ok (.iload_n 1, 1) := by decide +kernel
theorem dX5_share_8 : decode cX5_share 8 = .ok (.invokevirtual 88, 3) := by decide +kernel
theorem dX5_share_11 : decode cX5_share 11 = .ok (.ifCond .ne 5, 3) := by decide +kernel
theorem dX5_share_14 : decode cX5_share 14 = .ok (.iconst (-1), 1) := by decide +kernel
theorem dX5_share_15 : decode cX5_share 15 = .ok (.ireturn, 1) := by decide +kernel
theorem dX5_share_16 : decode cX5_share 16 = .ok (.aload_n 0, 1) := by decide +kernel
theorem dX5_share_17 : decode cX5_share 17 = .ok (.getfield 39, 3) := by decide +kernel
theorem dX5_share_20 : decode cX5_share 20 = .ok (.invokevirtual 171, 3) := by decide +kernel
theorem dX5_share_23 : decode cX5_share 23 = .ok (.ifCond .ne 6, 3) := by decide +kernel
theorem dX5_share_26 : decode cX5_share 26 = .ok (.bipush (-4), 2) := by decide +kernel
theorem dX5_share_28 : decode cX5_share 28 = .ok (.ireturn, 1) := by decide +kernel
theorem dX5_share_29 : decode cX5_share 29 = .ok (.iload_n 1, 1) := by decide +kernel
theorem dX5_share_30 : decode cX5_share 30 = .ok (.bipush (-4), 2) := by decide +kernel
theorem dX5_share_32 : decode cX5_share 32 = .ok (.if_icmp .ne 17, 3) := by decide +kernel
theorem dX5_share_35 : decode cX5_share 35 = .ok (.aload_n 0, 1) := by decide +kernel
theorem dX5_share_36 : decode cX5_share 36 = .ok (.aload_n 0, 1) := by decide +kernel
theorem dX5_share_37 : decode cX5_share 37 = .ok (.getfield 39, 3) := by decide +kernel
theorem dX5_share_40 : decode cX5_share 40 = .ok (.getfield 174, 3) := by decide +kernel
theorem dX5_share_43 : decode cX5_share 43 = .ok (.invokevirtual 180, 3) := by decide +kernel
theorem dX5_share_46 : decode cX5_share 46 = .ok (.goto 24, 3) := by decide +kernel
theorem dX5_share_49 : decode cX5_share 49 = .ok (.aload_n 0, 1) := by decide +kernel
theorem dX5_share_50 : decode cX5_share 50 = .ok (.getfield 25, 3) := by decide +kernel
theorem dX5_share_53 : decode cX5_share 53 = .ok (.iload_n 1, 1) := by decide +kernel
theorem dX5_share_54 : decode cX5_share 54 = .ok (.aaload, 1) := by decide +kernel
theorem dX5_share_55 : decode cX5_share 55 = .ok (.aload_n 0, 1) := by decide +kernel
theorem dX5_share_56 : decode cX5_share 56 = .ok (.getfield 39, 3) := by decide +kernel
theorem dX5_share_59 : decode cX5_share 59 = .ok (.getfield 174, 3) := by decide +kernel
theorem dX5_share_62 : decode cX5_share 62 = .ok (.aload_n 0, 1) := by decide +kernel
theorem dX5_share_63 : decode cX5_share 63 = .ok (.getfield 19, 3) := by decide +kernel
theorem dX5_share_66 : decode cX5_share 66 = .ok (.iconst 0, 1) := by decide +kernel
theorem dX5_share_67 : decode cX5_share 67 = .ok (.invokevirtual 184, 3) := by decide +kernel
theorem dX5_share_70 : decode cX5_share 70 = .ok (.ireturn, 1) := by decide +kernel
theorem dX5_ask_0 : decode cX5_ask 0 = .ok (.aload_n 0, 1) := by decide +kernel
theorem dX5_ask_1 : decode cX5_ask 1 = .ok (.getfield 12, 3) := by decide +kernel
theorem dX5_ask_4 : decode cX5_ask 4 = .ok (.iload_n 1, 1) := by decide +kernel
theorem dX5_ask_5 : decode cX5_ask 5 = .ok (.iload_n 2, 1) := by decide +kernel
theorem dX5_ask_6 : decode cX5_ask 6 = .ok (.invokevirtual 67, 3) := by decide +kernel
theorem dX5_ask_9 : decode cX5_ask 9 = .ok (.ifCond .ne 5, 3) := by decide +kernel
theorem dX5_ask_12 : decode cX5_ask 12 = .ok (.iconst (-1), 1) := by decide +kernel
theorem dX5_ask_13 : decode cX5_ask 13 = .ok (.ireturn, 1) := by decide +kernel
theorem dX5_ask_14 : decode cX5_ask 14 = .ok (.aload_n 0, 1) := by decide +kernel
theorem dX5_ask_15 : decode cX5_ask 15 = .ok (.getfield 12, 3) := by decide +kernel
theorem dX5_ask_18 : decode cX5_ask 18 = .ok (.getfield 188, 3) := by decide +kernel
theorem dX5_ask_21 : decode cX5_ask 21 = .ok (.iload_n 1, 1) := by decide +kernel
theorem dX5_ask_22 : decode cX5_ask 22 = .ok (.iaload, 1) := by decide +kernel
theorem dX5_ask_23 : decode cX5_ask 23 = .ok (.istore_n 3, 1) := by decide +kernel
theorem dX5_ask_24 : decode cX5_ask 24 = .ok (.aload_n 0, 1) := by decide +kernel
theorem dX5_ask_25 : decode cX5_ask 25 = .ok (.getfield 12, 3) := by decide +kernel
theorem dX5_ask_28 : decode cX5_ask 28 = .ok (.getfield 188, 3) := by decide +kernel
theorem dX5_ask_31 : decode cX5_ask 31 = .ok (.iload_n 1, 1) := by decide +kernel
theorem dX5_ask_32 : decode cX5_ask 32 = .ok (.iload_n 2, 1) := by decide +kernel
theorem dX5_ask_33 : decode cX5_ask 33 = .ok (.iastore, 1) := by decide +kernel
theorem dX5_ask_34 : decode cX5_ask 34 = .ok (.iload_n 3, 1) := by decide +kernel
theorem dX5_ask_35 : decode cX5_ask 35 = .ok (.ireturn, 1) := by decide +kernel
theorem dX5_answer_0 : decode cX5_answer 0 = .ok (.aload_n 0, 1) := by decide +kernel
theorem dX5_answer_1 : decode cX5_answer 1 = .ok (.iload_n 1, 1) := by decide +kernel
theorem dX5_answer_2 : decode cX5_answer 2 = .ok (.invokevirtual 88, 3) := by decide +kernel
theorem dX5_answer_5 : decode cX5_answer 5 = .ok (.ifCond .eq 14, 3) := by decide +kernel
theorem dX5_answer_8 : decode cX5_answer 8 = .ok (.aload_n 0, 1) := by decide +kernel
theorem dX5_answer_9 : decode cX5_answer 9 = .ok (.getfield 19, 3) := by decide +kernel
theorem dX5_answer_12 : decode cX5_answer 12 = .ok (.iload_n 2, 1) := by decide +kernel
theorem dX5_answer_13 : decode cX5_answer 13 = .ok (.invokevirtual 82, 3) := by decide +kernel
theorem dX5_answer_16 : decode cX5_answer 16 = .ok (.ifCond .ne 5, 3) := by decide +kernel
theorem dX5_answer_19 : decode cX5_answer 19 = .ok (.iconst (-1), 1) := by decide +kernel
theorem dX5_answer_20 : decode cX5_answer 20 = .ok (.ireturn, 1) := by decide +kernel
theorem dX5_answer_21 : decode cX5_answer 21 = .ok (.aload_n 0, 1) := by decide +kernel
theorem dX5_answer_22 : decode cX5_answer 22 = .ok (.getfield 25, 3) := by decide +kernel
theorem dX5_answer_25 : decode cX5_answer 25 = .ok (.iload_n 1, 1) := by decide +kernel
theorem dX5_answer_26 : decode cX5_answer 26 = .ok (.aaload, 1) := by decide +kernel
theorem dX5_answer_27 : decode cX5_answer 27 = .ok (.aload_n 0, 1) := by decide +kernel
theorem dX5_answer_28 : decode cX5_answer 28 = .ok (.getfield 25, 3) := by decide +kernel
theorem dX5_answer_31 : decode cX5_answer 31 = .ok (.iload_n 1, 1) := by decide +kernel
theorem dX5_answer_32 : decode cX5_answer 32 = .ok (.aaload, 1) := by decide +kernel
theorem dX5_answer_33 : decode cX5_answer 33 = .ok (.aload_n 0, 1) := by decide +kernel
theorem dX5_answer_34 : decode cX5_answer 34 = .ok (.getfield 12, 3) := by decide +kernel
theorem dX5_answer_37 : decode cX5_answer 37 = .ok (.getfield 188, 3) := by decide +kernel
theorem dX5_answer_40 : decode cX5_answer 40 = .ok (.invokevirtual 191, 3) := by decide +kernel
theorem dX5_answer_43 : decode cX5_answer 43 = .ok (.iload_n 2, 1) := by decide +kernel
theorem dX5_answer_44 : decode cX5_answer 44 = .ok (.invokevirtual 194, 3) := by decide +kernel
theorem dX5_answer_47 : decode cX5_answer 47 = .ok (.ireturn, 1) := by decide +kernel
theorem dX5_unit_0 : decode cX5_unit 0 = .ok (.aload_n 0, 1) := by decide +kernel
theorem dX5_unit_1 : decode cX5_unit 1 = .ok (.iload_n 1, 1) := by decide +kernel
theorem dX5_unit_2 : decode cX5_unit 2 = .ok (.invokevirtual 88, 3) := by decide +kernel
theorem dX5_unit_5 : decode cX5_unit 5 = .ok (.ifCond .eq 27, 3) := by decide +kernel
theorem dX5_unit_8 : decode cX5_unit 8 = .ok (.aload_n 0, 1) := by decide +kernel
theorem dX5_unit_9 : decode cX5_unit 9 = .ok (.getfield 19, 3) := by decide +kernel
theorem dX5_unit_12 : decode cX5_unit 12 = .ok (.iload_n 2, 1) := by decide +kernel
theorem dX5_unit_13 : decode cX5_unit 13 = .ok (.invokevirtual 82, 3) := by decide +kernel
theorem dX5_unit_16 : decode cX5_unit 16 = .ok (.ifCond .eq 16, 3) := by decide +kernel
theorem dX5_unit_19 : decode cX5_unit 19 = .ok (.aload_n 0, 1) := by decide +kernel
theorem dX5_unit_20 : decode cX5_unit 20 = .ok (.getfield 25, 3) := by decide +kernel
theorem dX5_unit_23 : decode cX5_unit 23 = .ok (.iload_n 1, 1) := by decide +kernel
theorem dX5_unit_24 : decode cX5_unit 24 = .ok (.aaload, 1) := by decide +kernel
theorem dX5_unit_25 : decode cX5_unit 25 = .ok (.iload_n 3, 1) := by decide +kernel
theorem dX5_unit_26 : decode cX5_unit 26 = .ok (.invokevirtual 127, 3) := by decide +kernel
theorem dX5_unit_29 : decode cX5_unit 29 = .ok (.ifCond .ne 5, 3) := by decide +kernel
theorem dX5_unit_32 : decode cX5_unit 32 = .ok (.iconst (-1), 1) := by decide +kernel
theorem dX5_unit_33 : decode cX5_unit 33 = .ok (.ireturn, 1) := by decide +kernel
theorem dX5_unit_34 : decode cX5_unit 34 = .ok (.aload_n 0, 1) := by decide +kernel
theorem dX5_unit_35 : decode cX5_unit 35 = .ok (.getfield 25, 3) := by decide +kernel
theorem dX5_unit_38 : decode cX5_unit 38 = .ok (.iload_n 1, 1) := by decide +kernel
theorem dX5_unit_39 : decode cX5_unit 39 = .ok (.aaload, 1) := by decide +kernel
theorem dX5_unit_40 : decode cX5_unit 40 = .ok (.aload_n 0, 1) := by decide +kernel
theorem dX5_unit_41 : decode cX5_unit 41 = .ok (.getfield 25, 3) := by decide +kernel
theorem dX5_unit_44 : decode cX5_unit 44 = .ok (.iload_n 1, 1) := by decide +kernel
theorem dX5_unit_45 : decode cX5_unit 45 = .ok (.aaload, 1) := by decide +kernel
theorem dX5_unit_46 : decode cX5_unit 46 = .ok (.aload_n 0, 1) := by decide +kernel
theorem dX5_unit_47 : decode cX5_unit 47 = .ok (.getfield 12, 3) := by decide +kernel
theorem dX5_unit_50 : decode cX5_unit 50 = .ok (.getfield 188, 3) := by decide +kernel
theorem dX5_unit_53 : decode cX5_unit 53 = .ok (.invokevirtual 191, 3) := by decide +kernel
theorem dX5_unit_56 : decode cX5_unit 56 = .ok (.iload_n 2, 1) := by decide +kernel
theorem dX5_unit_57 : decode cX5_unit 57 = .ok (.invokevirtual 198, 3) := by decide +kernel
theorem dX5_unit_60 : decode cX5_unit 60 = .ok (.istore 4, 2) := by decide +kernel
theorem dX5_unit_62 : decode cX5_unit 62 = .ok (.iload 4, 2) := by decide +kernel
theorem dX5_unit_64 : decode cX5_unit 64 = .ok (.bipush (-4), 2) := by decide +kernel
theorem dX5_unit_66 : decode cX5_unit 66 = .ok (.if_icmp .ne 8, 3) := by decide +kernel
theorem dX5_unit_69 : decode cX5_unit 69 = .ok (.bipush (-4), 2) := by decide +kernel
theorem dX5_unit_71 : decode cX5_unit 71 = .ok (.goto 14, 3) := by decide +kernel
theorem dX5_unit_74 : decode cX5_unit 74 = .ok (.aload_n 0, 1) := by decide +kernel
theorem dX5_unit_75 : decode cX5_unit 75 = .ok (.getfield 25, 3) := by decide +kernel
theorem dX5_unit_78 : decode cX5_unit 78 = .ok (.iload_n 1, 1) := by decide +kernel
theorem dX5_unit_79 : decode cX5_unit 79 = .ok (.aaload, 1) := by decide +kernel
theorem dX5_unit_80 : decode cX5_unit 80 = .ok (.getfield 201, 3) := by decide +kernel
theorem dX5_unit_83 : decode cX5_unit 83 = .ok (.iload_n 3, 1) := by decide +kernel
theorem dX5_unit_84 : decode cX5_unit 84 = .ok (.iaload, 1) := by decide +kernel
theorem dX5_unit_85 : decode cX5_unit 85 = .ok (.ireturn, 1) := by decide +kernel
theorem dX5_cut_0 : decode cX5_cut 0 = .ok (.aload_n 0, 1) := by decide +kernel
theorem dX5_cut_1 : decode cX5_cut 1 = .ok (.getfield 32, 3) := by decide +kernel
theorem dX5_cut_4 : decode cX5_cut 4 = .ok (.iload_n 1, 1) := by decide +kernel
theorem dX5_cut_5 : decode cX5_cut 5 = .ok (.invokevirtual 204, 3) := by decide +kernel
theorem dX5_cut_8 : decode cX5_cut 8 = .ok (.ifCond .ne 5, 3) := by decide +kernel
theorem dX5_cut_11 : decode cX5_cut 11 = .ok (.iconst (-1), 1) := by decide +kernel
theorem dX5_cut_12 : decode cX5_cut 12 = .ok (.ireturn, 1) := by decide +kernel
theorem dX5_cut_13 : decode cX5_cut 13 = .ok (.iload_n 2, 1) := by decide +kernel
theorem dX5_cut_14 : decode cX5_cut 14 = .ok (.tableswitch 136 0 6 #[42, 62, 72, 82, 92, 102, 112], 42) := by decide +kernel
theorem dX5_cut_56 : decode cX5_cut 56 = .ok (.aload_n 0, 1) := by decide +kernel
theorem dX5_cut_57 : decode cX5_cut 57 = .ok (.getfield 32, 3) := by decide +kernel
theorem dX5_cut_60 : decode cX5_cut 60 = .ok (.getfield 205, 3) := by decide +kernel
theorem dX5_cut_63 : decode cX5_cut 63 = .ok (.iload_n 1, 1) := by decide +kernel
theorem dX5_cut_64 : decode cX5_cut 64 = .ok (.iaload, 1) := by decide +kernel
theorem dX5_cut_65 : decode cX5_cut 65 = .ok (.bipush (-4), 2) := by decide +kernel
theorem dX5_cut_67 : decode cX5_cut 67 = .ok (.if_icmp .ne 7, 3) := by decide +kernel
theorem dX5_cut_70 : decode cX5_cut 70 = .ok (.iconst 0, 1) := by decide +kernel
theorem dX5_cut_71 : decode cX5_cut 71 = .ok (.goto 4, 3) := by decide +kernel
theorem dX5_cut_74 : decode cX5_cut 74 = .ok (.iconst 1, 1) := by decide +kernel
theorem dX5_cut_75 : decode cX5_cut 75 = .ok (.ireturn, 1) := by decide +kernel
theorem dX5_cut_76 : decode cX5_cut 76 = .ok (.aload_n 0, 1) := by decide +kernel
theorem dX5_cut_77 : decode cX5_cut 77 = .ok (.getfield 32, 3) := by decide +kernel
theorem dX5_cut_80 : decode cX5_cut 80 = .ok (.getfield 208, 3) := by decide +kernel
theorem dX5_cut_83 : decode cX5_cut 83 = .ok (.iload_n 1, 1) := by decide +kernel
theorem dX5_cut_84 : decode cX5_cut 84 = .ok (.iaload, 1) := by decide +kernel
theorem dX5_cut_85 : decode cX5_cut 85 = .ok (.ireturn, 1) := by decide +kernel
theorem dX5_cut_86 : decode cX5_cut 86 = .ok (.aload_n 0, 1) := by decide +kernel
theorem dX5_cut_87 : decode cX5_cut 87 = .ok (.getfield 32, 3) := by decide +kernel
theorem dX5_cut_90 : decode cX5_cut 90 = .ok (.getfield 210, 3) := by decide +kernel
theorem dX5_cut_93 : decode cX5_cut 93 = .ok (.iload_n 1, 1) := by decide +kernel
theorem dX5_cut_94 : decode cX5_cut 94 = .ok (.iaload, 1) := by decide +kernel
theorem dX5_cut_95 : decode cX5_cut 95 = .ok (.ireturn, 1) := by decide +kernel
theorem dX5_cut_96 : decode cX5_cut 96 = .ok (.aload_n 0, 1) := by decide +kernel
theorem dX5_cut_97 : decode cX5_cut 97 = .ok (.getfield 32, 3) := by decide +kernel
theorem dX5_cut_100 : decode cX5_cut 100 = .ok (.getfield 205, 3) := by decide +kernel
theorem dX5_cut_103 : decode cX5_cut 103 = .ok (.iload_n 1, 1) := by decide +kernel
theorem dX5_cut_104 : decode cX5_cut 104 = .ok (.iaload, 1) := by decide +kernel
theorem dX5_cut_105 : decode cX5_cut 105 = .ok (.ireturn, 1) := by decide +kernel
theorem dX5_cut_106 : decode cX5_cut 106 = .ok (.aload_n 0, 1) := by decide +kernel
theorem dX5_cut_107 : decode cX5_cut 107 = .ok (.getfield 32, 3) := by decide +kernel
theorem dX5_cut_110 : decode cX5_cut 110 = .ok (.getfield 212, 3) := by decide +kernel
theorem dX5_cut_113 : decode cX5_cut 113 = .ok (.iload_n 1, 1) := by decide +kernel
theorem dX5_cut_114 : decode cX5_cut 114 = .ok (.iaload, 1) := by decide +kernel
theorem dX5_cut_115 : decode cX5_cut 115 = .ok (.ireturn, 1) := by decide +kernel
theorem dX5_cut_116 : decode cX5_cut 116 = .ok (.aload_n 0, 1) := by decide +kernel
theorem dX5_cut_117 : decode cX5_cut 117 = .ok (.getfield 32, 3) := by decide +kernel
theorem dX5_cut_120 : decode cX5_cut 120 = .ok (.getfield 213, 3) := by decide +kernel
theorem dX5_cut_123 : decode cX5_cut 123 = .ok (.iload_n 1, 1) := by decide +kernel
theorem dX5_cut_124 : decode cX5_cut 124 = .ok (.iaload, 1) := by decide +kernel
theorem dX5_cut_125 : decode cX5_cut 125 = .ok (.ireturn, 1) := by decide +kernel
theorem dX5_cut_126 : decode cX5_cut 126 = .ok (.aload_n 0, 1) := by decide +kernel
theorem dX5_cut_127 : decode cX5_cut 127 = .ok (.getfield 32, 3) := by decide +kernel
theorem dX5_cut_130 : decode cX5_cut 130 = .ok (.iload_n 1, 1) := by decide +kernel
theorem dX5_cut_131 : decode cX5_cut 131 = .ok (.aload_n 0, 1) := by decide +kernel
theorem dX5_cut_132 : decode cX5_cut 132 = .ok (.getfield 12, 3) := by decide +kernel
theorem dX5_cut_135 : decode cX5_cut 135 = .ok (.getfield 188, 3) := by decide +kernel
theorem dX5_cut_138 : decode cX5_cut 138 = .ok (.invokevirtual 215, 3) := by decide +kernel
theorem dX5_cut_141 : decode cX5_cut 141 = .ok (.ifCond .eq 7, 3) := by decide +kernel
theorem dX5_cut_144 : decode cX5_cut 144 = .ok (.iconst 1, 1) := by decide +kernel
theorem dX5_cut_145 : decode cX5_cut 145 = .ok (.goto 4, 3) := by decide +kernel
theorem dX5_cut_148 : decode cX5_cut 148 = .ok (.iconst 0, 1) := by decide +kernel
theorem dX5_cut_149 : decode cX5_cut 149 = .ok (.ireturn, 1) := by decide +kernel
theorem dX5_cut_150 : decode cX5_cut 150 = .ok (.bipush (-2), 2) := by decide +kernel
theorem dX5_cut_152 : decode cX5_cut 152 = .ok (.ireturn, 1) := by decide +kernel
theorem dX5_reason_0 : decode cX5_reason 0 = .ok (.aload_n 0, 1) := by decide +kernel
theorem dX5_reason_1 : decode cX5_reason 1 = .ok (.getfield 32, 3) := by decide +kernel
theorem dX5_reason_4 : decode cX5_reason 4 = .ok (.iload_n 1, 1) := by decide +kernel
theorem dX5_reason_5 : decode cX5_reason 5 = .ok (.invokevirtual 204, 3) := by decide +kernel
theorem dX5_reason_8 : decode cX5_reason 8 = .ok (.ifCond .ne 5, 3) := by decide +kernel
theorem dX5_reason_11 : decode cX5_reason 11 = .ok (.iconst (-1), 1) := by decide +kernel
theorem dX5_reason_12 : decode cX5_reason 12 = .ok (.ireturn, 1) := by decide +kernel
theorem dX5_reason_13 : decode cX5_reason 13 = .ok (.iload_n 2, 1) := by decide +kernel
theorem dX5_reason_14 : decode cX5_reason 14 = .ok (.ifCond .lt 16, 3) := by decide +kernel
theorem dX5_reason_17 : decode cX5_reason 17 = .ok (.iload_n 2, 1) := by decide +kernel
theorem dX5_reason_18 : decode cX5_reason 18 = .ok (.aload_n 0, 1) := by decide +kernel
theorem dX5_reason_19 : decode cX5_reason 19 = .ok (.getfield 32, 3) := by decide +kernel
theorem dX5_reason_22 : decode cX5_reason 22 = .ok (.getfield 212, 3) := by decide +kernel
theorem dX5_reason_25 : decode cX5_reason 25 = .ok (.iload_n 1, 1) := by decide +kernel
theorem dX5_reason_26 : decode cX5_reason 26 = .ok (.iaload, 1) := by decide +kernel
theorem dX5_reason_27 : decode cX5_reason 27 = .ok (.if_icmp .lt 8, 3) := by decide +kernel
theorem dX5_reason_30 : decode cX5_reason 30 = .ok (.bipush (-4), 2) := by decide +kernel
theorem dX5_reason_32 : decode cX5_reason 32 = .ok (.goto 16, 3) := by decide +kernel
theorem dX5_reason_35 : decode cX5_reason 35 = .ok (.aload_n 0, 1) := by decide +kernel
theorem dX5_reason_36 : decode cX5_reason 36 = .ok (.getfield 32, 3) := by decide +kernel
theorem dX5_reason_39 : decode cX5_reason 39 = .ok (.getfield 219, 3) := by decide +kernel
theorem dX5_reason_42 : decode cX5_reason 42 = .ok (.iload_n 1, 1) := by decide +kernel
theorem dX5_reason_43 : decode cX5_reason 43 = .ok (.iconst 3, 1) := by decide +kernel
theorem dX5_reason_44 : decode cX5_reason 44 = .ok (.imul, 1) := by decide +kernel
theorem dX5_reason_45 : decode cX5_reason 45 = .ok (.iload_n 2, 1) := by decide +kernel
theorem dX5_reason_46 : decode cX5_reason 46 = .ok (.iadd, 1) := by decide +kernel
theorem dX5_reason_47 : decode cX5_reason 47 = .ok (.iaload, 1) := by decide +kernel
theorem dX5_reason_48 : decode cX5_reason 48 = .ok (.ireturn, 1) := by decide +kernel
theorem dX5_judge_0 : decode cX5_judge 0 = .ok (.aload_n 0, 1) := by decide +kernel
theorem dX5_judge_1 : decode cX5_judge 1 = .ok (.iconst 0, 1) := by decide +kernel
theorem dX5_judge_2 : decode cX5_judge 2 = .ok (.invokevirtual 140, 3) := by decide +kernel
theorem dX5_judge_5 : decode cX5_judge 5 = .ok (.aload_n 0, 1) := by decide +kernel
theorem dX5_judge_6 : decode cX5_judge 6 = .ok (.getfield 53, 3) := by decide +kernel
theorem dX5_judge_9 : decode cX5_judge 9 = .ok (.ireturn, 1) := by decide +kernel
theorem dX5_isWeight_0 : decode cX5_isWeight 0 = .ok (.iload_n 0, 1) := by decide +kernel
theorem dX5_isWeight_1 : decode cX5_isWeight 1 = .ok (.iconst 1, 1) := by decide +kernel
theorem dX5_isWeight_2 : decode cX5_isWeight 2 = .ok (.if_icmp .lt 13, 3) := by decide +kernel
theorem dX5_isWeight_5 : decode cX5_isWeight 5 = .ok (.iload_n 0, 1) := by decide +kernel
theorem dX5_isWeight_6 : decode cX5_isWeight 6 = .ok (.bipush 20, 2) := by decide +kernel
theorem dX5_isWeight_8 : decode cX5_isWeight 8 = .ok (.if_icmp .gt 7, 3) := by decide +kernel
theorem dX5_isWeight_11 : decode cX5_isWeight 11 = .ok (.iconst 1, 1) := by decide +kernel
theorem dX5_isWeight_12 : decode cX5_isWeight 12 = .ok (.goto 4, 3) := by decide +kernel
theorem dX5_isWeight_15 : decode cX5_isWeight 15 = .ok (.iconst 0, 1) := by decide +kernel
theorem dX5_isWeight_16 : decode cX5_isWeight 16 = .ok (.ireturn, 1) := by decide +kernel
theorem dX5_isWithin_0 : decode cX5_isWithin 0 = .ok (.iload_n 0, 1) := by decide +kernel
theorem dX5_isWithin_1 : decode cX5_isWithin 1 = .ok (.iload_n 1, 1) := by decide +kernel
theorem dX5_isWithin_2 : decode cX5_isWithin 2 = .ok (.ineg, 1) := by decide +kernel
theorem dX5_isWithin_3 : decode cX5_isWithin 3 = .ok (.if_icmp .lt 12, 3) := by decide +kernel
theorem dX5_isWithin_6 : decode cX5_isWithin 6 = .ok (.iload_n 0, 1) := by decide +kernel
theorem dX5_isWithin_7 : decode cX5_isWithin 7 = .ok (.iload_n 1, 1) := by decide +kernel
theorem dX5_isWithin_8 : decode cX5_isWithin 8 = .ok (.if_icmp .gt 7, 3) := by decide +kernel
theorem dX5_isWithin_11 : decode cX5_isWithin 11 = .ok (.iconst 1, 1) := by decide +kernel
theorem dX5_isWithin_12 : decode cX5_isWithin 12 = .ok (.goto 4, 3) := by decide +kernel
theorem dX5_isWithin_15 : decode cX5_isWithin 15 = .ok (.iconst 0, 1) := by decide +kernel
theorem dX5_isWithin_16 : decode cX5_isWithin 16 = .ok (.ireturn, 1) := by decide +kernel
theorem dX5_knowsPart_0 : decode cX5_knowsPart 0 = .ok (.iload_n 1, 1) := by decide +kernel
theorem dX5_knowsPart_1 : decode cX5_knowsPart 1 = .ok (.ifCond .lt 15, 3) := by decide +kernel
theorem dX5_knowsPart_4 : decode cX5_knowsPart 4 = .ok (.iload_n 1, 1) := by decide +kernel
theorem dX5_knowsPart_5 : decode cX5_knowsPart 5 = .ok (.aload_n 0, 1) := by decide +kernel
theorem dX5_knowsPart_6 : decode cX5_knowsPart 6 = .ok (.getfield 85, 3) := by decide +kernel
theorem dX5_knowsPart_9 : decode cX5_knowsPart 9 = .ok (.if_icmp .ge 7, 3) := by decide +kernel
theorem dX5_knowsPart_12 : decode cX5_knowsPart 12 = .ok (.iconst 1, 1) := by decide +kernel
theorem dX5_knowsPart_13 : decode cX5_knowsPart 13 = .ok (.goto 4, 3) := by decide +kernel
theorem dX5_knowsPart_16 : decode cX5_knowsPart 16 = .ok (.iconst 0, 1) := by decide +kernel
theorem dX5_knowsPart_17 : decode cX5_knowsPart 17 = .ok (.ireturn, 1) := by decide +kernel
theorem dX5_knowsRow_0 : decode cX5_knowsRow 0 = .ok (.aload_n 0, 1) := by decide +kernel
theorem dX5_knowsRow_1 : decode cX5_knowsRow 1 = .ok (.iload_n 1, 1) := by decide +kernel
theorem dX5_knowsRow_2 : decode cX5_knowsRow 2 = .ok (.invokevirtual 88, 3) := by decide +kernel
theorem dX5_knowsRow_5 : decode cX5_knowsRow 5 = .ok (.ifCond .eq 24, 3) := by decide +kernel
theorem dX5_knowsRow_8 : decode cX5_knowsRow 8 = .ok (.iload_n 2, 1) := by decide +kernel
theorem dX5_knowsRow_9 : decode cX5_knowsRow 9 = .ok (.ifCond .lt 20, 3) := by decide +kernel
theorem dX5_knowsRow_12 : decode cX5_knowsRow 12 = .ok (.iload_n 2, 1) := by decide +kernel
theorem dX5_knowsRow_13 : decode cX5_knowsRow 13 = .ok (.aload_n 0, 1) := by decide +kernel
theorem dX5_knowsRow_14 : decode cX5_knowsRow 14 = .ok (.getfield 25, 3) := by decide +kernel
theorem dX5_knowsRow_17 : decode cX5_knowsRow 17 = .ok (.iload_n 1, 1) := by decide +kernel
theorem dX5_knowsRow_18 : decode cX5_knowsRow 18 = .ok (.aaload, 1) := by decide +kernel
theorem dX5_knowsRow_19 : decode cX5_knowsRow 19 = .ok (.getfield 118, 3) := by decide +kernel
theorem dX5_knowsRow_22 : decode cX5_knowsRow 22 = .ok (.if_icmp .ge 7, 3) := by decide +kernel
theorem dX5_knowsRow_25 : decode cX5_knowsRow 25 = .ok (.iconst 1, 1) := by decide +kernel
theorem dX5_knowsRow_26 : decode cX5_knowsRow 26 = .ok (.goto 4, 3) := by decide +kernel
theorem dX5_knowsRow_29 : decode cX5_knowsRow 29 = .ok (.iconst 0, 1) := by decide +kernel
theorem dX5_knowsRow_30 : decode cX5_knowsRow 30 = .ok (.ireturn, 1) := by decide +kernel
theorem dX5_retell_0 : decode cX5_retell 0 = .ok (.aload_n 0, 1) := by decide +kernel
theorem dX5_retell_1 : decode cX5_retell 1 = .ok (.getfield 25, 3) := by decide +kernel
theorem dX5_retell_4 : decode cX5_retell 4 = .ok (.iload_n 1, 1) := by decide +kernel
theorem dX5_retell_5 : decode cX5_retell 5 = .ok (.aaload, 1) := by decide +kernel
theorem dX5_retell_6 : decode cX5_retell 6 = .ok (.invokevirtual 222, 3) := by decide +kernel
theorem dX5_retell_9 : decode cX5_retell 9 = .ok (.aload_n 0, 1) := by decide +kernel
theorem dX5_retell_10 : decode cX5_retell 10 = .ok (.getfield 32, 3) := by decide +kernel
theorem dX5_retell_13 : decode cX5_retell 13 = .ok (.iload_n 1, 1) := by decide +kernel
theorem dX5_retell_14 : decode cX5_retell 14 = .ok (.invokevirtual 225, 3) := by decide +kernel
theorem dX5_retell_17 : decode cX5_retell 17 = .ok (.aload_n 0, 1) := by decide +kernel
theorem dX5_retell_18 : decode cX5_retell 18 = .ok (.getfield 39, 3) := by decide +kernel
theorem dX5_retell_21 : decode cX5_retell 21 = .ok (.invokevirtual 64, 3) := by decide +kernel
theorem dX5_retell_24 : decode cX5_retell 24 = .ok (.return_, 1) := by decide +kernel
theorem dX5_costOfValues_0 : decode cX5_costOfValues 0 = .ok (.iconst 0, 1) := by decide +kernel
theorem dX5_costOfValues_1 : decode cX5_costOfValues 1 = .ok (.istore_n 2, 1) := by decide +kernel
theorem dX5_costOfValues_2 : decode cX5_costOfValues 2 = .ok (.iconst 0, 1) := by decide +kernel
theorem dX5_costOfValues_3 : decode cX5_costOfValues 3 = .ok (.istore_n 3, 1) := by decide +kernel
theorem dX5_costOfValues_4 : decode cX5_costOfValues 4 = .ok (.iload_n 3, 1) := by decide +kernel
theorem dX5_costOfValues_5 : decode cX5_costOfValues 5 = .ok (.aload_n 0, 1) := by decide +kernel
theorem dX5_costOfValues_6 : decode cX5_costOfValues 6 = .ok (.getfield 12, 3) := by decide +kernel
theorem dX5_costOfValues_9 : decode cX5_costOfValues 9 = .ok (.getfield 58, 3) := by decide +kernel
theorem dX5_costOfValues_12 : decode cX5_costOfValues 12 = .ok (.if_icmp .ge 27, 3) := by decide +kernel
theorem dX5_costOfValues_15 : decode cX5_costOfValues 15 = .ok (.iload_n 2, 1) := by decide +kernel
theorem dX5_costOfValues_16 : decode cX5_costOfValues 16 = .ok (.aload_n 0, 1) := by decide +kernel
theorem dX5_costOfValues_17 : decode cX5_costOfValues 17 = .ok (.getfield 12, 3) := by decide +kernel
theorem dX5_costOfValues_20 : decode cX5_costOfValues 20 = .ok (.getfield 71, 3) := by decide +kernel
theorem dX5_costOfValues_23 : decode cX5_costOfValues 23 = .ok (.iload_n 3, 1) := by decide +kernel
theorem dX5_costOfValues_24 : decode cX5_costOfValues 24 = .ok (.iconst 4, 1) := by decide +kernel
theorem dX5_costOfValues_25 : decode cX5_costOfValues 25 = .ok (.imul, 1) := by decide +kernel
theorem dX5_costOfValues_26 : decode cX5_costOfValues 26 = .ok (.aload_n 1, 1) := by decide +kernel
theorem dX5_costOfValues_27 : decode cX5_costOfValues 27 = .ok (.iload_n 3, 1) := by decide +kernel
theorem dX5_costOfValues_28 : decode cX5_costOfValues 28 = .ok (.iaload, 1) := by decide +kernel
theorem dX5_costOfValues_29 : decode cX5_costOfValues 29 = .ok (.iadd, 1) := by decide +kernel
theorem dX5_costOfValues_30 : decode cX5_costOfValues 30 = .ok (.iaload, 1) := by decide +kernel
theorem dX5_costOfValues_31 : decode cX5_costOfValues 31 = .ok (.iadd, 1) := by decide +kernel
theorem dX5_costOfValues_32 : decode cX5_costOfValues 32 = .ok (.istore_n 2, 1) := by decide +kernel
theorem dX5_costOfValues_33 : decode cX5_costOfValues 33 = .ok (.iinc 3 1, 3) := by decide +kernel
theorem dX5_costOfValues_36 : decode cX5_costOfValues 36 = .ok (.goto (-32), 3) := by decide +kernel
theorem dX5_costOfValues_39 : decode cX5_costOfValues 39 = .ok (.iload_n 2, 1) := by decide +kernel
theorem dX5_costOfValues_40 : decode cX5_costOfValues 40 = .ok (.aload_n 0, 1) := by decide +kernel
theorem dX5_costOfValues_41 : decode cX5_costOfValues 41 = .ok (.getfield 19, 3) := by decide +kernel
theorem dX5_costOfValues_44 : decode cX5_costOfValues 44 = .ok (.invokevirtual 168, 3) := by decide +kernel
theorem dX5_costOfValues_47 : decode cX5_costOfValues 47 = .ok (.imul, 1) := by decide +kernel
theorem dX5_costOfValues_48 : decode cX5_costOfValues 48 = .ok (.ireturn, 1) := by decide +kernel
theorem dX5_hearParts_0 : decode cX5_hearParts 0 = .ok (.aload_n 0, 1) := by decide +kernel
theorem dX5_hearParts_1 : decode cX5_hearParts 1 = .ok (.getfield 39, 3) := by decide +kernel
theorem dX5_hearParts_4 : decode cX5_hearParts 4 = .ok (.getfield 177, 3) := by decide +kernel
theorem dX5_hearParts_7 : decode cX5_hearParts 7 = .ok (.astore_n 1, 1) := by decide +kernel
theorem dX5_hearParts_8 : decode cX5_hearParts 8 = .ok (.aload_n 0, 1) := by decide +kernel
theorem dX5_hearParts_9 : decode cX5_hearParts 9 = .ok (.aload_n 1, 1) := by decide +kernel
theorem dX5_hearParts_10 : decode cX5_hearParts 10 = .ok (.invokevirtual 180, 3) := by decide +kernel
theorem dX5_hearParts_13 : decode cX5_hearParts 13 = .ok (.istore_n 2, 1) := by decide +kernel
theorem dX5_hearParts_14 : decode cX5_hearParts 14 = .ok (.iconst 1, 1) := by decide +kernel
theorem dX5_hearParts_15 : decode cX5_hearParts 15 = .ok (.istore_n 3, 1) := by decide +kernel
theorem dX5_hearParts_16 : decode cX5_hearParts 16 = .ok (.iconst 0, 1) := by decide +kernel
theorem dX5_hearParts_17 : decode cX5_hearParts 17 = .ok (.istore 4, 2) := by decide +kernel
theorem dX5_hearParts_19 : decode cX5_hearParts 19 = .ok (.iload 4, 2) := by decide +kernel
theorem dX5_hearParts_21 : decode cX5_hearParts 21 = .ok (.aload_n 0, 1) := by decide +kernel
theorem dX5_hearParts_22 : decode cX5_hearParts 22 = .ok (.getfield 85, 3) := by decide +kernel
theorem dX5_hearParts_25 : decode cX5_hearParts 25 = .ok (.if_icmp .ge 130, 3) := by decide +kernel
theorem dX5_hearParts_28 : decode cX5_hearParts 28 = .ok (.aload_n 0, 1) := by decide +kernel
theorem dX5_hearParts_29 : decode cX5_hearParts 29 = .ok (.getfield 25, 3) := by decide +kernel
theorem dX5_hearParts_32 : decode cX5_hearParts 32 = .ok (.iload 4, 2) := by decide +kernel
theorem dX5_hearParts_34 : decode cX5_hearParts 34 = .ok (.aaload, 1) := by decide +kernel
theorem dX5_hearParts_35 : decode cX5_hearParts 35 = .ok (.aload_n 1, 1) := by decide +kernel
theorem dX5_hearParts_36 : decode cX5_hearParts 36 = .ok (.invokevirtual 191, 3) := by decide +kernel
theorem dX5_hearParts_39 : decode cX5_hearParts 39 = .ok (.istore 5, 2) := by decide +kernel
theorem dX5_hearParts_41 : decode cX5_hearParts 41 = .ok (.iconst 0, 1) := by decide +kernel
theorem dX5_hearParts_42 : decode cX5_hearParts 42 = .ok (.istore 6, 2) := by decide +kernel
theorem dX5_hearParts_44 : decode cX5_hearParts 44 = .ok (.iload 6, 2) := by decide +kernel
theorem dX5_hearParts_46 : decode cX5_hearParts 46 = .ok (.aload_n 0, 1) := by decide +kernel
theorem dX5_hearParts_47 : decode cX5_hearParts 47 = .ok (.getfield 19, 3) := by decide +kernel
theorem dX5_hearParts_50 : decode cX5_hearParts 50 = .ok (.getfield 78, 3) := by decide +kernel
theorem dX5_hearParts_53 : decode cX5_hearParts 53 = .ok (.if_icmp .ge 96, 3) := by decide +kernel
theorem dX5_hearParts_56 : decode cX5_hearParts 56 = .ok (.aload_n 0, 1) := by decide +kernel
theorem dX5_hearParts_57 : decode cX5_hearParts 57 = .ok (.getfield 25, 3) := by decide +kernel
theorem dX5_hearParts_60 : decode cX5_hearParts 60 = .ok (.iload 4, 2) := by decide +kernel
theorem dX5_hearParts_62 : decode cX5_hearParts 62 = .ok (.aaload, 1) := by decide +kernel
theorem dX5_hearParts_63 : decode cX5_hearParts 63 = .ok (.iload 5, 2) := by decide +kernel
theorem dX5_hearParts_65 : decode cX5_hearParts 65 = .ok (.iload 6, 2) := by decide +kernel
theorem dX5_hearParts_67 : decode cX5_hearParts 67 = .ok (.invokevirtual 194, 3) := by decide +kernel
theorem dX5_hearParts_70 : decode cX5_hearParts 70 = .ok (.istore 7, 2) := by decide +kernel
theorem dX5_hearParts_72 : decode cX5_hearParts 72 = .ok (.iload 7, 2) := by decide +kernel
theorem dX5_hearParts_74 : decode cX5_hearParts 74 = .ok (.bipush (-4), 2) := by decide +kernel
theorem dX5_hearParts_76 : decode cX5_hearParts 76 = .ok (.if_icmp .eq 27, 3) := by decide +kernel
theorem dX5_hearParts_79 : decode cX5_hearParts 79 = .ok (.iload 7, 2) := by decide +kernel
theorem dX5_hearParts_81 : decode cX5_hearParts 81 = .ok (.aload_n 0, 1) := by decide +kernel
theorem dX5_hearParts_82 : decode cX5_hearParts 82 = .ok (.getfield 25, 3) := by decide +kernel
theorem dX5_hearParts_85 : decode cX5_hearParts 85 = .ok (.iload 4, 2) := by decide +kernel
theorem dX5_hearParts_87 : decode cX5_hearParts 87 = .ok (.aaload, 1) := by decide +kernel
theorem dX5_hearParts_88 : decode cX5_hearParts 88 = .ok (.getfield 228, 3) := by decide +kernel
theorem dX5_hearParts_91 : decode cX5_hearParts 91 = .ok (.iload 6, 2) := by decide +kernel
theorem dX5_hearParts_93 : decode cX5_hearParts 93 = .ok (.bipush 64, 2) := by decide +kernel
theorem dX5_hearParts_95 : decode cX5_hearParts 95 = .ok (.imul, 1) := by decide +kernel
theorem dX5_hearParts_96 : decode cX5_hearParts 96 = .ok (.iload 5, 2) := by decide +kernel
theorem dX5_hearParts_98 : decode cX5_hearParts 98 = .ok (.iadd, 1) := by decide +kernel
theorem dX5_hearParts_99 : decode cX5_hearParts 99 = .ok (.iaload, 1) := by decide +kernel
theorem dX5_hearParts_100 : decode cX5_hearParts 100 = .ok (.if_icmp .le 15, 3) := by decide +kernel
theorem dX5_hearParts_103 : decode cX5_hearParts 103 = .ok (.aload_n 0, 1) := by decide +kernel
theorem dX5_hearParts_104 : decode cX5_hearParts 104 = .ok (.iload 4, 2) := by decide +kernel
theorem dX5_hearParts_106 : decode cX5_hearParts 106 = .ok (.iload 6, 2) := by decide +kernel
theorem dX5_hearParts_108 : decode cX5_hearParts 108 = .ok (.iload 5, 2) := by decide +kernel
theorem dX5_hearParts_110 : decode cX5_hearParts 110 = .ok (.iload 7, 2) := by decide +kernel
theorem dX5_hearParts_112 : decode cX5_hearParts 112 = .ok (.invokevirtual 231, 3) := by decide +kernel
theorem dX5_hearParts_115 : decode cX5_hearParts 115 = .ok (.iload 7, 2) := by decide +kernel
theorem dX5_hearParts_117 : decode cX5_hearParts 117 = .ok (.bipush (-4), 2) := by decide +kernel
theorem dX5_hearParts_119 : decode cX5_hearParts 119 = .ok (.if_icmp .ne 8, 3) := by decide +kernel
theorem dX5_hearParts_122 : decode cX5_hearParts 122 = .ok (.iconst 0, 1) := by decide +kernel
theorem dX5_hearParts_123 : decode cX5_hearParts 123 = .ok (.istore_n 3, 1) := by decide +kernel
theorem dX5_hearParts_124 : decode cX5_hearParts 124 = .ok (.goto 19, 3) := by decide +kernel
theorem dX5_hearParts_127 : decode cX5_hearParts 127 = .ok (.iload_n 2, 1) := by decide +kernel
theorem dX5_hearParts_128 : decode cX5_hearParts 128 = .ok (.aload_n 0, 1) := by decide +kernel
theorem dX5_hearParts_129 : decode cX5_hearParts 129 = .ok (.getfield 19, 3) := by decide +kernel
theorem dX5_hearParts_132 : decode cX5_hearParts 132 = .ok (.getfield 79, 3) := by decide +kernel
theorem dX5_hearParts_135 : decode cX5_hearParts 135 = .ok (.iload 6, 2) := by decide +kernel
theorem dX5_hearParts_137 : decode cX5_hearParts 137 = .ok (.iaload, 1) := by decide +kernel
theorem dX5_hearParts_138 : decode cX5_hearParts 138 = .ok (.iload 7, 2) := by decide +kernel
theorem dX5_hearParts_140 : decode cX5_hearParts 140 = .ok (.imul, 1) := by decide +kernel
theorem dX5_hearParts_141 : decode cX5_hearParts 141 = .ok (.iadd, 1) := by decide +kernel
theorem dX5_hearParts_142 : decode cX5_hearParts 142 = .ok (.istore_n 2, 1) := by decide +kernel
theorem dX5_hearParts_143 : decode cX5_hearParts 143 = .ok (.iinc 6 1, 3) := by decide +kernel
theorem dX5_hearParts_146 : decode cX5_hearParts 146 = .ok (.goto (-102), 3) := by decide +kernel
theorem dX5_hearParts_149 : decode cX5_hearParts 149 = .ok (.iinc 4 1, 3) := by decide +kernel
theorem dX5_hearParts_152 : decode cX5_hearParts 152 = .ok (.goto (-133), 3) := by decide +kernel
theorem dX5_hearParts_155 : decode cX5_hearParts 155 = .ok (.iload_n 3, 1) := by decide +kernel
theorem dX5_hearParts_156 : decode cX5_hearParts 156 = .ok (.ifCond .eq 7, 3) := by decide +kernel
theorem dX5_hearParts_159 : decode cX5_hearParts 159 = .ok (.iload_n 2, 1) := by decide +kernel
theorem dX5_hearParts_160 : decode cX5_hearParts 160 = .ok (.goto 5, 3) := by decide +kernel
theorem dX5_hearParts_163 : decode cX5_hearParts 163 = .ok (.bipush (-4), 2) := by decide +kernel
theorem dX5_hearParts_165 : decode cX5_hearParts 165 = .ok (.ireturn, 1) := by decide +kernel
theorem dX5_bringCut_0 : decode cX5_bringCut 0 = .ok (.aload_n 0, 1) := by decide +kernel
theorem dX5_bringCut_1 : decode cX5_bringCut 1 = .ok (.getfield 32, 3) := by decide +kernel
theorem dX5_bringCut_4 : decode cX5_bringCut 4 = .ok (.getfield 139, 3) := by decide +kernel
theorem dX5_bringCut_7 : decode cX5_bringCut 7 = .ok (.sipush 200, 3) := by decide +kernel
theorem dX5_bringCut_10 : decode cX5_bringCut 10 = .ok (.if_icmp .lt 4, 3) := by decide +kernel
theorem dX5_bringCut_13 : decode cX5_bringCut 13 = .ok (.return_, 1) := by decide +kernel
theorem dX5_bringCut_14 : decode cX5_bringCut 14 = .ok (.aload_n 0, 1) := by decide +kernel
theorem dX5_bringCut_15 : decode cX5_bringCut 15 = .ok (.getfield 25, 3) := by decide +kernel
theorem dX5_bringCut_18 : decode cX5_bringCut 18 = .ok (.iload_n 1, 1) := by decide +kernel
theorem dX5_bringCut_19 : decode cX5_bringCut 19 = .ok (.aaload, 1) := by decide +kernel
theorem dX5_bringCut_20 : decode cX5_bringCut 20 = .ok (.iload_n 3, 1) := by decide +kernel
theorem dX5_bringCut_21 : decode cX5_bringCut 21 = .ok (.iload_n 2, 1) := by decide +kernel
theorem dX5_bringCut_22 : decode cX5_bringCut 22 = .ok (.iload 4, 2) := by decide +kernel
theorem dX5_bringCut_24 : decode cX5_bringCut 24 = .ok (.invokevirtual 235, 3) := by decide +kernel
theorem dX5_bringCut_27 : decode cX5_bringCut 27 = .ok (.aload_n 0, 1) := by decide +kernel
theorem dX5_bringCut_28 : decode cX5_bringCut 28 = .ok (.getfield 25, 3) := by decide +kernel
theorem dX5_bringCut_31 : decode cX5_bringCut 31 = .ok (.iload_n 1, 1) := by decide +kernel
theorem dX5_bringCut_32 : decode cX5_bringCut 32 = .ok (.aaload, 1) := by decide +kernel
theorem dX5_bringCut_33 : decode cX5_bringCut 33 = .ok (.iload_n 2, 1) := by decide +kernel
theorem dX5_bringCut_34 : decode cX5_bringCut 34 = .ok (.iload 4, 2) := by decide +kernel
theorem dX5_bringCut_36 : decode cX5_bringCut 36 = .ok (.invokevirtual 239, 3) := by decide +kernel
theorem dX5_bringCut_39 : decode cX5_bringCut 39 = .ok (.aload_n 0, 1) := by decide +kernel
theorem dX5_bringCut_40 : decode cX5_bringCut 40 = .ok (.getfield 32, 3) := by decide +kernel
theorem dX5_bringCut_43 : decode cX5_bringCut 43 = .ok (.iload_n 1, 1) := by decide +kernel
theorem dX5_bringCut_44 : decode cX5_bringCut 44 = .ok (.iload_n 2, 1) := by decide +kernel
theorem dX5_bringCut_45 : decode cX5_bringCut 45 = .ok (.iload 4, 2) := by decide +kernel
theorem dX5_bringCut_47 : decode cX5_bringCut 47 = .ok (.aload_n 0, 1) := by decide +kernel
theorem dX5_bringCut_48 : decode cX5_bringCut 48 = .ok (.getfield 39, 3) := by decide +kernel
theorem dX5_bringCut_51 : decode cX5_bringCut 51 = .ok (.getfield 159, 3) := by decide +kernel
theorem dX5_bringCut_54 : decode cX5_bringCut 54 = .ok (.aload_n 0, 1) := by decide +kernel
theorem dX5_bringCut_55 : decode cX5_bringCut 55 = .ok (.getfield 25, 3) := by decide +kernel
theorem dX5_bringCut_58 : decode cX5_bringCut 58 = .ok (.iload_n 1, 1) := by decide +kernel
theorem dX5_bringCut_59 : decode cX5_bringCut 59 = .ok (.aaload, 1) := by decide +kernel
theorem dX5_bringCut_60 : decode cX5_bringCut 60 = .ok (.invokevirtual 242, 3) := by decide +kernel
theorem dX5_bringCut_63 : decode cX5_bringCut 63 = .ok (.return_, 1) := by decide +kernel
theorem dX5_findLeast_0 : decode cX5_findLeast 0 = .ok (.aload_n 0, 1) := by decide +kernel
theorem dX5_findLeast_1 : decode cX5_findLeast 1 = .ok (.bipush (-4), 2) := by decide +kernel
theorem dX5_findLeast_3 : decode cX5_findLeast 3 = .ok (.putfield 53, 3) := by decide +kernel
theorem dX5_findLeast_6 : decode cX5_findLeast 6 = .ok (.aload_n 0, 1) := by decide +kernel
theorem dX5_findLeast_7 : decode cX5_findLeast 7 = .ok (.getfield 43, 3) := by decide +kernel
theorem dX5_findLeast_10 : decode cX5_findLeast 10 = .ok (.iconst 0, 1) := by decide +kernel
theorem dX5_findLeast_11 : decode cX5_findLeast 11 = .ok (.invokestatic 246, 3) := by decide +kernel
theorem dX5_findLeast_14 : decode cX5_findLeast 14 = .ok (.iconst 0, 1) := by decide +kernel
theorem dX5_findLeast_15 : decode cX5_findLeast 15 = .ok (.istore_n 2, 1) := by decide +kernel
theorem dX5_findLeast_16 : decode cX5_findLeast 16 = .ok (.iconst 1, 1) := by decide +kernel
theorem dX5_findLeast_17 : decode cX5_findLeast 17 = .ok (.istore_n 3, 1) := by decide +kernel
theorem dX5_findLeast_18 : decode cX5_findLeast 18 = .ok (.iconst 0, 1) := by decide +kernel
theorem dX5_findLeast_19 : decode cX5_findLeast 19 = .ok (.istore 4, 2) := by decide +kernel
theorem dX5_findLeast_21 : decode cX5_findLeast 21 = .ok (.iload 4, 2) := by decide +kernel
theorem dX5_findLeast_23 : decode cX5_findLeast 23 = .ok (.sipush 4096, 3) := by decide +kernel
theorem dX5_findLeast_26 : decode cX5_findLeast 26 = .ok (.if_icmp .ge 34, 3) := by decide +kernel
theorem dX5_findLeast_29 : decode cX5_findLeast 29 = .ok (.iload_n 3, 1) := by decide +kernel
theorem dX5_findLeast_30 : decode cX5_findLeast 30 = .ok (.ifCond .eq 30, 3) := by decide +kernel
theorem dX5_findLeast_33 : decode cX5_findLeast 33 = .ok (.aload_n 0, 1) := by decide +kernel
theorem dX5_findLeast_34 : decode cX5_findLeast 34 = .ok (.aload_n 0, 1) := by decide +kernel
theorem dX5_findLeast_35 : decode cX5_findLeast 35 = .ok (.iload_n 2, 1) := by decide +kernel
theorem dX5_findLeast_36 : decode cX5_findLeast 36 = .ok (.iload_n 1, 1) := by decide +kernel
theorem dX5_findLeast_37 : decode cX5_findLeast 37 = .ok (.invokevirtual 251, 3) := by decide +kernel
theorem dX5_findLeast_40 : decode cX5_findLeast 40 = .ok (.invokevirtual 255, 3) := by decide +kernel
theorem dX5_findLeast_43 : decode cX5_findLeast 43 = .ok (.istore_n 2, 1) := by decide +kernel
theorem dX5_findLeast_44 : decode cX5_findLeast 44 = .ok (.iload_n 2, 1) := by decide +kernel
theorem dX5_findLeast_45 : decode cX5_findLeast 45 = .ok (.ifCond .le 7, 3) := by decide +kernel
theorem dX5_findLeast_48 : decode cX5_findLeast 48 = .ok (.iconst 1, 1) := by decide +kernel
theorem dX5_findLeast_49 : decode cX5_findLeast 49 = .ok (.goto 4, 3) := by decide +kernel
theorem dX5_findLeast_52 : decode cX5_findLeast 52 = .ok (.iconst 0, 1) := by decide +kernel
theorem dX5_findLeast_53 : decode cX5_findLeast 53 = .ok (.istore_n 3, 1) := by decide +kernel
theorem dX5_findLeast_54 : decode cX5_findLeast 54 = .ok (.iinc 4 1, 3) := by decide +kernel
theorem dX5_findLeast_57 : decode cX5_findLeast 57 = .ok (.goto (-36), 3) := by decide +kernel
theorem dX5_findLeast_60 : decode cX5_findLeast 60 = .ok (.return_, 1) := by decide +kernel
theorem dX5_followTried_0 : decode cX5_followTried 0 = .ok (.aload_n 0, 1) := by decide +kernel
theorem dX5_followTried_1 : decode cX5_followTried 1 = .ok (.getfield 47, 3) := by decide +kernel
theorem dX5_followTried_4 : decode cX5_followTried 4 = .ok (.iload_n 1, 1) := by decide +kernel
theorem dX5_followTried_5 : decode cX5_followTried 5 = .ok (.iaload, 1) := by decide +kernel
theorem dX5_followTried_6 : decode cX5_followTried 6 = .ok (.istore_n 3, 1) := by decide +kernel
theorem dX5_followTried_7 : decode cX5_followTried 7 = .ok (.iload_n 1, 1) := by decide +kernel
theorem dX5_followTried_8 : decode cX5_followTried 8 = .ok (.istore 4, 2) := by decide +kernel
theorem dX5_followTried_10 : decode cX5_followTried 10 = .ok (.iload 4, 2) := by decide +kernel
theorem dX5_followTried_12 : decode cX5_followTried 12 = .ok (.aload_n 0, 1) := by decide +kernel
theorem dX5_followTried_13 : decode cX5_followTried 13 = .ok (.getfield 12, 3) := by decide +kernel
theorem dX5_followTried_16 : decode cX5_followTried 16 = .ok (.getfield 58, 3) := by decide +kernel
theorem dX5_followTried_19 : decode cX5_followTried 19 = .ok (.if_icmp .gt 61, 3) := by decide +kernel
theorem dX5_followTried_22 : decode cX5_followTried 22 = .ok (.aload_n 0, 1) := by decide +kernel
theorem dX5_followTried_23 : decode cX5_followTried 23 = .ok (.getfield 47, 3) := by decide +kernel
theorem dX5_followTried_26 : decode cX5_followTried 26 = .ok (.iload 4, 2) := by decide +kernel
theorem dX5_followTried_28 : decode cX5_followTried 28 = .ok (.iload_n 3, 1) := by decide +kernel
theorem dX5_followTried_29 : decode cX5_followTried 29 = .ok (.iastore, 1) := by decide +kernel
theorem dX5_followTried_30 : decode cX5_followTried 30 = .ok (.aload_n 0, 1) := by decide +kernel
theorem dX5_followTried_31 : decode cX5_followTried 31 = .ok (.iload 4, 2) := by decide +kernel
theorem dX5_followTried_33 : decode cX5_followTried 33 = .ok (.iload_n 2, 1) := by decide +kernel
theorem dX5_followTried_34 : decode cX5_followTried 34 = .ok (.invokevirtual 259, 3) := by decide +kernel
theorem dX5_followTried_37 : decode cX5_followTried 37 = .ok (.istore 5, 2) := by decide +kernel
theorem dX5_followTried_39 : decode cX5_followTried 39 = .ok (.iload 5, 2) := by decide +kernel
theorem dX5_followTried_41 : decode cX5_followTried 41 = .ok (.bipush (-4), 2) := by decide +kernel
theorem dX5_followTried_43 : decode cX5_followTried 43 = .ok (.if_icmp .ne 6, 3) := by decide +kernel
theorem dX5_followTried_46 : decode cX5_followTried 46 = .ok (.iload 4, 2) := by decide +kernel
theorem dX5_followTried_48 : decode cX5_followTried 48 = .ok (.ireturn, 1) := by decide +kernel
theorem dX5_followTried_49 : decode cX5_followTried 49 = .ok (.iload_n 3, 1) := by decide +kernel
theorem dX5_followTried_50 : decode cX5_followTried 50 = .ok (.iload 5, 2) := by decide +kernel
theorem dX5_followTried_52 : decode cX5_followTried 52 = .ok (.iadd, 1) := by decide +kernel
theorem dX5_followTried_53 : decode cX5_followTried 53 = .ok (.istore_n 3, 1) := by decide +kernel
theorem dX5_followTried_54 : decode cX5_followTried 54 = .ok (.aload_n 0, 1) := by decide +kernel
theorem dX5_followTried_55 : decode cX5_followTried 55 = .ok (.getfield 53, 3) := by decide +kernel
theorem dX5_followTried_58 : decode cX5_followTried 58 = .ok (.bipush (-4), 2) := by decide +kernel
theorem dX5_followTried_60 : decode cX5_followTried 60 = .ok (.if_icmp .eq 14, 3) := by decide +kernel
theorem dX5_followTried_63 : decode cX5_followTried 63 = .ok (.iload_n 3, 1) := by decide +kernel
theorem dX5_followTried_64 : decode cX5_followTried 64 = .ok (.aload_n 0, 1) := by decide +kernel
theorem dX5_followTried_65 : decode cX5_followTried 65 = .ok (.getfield 53, 3) := by decide +kernel
theorem dX5_followTried_68 : decode cX5_followTried 68 = .ok (.if_icmp .lt 6, 3) := by decide +kernel
theorem dX5_followTried_71 : decode cX5_followTried 71 = .ok (.iload 4, 2) := by decide +kernel
theorem dX5_followTried_73 : decode cX5_followTried 73 = .ok (.ireturn, 1) := by decide +kernel
theorem dX5_followTried_74 : decode cX5_followTried 74 = .ok (.iinc 4 1, 3) := by decide +kernel
theorem dX5_followTried_77 : decode cX5_followTried 77 = .ok (.goto (-67), 3) := by decide +kernel
theorem dX5_followTried_80 : decode cX5_followTried 80 = .ok (.aload_n 0, 1) := by decide +kernel
theorem dX5_followTried_81 : decode cX5_followTried 81 = .ok (.iload_n 3, 1) := by decide +kernel
theorem dX5_followTried_82 : decode cX5_followTried 82 = .ok (.putfield 53, 3) := by decide +kernel
theorem dX5_followTried_85 : decode cX5_followTried 85 = .ok (.aload_n 0, 1) := by decide +kernel
theorem dX5_followTried_86 : decode cX5_followTried 86 = .ok (.getfield 43, 3) := by decide +kernel
theorem dX5_followTried_89 : decode cX5_followTried 89 = .ok (.iconst 0, 1) := by decide +kernel
theorem dX5_followTried_90 : decode cX5_followTried 90 = .ok (.aload_n 0, 1) := by decide +kernel
theorem dX5_followTried_91 : decode cX5_followTried 91 = .ok (.getfield 50, 3) := by decide +kernel
theorem dX5_followTried_94 : decode cX5_followTried 94 = .ok (.iconst 0, 1) := by decide +kernel
theorem dX5_followTried_95 : decode cX5_followTried 95 = .ok (.bipush 6, 2) := by decide +kernel
theorem dX5_followTried_97 : decode cX5_followTried 97 = .ok (.invokestatic 262, 3) := by decide +kernel
theorem dX5_followTried_100 : decode cX5_followTried 100 = .ok (.aload_n 0, 1) := by decide +kernel
theorem dX5_followTried_101 : decode cX5_followTried 101 = .ok (.getfield 12, 3) := by decide +kernel
theorem dX5_followTried_104 : decode cX5_followTried 104 = .ok (.getfield 58, 3) := by decide +kernel
theorem dX5_followTried_107 : decode cX5_followTried 107 = .ok (.ireturn, 1) := by decide +kernel
theorem dX5_costOfStage_0 : decode cX5_costOfStage 0 = .ok (.iconst 0, 1) := by decide +kernel
theorem dX5_costOfStage_1 : decode cX5_costOfStage 1 = .ok (.istore_n 3, 1) := by decide +kernel
theorem dX5_costOfStage_2 : decode cX5_costOfStage 2 = .ok (.iload_n 1, 1) := by decide +kernel
theorem dX5_costOfStage_3 : decode cX5_costOfStage 3 = .ok (.ifCond .le 48, 3) := by decide +kernel
theorem dX5_costOfStage_6 : decode cX5_costOfStage 6 = .ok (.aload_n 0, 1) := by decide +kernel
theorem dX5_costOfStage_7 : decode cX5_costOfStage 7 = .ok (.getfield 12, 3) := by decide +kernel
theorem dX5_costOfStage_10 : decode cX5_costOfStage 10 = .ok (.getfield 71, 3) := by decide +kernel
theorem dX5_costOfStage_13 : decode cX5_costOfStage 13 = .ok (.iload_n 1, 1) := by decide +kernel
theorem dX5_costOfStage_14 : decode cX5_costOfStage 14 = .ok (.iconst 1, 1) := by decide +kernel
theorem dX5_costOfStage_15 : decode cX5_costOfStage 15 = .ok (.isub, 1) := by decide +kernel
theorem dX5_costOfStage_16 : decode cX5_costOfStage 16 = .ok (.iconst 4, 1) := by decide +kernel
theorem dX5_costOfStage_17 : decode cX5_costOfStage 17 = .ok (.imul, 1) := by decide +kernel
theorem dX5_costOfStage_18 : decode cX5_costOfStage 18 = .ok (.aload_n 0, 1) := by decide +kernel
theorem dX5_costOfStage_19 : decode cX5_costOfStage 19 = .ok (.getfield 43, 3) := by decide +kernel
theorem dX5_costOfStage_22 : decode cX5_costOfStage 22 = .ok (.iload_n 1, 1) := by decide +kernel
theorem dX5_costOfStage_23 : decode cX5_costOfStage 23 = .ok (.iconst 1, 1) := by decide +kernel
theorem dX5_costOfStage_24 : decode cX5_costOfStage 24 = .ok (.isub, 1) := by decide +kernel
theorem dX5_costOfStage_25 : decode cX5_costOfStage 25 = .ok (.iaload, 1) := by decide +kernel
theorem dX5_costOfStage_26 : decode cX5_costOfStage 26 = .ok (.iadd, 1) := by decide +kernel
theorem dX5_costOfStage_27 : decode cX5_costOfStage 27 = .ok (.iaload, 1) := by decide +kernel
theorem dX5_costOfStage_28 : decode cX5_costOfStage 28 = .ok (.istore 4, 2) := by decide +kernel
theorem dX5_costOfStage_30 : decode cX5_costOfStage 30 = .ok (.iload 4, 2) := by decide +kernel
theorem dX5_costOfStage_32 : decode cX5_costOfStage 32 = .ok (.bipush (-4), 2) := by decide +kernel
theorem dX5_costOfStage_34 : decode cX5_costOfStage 34 = .ok (.if_icmp .ne 6, 3) := by decide +kernel
theorem dX5_costOfStage_37 : decode cX5_costOfStage 37 = .ok (.bipush (-4), 2) := by decide +kernel
theorem dX5_costOfStage_39 : decode cX5_costOfStage 39 = .ok (.ireturn, 1) := by decide +kernel
theorem dX5_costOfStage_40 : decode cX5_costOfStage 40 = .ok (.iload 4, 2) := by decide +kernel
theorem dX5_costOfStage_42 : decode cX5_costOfStage 42 = .ok (.aload_n 0, 1) := by decide +kernel
theorem dX5_costOfStage_43 : decode cX5_costOfStage 43 = .ok (.getfield 19, 3) := by decide +kernel
theorem dX5_costOfStage_46 : decode cX5_costOfStage 46 = .ok (.invokevirtual 168, 3) := by decide +kernel
theorem dX5_costOfStage_49 : decode cX5_costOfStage 49 = .ok (.imul, 1) := by decide +kernel
theorem dX5_costOfStage_50 : decode cX5_costOfStage 50 = .ok (.istore_n 3, 1) := by decide +kernel
theorem dX5_costOfStage_51 : decode cX5_costOfStage 51 = .ok (.iconst 0, 1) := by decide +kernel
theorem dX5_costOfStage_52 : decode cX5_costOfStage 52 = .ok (.istore 4, 2) := by decide +kernel
theorem dX5_costOfStage_54 : decode cX5_costOfStage 54 = .ok (.iload 4, 2) := by decide +kernel
theorem dX5_costOfStage_56 : decode cX5_costOfStage 56 = .ok (.aload_n 0, 1) := by decide +kernel
theorem dX5_costOfStage_57 : decode cX5_costOfStage 57 = .ok (.getfield 85, 3) := by decide +kernel
theorem dX5_costOfStage_60 : decode cX5_costOfStage 60 = .ok (.if_icmp .ge 59, 3) := by decide +kernel
theorem dX5_costOfStage_63 : decode cX5_costOfStage 63 = .ok (.aload_n 0, 1) := by decide +kernel
theorem dX5_costOfStage_64 : decode cX5_costOfStage 64 = .ok (.getfield 25, 3) := by decide +kernel
theorem dX5_costOfStage_67 : decode cX5_costOfStage 67 = .ok (.iload 4, 2) := by decide +kernel
theorem dX5_costOfStage_69 : decode cX5_costOfStage 69 = .ok (.aaload, 1) := by decide +kernel
theorem dX5_costOfStage_70 : decode cX5_costOfStage 70 = .ok (.invokevirtual 268, 3) := by decide +kernel
theorem dX5_costOfStage_73 : decode cX5_costOfStage 73 = .ok (.iload_n 1, 1) := by decide +kernel
theorem dX5_costOfStage_74 : decode cX5_costOfStage 74 = .ok (.if_icmp .ne 39, 3) := by decide +kernel
theorem dX5_costOfStage_77 : decode cX5_costOfStage 77 = .ok (.aload_n 0, 1) := by decide +kernel
theorem dX5_costOfStage_78 : decode cX5_costOfStage 78 = .ok (.getfield 25, 3) := by decide +kernel
theorem dX5_costOfStage_81 : decode cX5_costOfStage 81 = .ok (.iload 4, 2) := by decide +kernel
theorem dX5_costOfStage_83 : decode cX5_costOfStage 83 = .ok (.aaload, 1) := by decide +kernel
theorem dX5_costOfStage_84 : decode cX5_costOfStage 84 = .ok (.aload_n 0, 1) := by decide +kernel
theorem dX5_costOfStage_85 : decode cX5_costOfStage 85 = .ok (.getfield 43, 3) := by decide +kernel
theorem dX5_costOfStage_88 : decode cX5_costOfStage 88 = .ok (.aload_n 0, 1) := by decide +kernel
theorem dX5_costOfStage_89 : decode cX5_costOfStage 89 = .ok (.getfield 19, 3) := by decide +kernel
theorem dX5_costOfStage_92 : decode cX5_costOfStage 92 = .ok (.iload_n 2, 1) := by decide +kernel
theorem dX5_costOfStage_93 : decode cX5_costOfStage 93 = .ok (.invokevirtual 184, 3) := by decide +kernel
theorem dX5_costOfStage_96 : decode cX5_costOfStage 96 = .ok (.istore 5, 2) := by decide +kernel
theorem dX5_costOfStage_98 : decode cX5_costOfStage 98 = .ok (.iload 5, 2) := by decide +kernel
theorem dX5_costOfStage_100 : decode cX5_costOfStage 100 = .ok (.bipush (-4), 2) := by decide +kernel
theorem dX5_costOfStage_102 : decode cX5_costOfStage 102 = .ok (.if_icmp .ne 6, 3) := by decide +kernel
theorem dX5_costOfStage_105 : decode cX5_costOfStage 105 = .ok (.bipush (-4), 2) := by decide +kernel
theorem dX5_costOfStage_107 : decode cX5_costOfStage 107 = .ok (.ireturn, 1) := by decide +kernel
theorem dX5_costOfStage_108 : decode cX5_costOfStage 108 = .ok (.iload_n 3, 1) := by decide +kernel
theorem dX5_costOfStage_109 : decode cX5_costOfStage 109 = .ok (.iload 5, 2) := by decide +kernel
theorem dX5_costOfStage_111 : decode cX5_costOfStage 111 = .ok (.iadd, 1) := by decide +kernel
theorem dX5_costOfStage_112 : decode cX5_costOfStage 112 = .ok (.istore_n 3, 1) := by decide +kernel
theorem dX5_costOfStage_113 : decode cX5_costOfStage 113 = .ok (.iinc 4 1, 3) := by decide +kernel
theorem dX5_costOfStage_116 : decode cX5_costOfStage 116 = .ok (.goto (-62), 3) := by decide +kernel
theorem dX5_costOfStage_119 : decode cX5_costOfStage 119 = .ok (.iload_n 3, 1) := by decide +kernel
theorem dX5_costOfStage_120 : decode cX5_costOfStage 120 = .ok (.ireturn, 1) := by decide +kernel
theorem dX5_moveOn_0 : decode cX5_moveOn 0 = .ok (.iload_n 1, 1) := by decide +kernel
theorem dX5_moveOn_1 : decode cX5_moveOn 1 = .ok (.istore_n 2, 1) := by decide +kernel
theorem dX5_moveOn_2 : decode cX5_moveOn 2 = .ok (.iload_n 2, 1) := by decide +kernel
theorem dX5_moveOn_3 : decode cX5_moveOn 3 = .ok (.ifCond .le 56, 3) := by decide +kernel
theorem dX5_moveOn_6 : decode cX5_moveOn 6 = .ok (.aload_n 0, 1) := by decide +kernel
theorem dX5_moveOn_7 : decode cX5_moveOn 7 = .ok (.getfield 43, 3) := by decide +kernel
theorem dX5_moveOn_10 : decode cX5_moveOn 10 = .ok (.iload_n 2, 1) := by decide +kernel
theorem dX5_moveOn_11 : decode cX5_moveOn 11 = .ok (.iconst 1, 1) := by decide +kernel
theorem dX5_moveOn_12 : decode cX5_moveOn 12 = .ok (.isub, 1) := by decide +kernel
theorem dX5_moveOn_13 : decode cX5_moveOn 13 = .ok (.iaload, 1) := by decide +kernel
theorem dX5_moveOn_14 : decode cX5_moveOn 14 = .ok (.iconst 1, 1) := by decide +kernel
theorem dX5_moveOn_15 : decode cX5_moveOn 15 = .ok (.iadd, 1) := by decide +kernel
theorem dX5_moveOn_16 : decode cX5_moveOn 16 = .ok (.aload_n 0, 1) := by decide +kernel
theorem dX5_moveOn_17 : decode cX5_moveOn 17 = .ok (.getfield 12, 3) := by decide +kernel
theorem dX5_moveOn_20 : decode cX5_moveOn 20 = .ok (.getfield 61, 3) := by decide +kernel
theorem dX5_moveOn_23 : decode cX5_moveOn 23 = .ok (.iload_n 2, 1) := by decide +kernel
theorem dX5_moveOn_24 : decode cX5_moveOn 24 = .ok (.iconst 1, 1) := by decide +kernel
theorem dX5_moveOn_25 : decode cX5_moveOn 25 = .ok (.isub, 1) := by decide +kernel
theorem dX5_moveOn_26 : decode cX5_moveOn 26 = .ok (.iaload, 1) := by decide +kernel
theorem dX5_moveOn_27 : decode cX5_moveOn 27 = .ok (.if_icmp .ge 17, 3) := by decide +kernel
theorem dX5_moveOn_30 : decode cX5_moveOn 30 = .ok (.aload_n 0, 1) := by decide +kernel
theorem dX5_moveOn_31 : decode cX5_moveOn 31 = .ok (.getfield 43, 3) := by decide +kernel
theorem dX5_moveOn_34 : decode cX5_moveOn 34 = .ok (.iload_n 2, 1) := by decide +kernel
theorem dX5_moveOn_35 : decode cX5_moveOn 35 = .ok (.iconst 1, 1) := by decide +kernel
theorem dX5_moveOn_36 : decode cX5_moveOn 36 = .ok (.isub, 1) := by decide +kernel
theorem dX5_moveOn_37 : decode cX5_moveOn 37 = .ok (.dup2, 1) := by decide +kernel
theorem dX5_moveOn_38 : decode cX5_moveOn 38 = .ok (.iaload, 1) := by decide +kernel
theorem dX5_moveOn_39 : decode cX5_moveOn 39 = .ok (.iconst 1, 1) := by decide +kernel
theorem dX5_moveOn_40 : decode cX5_moveOn 40 = .ok (.iadd, 1) := by decide +kernel
theorem dX5_moveOn_41 : decode cX5_moveOn 41 = .ok (.iastore, 1) := by decide +kernel
theorem dX5_moveOn_42 : decode cX5_moveOn 42 = .ok (.iload_n 2, 1) := by decide +kernel
theorem dX5_moveOn_43 : decode cX5_moveOn 43 = .ok (.ireturn, 1) := by decide +kernel
theorem dX5_moveOn_44 : decode cX5_moveOn 44 = .ok (.aload_n 0, 1) := by decide +kernel
theorem dX5_moveOn_45 : decode cX5_moveOn 45 = .ok (.getfield 43, 3) := by decide +kernel
theorem dX5_moveOn_48 : decode cX5_moveOn 48 = .ok (.iload_n 2, 1) := by decide +kernel
theorem dX5_moveOn_49 : decode cX5_moveOn 49 = .ok (.iconst 1, 1) := by decide +kernel
theorem dX5_moveOn_50 : decode cX5_moveOn 50 = .ok (.isub, 1) := by decide +kernel
theorem dX5_moveOn_51 : decode cX5_moveOn 51 = .ok (.iconst 0, 1) := by decide +kernel
theorem dX5_moveOn_52 : decode cX5_moveOn 52 = .ok (.iastore, 1) := by decide +kernel
theorem dX5_moveOn_53 : decode cX5_moveOn 53 = .ok (.iinc 2 (-1), 3) := by decide +kernel
theorem dX5_moveOn_56 : decode cX5_moveOn 56 = .ok (.goto (-54), 3) := by decide +kernel
theorem dX5_moveOn_59 : decode cX5_moveOn 59 = .ok (.iconst 0, 1) := by decide +kernel
theorem dX5_moveOn_60 : decode cX5_moveOn 60 = .ok (.ireturn, 1) := by decide +kernel
theorem dJ7_fill_53178_0 : decode cJ7_fill_53178 0 = .ok (.iconst 0, 1) := by decide +kernel
theorem dJ7_fill_53178_1 : decode cJ7_fill_53178 1 = .ok (.istore_n 2, 1) := by decide +kernel
theorem dJ7_fill_53178_2 : decode cJ7_fill_53178 2 = .ok (.aload_n 0, 1) := by decide +kernel
theorem dJ7_fill_53178_3 : decode cJ7_fill_53178 3 = .ok (.arraylength, 1) := by decide +kernel
theorem dJ7_fill_53178_4 : decode cJ7_fill_53178 4 = .ok (.istore_n 3, 1) := by decide +kernel
theorem dJ7_fill_53178_5 : decode cJ7_fill_53178 5 = .ok (.iload_n 2, 1) := by decide +kernel
theorem dJ7_fill_53178_6 : decode cJ7_fill_53178 6 = .ok (.iload_n 3, 1) := by decide +kernel
theorem dJ7_fill_53178_7 : decode cJ7_fill_53178 7 = .ok (.if_icmp .ge 13, 3) := by decide +kernel
theorem dJ7_fill_53178_10 : decode cJ7_fill_53178 10 = .ok (.aload_n 0, 1) := by decide +kernel
theorem dJ7_fill_53178_11 : decode cJ7_fill_53178 11 = .ok (.iload_n 2, 1) := by decide +kernel
theorem dJ7_fill_53178_12 : decode cJ7_fill_53178 12 = .ok (.iload_n 1, 1) := by decide +kernel
theorem dJ7_fill_53178_13 : decode cJ7_fill_53178 13 = .ok (.iastore, 1) := by decide +kernel
theorem dJ7_fill_53178_14 : decode cJ7_fill_53178 14 = .ok (.iinc 2 1, 3) := by decide +kernel
theorem dJ7_fill_53178_17 : decode cJ7_fill_53178 17 = .ok (.goto (-12), 3) := by decide +kernel
theorem dJ7_fill_53178_20 : decode cJ7_fill_53178 20 = .ok (.return_, 1) := by decide +kernel
