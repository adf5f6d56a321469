theorem dX11_init_0 : decode cX11_init 0 = .ok (.aload_n 0, 1) := by decide +kernel
theorem dX11_init_1 : decode cX11_init 1 = .ok (.invokespecial 1, 3) := by decide +kernel
theorem dX11_init_4 : decode cX11_init 4 = .ok (.aload_n 0, 1) := by decide +kernel
theorem dX11_init_5 : decode cX11_init 5 = .ok (.sipush 1486, 3) := by decide +kernel
theorem dX11_init_8 : decode cX11_init 8 = .ok (.newarray .int, 2) := by decide +kernel
theorem dX11_init_10 : decode cX11_init 10 = .ok (.putfield 7, 3) := by decide +kernel
theorem dX11_init_13 : decode cX11_init 13 = .ok (.aload_n 0, 1) := by decide +kernel
theorem dX11_init_14 : decode cX11_init 14 = .ok (.sipush 1486, 3) := by decide +kernel
theorem dX11_init_17 : decode cX11_init 17 = .ok (.newarray .int, 2) := by decide +kernel
theorem dX11_init_19 : decode cX11_init 19 = .ok (.putfield 13, 3) := by decide +kernel
theorem dX11_init_22 : decode cX11_init 22 = .ok (.aload_n 0, 1) := by decide +kernel
theorem dX11_init_23 : decode cX11_init 23 = .ok (.sipush 2972, 3) := by decide +kernel
theorem dX11_init_26 : decode cX11_init 26 = .ok (.newarray .int, 2) := by decide +kernel
theorem dX11_init_28 : decode cX11_init 28 = .ok (.putfield 16, 3) := by decide +kernel
theorem dX11_init_31 : decode cX11_init 31 = .ok (.aload_n 0, 1) := by decide +kernel
theorem dX11_init_32 : decode cX11_init 32 = .ok (.iconst 3, 1) := by decide +kernel
theorem dX11_init_33 : decode cX11_init 33 = .ok (.newarray .long, 2) := by decide +kernel
theorem dX11_init_35 : decode cX11_init 35 = .ok (.putfield 19, 3) := by decide +kernel
theorem dX11_init_38 : decode cX11_init 38 = .ok (.aload_n 0, 1) := by decide +kernel
theorem dX11_init_39 : decode cX11_init 39 = .ok (.iconst 3, 1) := by decide +kernel
theorem dX11_init_40 : decode cX11_init 40 = .ok (.newarray .long, 2) := by decide +kernel
theorem dX11_init_42 : decode cX11_init 42 = .ok (.putfield 23, 3) := by decide +kernel
theorem dX11_init_45 : decode cX11_init 45 = .ok (.aload_n 0, 1) := by decide +kernel
theorem dX11_init_46 : decode cX11_init 46 = .ok (.bipush 6, 2) := by decide +kernel
theorem dX11_init_48 : decode cX11_init 48 = .ok (.newarray .long, 2) := by decide +kernel
theorem dX11_init_50 : decode cX11_init 50 = .ok (.putfield 26, 3) := by decide +kernel
theorem dX11_init_53 : decode cX11_init 53 = .ok (.aload_n 0, 1) := by decide +kernel
theorem dX11_init_54 : decode cX11_init 54 = .ok (.iconst 2, 1) := by decide +kernel
theorem dX11_init_55 : decode cX11_init 55 = .ok (.newarray .boolean, 2) := by decide +kernel
theorem dX11_init_57 : decode cX11_init 57 = .ok (.putfield 29, 3) := by decide +kernel
theorem dX11_init_60 : decode cX11_init 60 = .ok (.aload_n 0, 1) := by decide +kernel
theorem dX11_init_61 : decode cX11_init 61 = .ok (.bipush 12, 2) := by decide +kernel
theorem dX11_init_63 : decode cX11_init 63 = .ok (.newarray .long, 2) := by decide +kernel
theorem dX11_init_65 : decode cX11_init 65 = .ok (.putfield 33, 3) := by decide +kernel
theorem dX11_init_68 : decode cX11_init 68 = .ok (.aload_n 0, 1) := by decide +kernel
theorem dX11_init_69 : decode cX11_init 69 = .ok (.bipush 12, 2) := by decide +kernel
theorem dX11_init_71 : decode cX11_init 71 = .ok (.newarray .int, 2) := by decide +kernel
theorem dX11_init_73 : decode cX11_init 73 = .ok (.putfield 36, 3) := by decide +kernel
theorem dX11_init_76 : decode cX11_init 76 = .ok (.aload_n 0, 1) := by decide +kernel
theorem dX11_init_77 : decode cX11_init 77 = .ok (.sipush 300, 3) := by decide +kernel
theorem dX11_init_80 : decode cX11_init 80 = .ok (.newarray .long, 2) := by decide +kernel
theorem dX11_init_82 : decode cX11_init 82 = .ok (.putfield 39, 3) := by decide +kernel
theorem dX11_init_85 : decode cX11_init 85 = .ok (.aload_n 0, 1) := by decide +kernel
theorem dX11_init_86 : decode cX11_init 86 = .ok (.sipush 500, 3) := by decide +kernel
theorem dX11_init_89 : decode cX11_init 89 = .ok (.newarray .int, 2) := by decide +kernel
theorem dX11_init_91 : decode cX11_init 91 = .ok (.putfield 42, 3) := by decide +kernel
theorem dX11_init_94 : decode cX11_init 94 = .ok (.aload_n 0, 1) := by decide +kernel
theorem dX11_init_95 : decode cX11_init 95 = .ok (.iconst (-1), 1) := by decide +kernel
theorem dX11_init_96 : decode cX11_init 96 = .ok (.putfield 45, 3) := by decide +kernel
theorem dX11_init_99 : decode cX11_init 99 = .ok (.aload_n 0, 1) := by decide +kernel
theorem dX11_init_100 : decode cX11_init 100 = .ok (.bipush 72, 2) := by decide +kernel
theorem dX11_init_102 : decode cX11_init 102 = .ok (.newarray .int, 2) := by decide +kernel
theorem dX11_init_104 : decode cX11_init 104 = .ok (.putfield 49, 3) := by decide +kernel
theorem dX11_init_107 : decode cX11_init 107 = .ok (.aload_n 0, 1) := by decide +kernel
theorem dX11_init_108 : decode cX11_init 108 = .ok (.sipush 1000, 3) := by decide +kernel
theorem dX11_init_111 : decode cX11_init 111 = .ok (.newarray .int, 2) := by decide +kernel
theorem dX11_init_113 : decode cX11_init 113 = .ok (.putfield 52, 3) := by decide +kernel
theorem dX11_init_116 : decode cX11_init 116 = .ok (.aload_n 0, 1) := by decide +kernel
theorem dX11_init_117 : decode cX11_init 117 = .ok (.sipush 500, 3) := by decide +kernel
theorem dX11_init_120 : decode cX11_init 120 = .ok (.newarray .int, 2) := by decide +kernel
theorem dX11_init_122 : decode cX11_init 122 = .ok (.putfield 55, 3) := by decide +kernel
theorem dX11_init_125 : decode cX11_init 125 = .ok (.aload_n 0, 1) := by decide +kernel
theorem dX11_init_126 : decode cX11_init 126 = .ok (.getfield 7, 3) := by decide +kernel
theorem dX11_init_129 : decode cX11_init 129 = .ok (.iconst 1, 1) := by decide +kernel
theorem dX11_init_130 : decode cX11_init 130 = .ok (.bipush 10, 2) := by decide +kernel
theorem dX11_init_132 : decode cX11_init 132 = .ok (.iastore, 1) := by decide +kernel
theorem dX11_init_133 : decode cX11_init 133 = .ok (.aload_n 0, 1) := by decide +kernel
theorem dX11_init_134 : decode cX11_init 134 = .ok (.getfield 7, 3) := by decide +kernel
theorem dX11_init_137 : decode cX11_init 137 = .ok (.iconst 2, 1) := by decide +kernel
theorem dX11_init_138 : decode cX11_init 138 = .ok (.sipush 6000, 3) := by decide +kernel
theorem dX11_init_141 : decode cX11_init 141 = .ok (.iastore, 1) := by decide +kernel
theorem dX11_init_142 : decode cX11_init 142 = .ok (.aload_n 0, 1) := by decide +kernel
theorem dX11_init_143 : decode cX11_init 143 = .ok (.getfield 7, 3) := by decide +kernel
theorem dX11_init_146 : decode cX11_init 146 = .ok (.iconst 5, 1) := by decide +kernel
theorem dX11_init_147 : decode cX11_init 147 = .ok (.sipush 1361, 3) := by decide +kernel
theorem dX11_init_150 : decode cX11_init 150 = .ok (.iastore, 1) := by decide +kernel
theorem dX11_init_151 : decode cX11_init 151 = .ok (.return_, 1) := by decide +kernel
theorem dX11_isBetween_0 : decode cX11_isBetween 0 = .ok (.iload_n 0, 1) := by decide +kernel
theorem dX11_isBetween_1 : decode cX11_isBetween 1 = .ok (.iload_n 1, 1) := by decide +kernel
theorem dX11_isBetween_2 : decode cX11_isBetween 2 = .ok (.if_icmp .lt 12, 3) := by decide +kernel
theorem dX11_isBetween_5 : decode cX11_isBetween 5 = .ok (.iload_n 0, 1) := by decide +kernel
theorem dX11_isBetween_6 : decode cX11_isBetween 6 = .ok (.iload_n 2, 1) := by decide +kernel
theorem dX11_isBetween_7 : decode cX11_isBetween 7 = .ok (.if_icmp .gt 7, 3) := by decide +kernel
theorem dX11_isBetween_10 : decode cX11_isBetween 10 = .ok (.iconst 1, 1) := by decide +kernel
theorem dX11_isBetween_11 : decode cX11_isBetween 11 = .ok (.goto 4, 3) := by decide +kernel
theorem dX11_isBetween_14 : decode cX11_isBetween 14 = .ok (.iconst 0, 1) := by decide +kernel
theorem dX11_isBetween_15 : decode cX11_isBetween 15 = .ok (.ireturn, 1) := by decide +kernel
theorem dX11_nearest_0 : decode cX11_nearest 0 = .ok (.lload_n 2, 1) := by decide +kernel
theorem dX11_nearest_1 : decode cX11_nearest 1 = .ok (.lload 4, 2) := by decide +kernel
theorem dX11_nearest_3 : decode cX11_nearest 3 = .ok (.lload_n 0, 1) := by decide +kernel
theorem dX11_nearest_4 : decode cX11_nearest 4 = .ok (.invokestatic 58, 3) := by decide +kernel
theorem dX11_nearest_7 : decode cX11_nearest 7 = .ok (.invokestatic 64, 3) := by decide +kernel
theorem dX11_nearest_10 : decode cX11_nearest 10 = .ok (.lreturn, 1) := by decide +kernel
theorem dX11_isNode_0 : decode cX11_isNode 0 = .ok (.iload_n 1, 1) := by decide +kernel
theorem dX11_isNode_1 : decode cX11_isNode 1 = .ok (.iconst 0, 1) := by decide +kernel
theorem dX11_isNode_2 : decode cX11_isNode 2 = .ok (.aload_n 0, 1) := by decide +kernel
theorem dX11_isNode_3 : decode cX11_isNode 3 = .ok (.getfield 7, 3) := by decide +kernel
theorem dX11_isNode_6 : decode cX11_isNode 6 = .ok (.bipush 12, 2) := by decide +kernel
theorem dX11_isNode_8 : decode cX11_isNode 8 = .ok (.iaload, 1) := by decide +kernel
theorem dX11_isNode_9 : decode cX11_isNode 9 = .ok (.iconst 1, 1) := by decide +kernel
theorem dX11_isNode_10 : decode cX11_isNode 10 = .ok (.isub, 1) := by decide +kernel
theorem dX11_isNode_11 : decode cX11_isNode 11 = .ok (.invokestatic 67, 3) := by decide +kernel
theorem dX11_isNode_14 : decode cX11_isNode 14 = .ok (.ireturn, 1) := by decide +kernel
theorem dX11_isLouvre_0 : decode cX11_isLouvre 0 = .ok (.iload_n 1, 1) := by decide +kernel
theorem dX11_isLouvre_1 : decode cX11_isLouvre 1 = .ok (.iconst 0, 1) := by decide +kernel
theorem dX11_isLouvre_2 : decode cX11_isLouvre 2 = .ok (.aload_n 0, 1) := by decide +kernel
theorem dX11_isLouvre_3 : decode cX11_isLouvre 3 = .ok (.getfield 7, 3) := by decide +kernel
theorem dX11_isLouvre_6 : decode cX11_isLouvre 6 = .ok (.bipush 13, 2) := by decide +kernel
theorem dX11_isLouvre_8 : decode cX11_isLouvre 8 = .ok (.iaload, 1) := by decide +kernel
theorem dX11_isLouvre_9 : decode cX11_isLouvre 9 = .ok (.iconst 1, 1) := by decide +kernel
theorem dX11_isLouvre_10 : decode cX11_isLouvre 10 = .ok (.isub, 1) := by decide +kernel
theorem dX11_isLouvre_11 : decode cX11_isLouvre 11 = .ok (.invokestatic 67, 3) := by decide +kernel
theorem dX11_isLouvre_14 : decode cX11_isLouvre 14 = .ok (.ireturn, 1) := by decide +kernel
theorem dX11_isHeater_0 : decode cX11_isHeater 0 = .ok (.iload_n 1, 1) := by decide +kernel
theorem dX11_isHeater_1 : decode cX11_isHeater 1 = .ok (.iconst 0, 1) := by decide +kernel
theorem dX11_isHeater_2 : decode cX11_isHeater 2 = .ok (.aload_n 0, 1) := by decide +kernel
theorem dX11_isHeater_3 : decode cX11_isHeater 3 = .ok (.getfield 7, 3) := by decide +kernel
theorem dX11_isHeater_6 : decode cX11_isHeater 6 = .ok (.bipush 14, 2) := by decide +kernel
theorem dX11_isHeater_8 : decode cX11_isHeater 8 = .ok (.iaload, 1) := by decide +kernel
theorem dX11_isHeater_9 : decode cX11_isHeater 9 = .ok (.iconst 1, 1) := by decide +kernel
theorem dX11_isHeater_10 : decode cX11_isHeater 10 = .ok (.isub, 1) := by decide +kernel
theorem dX11_isHeater_11 : decode cX11_isHeater 11 = .ok (.invokestatic 67, 3) := by decide +kernel
theorem dX11_isHeater_14 : decode cX11_isHeater 14 = .ok (.ireturn, 1) := by decide +kernel
theorem dX11_node_0 : decode cX11_node 0 = .ok (.aload_n 0, 1) := by decide +kernel
theorem dX11_node_1 : decode cX11_node 1 = .ok (.getfield 7, 3) := by decide +kernel
theorem dX11_node_4 : decode cX11_node 4 = .ok (.bipush 20, 2) := by decide +kernel
theorem dX11_node_6 : decode cX11_node 6 = .ok (.bipush 11, 2) := by decide +kernel
theorem dX11_node_8 : decode cX11_node 8 = .ok (.iload_n 1, 1) := by decide +kernel
theorem dX11_node_9 : decode cX11_node 9 = .ok (.imul, 1) := by decide +kernel
theorem dX11_node_10 : decode cX11_node 10 = .ok (.iadd, 1) := by decide +kernel
theorem dX11_node_11 : decode cX11_node 11 = .ok (.iload_n 2, 1) := by decide +kernel
theorem dX11_node_12 : decode cX11_node 12 = .ok (.iadd, 1) := by decide +kernel
theorem dX11_node_13 : decode cX11_node 13 = .ok (.iaload, 1) := by decide +kernel
theorem dX11_node_14 : decode cX11_node 14 = .ok (.ireturn, 1) := by decide +kernel
theorem dX11_setNode_0 : decode cX11_setNode 0 = .ok (.aload_n 0, 1) := by decide +kernel
theorem dX11_setNode_1 : decode cX11_setNode 1 = .ok (.getfield 7, 3) := by decide +kernel
theorem dX11_setNode_4 : decode cX11_setNode 4 = .ok (.bipush 20, 2) := by decide +kernel
theorem dX11_setNode_6 : decode cX11_setNode 6 = .ok (.bipush 11, 2) := by decide +kernel
theorem dX11_setNode_8 : decode cX11_setNode 8 = .ok (.iload_n 1, 1) := by decide +kernel
theorem dX11_setNode_9 : decode cX11_setNode 9 = .ok (.imul, 1) := by decide +kernel
theorem dX11_setNode_10 : decode cX11_setNode 10 = .ok (.iadd, 1) := by decide +kernel
theorem dX11_setNode_11 : decode cX11_setNode 11 = .ok (.iload_n 2, 1) := by decide +kernel
theorem dX11_setNode_12 : decode cX11_setNode 12 = .ok (.iadd, 1) := by decide +kernel
theorem dX11_setNode_13 : decode cX11_setNode 13 = .ok (.iload_n 3, 1) := by decide +kernel
theorem dX11_setNode_14 : decode cX11_setNode 14 = .ok (.iastore, 1) := by decide +kernel
theorem dX11_setNode_15 : decode cX11_setNode 15 = .ok (.return_, 1) := by decide +kernel
theorem dX11_louvre_0 : decode cX11_louvre 0 = .ok (.aload_n 0, 1) := by decide +kernel
theorem dX11_louvre_1 : decode cX11_louvre 1 = .ok (.getfield 7, 3) := by decide +kernel
theorem dX11_louvre_4 : decode cX11_louvre 4 = .ok (.sipush 296, 3) := by decide +kernel
theorem dX11_louvre_7 : decode cX11_louvre 7 = .ok (.bipush 7, 2) := by decide +kernel
theorem dX11_louvre_9 : decode cX11_louvre 9 = .ok (.iload_n 1, 1) := by decide +kernel
theorem dX11_louvre_10 : decode cX11_louvre 10 = .ok (.imul, 1) := by decide +kernel
theorem dX11_louvre_11 : decode cX11_louvre 11 = .ok (.iadd, 1) := by decide +kernel
theorem dX11_louvre_12 : decode cX11_louvre 12 = .ok (.iload_n 2, 1) := by decide +kernel
theorem dX11_louvre_13 : decode cX11_louvre 13 = .ok (.iadd, 1) := by decide +kernel
theorem dX11_louvre_14 : decode cX11_louvre 14 = .ok (.iaload, 1) := by decide +kernel
theorem dX11_louvre_15 : decode cX11_louvre 15 = .ok (.ireturn, 1) := by decide +kernel
theorem dX11_heater_0 : decode cX11_heater 0 = .ok (.aload_n 0, 1) := by decide +kernel
theorem dX11_heater_1 : decode cX11_heater 1 = .ok (.getfield 7, 3) := by decide +kernel
theorem dX11_heater_4 : decode cX11_heater 4 = .ok (.sipush 338, 3) := by decide +kernel
theorem dX11_heater_7 : decode cX11_heater 7 = .ok (.bipush 8, 2) := by decide +kernel
theorem dX11_heater_9 : decode cX11_heater 9 = .ok (.iload_n 1, 1) := by decide +kernel
theorem dX11_heater_10 : decode cX11_heater 10 = .ok (.imul, 1) := by decide +kernel
theorem dX11_heater_11 : decode cX11_heater 11 = .ok (.iadd, 1) := by decide +kernel
theorem dX11_heater_12 : decode cX11_heater 12 = .ok (.iload_n 2, 1) := by decide +kernel
theorem dX11_heater_13 : decode cX11_heater 13 = .ok (.iadd, 1) := by decide +kernel
theorem dX11_heater_14 : decode cX11_heater 14 = .ok (.iaload, 1) := by decide +kernel
theorem dX11_heater_15 : decode cX11_heater 15 = .ok (.ireturn, 1) := by decide +kernel
theorem dX11_isTemperature_0 : decode cX11_isTemperature 0 = .ok (.iload_n 0, 1) := by decide +kernel
theorem dX11_isTemperature_1 : decode cX11_isTemperature 1 = .ok (.ldc 71, 2) := by decide +kernel
theorem dX11_isTemperature_3 : decode cX11_isTemperature 3 = .ok (.ldc 72, 2) := by decide +kernel
theorem dX11_isTemperature_5 : decode cX11_isTemperature 5 = .ok (.invokestatic 67, 3) := by decide +kernel
theorem dX11_isTemperature_8 : decode cX11_isTemperature 8 = .ok (.ireturn, 1) := by decide +kernel
theorem dX11_addNode_0 : decode cX11_addNode 0 = .ok (.iload_n 1, 1) := by decide +kernel
theorem dX11_addNode_1 : decode cX11_addNode 1 = .ok (.iconst 1, 1) := by decide +kernel
theorem dX11_addNode_2 : decode cX11_addNode 2 = .ok (.ldc 73, 2) := by decide +kernel
theorem dX11_addNode_4 : decode cX11_addNode 4 = .ok (.invokestatic 67, 3) := by decide +kernel
theorem dX11_addNode_7 : decode cX11_addNode 7 = .ok (.ifCond .eq 48, 3) := by decide +kernel
theorem dX11_addNode_10 : decode cX11_addNode 10 = .ok (.iload_n 2, 1) := by decide +kernel
theorem dX11_addNode_11 : decode cX11_addNode 11 = .ok (.invokestatic 74, 3) := by decide +kernel
theorem dX11_addNode_14 : decode cX11_addNode 14 = .ok (.ifCond .eq 41, 3) := by decide +kernel
theorem dX11_addNode_17 : decode cX11_addNode 17 = .ok (.iload_n 3, 1) := by decide +kernel
theorem dX11_addNode_18 : decode cX11_addNode 18 = .ok (.iconst 0, 1) := by decide +kernel
theorem dX11_addNode_19 : decode cX11_addNode 19 = .ok (.sipush 10000, 3) := by decide +kernel
theorem dX11_addNode_22 : decode cX11_addNode 22 = .ok (.invokestatic 67, 3) := by decide +kernel
theorem dX11_addNode_25 : decode cX11_addNode 25 = .ok (.ifCond .eq 30, 3) := by decide +kernel
theorem dX11_addNode_28 : decode cX11_addNode 28 = .ok (.iload 4, 2) := by decide +kernel
theorem dX11_addNode_30 : decode cX11_addNode 30 = .ok (.iconst 0, 1) := by decide +kernel
theorem dX11_addNode_31 : decode cX11_addNode 31 = .ok (.sipush 10000, 3) := by decide +kernel
theorem dX11_addNode_34 : decode cX11_addNode 34 = .ok (.invokestatic 67, 3) := by decide +kernel
theorem dX11_addNode_37 : decode cX11_addNode 37 = .ok (.ifCond .eq 18, 3) := by decide +kernel
theorem dX11_addNode_40 : decode cX11_addNode 40 = .ok (.iload 5, 2) := by decide +kernel
theorem dX11_addNode_42 : decode cX11_addNode 42 = .ok (.iconst 0, 1) := by decide +kernel
theorem dX11_addNode_43 : decode cX11_addNode 43 = .ok (.ldc 78, 2) := by decide +kernel
theorem dX11_addNode_45 : decode cX11_addNode 45 = .ok (.invokestatic 67, 3) := by decide +kernel
theorem dX11_addNode_48 : decode cX11_addNode 48 = .ok (.ifCond .eq 7, 3) := by decide +kernel
theorem dX11_addNode_51 : decode cX11_addNode 51 = .ok (.iconst 1, 1) := by decide +kernel
theorem dX11_addNode_52 : decode cX11_addNode 52 = .ok (.goto 4, 3) := by decide +kernel
theorem dX11_addNode_55 : decode cX11_addNode 55 = .ok (.iconst 0, 1) := by decide +kernel
theorem dX11_addNode_56 : decode cX11_addNode 56 = .ok (.istore 6, 2) := by decide +kernel
theorem dX11_addNode_58 : decode cX11_addNode 58 = .ok (.iload 6, 2) := by decide +kernel
theorem dX11_addNode_60 : decode cX11_addNode 60 = .ok (.ifCond .ne 6, 3) := by decide +kernel
theorem dX11_addNode_63 : decode cX11_addNode 63 = .ok (.ldc 79, 2) := by decide +kernel
theorem dX11_addNode_65 : decode cX11_addNode 65 = .ok (.ireturn, 1) := by decide +kernel
theorem dX11_addNode_66 : decode cX11_addNode 66 = .ok (.aload_n 0, 1) := by decide +kernel
theorem dX11_addNode_67 : decode cX11_addNode 67 = .ok (.getfield 7, 3) := by decide +kernel
theorem dX11_addNode_70 : decode cX11_addNode 70 = .ok (.bipush 12, 2) := by decide +kernel
theorem dX11_addNode_72 : decode cX11_addNode 72 = .ok (.iaload, 1) := by decide +kernel
theorem dX11_addNode_73 : decode cX11_addNode 73 = .ok (.istore 7, 2) := by decide +kernel
theorem dX11_addNode_75 : decode cX11_addNode 75 = .ok (.iload 7, 2) := by decide +kernel
theorem dX11_addNode_77 : decode cX11_addNode 77 = .ok (.bipush 12, 2) := by decide +kernel
theorem dX11_addNode_79 : decode cX11_addNode 79 = .ok (.if_icmp .ne 6, 3) := by decide +kernel
theorem dX11_addNode_82 : decode cX11_addNode 82 = .ok (.ldc 80, 2) := by decide +kernel
theorem dX11_addNode_84 : decode cX11_addNode 84 = .ok (.ireturn, 1) := by decide +kernel
theorem dX11_addNode_85 : decode cX11_addNode 85 = .ok (.aload_n 0, 1) := by decide +kernel
theorem dX11_addNode_86 : decode cX11_addNode 86 = .ok (.iload 7, 2) := by decide +kernel
theorem dX11_addNode_88 : decode cX11_addNode 88 = .ok (.iconst 0, 1) := by decide +kernel
theorem dX11_addNode_89 : decode cX11_addNode 89 = .ok (.iload_n 1, 1) := by decide +kernel
theorem dX11_addNode_90 : decode cX11_addNode 90 = .ok (.invokevirtual 81, 3) := by decide +kernel
theorem dX11_addNode_93 : decode cX11_addNode 93 = .ok (.aload_n 0, 1) := by decide +kernel
theorem dX11_addNode_94 : decode cX11_addNode 94 = .ok (.iload 7, 2) := by decide +kernel
theorem dX11_addNode_96 : decode cX11_addNode 96 = .ok (.iconst 1, 1) := by decide +kernel
theorem dX11_addNode_97 : decode cX11_addNode 97 = .ok (.iload_n 2, 1) := by decide +kernel
theorem dX11_addNode_98 : decode cX11_addNode 98 = .ok (.invokevirtual 81, 3) := by decide +kernel
theorem dX11_addNode_101 : decode cX11_addNode 101 = .ok (.aload_n 0, 1) := by decide +kernel
theorem dX11_addNode_102 : decode cX11_addNode 102 = .ok (.iload 7, 2) := by decide +kernel
theorem dX11_addNode_104 : decode cX11_addNode 104 = .ok (.iconst 2, 1) := by decide +kernel
theorem dX11_addNode_105 : decode cX11_addNode 105 = .ok (.iload_n 3, 1) := by decide +kernel
theorem dX11_addNode_106 : decode cX11_addNode 106 = .ok (.invokevirtual 81, 3) := by decide +kernel
theorem dX11_addNode_109 : decode cX11_addNode 109 = .ok (.aload_n 0, 1) := by decide +kernel
theorem dX11_addNode_110 : decode cX11_addNode 110 = .ok (.iload 7, 2) := by decide +kernel
theorem dX11_addNode_112 : decode cX11_addNode 112 = .ok (.iconst 3, 1) := by decide +kernel
theorem dX11_addNode_113 : decode cX11_addNode 113 = .ok (.iload 4, 2) := by decide +kernel
theorem dX11_addNode_115 : decode cX11_addNode 115 = .ok (.invokevirtual 81, 3) := by decide +kernel
theorem dX11_addNode_118 : decode cX11_addNode 118 = .ok (.aload_n 0, 1) := by decide +kernel
theorem dX11_addNode_119 : decode cX11_addNode 119 = .ok (.iload 7, 2) := by decide +kernel
theorem dX11_addNode_121 : decode cX11_addNode 121 = .ok (.iconst 4, 1) := by decide +kernel
theorem dX11_addNode_122 : decode cX11_addNode 122 = .ok (.iload 5, 2) := by decide +kernel
theorem dX11_addNode_124 : decode cX11_addNode 124 = .ok (.invokevirtual 81, 3) := by decide +kernel
theorem dX11_addNode_127 : decode cX11_addNode 127 = .ok (.aload_n 0, 1) := by decide +kernel
theorem dX11_addNode_128 : decode cX11_addNode 128 = .ok (.iload 7, 2) := by decide +kernel
theorem dX11_addNode_130 : decode cX11_addNode 130 = .ok (.iconst 5, 1) := by decide +kernel
theorem dX11_addNode_131 : decode cX11_addNode 131 = .ok (.ldc 71, 2) := by decide +kernel
theorem dX11_addNode_133 : decode cX11_addNode 133 = .ok (.invokevirtual 81, 3) := by decide +kernel
theorem dX11_addNode_136 : decode cX11_addNode 136 = .ok (.aload_n 0, 1) := by decide +kernel
theorem dX11_addNode_137 : decode cX11_addNode 137 = .ok (.iload 7, 2) := by decide +kernel
theorem dX11_addNode_139 : decode cX11_addNode 139 = .ok (.bipush 6, 2) := by decide +kernel
theorem dX11_addNode_141 : decode cX11_addNode 141 = .ok (.ldc 72, 2) := by decide +kernel
theorem dX11_addNode_143 : decode cX11_addNode 143 = .ok (.invokevirtual 81, 3) := by decide +kernel
theorem dX11_addNode_146 : decode cX11_addNode 146 = .ok (.iconst 0, 1) := by decide +kernel
theorem dX11_addNode_147 : decode cX11_addNode 147 = .ok (.istore 8, 2) := by decide +kernel
theorem dX11_addNode_149 : decode cX11_addNode 149 = .ok (.iload 8, 2) := by decide +kernel
theorem dX11_addNode_151 : decode cX11_addNode 151 = .ok (.bipush 12, 2) := by decide +kernel
theorem dX11_addNode_153 : decode cX11_addNode 153 = .ok (.if_icmp .ge 45, 3) := by decide +kernel
theorem dX11_addNode_156 : decode cX11_addNode 156 = .ok (.aload_n 0, 1) := by decide +kernel
theorem dX11_addNode_157 : decode cX11_addNode 157 = .ok (.getfield 7, 3) := by decide +kernel
theorem dX11_addNode_160 : decode cX11_addNode 160 = .ok (.sipush 152, 3) := by decide +kernel
theorem dX11_addNode_163 : decode cX11_addNode 163 = .ok (.bipush 12, 2) := by decide +kernel
theorem dX11_addNode_165 : decode cX11_addNode 165 = .ok (.iload 7, 2) := by decide +kernel
theorem dX11_addNode_167 : decode cX11_addNode 167 = .ok (.imul, 1) := by decide +kernel
theorem dX11_addNode_168 : decode cX11_addNode 168 = .ok (.iadd, 1) := by decide +kernel
theorem dX11_addNode_169 : decode cX11_addNode 169 = .ok (.iload 8, 2) := by decide +kernel
theorem dX11_addNode_171 : decode cX11_addNode 171 = .ok (.iadd, 1) := by decide +kernel
theorem dX11_addNode_172 : decode cX11_addNode 172 = .ok (.iconst 0, 1) := by decide +kernel
theorem dX11_addNode_173 : decode cX11_addNode 173 = .ok (.iastore, 1) := by decide +kernel
theorem dX11_addNode_174 : decode cX11_addNode 174 = .ok (.aload_n 0, 1) := by decide +kernel
theorem dX11_addNode_175 : decode cX11_addNode 175 = .ok (.getfield 7, 3) := by decide +kernel
theorem dX11_addNode_178 : decode cX11_addNode 178 = .ok (.sipush 152, 3) := by decide +kernel
theorem dX11_addNode_181 : decode cX11_addNode 181 = .ok (.bipush 12, 2) := by decide +kernel
theorem dX11_addNode_183 : decode cX11_addNode 183 = .ok (.iload 8, 2) := by decide +kernel
theorem dX11_addNode_185 : decode cX11_addNode 185 = .ok (.imul, 1) := by decide +kernel
theorem dX11_addNode_186 : decode cX11_addNode 186 = .ok (.iadd, 1) := by decide +kernel
theorem dX11_addNode_187 : decode cX11_addNode 187 = .ok (.iload 7, 2) := by decide +kernel
theorem dX11_addNode_189 : decode cX11_addNode 189 = .ok (.iadd, 1) := by decide +kernel
theorem dX11_addNode_190 : decode cX11_addNode 190 = .ok (.iconst 0, 1) := by decide +kernel
theorem dX11_addNode_191 : decode cX11_addNode 191 = .ok (.iastore, 1) := by decide +kernel
theorem dX11_addNode_192 : decode cX11_addNode 192 = .ok (.iinc 8 1, 3) := by decide +kernel
theorem dX11_addNode_195 : decode cX11_addNode 195 = .ok (.goto (-46), 3) := by decide +kernel
theorem dX11_addNode_198 : decode cX11_addNode 198 = .ok (.aload_n 0, 1) := by decide +kernel
theorem dX11_addNode_199 : decode cX11_addNode 199 = .ok (.iload 7, 2) := by decide +kernel
theorem dX11_addNode_201 : decode cX11_addNode 201 = .ok (.invokevirtual 85, 3) := by decide +kernel
theorem dX11_addNode_204 : decode cX11_addNode 204 = .ok (.aload_n 0, 1) := by decide +kernel
theorem dX11_addNode_205 : decode cX11_addNode 205 = .ok (.getfield 7, 3) := by decide +kernel
theorem dX11_addNode_208 : decode cX11_addNode 208 = .ok (.bipush 12, 2) := by decide +kernel
theorem dX11_addNode_210 : decode cX11_addNode 210 = .ok (.dup2, 1) := by decide +kernel
theorem dX11_addNode_211 : decode cX11_addNode 211 = .ok (.iaload, 1) := by decide +kernel
theorem dX11_addNode_212 : decode cX11_addNode 212 = .ok (.iconst 1, 1) := by decide +kernel
theorem dX11_addNode_213 : decode cX11_addNode 213 = .ok (.iadd, 1) := by decide +kernel
theorem dX11_addNode_214 : decode cX11_addNode 214 = .ok (.iastore, 1) := by decide +kernel
theorem dX11_addNode_215 : decode cX11_addNode 215 = .ok (.iload 7, 2) := by decide +kernel
theorem dX11_addNode_217 : decode cX11_addNode 217 = .ok (.ireturn, 1) := by decide +kernel
theorem dX11_beginRecords_0 : decode cX11_beginRecords 0 = .ok (.aload_n 0, 1) := by decide +kernel
theorem dX11_beginRecords_1 : decode cX11_beginRecords 1 = .ok (.iload_n 1, 1) := by decide +kernel
theorem dX11_beginRecords_2 : decode cX11_beginRecords 2 = .ok (.bipush 7, 2) := by decide +kernel
theorem dX11_beginRecords_4 : decode cX11_beginRecords 4 = .ok (.aload_n 0, 1) := by decide +kernel
theorem dX11_beginRecords_5 : decode cX11_beginRecords 5 = .ok (.iload_n 1, 1) := by decide +kernel
theorem dX11_beginRecords_6 : decode cX11_beginRecords 6 = .ok (.iconst 1, 1) := by decide +kernel
theorem dX11_beginRecords_7 : decode cX11_beginRecords 7 = .ok (.invokevirtual 89, 3) := by decide +kernel
theorem dX11_beginRecords_10 : decode cX11_beginRecords 10 = .ok (.invokevirtual 81, 3) := by decide +kernel
theorem dX11_beginRecords_13 : decode cX11_beginRecords 13 = .ok (.aload_n 0, 1) := by decide +kernel
theorem dX11_beginRecords_14 : decode cX11_beginRecords 14 = .ok (.iload_n 1, 1) := by decide +kernel
theorem dX11_beginRecords_15 : decode cX11_beginRecords 15 = .ok (.bipush 8, 2) := by decide +kernel
theorem dX11_beginRecords_17 : decode cX11_beginRecords 17 = .ok (.aload_n 0, 1) := by decide +kernel
theorem dX11_beginRecords_18 : decode cX11_beginRecords 18 = .ok (.iload_n 1, 1) := by decide +kernel
theorem dX11_beginRecords_19 : decode cX11_beginRecords 19 = .ok (.iconst 1, 1) := by decide +kernel
theorem dX11_beginRecords_20 : decode cX11_beginRecords 20 = .ok (.invokevirtual 89, 3) := by decide +kernel
theorem dX11_beginRecords_23 : decode cX11_beginRecords 23 = .ok (.invokevirtual 81, 3) := by decide +kernel
theorem dX11_beginRecords_26 : decode cX11_beginRecords 26 = .ok (.aload_n 0, 1) := by decide +kernel
theorem dX11_beginRecords_27 : decode cX11_beginRecords 27 = .ok (.iload_n 1, 1) := by decide +kernel
theorem dX11_beginRecords_28 : decode cX11_beginRecords 28 = .ok (.bipush 9, 2) := by decide +kernel
theorem dX11_beginRecords_30 : decode cX11_beginRecords 30 = .ok (.iconst 0, 1) := by decide +kernel
theorem dX11_beginRecords_31 : decode cX11_beginRecords 31 = .ok (.invokevirtual 81, 3) := by decide +kernel
theorem dX11_beginRecords_34 : decode cX11_beginRecords 34 = .ok (.aload_n 0, 1) := by decide +kernel
theorem dX11_beginRecords_35 : decode cX11_beginRecords 35 = .ok (.iload_n 1, 1) := by decide +kernel
theorem dX11_beginRecords_36 : decode cX11_beginRecords 36 = .ok (.bipush 10, 2) := by decide +kernel
theorem dX11_beginRecords_38 : decode cX11_beginRecords 38 = .ok (.iconst (-1), 1) := by decide +kernel
theorem dX11_beginRecords_39 : decode cX11_beginRecords 39 = .ok (.invokevirtual 81, 3) := by decide +kernel
theorem dX11_beginRecords_42 : decode cX11_beginRecords 42 = .ok (.return_, 1) := by decide +kernel
theorem dX11_nodeCount_0 : decode cX11_nodeCount 0 = .ok (.aload_n 0, 1) := by decide +kernel
theorem dX11_nodeCount_1 : decode cX11_nodeCount 1 = .ok (.getfield 7, 3) := by decide +kernel
theorem dX11_nodeCount_4 : decode cX11_nodeCount 4 = .ok (.bipush 12, 2) := by decide +kernel
theorem dX11_nodeCount_6 : decode cX11_nodeCount 6 = .ok (.iaload, 1) := by decide +kernel
theorem dX11_nodeCount_7 : decode cX11_nodeCount 7 = .ok (.ireturn, 1) := by decide +kernel
theorem dX11_setLimits_0 : decode cX11_setLimits 0 = .ok (.aload_n 0, 1) := by decide +kernel
theorem dX11_setLimits_1 : decode cX11_setLimits 1 = .ok (.iload_n 1, 1) := by decide +kernel
theorem dX11_setLimits_2 : decode cX11_setLimits 2 = .ok (.invokevirtual 93, 3) := by decide +kernel
theorem dX11_setLimits_5 : decode cX11_setLimits 5 = .ok (.ifCond .ne 6, 3) := by decide +kernel
theorem dX11_setLimits_8 : decode cX11_setLimits 8 = .ok (.ldc 96, 2) := by decide +kernel
theorem dX11_setLimits_10 : decode cX11_setLimits 10 = .ok (.ireturn, 1) := by decide +kernel
theorem dX11_setLimits_11 : decode cX11_setLimits 11 = .ok (.iload_n 3, 1) := by decide +kernel
theorem dX11_setLimits_12 : decode cX11_setLimits 12 = .ok (.invokestatic 74, 3) := by decide +kernel
theorem dX11_setLimits_15 : decode cX11_setLimits 15 = .ok (.ifCond .eq 13, 3) := by decide +kernel
theorem dX11_setLimits_18 : decode cX11_setLimits 18 = .ok (.iload_n 2, 1) := by decide +kernel
theorem dX11_setLimits_19 : decode cX11_setLimits 19 = .ok (.ldc 71, 2) := by decide +kernel
theorem dX11_setLimits_21 : decode cX11_setLimits 21 = .ok (.iload_n 3, 1) := by decide +kernel
theorem dX11_setLimits_22 : decode cX11_setLimits 22 = .ok (.invokestatic 67, 3) := by decide +kernel
theorem dX11_setLimits_25 : decode cX11_setLimits 25 = .ok (.ifCond .ne 6, 3) := by decide +kernel
theorem dX11_setLimits_28 : decode cX11_setLimits 28 = .ok (.ldc 79, 2) := by decide +kernel
theorem dX11_setLimits_30 : decode cX11_setLimits 30 = .ok (.ireturn, 1) := by decide +kernel
theorem dX11_setLimits_31 : decode cX11_setLimits 31 = .ok (.aload_n 0, 1) := by decide +kernel
theorem dX11_setLimits_32 : decode cX11_setLimits 32 = .ok (.iload_n 1, 1) := by decide +kernel
theorem dX11_setLimits_33 : decode cX11_setLimits 33 = .ok (.iconst 5, 1) := by decide +kernel
theorem dX11_setLimits_34 : decode cX11_setLimits 34 = .ok (.iload_n 2, 1) := by decide +kernel
theorem dX11_setLimits_35 : decode cX11_setLimits 35 = .ok (.invokevirtual 81, 3) := by decide +kernel
theorem dX11_setLimits_38 : decode cX11_setLimits 38 = .ok (.aload_n 0, 1) := by decide +kernel
theorem dX11_setLimits_39 : decode cX11_setLimits 39 = .ok (.iload_n 1, 1) := by decide +kernel
theorem dX11_setLimits_40 : decode cX11_setLimits 40 = .ok (.bipush 6, 2) := by decide +kernel
theorem dX11_setLimits_42 : decode cX11_setLimits 42 = .ok (.iload_n 3, 1) := by decide +kernel
theorem dX11_setLimits_43 : decode cX11_setLimits 43 = .ok (.invokevirtual 81, 3) := by decide +kernel
theorem dX11_setLimits_46 : decode cX11_setLimits 46 = .ok (.iconst 0, 1) := by decide +kernel
theorem dX11_setLimits_47 : decode cX11_setLimits 47 = .ok (.ireturn, 1) := by decide +kernel
theorem dX11_replaceField_0 : decode cX11_replaceField 0 = .ok (.aload_n 0, 1) := by decide +kernel
theorem dX11_replaceField_1 : decode cX11_replaceField 1 = .ok (.iload_n 1, 1) := by decide +kernel
theorem dX11_replaceField_2 : decode cX11_replaceField 2 = .ok (.iload_n 2, 1) := by decide +kernel
theorem dX11_replaceField_3 : decode cX11_replaceField 3 = .ok (.invokevirtual 89, 3) := by decide +kernel
theorem dX11_replaceField_6 : decode cX11_replaceField 6 = .ok (.istore 4, 2) := by decide +kernel
theorem dX11_replaceField_8 : decode cX11_replaceField 8 = .ok (.aload_n 0, 1) := by decide +kernel
theorem dX11_replaceField_9 : decode cX11_replaceField 9 = .ok (.iload_n 1, 1) := by decide +kernel
theorem dX11_replaceField_10 : decode cX11_replaceField 10 = .ok (.iload_n 2, 1) := by decide +kernel
theorem dX11_replaceField_11 : decode cX11_replaceField 11 = .ok (.iload_n 3, 1) := by decide +kernel
theorem dX11_replaceField_12 : decode cX11_replaceField 12 = .ok (.invokevirtual 81, 3) := by decide +kernel
theorem dX11_replaceField_15 : decode cX11_replaceField 15 = .ok (.iload 4, 2) := by decide +kernel
theorem dX11_replaceField_17 : decode cX11_replaceField 17 = .ok (.ireturn, 1) := by decide +kernel
theorem dX11_setTemperature_0 : decode cX11_setTemperature 0 = .ok (.aload_n 0, 1) := by decide +kernel
theorem dX11_setTemperature_1 : decode cX11_setTemperature 1 = .ok (.iload_n 1, 1) := by decide +kernel
theorem dX11_setTemperature_2 : decode cX11_setTemperature 2 = .ok (.invokevirtual 93, 3) := by decide +kernel
theorem dX11_setTemperature_5 : decode cX11_setTemperature 5 = .ok (.ifCond .ne 6, 3) := by decide +kernel
theorem dX11_setTemperature_8 : decode cX11_setTemperature 8 = .ok (.ldc 96, 2) := by decide +kernel
theorem dX11_setTemperature_10 : decode cX11_setTemperature 10 = .ok (.ireturn, 1) := by decide +kernel
theorem dX11_setTemperature_11 : decode cX11_setTemperature 11 = .ok (.iload_n 2, 1) := by decide +kernel
theorem dX11_setTemperature_12 : decode cX11_setTemperature 12 = .ok (.invokestatic 74, 3) := by decide +kernel
theorem dX11_setTemperature_15 : decode cX11_setTemperature 15 = .ok (.ifCond .eq 13, 3) := by decide +kernel
theorem dX11_setTemperature_18 : decode cX11_setTemperature 18 = .ok (.aload_n 0, 1) := by decide +kernel
theorem dX11_setTemperature_19 : decode cX11_setTemperature 19 = .ok (.iload_n 1, 1) := by decide +kernel
theorem dX11_setTemperature_20 : decode cX11_setTemperature 20 = .ok (.iconst 1, 1) := by decide +kernel
theorem dX11_setTemperature_21 : decode cX11_setTemperature 21 = .ok (.iload_n 2, 1) := by decide +kernel
theorem dX11_setTemperature_22 : decode cX11_setTemperature 22 = .ok (.invokevirtual 97, 3) := by decide +kernel
theorem dX11_setTemperature_25 : decode cX11_setTemperature 25 = .ok (.goto 5, 3) := by decide +kernel
theorem dX11_setTemperature_28 : decode cX11_setTemperature 28 = .ok (.ldc 79, 2) := by decide +kernel
theorem dX11_setTemperature_30 : decode cX11_setTemperature 30 = .ok (.ireturn, 1) := by decide +kernel
theorem dX11_setLoad_0 : decode cX11_setLoad 0 = .ok (.aload_n 0, 1) := by decide +kernel
theorem dX11_setLoad_1 : decode cX11_setLoad 1 = .ok (.iload_n 1, 1) := by decide +kernel
theorem dX11_setLoad_2 : decode cX11_setLoad 2 = .ok (.invokevirtual 93, 3) := by decide +kernel
theorem dX11_setLoad_5 : decode cX11_setLoad 5 = .ok (.ifCond .ne 6, 3) := by decide +kernel
theorem dX11_setLoad_8 : decode cX11_setLoad 8 = .ok (.ldc 96, 2) := by decide +kernel
theorem dX11_setLoad_10 : decode cX11_setLoad 10 = .ok (.ireturn, 1) := by decide +kernel
theorem dX11_setLoad_11 : decode cX11_setLoad 11 = .ok (.iload_n 2, 1) := by decide +kernel
theorem dX11_setLoad_12 : decode cX11_setLoad 12 = .ok (.iconst 0, 1) := by decide +kernel
theorem dX11_setLoad_13 : decode cX11_setLoad 13 = .ok (.ldc 78, 2) := by decide +kernel
theorem dX11_setLoad_15 : decode cX11_setLoad 15 = .ok (.invokestatic 67, 3) := by decide +kernel
theorem dX11_setLoad_18 : decode cX11_setLoad 18 = .ok (.ifCond .eq 13, 3) := by decide +kernel
theorem dX11_setLoad_21 : decode cX11_setLoad 21 = .ok (.aload_n 0, 1) := by decide +kernel
theorem dX11_setLoad_22 : decode cX11_setLoad 22 = .ok (.iload_n 1, 1) := by decide +kernel
theorem dX11_setLoad_23 : decode cX11_setLoad 23 = .ok (.iconst 4, 1) := by decide +kernel
theorem dX11_setLoad_24 : decode cX11_setLoad 24 = .ok (.iload_n 2, 1) := by decide +kernel
theorem dX11_setLoad_25 : decode cX11_setLoad 25 = .ok (.invokevirtual 97, 3) := by decide +kernel
theorem dX11_setLoad_28 : decode cX11_setLoad 28 = .ok (.goto 5, 3) := by decide +kernel
theorem dX11_setLoad_31 : decode cX11_setLoad 31 = .ok (.ldc 79, 2) := by decide +kernel
theorem dX11_setLoad_33 : decode cX11_setLoad 33 = .ok (.ireturn, 1) := by decide +kernel
theorem dX11_linkOf_0 : decode cX11_linkOf 0 = .ok (.aload_n 0, 1) := by decide +kernel
theorem dX11_linkOf_1 : decode cX11_linkOf 1 = .ok (.getfield 7, 3) := by decide +kernel
theorem dX11_linkOf_4 : decode cX11_linkOf 4 = .ok (.sipush 152, 3) := by decide +kernel
theorem dX11_linkOf_7 : decode cX11_linkOf 7 = .ok (.bipush 12, 2) := by decide +kernel
theorem dX11_linkOf_9 : decode cX11_linkOf 9 = .ok (.iload_n 1, 1) := by decide +kernel
theorem dX11_linkOf_10 : decode cX11_linkOf 10 = .ok (.imul, 1) := by decide +kernel
theorem dX11_linkOf_11 : decode cX11_linkOf 11 = .ok (.iadd, 1) := by decide +kernel
theorem dX11_linkOf_12 : decode cX11_linkOf 12 = .ok (.iload_n 2, 1) := by decide +kernel
theorem dX11_linkOf_13 : decode cX11_linkOf 13 = .ok (.iadd, 1) := by decide +kernel
theorem dX11_linkOf_14 : decode cX11_linkOf 14 = .ok (.iaload, 1) := by decide +kernel
theorem dX11_linkOf_15 : decode cX11_linkOf 15 = .ok (.ireturn, 1) := by decide +kernel
theorem dX11_link_0 : decode cX11_link 0 = .ok (.aload_n 0, 1) := by decide +kernel
theorem dX11_link_1 : decode cX11_link 1 = .ok (.iload_n 1, 1) := by decide +kernel
theorem dX11_link_2 : decode cX11_link 2 = .ok (.invokevirtual 93, 3) := by decide +kernel
theorem dX11_link_5 : decode cX11_link 5 = .ok (.ifCond .eq 11, 3) := by decide +kernel
theorem dX11_link_8 : decode cX11_link 8 = .ok (.aload_n 0, 1) := by decide +kernel
theorem dX11_link_9 : decode cX11_link 9 = .ok (.iload_n 2, 1) := by decide +kernel
theorem dX11_link_10 : decode cX11_link 10 = .ok (.invokevirtual 93, 3) := by decide +kernel
theorem dX11_link_13 : decode cX11_link 13 = .ok (.ifCond .ne 6, 3) := by decide +kernel
theorem dX11_link_16 : decode cX11_link 16 = .ok (.ldc 96, 2) := by decide +kernel
theorem dX11_link_18 : decode cX11_link 18 = .ok (.ireturn, 1) := by decide +kernel
theorem dX11_link_19 : decode cX11_link 19 = .ok (.iload_n 1, 1) := by decide +kernel
theorem dX11_link_20 : decode cX11_link 20 = .ok (.iload_n 2, 1) := by decide +kernel
theorem dX11_link_21 : decode cX11_link 21 = .ok (.if_icmp .eq 13, 3) := by decide +kernel
theorem dX11_link_24 : decode cX11_link 24 = .ok (.iload_n 3, 1) := by decide +kernel
theorem dX11_link_25 : decode cX11_link 25 = .ok (.iconst 0, 1) := by decide +kernel
theorem dX11_link_26 : decode cX11_link 26 = .ok (.ldc 73, 2) := by decide +kernel
theorem dX11_link_28 : decode cX11_link 28 = .ok (.invokestatic 67, 3) := by decide +kernel
theorem dX11_link_31 : decode cX11_link 31 = .ok (.ifCond .ne 6, 3) := by decide +kernel
theorem dX11_link_34 : decode cX11_link 34 = .ok (.ldc 79, 2) := by decide +kernel
theorem dX11_link_36 : decode cX11_link 36 = .ok (.ireturn, 1) := by decide +kernel
theorem dX11_link_37 : decode cX11_link 37 = .ok (.aload_n 0, 1) := by decide +kernel
theorem dX11_link_38 : decode cX11_link 38 = .ok (.iload_n 1, 1) := by decide +kernel
theorem dX11_link_39 : decode cX11_link 39 = .ok (.iload_n 2, 1) := by decide +kernel
theorem dX11_link_40 : decode cX11_link 40 = .ok (.invokevirtual 101, 3) := by decide +kernel
theorem dX11_link_43 : decode cX11_link 43 = .ok (.istore 4, 2) := by decide +kernel
theorem dX11_link_45 : decode cX11_link 45 = .ok (.iload 4, 2) := by decide +kernel
theorem dX11_link_47 : decode cX11_link 47 = .ok (.ifCond .ne 19, 3) := by decide +kernel
theorem dX11_link_50 : decode cX11_link 50 = .ok (.iload_n 3, 1) := by decide +kernel
theorem dX11_link_51 : decode cX11_link 51 = .ok (.ifCond .le 15, 3) := by decide +kernel
theorem dX11_link_54 : decode cX11_link 54 = .ok (.aload_n 0, 1) := by decide +kernel
theorem dX11_link_55 : decode cX11_link 55 = .ok (.invokevirtual 104, 3) := by decide +kernel
theorem dX11_link_58 : decode cX11_link 58 = .ok (.bipush 24, 2) := by decide +kernel
theorem dX11_link_60 : decode cX11_link 60 = .ok (.if_icmp .ne 6, 3) := by decide +kernel
theorem dX11_link_63 : decode cX11_link 63 = .ok (.ldc 80, 2) := by decide +kernel
theorem dX11_link_65 : decode cX11_link 65 = .ok (.ireturn, 1) := by decide +kernel
theorem dX11_link_66 : decode cX11_link 66 = .ok (.aload_n 0, 1) := by decide +kernel
theorem dX11_link_67 : decode cX11_link 67 = .ok (.getfield 7, 3) := by decide +kernel
theorem dX11_link_70 : decode cX11_link 70 = .ok (.sipush 152, 3) := by decide +kernel
theorem dX11_link_73 : decode cX11_link 73 = .ok (.bipush 12, 2) := by decide +kernel
theorem dX11_link_75 : decode cX11_link 75 = .ok (.iload_n 1, 1) := by decide +kernel
theorem dX11_link_76 : decode cX11_link 76 = .ok (.imul, 1) := by decide +kernel
theorem dX11_link_77 : decode cX11_link 77 = .ok (.iadd, 1) := by decide +kernel
theorem dX11_link_78 : decode cX11_link 78 = .ok (.iload_n 2, 1) := by decide +kernel
theorem dX11_link_79 : decode cX11_link 79 = .ok (.iadd, 1) := by decide +kernel
theorem dX11_link_80 : decode cX11_link 80 = .ok (.iload_n 3, 1) := by decide +kernel
theorem dX11_link_81 : decode cX11_link 81 = .ok (.iastore, 1) := by decide +kernel
theorem dX11_link_82 : decode cX11_link 82 = .ok (.aload_n 0, 1) := by decide +kernel
theorem dX11_link_83 : decode cX11_link 83 = .ok (.getfield 7, 3) := by decide +kernel
theorem dX11_link_86 : decode cX11_link 86 = .ok (.sipush 152, 3) := by decide +kernel
theorem dX11_link_89 : decode cX11_link 89 = .ok (.bipush 12, 2) := by decide +kernel
theorem dX11_link_91 : decode cX11_link 91 = .ok (.iload_n 2, 1) := by decide +kernel
theorem dX11_link_92 : decode cX11_link 92 = .ok (.imul, 1) := by decide +kernel
theorem dX11_link_93 : decode cX11_link 93 = .ok (.iadd, 1) := by decide +kernel
theorem dX11_link_94 : decode cX11_link 94 = .ok (.iload_n 1, 1) := by decide +kernel
theorem dX11_link_95 : decode cX11_link 95 = .ok (.iadd, 1) := by decide +kernel
theorem dX11_link_96 : decode cX11_link 96 = .ok (.iload_n 3, 1) := by decide +kernel
theorem dX11_link_97 : decode cX11_link 97 = .ok (.iastore, 1) := by decide +kernel
theorem dX11_link_98 : decode cX11_link 98 = .ok (.iload 4, 2) := by decide +kernel
theorem dX11_link_100 : decode cX11_link 100 = .ok (.ireturn, 1) := by decide +kernel
theorem dX11_conductance_0 : decode cX11_conductance 0 = .ok (.aload_n 0, 1) := by decide +kernel
theorem dX11_conductance_1 : decode cX11_conductance 1 = .ok (.iload_n 1, 1) := by decide +kernel
theorem dX11_conductance_2 : decode cX11_conductance 2 = .ok (.invokevirtual 93, 3) := by decide +kernel
theorem dX11_conductance_5 : decode cX11_conductance 5 = .ok (.ifCond .eq 20, 3) := by decide +kernel
theorem dX11_conductance_8 : decode cX11_conductance 8 = .ok (.aload_n 0, 1) := by decide +kernel
theorem dX11_conductance_9 : decode cX11_conductance 9 = .ok (.iload_n 2, 1) := by decide +kernel
theorem dX11_conductance_10 : decode cX11_conductance 10 = .ok (.invokevirtual 93, 3) := by decide +kernel
theorem dX11_conductance_13 : decode cX11_conductance 13 = .ok (.ifCond .eq 12, 3) := by decide +kernel
theorem dX11_conductance_16 : decode cX11_conductance 16 = .ok (.aload_n 0, 1) := by decide +kernel
theorem dX11_conductance_17 : decode cX11_conductance 17 = .ok (.iload_n 1, 1) := by decide +kernel
theorem dX11_conductance_18 : decode cX11_conductance 18 = .ok (.iload_n 2, 1) := by decide +kernel
theorem dX11_conductance_19 : decode cX11_conductance 19 = .ok (.invokevirtual 101, 3) := by decide +kernel
theorem dX11_conductance_22 : decode cX11_conductance 22 = .ok (.goto 5, 3) := by decide +kernel
theorem dX11_conductance_25 : decode cX11_conductance 25 = .ok (.ldc 96, 2) := by decide +kernel
theorem dX11_conductance_27 : decode cX11_conductance 27 = .ok (.ireturn, 1) := by decide +kernel
theorem dX11_linkCount_0 : decode cX11_linkCount 0 = .ok (.iconst 0, 1) := by decide +kernel
theorem dX11_linkCount_1 : decode cX11_linkCount 1 = .ok (.istore_n 1, 1) := by decide +kernel
theorem dX11_linkCount_2 : decode cX11_linkCount 2 = .ok (.iconst 0, 1) := by decide +kernel
theorem dX11_linkCount_3 : decode cX11_linkCount 3 = .ok (.istore_n 2, 1) := by decide +kernel
theorem dX11_linkCount_4 : decode cX11_linkCount 4 = .ok (.iload_n 2, 1) := by decide +kernel
theorem dX11_linkCount_5 : decode cX11_linkCount 5 = .ok (.aload_n 0, 1) := by decide +kernel
theorem dX11_linkCount_6 : decode cX11_linkCount 6 = .ok (.getfield 7, 3) := by decide +kernel
theorem dX11_linkCount_9 : decode cX11_linkCount 9 = .ok (.bipush 12, 2) := by decide +kernel
theorem dX11_linkCount_11 : decode cX11_linkCount 11 = .ok (.iaload, 1) := by decide +kernel
theorem dX11_linkCount_12 : decode cX11_linkCount 12 = .ok (.if_icmp .ge 39, 3) := by decide +kernel
theorem dX11_linkCount_15 : decode cX11_linkCount 15 = .ok (.iconst 0, 1) := by decide +kernel
theorem dX11_linkCount_16 : decode cX11_linkCount 16 = .ok (.istore_n 3, 1) := by decide +kernel
theorem dX11_linkCount_17 : decode cX11_linkCount 17 = .ok (.iload_n 3, 1) := by decide +kernel
theorem dX11_linkCount_18 : decode cX11_linkCount 18 = .ok (.iload_n 2, 1) := by decide +kernel
theorem dX11_linkCount_19 : decode cX11_linkCount 19 = .ok (.if_icmp .ge 26, 3) := by decide +kernel
theorem dX11_linkCount_22 : decode cX11_linkCount 22 = .ok (.iload_n 1, 1) := by decide +kernel
theorem dX11_linkCount_23 : decode cX11_linkCount 23 = .ok (.aload_n 0, 1) := by decide +kernel
theorem dX11_linkCount_24 : decode cX11_linkCount 24 = .ok (.iload_n 2, 1) := by decide +kernel
theorem dX11_linkCount_25 : decode cX11_linkCount 25 = .ok (.iload_n 3, 1) := by decide +kernel
theorem dX11_linkCount_26 : decode cX11_linkCount 26 = .ok (.invokevirtual 101, 3) := by decide +kernel
theorem dX11_linkCount_29 : decode cX11_linkCount 29 = .ok (.ifCond .le 7, 3) := by decide +kernel
theorem dX11_linkCount_32 : decode cX11_linkCount 32 = .ok (.iconst 1, 1) := by decide +kernel
theorem dX11_linkCount_33 : decode cX11_linkCount 33 = .ok (.goto 4, 3) := by decide +kernel
theorem dX11_linkCount_36 : decode cX11_linkCount 36 = .ok (.iconst 0, 1) := by decide +kernel
theorem dX11_linkCount_37 : decode cX11_linkCount 37 = .ok (.iadd, 1) := by decide +kernel
theorem dX11_linkCount_38 : decode cX11_linkCount 38 = .ok (.istore_n 1, 1) := by decide +kernel
theorem dX11_linkCount_39 : decode cX11_linkCount 39 = .ok (.iinc 3 1, 3) := by decide +kernel
theorem dX11_linkCount_42 : decode cX11_linkCount 42 = .ok (.goto (-25), 3) := by decide +kernel
theorem dX11_linkCount_45 : decode cX11_linkCount 45 = .ok (.iinc 2 1, 3) := by decide +kernel
theorem dX11_linkCount_48 : decode cX11_linkCount 48 = .ok (.goto (-44), 3) := by decide +kernel
theorem dX11_linkCount_51 : decode cX11_linkCount 51 = .ok (.iload_n 1, 1) := by decide +kernel
theorem dX11_linkCount_52 : decode cX11_linkCount 52 = .ok (.ireturn, 1) := by decide +kernel
theorem dX11_addLouvre_0 : decode cX11_addLouvre 0 = .ok (.aload_n 0, 1) := by decide +kernel
theorem dX11_addLouvre_1 : decode cX11_addLouvre 1 = .ok (.iload_n 1, 1) := by decide +kernel
theorem dX11_addLouvre_2 : decode cX11_addLouvre 2 = .ok (.invokevirtual 93, 3) := by decide +kernel
theorem dX11_addLouvre_5 : decode cX11_addLouvre 5 = .ok (.ifCond .ne 6, 3) := by decide +kernel
theorem dX11_addLouvre_8 : decode cX11_addLouvre 8 = .ok (.ldc 96, 2) := by decide +kernel
theorem dX11_addLouvre_10 : decode cX11_addLouvre 10 = .ok (.ireturn, 1) := by decide +kernel
theorem dX11_addLouvre_11 : decode cX11_addLouvre 11 = .ok (.iload_n 2, 1) := by decide +kernel
theorem dX11_addLouvre_12 : decode cX11_addLouvre 12 = .ok (.iconst 0, 1) := by decide +kernel
theorem dX11_addLouvre_13 : decode cX11_addLouvre 13 = .ok (.sipush 10000, 3) := by decide +kernel
theorem dX11_addLouvre_16 : decode cX11_addLouvre 16 = .ok (.invokestatic 67, 3) := by decide +kernel
theorem dX11_addLouvre_19 : decode cX11_addLouvre 19 = .ok (.ifCond .eq 43, 3) := by decide +kernel
theorem dX11_addLouvre_22 : decode cX11_addLouvre 22 = .ok (.iload_n 3, 1) := by decide +kernel
theorem dX11_addLouvre_23 : decode cX11_addLouvre 23 = .ok (.ldc 71, 2) := by decide +kernel
theorem dX11_addLouvre_25 : decode cX11_addLouvre 25 = .ok (.ldc 108, 2) := by decide +kernel
theorem dX11_addLouvre_27 : decode cX11_addLouvre 27 = .ok (.invokestatic 67, 3) := by decide +kernel
theorem dX11_addLouvre_30 : decode cX11_addLouvre 30 = .ok (.ifCond .eq 32, 3) := by decide +kernel
theorem dX11_addLouvre_33 : decode cX11_addLouvre 33 = .ok (.iload 4, 2) := by decide +kernel
theorem dX11_addLouvre_35 : decode cX11_addLouvre 35 = .ok (.iload_n 3, 1) := by decide +kernel
theorem dX11_addLouvre_36 : decode cX11_addLouvre 36 = .ok (.iconst 1, 1) := by decide +kernel
theorem dX11_addLouvre_37 : decode cX11_addLouvre 37 = .ok (.iadd, 1) := by decide +kernel
theorem dX11_addLouvre_38 : decode cX11_addLouvre 38 = .ok (.ldc 72, 2) := by decide +kernel
theorem dX11_addLouvre_40 : decode cX11_addLouvre 40 = .ok (.invokestatic 67, 3) := by decide +kernel
theorem dX11_addLouvre_43 : decode cX11_addLouvre 43 = .ok (.ifCond .eq 19, 3) := by decide +kernel
theorem dX11_addLouvre_46 : decode cX11_addLouvre 46 = .ok (.iload 5, 2) := by decide +kernel
theorem dX11_addLouvre_48 : decode cX11_addLouvre 48 = .ok (.iconst 1, 1) := by decide +kernel
theorem dX11_addLouvre_49 : decode cX11_addLouvre 49 = .ok (.sipush 1000, 3) := by decide +kernel
theorem dX11_addLouvre_52 : decode cX11_addLouvre 52 = .ok (.invokestatic 67, 3) := by decide +kernel
theorem dX11_addLouvre_55 : decode cX11_addLouvre 55 = .ok (.ifCond .eq 7, 3) := by decide +kernel
theorem dX11_addLouvre_58 : decode cX11_addLouvre 58 = .ok (.iconst 1, 1) := by decide +kernel
theorem dX11_addLouvre_59 : decode cX11_addLouvre 59 = .ok (.goto 4, 3) := by decide +kernel
theorem dX11_addLouvre_62 : decode cX11_addLouvre 62 = .ok (.iconst 0, 1) := by decide +kernel
theorem dX11_addLouvre_63 : decode cX11_addLouvre 63 = .ok (.istore 6, 2) := by decide +kernel
theorem dX11_addLouvre_65 : decode cX11_addLouvre 65 = .ok (.iload 6, 2) := by decide +kernel
theorem dX11_addLouvre_67 : decode cX11_addLouvre 67 = .ok (.ifCond .ne 6, 3) := by decide +kernel
theorem dX11_addLouvre_70 : decode cX11_addLouvre 70 = .ok (.ldc 79, 2) := by decide +kernel
theorem dX11_addLouvre_72 : decode cX11_addLouvre 72 = .ok (.ireturn, 1) := by decide +kernel
theorem dX11_addLouvre_73 : decode cX11_addLouvre 73 = .ok (.aload_n 0, 1) := by decide +kernel
theorem dX11_addLouvre_74 : decode cX11_addLouvre 74 = .ok (.getfield 7, 3) := by decide +kernel
theorem dX11_addLouvre_77 : decode cX11_addLouvre 77 = .ok (.bipush 13, 2) := by decide +kernel
theorem dX11_addLouvre_79 : decode cX11_addLouvre 79 = .ok (.iaload, 1) := by decide +kernel
theorem dX11_addLouvre_80 : decode cX11_addLouvre 80 = .ok (.istore 7, 2) := by decide +kernel
theorem dX11_addLouvre_82 : decode cX11_addLouvre 82 = .ok (.iload 7, 2) := by decide +kernel
theorem dX11_addLouvre_84 : decode cX11_addLouvre 84 = .ok (.bipush 6, 2) := by decide +kernel
theorem dX11_addLouvre_86 : decode cX11_addLouvre 86 = .ok (.if_icmp .ne 6, 3) := by decide +kernel
theorem dX11_addLouvre_89 : decode cX11_addLouvre 89 = .ok (.ldc 80, 2) := by decide +kernel
theorem dX11_addLouvre_91 : decode cX11_addLouvre 91 = .ok (.ireturn, 1) := by decide +kernel
theorem dX11_addLouvre_92 : decode cX11_addLouvre 92 = .ok (.sipush 296, 3) := by decide +kernel
theorem dX11_addLouvre_95 : decode cX11_addLouvre 95 = .ok (.bipush 7, 2) := by decide +kernel
theorem dX11_addLouvre_97 : decode cX11_addLouvre 97 = .ok (.iload 7, 2) := by decide +kernel
theorem dX11_addLouvre_99 : decode cX11_addLouvre 99 = .ok (.imul, 1) := by decide +kernel
theorem dX11_addLouvre_100 : decode cX11_addLouvre 100 = .ok (.iadd, 1) := by decide +kernel
theorem dX11_addLouvre_101 : decode cX11_addLouvre 101 = .ok (.istore 8, 2) := by decide +kernel
theorem dX11_addLouvre_103 : decode cX11_addLouvre 103 = .ok (.aload_n 0, 1) := by decide +kernel
theorem dX11_addLouvre_104 : decode cX11_addLouvre 104 = .ok (.getfield 7, 3) := by decide +kernel
theorem dX11_addLouvre_107 : decode cX11_addLouvre 107 = .ok (.iload 8, 2) := by decide +kernel
theorem dX11_addLouvre_109 : decode cX11_addLouvre 109 = .ok (.iconst 0, 1) := by decide +kernel
theorem dX11_addLouvre_110 : decode cX11_addLouvre 110 = .ok (.iadd, 1) := by decide +kernel
theorem dX11_addLouvre_111 : decode cX11_addLouvre 111 = .ok (.iload_n 1, 1) := by decide +kernel
theorem dX11_addLouvre_112 : decode cX11_addLouvre 112 = .ok (.iastore, 1) := by decide +kernel
theorem dX11_addLouvre_113 : decode cX11_addLouvre 113 = .ok (.aload_n 0, 1) := by decide +kernel
theorem dX11_addLouvre_114 : decode cX11_addLouvre 114 = .ok (.getfield 7, 3) := by decide +kernel
theorem dX11_addLouvre_117 : decode cX11_addLouvre 117 = .ok (.iload 8, 2) := by decide +kernel
theorem dX11_addLouvre_119 : decode cX11_addLouvre 119 = .ok (.iconst 1, 1) := by decide +kernel
theorem dX11_addLouvre_120 : decode cX11_addLouvre 120 = .ok (.iadd, 1) := by decide +kernel
theorem dX11_addLouvre_121 : decode cX11_addLouvre 121 = .ok (.iload_n 2, 1) := by decide +kernel
theorem dX11_addLouvre_122 : decode cX11_addLouvre 122 = .ok (.iastore, 1) := by decide +kernel
theorem dX11_addLouvre_123 : decode cX11_addLouvre 123 = .ok (.aload_n 0, 1) := by decide +kernel
theorem dX11_addLouvre_124 : decode cX11_addLouvre 124 = .ok (.getfield 7, 3) := by decide +kernel
theorem dX11_addLouvre_127 : decode cX11_addLouvre 127 = .ok (.iload 8, 2) := by decide +kernel
theorem dX11_addLouvre_129 : decode cX11_addLouvre 129 = .ok (.iconst 2, 1) := by decide +kernel
theorem dX11_addLouvre_130 : decode cX11_addLouvre 130 = .ok (.iadd, 1) := by decide +kernel
theorem dX11_addLouvre_131 : decode cX11_addLouvre 131 = .ok (.iload_n 3, 1) := by decide +kernel
theorem dX11_addLouvre_132 : decode cX11_addLouvre 132 = .ok (.iastore, 1) := by decide +kernel
theorem dX11_addLouvre_133 : decode cX11_addLouvre 133 = .ok (.aload_n 0, 1) := by decide +kernel
theorem dX11_addLouvre_134 : decode cX11_addLouvre 134 = .ok (.getfield 7, 3) := by decide +kernel
theorem dX11_addLouvre_137 : decode cX11_addLouvre 137 = .ok (.iload 8, 2) := by decide +kernel
theorem dX11_addLouvre_139 : decode cX11_addLouvre 139 = .ok (.iconst 3, 1) := by decide +kernel
theorem dX11_addLouvre_140 : decode cX11_addLouvre 140 = .ok (.iadd, 1) := by decide +kernel
theorem dX11_addLouvre_141 : decode cX11_addLouvre 141 = .ok (.iload 4, 2) := by decide +kernel
theorem dX11_addLouvre_143 : decode cX11_addLouvre 143 = .ok (.iastore, 1) := by decide +kernel
theorem dX11_addLouvre_144 : decode cX11_addLouvre 144 = .ok (.aload_n 0, 1) := by decide +kernel
theorem dX11_addLouvre_145 : decode cX11_addLouvre 145 = .ok (.getfield 7, 3) := by decide +kernel
theorem dX11_addLouvre_148 : decode cX11_addLouvre 148 = .ok (.iload 8, 2) := by decide +kernel
theorem dX11_addLouvre_150 : decode cX11_addLouvre 150 = .ok (.iconst 4, 1) := by decide +kernel
theorem dX11_addLouvre_151 : decode cX11_addLouvre 151 = .ok (.iadd, 1) := by decide +kernel
theorem dX11_addLouvre_152 : decode cX11_addLouvre 152 = .ok (.iload 5, 2) := by decide +kernel
theorem dX11_addLouvre_154 : decode cX11_addLouvre 154 = .ok (.iastore, 1) := by decide +kernel
theorem dX11_addLouvre_155 : decode cX11_addLouvre 155 = .ok (.aload_n 0, 1) := by decide +kernel
theorem dX11_addLouvre_156 : decode cX11_addLouvre 156 = .ok (.getfield 7, 3) := by decide +kernel
theorem dX11_addLouvre_159 : decode cX11_addLouvre 159 = .ok (.iload 8, 2) := by decide +kernel
theorem dX11_addLouvre_161 : decode cX11_addLouvre 161 = .ok (.iconst 5, 1) := by decide +kernel
theorem dX11_addLouvre_162 : decode cX11_addLouvre 162 = .ok (.iadd, 1) := by decide +kernel
theorem dX11_addLouvre_163 : decode cX11_addLouvre 163 = .ok (.iconst 0, 1) := by decide +kernel
theorem dX11_addLouvre_164 : decode cX11_addLouvre 164 = .ok (.iastore, 1) := by decide +kernel
theorem dX11_addLouvre_165 : decode cX11_addLouvre 165 = .ok (.aload_n 0, 1) := by decide +kernel
theorem dX11_addLouvre_166 : decode cX11_addLouvre 166 = .ok (.getfield 7, 3) := by decide +kernel
theorem dX11_addLouvre_169 : decode cX11_addLouvre 169 = .ok (.iload 8, 2) := by decide +kernel
theorem dX11_addLouvre_171 : decode cX11_addLouvre 171 = .ok (.bipush 6, 2) := by decide +kernel
theorem dX11_addLouvre_173 : decode cX11_addLouvre 173 = .ok (.iadd, 1) := by decide +kernel
theorem dX11_addLouvre_174 : decode cX11_addLouvre 174 = .ok (.iconst 0, 1) := by decide +kernel
theorem dX11_addLouvre_175 : decode cX11_addLouvre 175 = .ok (.iastore, 1) := by decide +kernel
theorem dX11_addLouvre_176 : decode cX11_addLouvre 176 = .ok (.aload_n 0, 1) := by decide +kernel
theorem dX11_addLouvre_177 : decode cX11_addLouvre 177 = .ok (.getfield 7, 3) := by decide +kernel
theorem dX11_addLouvre_180 : decode cX11_addLouvre 180 = .ok (.bipush 13, 2) := by decide +kernel
theorem dX11_addLouvre_182 : decode cX11_addLouvre 182 = .ok (.dup2, 1) := by decide +kernel
theorem dX11_addLouvre_183 : decode cX11_addLouvre 183 = .ok (.iaload, 1) := by decide +kernel
theorem dX11_addLouvre_184 : decode cX11_addLouvre 184 = .ok (.iconst 1, 1) := by decide +kernel
theorem dX11_addLouvre_185 : decode cX11_addLouvre 185 = .ok (.iadd, 1) := by decide +kernel
theorem dX11_addLouvre_186 : decode cX11_addLouvre 186 = .ok (.iastore, 1) := by decide +kernel
theorem dX11_addLouvre_187 : decode cX11_addLouvre 187 = .ok (.iload 7, 2) := by decide +kernel
theorem dX11_addLouvre_189 : decode cX11_addLouvre 189 = .ok (.ireturn, 1) := by decide +kernel
theorem dX11_addHeater_0 : decode cX11_addHeater 0 = .ok (.aload_n 0, 1) := by decide +kernel
theorem dX11_addHeater_1 : decode cX11_addHeater 1 = .ok (.iload_n 1, 1) := by decide +kernel
theorem dX11_addHeater_2 : decode cX11_addHeater 2 = .ok (.invokevirtual 93, 3) := by decide +kernel
theorem dX11_addHeater_5 : decode cX11_addHeater 5 = .ok (.ifCond .ne 6, 3) := by decide +kernel
theorem dX11_addHeater_8 : decode cX11_addHeater 8 = .ok (.ldc 96, 2) := by decide +kernel
theorem dX11_addHeater_10 : decode cX11_addHeater 10 = .ok (.ireturn, 1) := by decide +kernel
theorem dX11_addHeater_11 : decode cX11_addHeater 11 = .ok (.iload_n 2, 1) := by decide +kernel
theorem dX11_addHeater_12 : decode cX11_addHeater 12 = .ok (.iconst 0, 1) := by decide +kernel
theorem dX11_addHeater_13 : decode cX11_addHeater 13 = .ok (.ldc 73, 2) := by decide +kernel
theorem dX11_addHeater_15 : decode cX11_addHeater 15 = .ok (.invokestatic 67, 3) := by decide +kernel
theorem dX11_addHeater_18 : decode cX11_addHeater 18 = .ok (.ifCond .eq 37, 3) := by decide +kernel
theorem dX11_addHeater_21 : decode cX11_addHeater 21 = .ok (.iload 4, 2) := by decide +kernel
theorem dX11_addHeater_23 : decode cX11_addHeater 23 = .ok (.invokestatic 74, 3) := by decide +kernel
theorem dX11_addHeater_26 : decode cX11_addHeater 26 = .ok (.ifCond .eq 29, 3) := by decide +kernel
theorem dX11_addHeater_29 : decode cX11_addHeater 29 = .ok (.iload_n 3, 1) := by decide +kernel
theorem dX11_addHeater_30 : decode cX11_addHeater 30 = .ok (.ldc 71, 2) := by decide +kernel
theorem dX11_addHeater_32 : decode cX11_addHeater 32 = .ok (.iload 4, 2) := by decide +kernel
theorem dX11_addHeater_34 : decode cX11_addHeater 34 = .ok (.invokestatic 67, 3) := by decide +kernel
theorem dX11_addHeater_37 : decode cX11_addHeater 37 = .ok (.ifCond .eq 18, 3) := by decide +kernel
theorem dX11_addHeater_40 : decode cX11_addHeater 40 = .ok (.iload 5, 2) := by decide +kernel
theorem dX11_addHeater_42 : decode cX11_addHeater 42 = .ok (.iconst 0, 1) := by decide +kernel
theorem dX11_addHeater_43 : decode cX11_addHeater 43 = .ok (.bipush 9, 2) := by decide +kernel
theorem dX11_addHeater_45 : decode cX11_addHeater 45 = .ok (.invokestatic 67, 3) := by decide +kernel
theorem dX11_addHeater_48 : decode cX11_addHeater 48 = .ok (.ifCond .eq 7, 3) := by decide +kernel
theorem dX11_addHeater_51 : decode cX11_addHeater 51 = .ok (.iconst 1, 1) := by decide +kernel
theorem dX11_addHeater_52 : decode cX11_addHeater 52 = .ok (.goto 4, 3) := by decide +kernel
theorem dX11_addHeater_55 : decode cX11_addHeater 55 = .ok (.iconst 0, 1) := by decide +kernel
theorem dX11_addHeater_56 : decode cX11_addHeater 56 = .ok (.istore 6, 2) := by decide +kernel
theorem dX11_addHeater_58 : decode cX11_addHeater 58 = .ok (.iload 6, 2) := by decide +kernel
theorem dX11_addHeater_60 : decode cX11_addHeater 60 = .ok (.ifCond .ne 6, 3) := by decide +kernel
theorem dX11_addHeater_63 : decode cX11_addHeater 63 = .ok (.ldc 79, 2) := by decide +kernel
theorem dX11_addHeater_65 : decode cX11_addHeater 65 = .ok (.ireturn, 1) := by decide +kernel
theorem dX11_addHeater_66 : decode cX11_addHeater 66 = .ok (.aload_n 0, 1) := by decide +kernel
theorem dX11_addHeater_67 : decode cX11_addHeater 67 = .ok (.getfield 7, 3) := by decide +kernel
theorem dX11_addHeater_70 : decode cX11_addHeater 70 = .ok (.bipush 14, 2) := by decide +kernel
theorem dX11_addHeater_72 : decode cX11_addHeater 72 = .ok (.iaload, 1) := by decide +kernel
theorem dX11_addHeater_73 : decode cX11_addHeater 73 = .ok (.istore 7, 2) := by decide +kernel
theorem dX11_addHeater_75 : decode cX11_addHeater 75 = .ok (.iload 7, 2) := by decide +kernel
theorem dX11_addHeater_77 : decode cX11_addHeater 77 = .ok (.bipush 8, 2) := by decide +kernel
theorem dX11_addHeater_79 : decode cX11_addHeater 79 = .ok (.if_icmp .ne 6, 3) := by decide +kernel
theorem dX11_addHeater_82 : decode cX11_addHeater 82 = .ok (.ldc 80, 2) := by decide +kernel
theorem dX11_addHeater_84 : decode cX11_addHeater 84 = .ok (.ireturn, 1) := by decide +kernel
theorem dX11_addHeater_85 : decode cX11_addHeater 85 = .ok (.sipush 338, 3) := by decide +kernel
theorem dX11_addHeater_88 : decode cX11_addHeater 88 = .ok (.bipush 8, 2) := by decide +kernel
theorem dX11_addHeater_90 : decode cX11_addHeater 90 = .ok (.iload 7, 2) := by decide +kernel
theorem dX11_addHeater_92 : decode cX11_addHeater 92 = .ok (.imul, 1) := by decide +kernel
theorem dX11_addHeater_93 : decode cX11_addHeater 93 = .ok (.iadd, 1) := by decide +kernel
theorem dX11_addHeater_94 : decode cX11_addHeater 94 = .ok (.istore 8, 2) := by decide +kernel
theorem dX11_addHeater_96 : decode cX11_addHeater 96 = .ok (.aload_n 0, 1) := by decide +kernel
theorem dX11_addHeater_97 : decode cX11_addHeater 97 = .ok (.getfield 7, 3) := by decide +kernel
theorem dX11_addHeater_100 : decode cX11_addHeater 100 = .ok (.iload 8, 2) := by decide +kernel
theorem dX11_addHeater_102 : decode cX11_addHeater 102 = .ok (.iconst 0, 1) := by decide +kernel
theorem dX11_addHeater_103 : decode cX11_addHeater 103 = .ok (.iadd, 1) := by decide +kernel
theorem dX11_addHeater_104 : decode cX11_addHeater 104 = .ok (.iload_n 1, 1) := by decide +kernel
theorem dX11_addHeater_105 : decode cX11_addHeater 105 = .ok (.iastore, 1) := by decide +kernel
theorem dX11_addHeater_106 : decode cX11_addHeater 106 = .ok (.aload_n 0, 1) := by decide +kernel
theorem dX11_addHeater_107 : decode cX11_addHeater 107 = .ok (.getfield 7, 3) := by decide +kernel
theorem dX11_addHeater_110 : decode cX11_addHeater 110 = .ok (.iload 8, 2) := by decide +kernel
theorem dX11_addHeater_112 : decode cX11_addHeater 112 = .ok (.iconst 1, 1) := by decide +kernel
theorem dX11_addHeater_113 : decode cX11_addHeater 113 = .ok (.iadd, 1) := by decide +kernel
theorem dX11_addHeater_114 : decode cX11_addHeater 114 = .ok (.iload_n 2, 1) := by decide +kernel
theorem dX11_addHeater_115 : decode cX11_addHeater 115 = .ok (.iastore, 1) := by decide +kernel
theorem dX11_addHeater_116 : decode cX11_addHeater 116 = .ok (.aload_n 0, 1) := by decide +kernel
theorem dX11_addHeater_117 : decode cX11_addHeater 117 = .ok (.getfield 7, 3) := by decide +kernel
theorem dX11_addHeater_120 : decode cX11_addHeater 120 = .ok (.iload 8, 2) := by decide +kernel
theorem dX11_addHeater_122 : decode cX11_addHeater 122 = .ok (.iconst 2, 1) := by decide +kernel
theorem dX11_addHeater_123 : decode cX11_addHeater 123 = .ok (.iadd, 1) := by decide +kernel
theorem dX11_addHeater_124 : decode cX11_addHeater 124 = .ok (.iload_n 3, 1) := by decide +kernel
theorem dX11_addHeater_125 : decode cX11_addHeater 125 = .ok (.iastore, 1) := by decide +kernel
theorem dX11_addHeater_126 : decode cX11_addHeater 126 = .ok (.aload_n 0, 1) := by decide +kernel
theorem dX11_addHeater_127 : decode cX11_addHeater 127 = .ok (.getfield 7, 3) := by decide +kernel
theorem dX11_addHeater_130 : decode cX11_addHeater 130 = .ok (.iload 8, 2) := by decide +kernel
theorem dX11_addHeater_132 : decode cX11_addHeater 132 = .ok (.iconst 3, 1) := by decide +kernel
theorem dX11_addHeater_133 : decode cX11_addHeater 133 = .ok (.iadd, 1) := by decide +kernel
theorem dX11_addHeater_134 : decode cX11_addHeater 134 = .ok (.iload 4, 2) := by decide +kernel
theorem dX11_addHeater_136 : decode cX11_addHeater 136 = .ok (.iastore, 1) := by decide +kernel
theorem dX11_addHeater_137 : decode cX11_addHeater 137 = .ok (.aload_n 0, 1) := by decide +kernel
theorem dX11_addHeater_138 : decode cX11_addHeater 138 = .ok (.getfield 7, 3) := by decide +kernel
theorem dX11_addHeater_141 : decode cX11_addHeater 141 = .ok (.iload 8, 2) := by decide +kernel
theorem dX11_addHeater_143 : decode cX11_addHeater 143 = .ok (.iconst 4, 1) := by decide +kernel
theorem dX11_addHeater_144 : decode cX11_addHeater 144 = .ok (.iadd, 1) := by decide +kernel
theorem dX11_addHeater_145 : decode cX11_addHeater 145 = .ok (.iload 5, 2) := by decide +kernel
theorem dX11_addHeater_147 : decode cX11_addHeater 147 = .ok (.iastore, 1) := by decide +kernel
theorem dX11_addHeater_148 : decode cX11_addHeater 148 = .ok (.aload_n 0, 1) := by decide +kernel
theorem dX11_addHeater_149 : decode cX11_addHeater 149 = .ok (.getfield 7, 3) := by decide +kernel
theorem dX11_addHeater_152 : decode cX11_addHeater 152 = .ok (.iload 8, 2) := by decide +kernel
theorem dX11_addHeater_154 : decode cX11_addHeater 154 = .ok (.iconst 5, 1) := by decide +kernel
theorem dX11_addHeater_155 : decode cX11_addHeater 155 = .ok (.iadd, 1) := by decide +kernel
theorem dX11_addHeater_156 : decode cX11_addHeater 156 = .ok (.iconst 0, 1) := by decide +kernel
theorem dX11_addHeater_157 : decode cX11_addHeater 157 = .ok (.iastore, 1) := by decide +kernel
theorem dX11_addHeater_158 : decode cX11_addHeater 158 = .ok (.aload_n 0, 1) := by decide +kernel
theorem dX11_addHeater_159 : decode cX11_addHeater 159 = .ok (.getfield 7, 3) := by decide +kernel
theorem dX11_addHeater_162 : decode cX11_addHeater 162 = .ok (.iload 8, 2) := by decide +kernel
theorem dX11_addHeater_164 : decode cX11_addHeater 164 = .ok (.bipush 6, 2) := by decide +kernel
theorem dX11_addHeater_166 : decode cX11_addHeater 166 = .ok (.iadd, 1) := by decide +kernel
theorem dX11_addHeater_167 : decode cX11_addHeater 167 = .ok (.iconst 0, 1) := by decide +kernel
theorem dX11_addHeater_168 : decode cX11_addHeater 168 = .ok (.iastore, 1) := by decide +kernel
theorem dX11_addHeater_169 : decode cX11_addHeater 169 = .ok (.aload_n 0, 1) := by decide +kernel
theorem dX11_addHeater_170 : decode cX11_addHeater 170 = .ok (.getfield 7, 3) := by decide +kernel
theorem dX11_addHeater_173 : decode cX11_addHeater 173 = .ok (.iload 8, 2) := by decide +kernel
theorem dX11_addHeater_175 : decode cX11_addHeater 175 = .ok (.bipush 7, 2) := by decide +kernel
theorem dX11_addHeater_177 : decode cX11_addHeater 177 = .ok (.iadd, 1) := by decide +kernel
theorem dX11_addHeater_178 : decode cX11_addHeater 178 = .ok (.iconst 0, 1) := by decide +kernel
theorem dX11_addHeater_179 : decode cX11_addHeater 179 = .ok (.iastore, 1) := by decide +kernel
theorem dX11_addHeater_180 : decode cX11_addHeater 180 = .ok (.aload_n 0, 1) := by decide +kernel
theorem dX11_addHeater_181 : decode cX11_addHeater 181 = .ok (.getfield 7, 3) := by decide +kernel
theorem dX11_addHeater_184 : decode cX11_addHeater 184 = .ok (.bipush 14, 2) := by decide +kernel
theorem dX11_addHeater_186 : decode cX11_addHeater 186 = .ok (.dup2, 1) := by decide +kernel
theorem dX11_addHeater_187 : decode cX11_addHeater 187 = .ok (.iaload, 1) := by decide +kernel
theorem dX11_addHeater_188 : decode cX11_addHeater 188 = .ok (.iconst 1, 1) := by decide +kernel
theorem dX11_addHeater_189 : decode cX11_addHeater 189 = .ok (.iadd, 1) := by decide +kernel
theorem dX11_addHeater_190 : decode cX11_addHeater 190 = .ok (.iastore, 1) := by decide +kernel
theorem dX11_addHeater_191 : decode cX11_addHeater 191 = .ok (.iload 7, 2) := by decide +kernel
theorem dX11_addHeater_193 : decode cX11_addHeater 193 = .ok (.ireturn, 1) := by decide +kernel
theorem dX11_louvreCount_0 : decode cX11_louvreCount 0 = .ok (.aload_n 0, 1) := by decide +kernel
theorem dX11_louvreCount_1 : decode cX11_louvreCount 1 = .ok (.getfield 7, 3) := by decide +kernel
theorem dX11_louvreCount_4 : decode cX11_louvreCount 4 = .ok (.bipush 13, 2) := by decide +kernel
theorem dX11_louvreCount_6 : decode cX11_louvreCount 6 = .ok (.iaload, 1) := by decide +kernel
theorem dX11_louvreCount_7 : decode cX11_louvreCount 7 = .ok (.ireturn, 1) := by decide +kernel
theorem dX11_opening_0 : decode cX11_opening 0 = .ok (.aload_n 0, 1) := by decide +kernel
theorem dX11_opening_1 : decode cX11_opening 1 = .ok (.iload_n 1, 1) := by decide +kernel
theorem dX11_opening_2 : decode cX11_opening 2 = .ok (.invokevirtual 109, 3) := by decide +kernel
theorem dX11_opening_5 : decode cX11_opening 5 = .ok (.ifCond .eq 12, 3) := by decide +kernel
theorem dX11_opening_8 : decode cX11_opening 8 = .ok (.aload_n 0, 1) := by decide +kernel
theorem dX11_opening_9 : decode cX11_opening 9 = .ok (.iload_n 1, 1) := by decide +kernel
theorem dX11_opening_10 : decode cX11_opening 10 = .ok (.iconst 5, 1) := by decide +kernel
theorem dX11_opening_11 : decode cX11_opening 11 = .ok (.invokevirtual 112, 3) := by decide +kernel
theorem dX11_opening_14 : decode cX11_opening 14 = .ok (.goto 5, 3) := by decide +kernel
theorem dX11_opening_17 : decode cX11_opening 17 = .ok (.ldc 96, 2) := by decide +kernel
theorem dX11_opening_19 : decode cX11_opening 19 = .ok (.ireturn, 1) := by decide +kernel
theorem dX11_targetOf_0 : decode cX11_targetOf 0 = .ok (.aload_n 0, 1) := by decide +kernel
theorem dX11_targetOf_1 : decode cX11_targetOf 1 = .ok (.aload_n 0, 1) := by decide +kernel
theorem dX11_targetOf_2 : decode cX11_targetOf 2 = .ok (.iload_n 1, 1) := by decide +kernel
theorem dX11_targetOf_3 : decode cX11_targetOf 3 = .ok (.iconst 0, 1) := by decide +kernel
theorem dX11_targetOf_4 : decode cX11_targetOf 4 = .ok (.invokevirtual 112, 3) := by decide +kernel
theorem dX11_targetOf_7 : decode cX11_targetOf 7 = .ok (.iconst 1, 1) := by decide +kernel
theorem dX11_targetOf_8 : decode cX11_targetOf 8 = .ok (.invokevirtual 89, 3) := by decide +kernel
theorem dX11_targetOf_11 : decode cX11_targetOf 11 = .ok (.aload_n 0, 1) := by decide +kernel
theorem dX11_targetOf_12 : decode cX11_targetOf 12 = .ok (.iload_n 1, 1) := by decide +kernel
theorem dX11_targetOf_13 : decode cX11_targetOf 13 = .ok (.iconst 2, 1) := by decide +kernel
theorem dX11_targetOf_14 : decode cX11_targetOf 14 = .ok (.invokevirtual 112, 3) := by decide +kernel
theorem dX11_targetOf_17 : decode cX11_targetOf 17 = .ok (.isub, 1) := by decide +kernel
theorem dX11_targetOf_18 : decode cX11_targetOf 18 = .ok (.i2l, 1) := by decide +kernel
theorem dX11_targetOf_19 : decode cX11_targetOf 19 = .ok (.lstore_n 2, 1) := by decide +kernel
theorem dX11_targetOf_20 : decode cX11_targetOf 20 = .ok (.lload_n 2, 1) := by decide +kernel
theorem dX11_targetOf_21 : decode cX11_targetOf 21 = .ok (.ldc2_w 115, 3) := by decide +kernel
theorem dX11_targetOf_24 : decode cX11_targetOf 24 = .ok (.lmul, 1) := by decide +kernel
theorem dX11_targetOf_25 : decode cX11_targetOf 25 = .ok (.aload_n 0, 1) := by decide +kernel
theorem dX11_targetOf_26 : decode cX11_targetOf 26 = .ok (.iload_n 1, 1) := by decide +kernel
theorem dX11_targetOf_27 : decode cX11_targetOf 27 = .ok (.iconst 3, 1) := by decide +kernel
theorem dX11_targetOf_28 : decode cX11_targetOf 28 = .ok (.invokevirtual 112, 3) := by decide +kernel
theorem dX11_targetOf_31 : decode cX11_targetOf 31 = .ok (.aload_n 0, 1) := by decide +kernel
theorem dX11_targetOf_32 : decode cX11_targetOf 32 = .ok (.iload_n 1, 1) := by decide +kernel
theorem dX11_targetOf_33 : decode cX11_targetOf 33 = .ok (.iconst 2, 1) := by decide +kernel
theorem dX11_targetOf_34 : decode cX11_targetOf 34 = .ok (.invokevirtual 112, 3) := by decide +kernel
theorem dX11_targetOf_37 : decode cX11_targetOf 37 = .ok (.isub, 1) := by decide +kernel
theorem dX11_targetOf_38 : decode cX11_targetOf 38 = .ok (.i2l, 1) := by decide +kernel
theorem dX11_targetOf_39 : decode cX11_targetOf 39 = .ok (.ldiv, 1) := by decide +kernel
theorem dX11_targetOf_40 : decode cX11_targetOf 40 = .ok (.lconst 0, 1) := by decide +kernel
theorem dX11_targetOf_41 : decode cX11_targetOf 41 = .ok (.ldc2_w 115, 3) := by decide +kernel
theorem dX11_targetOf_44 : decode cX11_targetOf 44 = .ok (.invokestatic 117, 3) := by decide +kernel
theorem dX11_targetOf_47 : decode cX11_targetOf 47 = .ok (.l2i, 1) := by decide +kernel
theorem dX11_targetOf_48 : decode cX11_targetOf 48 = .ok (.ireturn, 1) := by decide +kernel
theorem dX11_target_0 : decode cX11_target 0 = .ok (.aload_n 0, 1) := by decide +kernel
theorem dX11_target_1 : decode cX11_target 1 = .ok (.iload_n 1, 1) := by decide +kernel
theorem dX11_target_2 : decode cX11_target 2 = .ok (.invokevirtual 109, 3) := by decide +kernel
theorem dX11_target_5 : decode cX11_target 5 = .ok (.ifCond .eq 11, 3) := by decide +kernel
theorem dX11_target_8 : decode cX11_target 8 = .ok (.aload_n 0, 1) := by decide +kernel
theorem dX11_target_9 : decode cX11_target 9 = .ok (.iload_n 1, 1) := by decide +kernel
theorem dX11_target_10 : decode cX11_target 10 = .ok (.invokevirtual 121, 3) := by decide +kernel
theorem dX11_target_13 : decode cX11_target 13 = .ok (.goto 5, 3) := by decide +kernel
theorem dX11_target_16 : decode cX11_target 16 = .ok (.ldc 96, 2) := by decide +kernel
theorem dX11_target_18 : decode cX11_target 18 = .ok (.ireturn, 1) := by decide +kernel
theorem dX11_isHeld_0 : decode cX11_isHeld 0 = .ok (.aload_n 0, 1) := by decide +kernel
theorem dX11_isHeld_1 : decode cX11_isHeld 1 = .ok (.iload_n 1, 1) := by decide +kernel
theorem dX11_isHeld_2 : decode cX11_isHeld 2 = .ok (.invokevirtual 109, 3) := by decide +kernel
theorem dX11_isHeld_5 : decode cX11_isHeld 5 = .ok (.ifCond .eq 13, 3) := by decide +kernel
theorem dX11_isHeld_8 : decode cX11_isHeld 8 = .ok (.aload_n 0, 1) := by decide +kernel
theorem dX11_isHeld_9 : decode cX11_isHeld 9 = .ok (.iload_n 1, 1) := by decide +kernel
theorem dX11_isHeld_10 : decode cX11_isHeld 10 = .ok (.bipush 6, 2) := by decide +kernel
theorem dX11_isHeld_12 : decode cX11_isHeld 12 = .ok (.invokevirtual 112, 3) := by decide +kernel
theorem dX11_isHeld_15 : decode cX11_isHeld 15 = .ok (.goto 5, 3) := by decide +kernel
theorem dX11_isHeld_18 : decode cX11_isHeld 18 = .ok (.ldc 96, 2) := by decide +kernel
theorem dX11_isHeld_20 : decode cX11_isHeld 20 = .ok (.ireturn, 1) := by decide +kernel
theorem dX11_heaterCount_0 : decode cX11_heaterCount 0 = .ok (.aload_n 0, 1) := by decide +kernel
theorem dX11_heaterCount_1 : decode cX11_heaterCount 1 = .ok (.getfield 7, 3) := by decide +kernel
theorem dX11_heaterCount_4 : decode cX11_heaterCount 4 = .ok (.bipush 14, 2) := by decide +kernel
theorem dX11_heaterCount_6 : decode cX11_heaterCount 6 = .ok (.iaload, 1) := by decide +kernel
theorem dX11_heaterCount_7 : decode cX11_heaterCount 7 = .ok (.ireturn, 1) := by decide +kernel
theorem dX11_heaterState_0 : decode cX11_heaterState 0 = .ok (.aload_n 0, 1) := by decide +kernel
theorem dX11_heaterState_1 : decode cX11_heaterState 1 = .ok (.iload_n 1, 1) := by decide +kernel
theorem dX11_heaterState_2 : decode cX11_heaterState 2 = .ok (.invokevirtual 125, 3) := by decide +kernel
theorem dX11_heaterState_5 : decode cX11_heaterState 5 = .ok (.ifCond .eq 13, 3) := by decide +kernel
theorem dX11_heaterState_8 : decode cX11_heaterState 8 = .ok (.aload_n 0, 1) := by decide +kernel
theorem dX11_heaterState_9 : decode cX11_heaterState 9 = .ok (.iload_n 1, 1) := by decide +kernel
theorem dX11_heaterState_10 : decode cX11_heaterState 10 = .ok (.bipush 7, 2) := by decide +kernel
theorem dX11_heaterState_12 : decode cX11_heaterState 12 = .ok (.invokevirtual 128, 3) := by decide +kernel
theorem dX11_heaterState_15 : decode cX11_heaterState 15 = .ok (.goto 5, 3) := by decide +kernel
theorem dX11_heaterState_18 : decode cX11_heaterState 18 = .ok (.ldc 96, 2) := by decide +kernel
theorem dX11_heaterState_20 : decode cX11_heaterState 20 = .ok (.ireturn, 1) := by decide +kernel
theorem dX11_heaterMode_0 : decode cX11_heaterMode 0 = .ok (.aload_n 0, 1) := by decide +kernel
theorem dX11_heaterMode_1 : decode cX11_heaterMode 1 = .ok (.iload_n 1, 1) := by decide +kernel
theorem dX11_heaterMode_2 : decode cX11_heaterMode 2 = .ok (.invokevirtual 125, 3) := by decide +kernel
theorem dX11_heaterMode_5 : decode cX11_heaterMode 5 = .ok (.ifCond .eq 12, 3) := by decide +kernel
theorem dX11_heaterMode_8 : decode cX11_heaterMode 8 = .ok (.aload_n 0, 1) := by decide +kernel
theorem dX11_heaterMode_9 : decode cX11_heaterMode 9 = .ok (.iload_n 1, 1) := by decide +kernel
theorem dX11_heaterMode_10 : decode cX11_heaterMode 10 = .ok (.iconst 5, 1) := by decide +kernel
theorem dX11_heaterMode_11 : decode cX11_heaterMode 11 = .ok (.invokevirtual 128, 3) := by decide +kernel
theorem dX11_heaterMode_14 : decode cX11_heaterMode 14 = .ok (.goto 5, 3) := by decide +kernel
theorem dX11_heaterMode_17 : decode cX11_heaterMode 17 = .ok (.ldc 96, 2) := by decide +kernel
theorem dX11_heaterMode_19 : decode cX11_heaterMode 19 = .ok (.ireturn, 1) := by decide +kernel
theorem dX11_setMode_0 : decode cX11_setMode 0 = .ok (.aload_n 0, 1) := by decide +kernel
theorem dX11_setMode_1 : decode cX11_setMode 1 = .ok (.iload_n 1, 1) := by decide +kernel
theorem dX11_setMode_2 : decode cX11_setMode 2 = .ok (.invokevirtual 125, 3) := by decide +kernel
theorem dX11_setMode_5 : decode cX11_setMode 5 = .ok (.ifCond .ne 6, 3) := by decide +kernel
theorem dX11_setMode_8 : decode cX11_setMode 8 = .ok (.ldc 96, 2) := by decide +kernel
theorem dX11_setMode_10 : decode cX11_setMode 10 = .ok (.ireturn, 1) := by decide +kernel
theorem dX11_setMode_11 : decode cX11_setMode 11 = .ok (.iload_n 2, 1) := by decide +kernel
theorem dX11_setMode_12 : decode cX11_setMode 12 = .ok (.iconst 0, 1) := by decide +kernel
theorem dX11_setMode_13 : decode cX11_setMode 13 = .ok (.iconst 2, 1) := by decide +kernel
theorem dX11_setMode_14 : decode cX11_setMode 14 = .ok (.invokestatic 67, 3) := by decide +kernel
theorem dX11_setMode_17 : decode cX11_setMode 17 = .ok (.ifCond .ne 6, 3) := by decide +kernel
theorem dX11_setMode_20 : decode cX11_setMode 20 = .ok (.ldc 79, 2) := by decide +kernel
theorem dX11_setMode_22 : decode cX11_setMode 22 = .ok (.ireturn, 1) := by decide +kernel
theorem dX11_setMode_23 : decode cX11_setMode 23 = .ok (.aload_n 0, 1) := by decide +kernel
theorem dX11_setMode_24 : decode cX11_setMode 24 = .ok (.iload_n 1, 1) := by decide +kernel
theorem dX11_setMode_25 : decode cX11_setMode 25 = .ok (.iconst 5, 1) := by decide +kernel
theorem dX11_setMode_26 : decode cX11_setMode 26 = .ok (.invokevirtual 128, 3) := by decide +kernel
theorem dX11_setMode_29 : decode cX11_setMode 29 = .ok (.istore_n 3, 1) := by decide +kernel
theorem dX11_setMode_30 : decode cX11_setMode 30 = .ok (.aload_n 0, 1) := by decide +kernel
theorem dX11_setMode_31 : decode cX11_setMode 31 = .ok (.getfield 7, 3) := by decide +kernel
theorem dX11_setMode_34 : decode cX11_setMode 34 = .ok (.sipush 338, 3) := by decide +kernel
theorem dX11_setMode_37 : decode cX11_setMode 37 = .ok (.bipush 8, 2) := by decide +kernel
theorem dX11_setMode_39 : decode cX11_setMode 39 = .ok (.iload_n 1, 1) := by decide +kernel
theorem dX11_setMode_40 : decode cX11_setMode 40 = .ok (.imul, 1) := by decide +kernel
theorem dX11_setMode_41 : decode cX11_setMode 41 = .ok (.iadd, 1) := by decide +kernel
theorem dX11_setMode_42 : decode cX11_setMode 42 = .ok (.iconst 5, 1) := by decide +kernel
theorem dX11_setMode_43 : decode cX11_setMode 43 = .ok (.iadd, 1) := by decide +kernel
theorem dX11_setMode_44 : decode cX11_setMode 44 = .ok (.iload_n 2, 1) := by decide +kernel
theorem dX11_setMode_45 : decode cX11_setMode 45 = .ok (.iastore, 1) := by decide +kernel
theorem dX11_setMode_46 : decode cX11_setMode 46 = .ok (.iload_n 3, 1) := by decide +kernel
theorem dX11_setMode_47 : decode cX11_setMode 47 = .ok (.ireturn, 1) := by decide +kernel
theorem dX11_setOrbit_0 : decode cX11_setOrbit 0 = .ok (.iload_n 1, 1) := by decide +kernel
theorem dX11_setOrbit_1 : decode cX11_setOrbit 1 = .ok (.iconst 1, 1) := by decide +kernel
theorem dX11_setOrbit_2 : decode cX11_setOrbit 2 = .ok (.ldc 73, 2) := by decide +kernel
theorem dX11_setOrbit_4 : decode cX11_setOrbit 4 = .ok (.invokestatic 67, 3) := by decide +kernel
theorem dX11_setOrbit_7 : decode cX11_setOrbit 7 = .ok (.ifCond .eq 60, 3) := by decide +kernel
theorem dX11_setOrbit_10 : decode cX11_setOrbit 10 = .ok (.iload_n 2, 1) := by decide +kernel
theorem dX11_setOrbit_11 : decode cX11_setOrbit 11 = .ok (.iconst 0, 1) := by decide +kernel
theorem dX11_setOrbit_12 : decode cX11_setOrbit 12 = .ok (.iload_n 1, 1) := by decide +kernel
theorem dX11_setOrbit_13 : decode cX11_setOrbit 13 = .ok (.invokestatic 67, 3) := by decide +kernel
theorem dX11_setOrbit_16 : decode cX11_setOrbit 16 = .ok (.ifCond .eq 51, 3) := by decide +kernel
theorem dX11_setOrbit_19 : decode cX11_setOrbit 19 = .ok (.iload_n 3, 1) := by decide +kernel
theorem dX11_setOrbit_20 : decode cX11_setOrbit 20 = .ok (.iload_n 2, 1) := by decide +kernel
theorem dX11_setOrbit_21 : decode cX11_setOrbit 21 = .ok (.iload_n 1, 1) := by decide +kernel
theorem dX11_setOrbit_22 : decode cX11_setOrbit 22 = .ok (.invokestatic 67, 3) := by decide +kernel
theorem dX11_setOrbit_25 : decode cX11_setOrbit 25 = .ok (.ifCond .eq 42, 3) := by decide +kernel
theorem dX11_setOrbit_28 : decode cX11_setOrbit 28 = .ok (.iload 4, 2) := by decide +kernel
theorem dX11_setOrbit_30 : decode cX11_setOrbit 30 = .ok (.iconst 0, 1) := by decide +kernel
theorem dX11_setOrbit_31 : decode cX11_setOrbit 31 = .ok (.sipush 10000, 3) := by decide +kernel
theorem dX11_setOrbit_34 : decode cX11_setOrbit 34 = .ok (.invokestatic 67, 3) := by decide +kernel
theorem dX11_setOrbit_37 : decode cX11_setOrbit 37 = .ok (.ifCond .eq 30, 3) := by decide +kernel
theorem dX11_setOrbit_40 : decode cX11_setOrbit 40 = .ok (.iload 5, 2) := by decide +kernel
theorem dX11_setOrbit_42 : decode cX11_setOrbit 42 = .ok (.iconst 0, 1) := by decide +kernel
theorem dX11_setOrbit_43 : decode cX11_setOrbit 43 = .ok (.bipush 100, 2) := by decide +kernel
theorem dX11_setOrbit_45 : decode cX11_setOrbit 45 = .ok (.invokestatic 67, 3) := by decide +kernel
theorem dX11_setOrbit_48 : decode cX11_setOrbit 48 = .ok (.ifCond .eq 19, 3) := by decide +kernel
theorem dX11_setOrbit_51 : decode cX11_setOrbit 51 = .ok (.iload 6, 2) := by decide +kernel
theorem dX11_setOrbit_53 : decode cX11_setOrbit 53 = .ok (.iconst 0, 1) := by decide +kernel
theorem dX11_setOrbit_54 : decode cX11_setOrbit 54 = .ok (.sipush 10000, 3) := by decide +kernel
theorem dX11_setOrbit_57 : decode cX11_setOrbit 57 = .ok (.invokestatic 67, 3) := by decide +kernel
theorem dX11_setOrbit_60 : decode cX11_setOrbit 60 = .ok (.ifCond .eq 7, 3) := by decide +kernel
theorem dX11_setOrbit_63 : decode cX11_setOrbit 63 = .ok (.iconst 1, 1) := by decide +kernel
theorem dX11_setOrbit_64 : decode cX11_setOrbit 64 = .ok (.goto 4, 3) := by decide +kernel
theorem dX11_setOrbit_67 : decode cX11_setOrbit 67 = .ok (.iconst 0, 1) := by decide +kernel
theorem dX11_setOrbit_68 : decode cX11_setOrbit 68 = .ok (.istore 7, 2) := by decide +kernel
theorem dX11_setOrbit_70 : decode cX11_setOrbit 70 = .ok (.iload 7, 2) := by decide +kernel
theorem dX11_setOrbit_72 : decode cX11_setOrbit 72 = .ok (.ifCond .ne 6, 3) := by decide +kernel
theorem dX11_setOrbit_75 : decode cX11_setOrbit 75 = .ok (.ldc 79, 2) := by decide +kernel
theorem dX11_setOrbit_77 : decode cX11_setOrbit 77 = .ok (.ireturn, 1) := by decide +kernel
theorem dX11_setOrbit_78 : decode cX11_setOrbit 78 = .ok (.aload_n 0, 1) := by decide +kernel
theorem dX11_setOrbit_79 : decode cX11_setOrbit 79 = .ok (.getfield 7, 3) := by decide +kernel
theorem dX11_setOrbit_82 : decode cX11_setOrbit 82 = .ok (.iconst 2, 1) := by decide +kernel
theorem dX11_setOrbit_83 : decode cX11_setOrbit 83 = .ok (.iload_n 1, 1) := by decide +kernel
theorem dX11_setOrbit_84 : decode cX11_setOrbit 84 = .ok (.iastore, 1) := by decide +kernel
theorem dX11_setOrbit_85 : decode cX11_setOrbit 85 = .ok (.aload_n 0, 1) := by decide +kernel
theorem dX11_setOrbit_86 : decode cX11_setOrbit 86 = .ok (.getfield 7, 3) := by decide +kernel
theorem dX11_setOrbit_89 : decode cX11_setOrbit 89 = .ok (.iconst 3, 1) := by decide +kernel
theorem dX11_setOrbit_90 : decode cX11_setOrbit 90 = .ok (.iload_n 2, 1) := by decide +kernel
theorem dX11_setOrbit_91 : decode cX11_setOrbit 91 = .ok (.iastore, 1) := by decide +kernel
theorem dX11_setOrbit_92 : decode cX11_setOrbit 92 = .ok (.aload_n 0, 1) := by decide +kernel
theorem dX11_setOrbit_93 : decode cX11_setOrbit 93 = .ok (.getfield 7, 3) := by decide +kernel
theorem dX11_setOrbit_96 : decode cX11_setOrbit 96 = .ok (.iconst 4, 1) := by decide +kernel
theorem dX11_setOrbit_97 : decode cX11_setOrbit 97 = .ok (.iload_n 3, 1) := by decide +kernel
theorem dX11_setOrbit_98 : decode cX11_setOrbit 98 = .ok (.iastore, 1) := by decide +kernel
theorem dX11_setOrbit_99 : decode cX11_setOrbit 99 = .ok (.aload_n 0, 1) := by decide +kernel
theorem dX11_setOrbit_100 : decode cX11_setOrbit 100 = .ok (.getfield 7, 3) := by decide +kernel
theorem dX11_setOrbit_103 : decode cX11_setOrbit 103 = .ok (.iconst 5, 1) := by decide +kernel
theorem dX11_setOrbit_104 : decode cX11_setOrbit 104 = .ok (.iload 4, 2) := by decide +kernel
theorem dX11_setOrbit_106 : decode cX11_setOrbit 106 = .ok (.iastore, 1) := by decide +kernel
theorem dX11_setOrbit_107 : decode cX11_setOrbit 107 = .ok (.aload_n 0, 1) := by decide +kernel
theorem dX11_setOrbit_108 : decode cX11_setOrbit 108 = .ok (.getfield 7, 3) := by decide +kernel
theorem dX11_setOrbit_111 : decode cX11_setOrbit 111 = .ok (.bipush 6, 2) := by decide +kernel
theorem dX11_setOrbit_113 : decode cX11_setOrbit 113 = .ok (.iload 5, 2) := by decide +kernel
theorem dX11_setOrbit_115 : decode cX11_setOrbit 115 = .ok (.iastore, 1) := by decide +kernel
theorem dX11_setOrbit_116 : decode cX11_setOrbit 116 = .ok (.aload_n 0, 1) := by decide +kernel
theorem dX11_setOrbit_117 : decode cX11_setOrbit 117 = .ok (.getfield 7, 3) := by decide +kernel
theorem dX11_setOrbit_120 : decode cX11_setOrbit 120 = .ok (.bipush 7, 2) := by decide +kernel
theorem dX11_setOrbit_122 : decode cX11_setOrbit 122 = .ok (.iload 6, 2) := by decide +kernel
theorem dX11_setOrbit_124 : decode cX11_setOrbit 124 = .ok (.iastore, 1) := by decide +kernel
theorem dX11_setOrbit_125 : decode cX11_setOrbit 125 = .ok (.iconst 0, 1) := by decide +kernel
theorem dX11_setOrbit_126 : decode cX11_setOrbit 126 = .ok (.ireturn, 1) := by decide +kernel
theorem dX11_setPower_0 : decode cX11_setPower 0 = .ok (.iload_n 1, 1) := by decide +kernel
theorem dX11_setPower_1 : decode cX11_setPower 1 = .ok (.iconst 0, 1) := by decide +kernel
theorem dX11_setPower_2 : decode cX11_setPower 2 = .ok (.ldc 78, 2) := by decide +kernel
theorem dX11_setPower_4 : decode cX11_setPower 4 = .ok (.invokestatic 67, 3) := by decide +kernel
theorem dX11_setPower_7 : decode cX11_setPower 7 = .ok (.ifCond .eq 33, 3) := by decide +kernel
theorem dX11_setPower_10 : decode cX11_setPower 10 = .ok (.iload_n 2, 1) := by decide +kernel
theorem dX11_setPower_11 : decode cX11_setPower 11 = .ok (.iconst 0, 1) := by decide +kernel
theorem dX11_setPower_12 : decode cX11_setPower 12 = .ok (.ldc 78, 2) := by decide +kernel
theorem dX11_setPower_14 : decode cX11_setPower 14 = .ok (.invokestatic 67, 3) := by decide +kernel
theorem dX11_setPower_17 : decode cX11_setPower 17 = .ok (.ifCond .eq 23, 3) := by decide +kernel
theorem dX11_setPower_20 : decode cX11_setPower 20 = .ok (.iload_n 3, 1) := by decide +kernel
theorem dX11_setPower_21 : decode cX11_setPower 21 = .ok (.iconst 0, 1) := by decide +kernel
theorem dX11_setPower_22 : decode cX11_setPower 22 = .ok (.ldc 131, 2) := by decide +kernel
theorem dX11_setPower_24 : decode cX11_setPower 24 = .ok (.invokestatic 67, 3) := by decide +kernel
theorem dX11_setPower_27 : decode cX11_setPower 27 = .ok (.ifCond .eq 13, 3) := by decide +kernel
theorem dX11_setPower_30 : decode cX11_setPower 30 = .ok (.iload 4, 2) := by decide +kernel
theorem dX11_setPower_32 : decode cX11_setPower 32 = .ok (.iconst 0, 1) := by decide +kernel
theorem dX11_setPower_33 : decode cX11_setPower 33 = .ok (.iload_n 3, 1) := by decide +kernel
theorem dX11_setPower_34 : decode cX11_setPower 34 = .ok (.invokestatic 67, 3) := by decide +kernel
theorem dX11_setPower_37 : decode cX11_setPower 37 = .ok (.ifCond .ne 6, 3) := by decide +kernel
theorem dX11_setPower_40 : decode cX11_setPower 40 = .ok (.ldc 79, 2) := by decide +kernel
theorem dX11_setPower_42 : decode cX11_setPower 42 = .ok (.ireturn, 1) := by decide +kernel
theorem dX11_setPower_43 : decode cX11_setPower 43 = .ok (.aload_n 0, 1) := by decide +kernel
theorem dX11_setPower_44 : decode cX11_setPower 44 = .ok (.getfield 7, 3) := by decide +kernel
theorem dX11_setPower_47 : decode cX11_setPower 47 = .ok (.bipush 8, 2) := by decide +kernel
theorem dX11_setPower_49 : decode cX11_setPower 49 = .ok (.iload_n 1, 1) := by decide +kernel
theorem dX11_setPower_50 : decode cX11_setPower 50 = .ok (.iastore, 1) := by decide +kernel
theorem dX11_setPower_51 : decode cX11_setPower 51 = .ok (.aload_n 0, 1) := by decide +kernel
theorem dX11_setPower_52 : decode cX11_setPower 52 = .ok (.getfield 7, 3) := by decide +kernel
theorem dX11_setPower_55 : decode cX11_setPower 55 = .ok (.bipush 9, 2) := by decide +kernel
theorem dX11_setPower_57 : decode cX11_setPower 57 = .ok (.iload_n 2, 1) := by decide +kernel
theorem dX11_setPower_58 : decode cX11_setPower 58 = .ok (.iastore, 1) := by decide +kernel
theorem dX11_setPower_59 : decode cX11_setPower 59 = .ok (.aload_n 0, 1) := by decide +kernel
theorem dX11_setPower_60 : decode cX11_setPower 60 = .ok (.getfield 7, 3) := by decide +kernel
theorem dX11_setPower_63 : decode cX11_setPower 63 = .ok (.bipush 10, 2) := by decide +kernel
theorem dX11_setPower_65 : decode cX11_setPower 65 = .ok (.iload_n 3, 1) := by decide +kernel
theorem dX11_setPower_66 : decode cX11_setPower 66 = .ok (.iastore, 1) := by decide +kernel
theorem dX11_setPower_67 : decode cX11_setPower 67 = .ok (.aload_n 0, 1) := by decide +kernel
theorem dX11_setPower_68 : decode cX11_setPower 68 = .ok (.getfield 7, 3) := by decide +kernel
theorem dX11_setPower_71 : decode cX11_setPower 71 = .ok (.bipush 11, 2) := by decide +kernel
theorem dX11_setPower_73 : decode cX11_setPower 73 = .ok (.iload 4, 2) := by decide +kernel
theorem dX11_setPower_75 : decode cX11_setPower 75 = .ok (.iastore, 1) := by decide +kernel
theorem dX11_setPower_76 : decode cX11_setPower 76 = .ok (.iconst 0, 1) := by decide +kernel
theorem dX11_setPower_77 : decode cX11_setPower 77 = .ok (.ireturn, 1) := by decide +kernel
theorem dX11_setStepLength_0 : decode cX11_setStepLength 0 = .ok (.iload_n 1, 1) := by decide +kernel
theorem dX11_setStepLength_1 : decode cX11_setStepLength 1 = .ok (.iconst 1, 1) := by decide +kernel
theorem dX11_setStepLength_2 : decode cX11_setStepLength 2 = .ok (.bipush 60, 2) := by decide +kernel
theorem dX11_setStepLength_4 : decode cX11_setStepLength 4 = .ok (.invokestatic 67, 3) := by decide +kernel
theorem dX11_setStepLength_7 : decode cX11_setStepLength 7 = .ok (.ifCond .ne 6, 3) := by decide +kernel
theorem dX11_setStepLength_10 : decode cX11_setStepLength 10 = .ok (.ldc 79, 2) := by decide +kernel
theorem dX11_setStepLength_12 : decode cX11_setStepLength 12 = .ok (.ireturn, 1) := by decide +kernel
theorem dX11_setStepLength_13 : decode cX11_setStepLength 13 = .ok (.aload_n 0, 1) := by decide +kernel
theorem dX11_setStepLength_14 : decode cX11_setStepLength 14 = .ok (.getfield 7, 3) := by decide +kernel
theorem dX11_setStepLength_17 : decode cX11_setStepLength 17 = .ok (.iconst 1, 1) := by decide +kernel
theorem dX11_setStepLength_18 : decode cX11_setStepLength 18 = .ok (.iaload, 1) := by decide +kernel
theorem dX11_setStepLength_19 : decode cX11_setStepLength 19 = .ok (.istore_n 2, 1) := by decide +kernel
theorem dX11_setStepLength_20 : decode cX11_setStepLength 20 = .ok (.aload_n 0, 1) := by decide +kernel
theorem dX11_setStepLength_21 : decode cX11_setStepLength 21 = .ok (.getfield 7, 3) := by decide +kernel
theorem dX11_setStepLength_24 : decode cX11_setStepLength 24 = .ok (.iconst 1, 1) := by decide +kernel
theorem dX11_setStepLength_25 : decode cX11_setStepLength 25 = .ok (.iload_n 1, 1) := by decide +kernel
theorem dX11_setStepLength_26 : decode cX11_setStepLength 26 = .ok (.iastore, 1) := by decide +kernel
theorem dX11_setStepLength_27 : decode cX11_setStepLength 27 = .ok (.iload_n 2, 1) := by decide +kernel
theorem dX11_setStepLength_28 : decode cX11_setStepLength 28 = .ok (.ireturn, 1) := by decide +kernel
theorem dX11_time_0 : decode cX11_time 0 = .ok (.aload_n 0, 1) := by decide +kernel
theorem dX11_time_1 : decode cX11_time 1 = .ok (.getfield 7, 3) := by decide +kernel
theorem dX11_time_4 : decode cX11_time 4 = .ok (.iconst 0, 1) := by decide +kernel
theorem dX11_time_5 : decode cX11_time 5 = .ok (.iaload, 1) := by decide +kernel
theorem dX11_time_6 : decode cX11_time 6 = .ok (.ireturn, 1) := by decide +kernel
theorem dX11_phase_0 : decode cX11_phase 0 = .ok (.aload_n 0, 1) := by decide +kernel
theorem dX11_phase_1 : decode cX11_phase 1 = .ok (.getfield 7, 3) := by decide +kernel
theorem dX11_phase_4 : decode cX11_phase 4 = .ok (.iconst 0, 1) := by decide +kernel
theorem dX11_phase_5 : decode cX11_phase 5 = .ok (.iaload, 1) := by decide +kernel
theorem dX11_phase_6 : decode cX11_phase 6 = .ok (.aload_n 0, 1) := by decide +kernel
theorem dX11_phase_7 : decode cX11_phase 7 = .ok (.getfield 7, 3) := by decide +kernel
theorem dX11_phase_10 : decode cX11_phase 10 = .ok (.iconst 2, 1) := by decide +kernel
theorem dX11_phase_11 : decode cX11_phase 11 = .ok (.iaload, 1) := by decide +kernel
theorem dX11_phase_12 : decode cX11_phase 12 = .ok (.irem, 1) := by decide +kernel
theorem dX11_phase_13 : decode cX11_phase 13 = .ok (.ireturn, 1) := by decide +kernel
theorem dX11_isSunlit_0 : decode cX11_isSunlit 0 = .ok (.aload_n 0, 1) := by decide +kernel
theorem dX11_isSunlit_1 : decode cX11_isSunlit 1 = .ok (.invokevirtual 132, 3) := by decide +kernel
theorem dX11_isSunlit_4 : decode cX11_isSunlit 4 = .ok (.aload_n 0, 1) := by decide +kernel
theorem dX11_isSunlit_5 : decode cX11_isSunlit 5 = .ok (.getfield 7, 3) := by decide +kernel
theorem dX11_isSunlit_8 : decode cX11_isSunlit 8 = .ok (.iconst 3, 1) := by decide +kernel
theorem dX11_isSunlit_9 : decode cX11_isSunlit 9 = .ok (.iaload, 1) := by decide +kernel
theorem dX11_isSunlit_10 : decode cX11_isSunlit 10 = .ok (.if_icmp .lt 16, 3) := by decide +kernel
theorem dX11_isSunlit_13 : decode cX11_isSunlit 13 = .ok (.aload_n 0, 1) := by decide +kernel
theorem dX11_isSunlit_14 : decode cX11_isSunlit 14 = .ok (.invokevirtual 132, 3) := by decide +kernel
theorem dX11_isSunlit_17 : decode cX11_isSunlit 17 = .ok (.aload_n 0, 1) := by decide +kernel
theorem dX11_isSunlit_18 : decode cX11_isSunlit 18 = .ok (.getfield 7, 3) := by decide +kernel
theorem dX11_isSunlit_21 : decode cX11_isSunlit 21 = .ok (.iconst 4, 1) := by decide +kernel
theorem dX11_isSunlit_22 : decode cX11_isSunlit 22 = .ok (.iaload, 1) := by decide +kernel
theorem dX11_isSunlit_23 : decode cX11_isSunlit 23 = .ok (.if_icmp .lt 7, 3) := by decide +kernel
theorem dX11_isSunlit_26 : decode cX11_isSunlit 26 = .ok (.iconst 1, 1) := by decide +kernel
theorem dX11_isSunlit_27 : decode cX11_isSunlit 27 = .ok (.goto 4, 3) := by decide +kernel
theorem dX11_isSunlit_30 : decode cX11_isSunlit 30 = .ok (.iconst 0, 1) := by decide +kernel
theorem dX11_isSunlit_31 : decode cX11_isSunlit 31 = .ok (.ireturn, 1) := by decide +kernel
theorem dX11_charge_0 : decode cX11_charge 0 = .ok (.aload_n 0, 1) := by decide +kernel
theorem dX11_charge_1 : decode cX11_charge 1 = .ok (.getfield 7, 3) := by decide +kernel
theorem dX11_charge_4 : decode cX11_charge 4 = .ok (.bipush 11, 2) := by decide +kernel
theorem dX11_charge_6 : decode cX11_charge 6 = .ok (.iaload, 1) := by decide +kernel
theorem dX11_charge_7 : decode cX11_charge 7 = .ok (.ireturn, 1) := by decide +kernel
theorem dX11_usedPower_0 : decode cX11_usedPower 0 = .ok (.iconst 0, 1) := by decide +kernel
theorem dX11_usedPower_1 : decode cX11_usedPower 1 = .ok (.istore_n 1, 1) := by decide +kernel
theorem dX11_usedPower_2 : decode cX11_usedPower 2 = .ok (.iconst 0, 1) := by decide +kernel
theorem dX11_usedPower_3 : decode cX11_usedPower 3 = .ok (.istore_n 2, 1) := by decide +kernel
theorem dX11_usedPower_4 : decode cX11_usedPower 4 = .ok (.iload_n 2, 1) := by decide +kernel
theorem dX11_usedPower_5 : decode cX11_usedPower 5 = .ok (.aload_n 0, 1) := by decide +kernel
theorem dX11_usedPower_6 : decode cX11_usedPower 6 = .ok (.getfield 7, 3) := by decide +kernel
theorem dX11_usedPower_9 : decode cX11_usedPower 9 = .ok (.bipush 14, 2) := by decide +kernel
theorem dX11_usedPower_11 : decode cX11_usedPower 11 = .ok (.iaload, 1) := by decide +kernel
theorem dX11_usedPower_12 : decode cX11_usedPower 12 = .ok (.if_icmp .ge 33, 3) := by decide +kernel
theorem dX11_usedPower_15 : decode cX11_usedPower 15 = .ok (.iload_n 1, 1) := by decide +kernel
theorem dX11_usedPower_16 : decode cX11_usedPower 16 = .ok (.aload_n 0, 1) := by decide +kernel
theorem dX11_usedPower_17 : decode cX11_usedPower 17 = .ok (.iload_n 2, 1) := by decide +kernel
theorem dX11_usedPower_18 : decode cX11_usedPower 18 = .ok (.bipush 7, 2) := by decide +kernel
theorem dX11_usedPower_20 : decode cX11_usedPower 20 = .ok (.invokevirtual 128, 3) := by decide +kernel
theorem dX11_usedPower_23 : decode cX11_usedPower 23 = .ok (.iconst 1, 1) := by decide +kernel
theorem dX11_usedPower_24 : decode cX11_usedPower 24 = .ok (.if_icmp .ne 12, 3) := by decide +kernel
theorem dX11_usedPower_27 : decode cX11_usedPower 27 = .ok (.aload_n 0, 1) := by decide +kernel
theorem dX11_usedPower_28 : decode cX11_usedPower 28 = .ok (.iload_n 2, 1) := by decide +kernel
theorem dX11_usedPower_29 : decode cX11_usedPower 29 = .ok (.iconst 1, 1) := by decide +kernel
theorem dX11_usedPower_30 : decode cX11_usedPower 30 = .ok (.invokevirtual 128, 3) := by decide +kernel
theorem dX11_usedPower_33 : decode cX11_usedPower 33 = .ok (.goto 4, 3) := by decide +kernel
theorem dX11_usedPower_36 : decode cX11_usedPower 36 = .ok (.iconst 0, 1) := by decide +kernel
theorem dX11_usedPower_37 : decode cX11_usedPower 37 = .ok (.iadd, 1) := by decide +kernel
theorem dX11_usedPower_38 : decode cX11_usedPower 38 = .ok (.istore_n 1, 1) := by decide +kernel
theorem dX11_usedPower_39 : decode cX11_usedPower 39 = .ok (.iinc 2 1, 3) := by decide +kernel
theorem dX11_usedPower_42 : decode cX11_usedPower 42 = .ok (.goto (-38), 3) := by decide +kernel
theorem dX11_usedPower_45 : decode cX11_usedPower 45 = .ok (.iload_n 1, 1) := by decide +kernel
theorem dX11_usedPower_46 : decode cX11_usedPower 46 = .ok (.ireturn, 1) := by decide +kernel
theorem dX11_moveLouvres_0 : decode cX11_moveLouvres 0 = .ok (.iconst 0, 1) := by decide +kernel
theorem dX11_moveLouvres_1 : decode cX11_moveLouvres 1 = .ok (.istore_n 1, 1) := by decide +kernel
theorem dX11_moveLouvres_2 : decode cX11_moveLouvres 2 = .ok (.iload_n 1, 1) := by decide +kernel
theorem dX11_moveLouvres_3 : decode cX11_moveLouvres 3 = .ok (.aload_n 0, 1) := by decide +kernel
theorem dX11_moveLouvres_4 : decode cX11_moveLouvres 4 = .ok (.getfield 7, 3) := by decide +kernel
theorem dX11_moveLouvres_7 : decode cX11_moveLouvres 7 = .ok (.bipush 13, 2) := by decide +kernel
theorem dX11_moveLouvres_9 : decode cX11_moveLouvres 9 = .ok (.iaload, 1) := by decide +kernel
theorem dX11_moveLouvres_10 : decode cX11_moveLouvres 10 = .ok (.if_icmp .ge 72, 3) := by decide +kernel
theorem dX11_moveLouvres_13 : decode cX11_moveLouvres 13 = .ok (.aload_n 0, 1) := by decide +kernel
theorem dX11_moveLouvres_14 : decode cX11_moveLouvres 14 = .ok (.iload_n 1, 1) := by decide +kernel
theorem dX11_moveLouvres_15 : decode cX11_moveLouvres 15 = .ok (.bipush 6, 2) := by decide +kernel
theorem dX11_moveLouvres_17 : decode cX11_moveLouvres 17 = .ok (.invokevirtual 112, 3) := by decide +kernel
theorem dX11_moveLouvres_20 : decode cX11_moveLouvres 20 = .ok (.iconst 1, 1) := by decide +kernel
theorem dX11_moveLouvres_21 : decode cX11_moveLouvres 21 = .ok (.if_icmp .ne 6, 3) := by decide +kernel
theorem dX11_moveLouvres_24 : decode cX11_moveLouvres 24 = .ok (.goto 52, 3) := by decide +kernel
theorem dX11_moveLouvres_27 : decode cX11_moveLouvres 27 = .ok (.aload_n 0, 1) := by decide +kernel
theorem dX11_moveLouvres_28 : decode cX11_moveLouvres 28 = .ok (.iload_n 1, 1) := by decide +kernel
theorem dX11_moveLouvres_29 : decode cX11_moveLouvres 29 = .ok (.invokevirtual 121, 3) := by decide +kernel
theorem dX11_moveLouvres_32 : decode cX11_moveLouvres 32 = .ok (.aload_n 0, 1) := by decide +kernel
theorem dX11_moveLouvres_33 : decode cX11_moveLouvres 33 = .ok (.iload_n 1, 1) := by decide +kernel
theorem dX11_moveLouvres_34 : decode cX11_moveLouvres 34 = .ok (.iconst 5, 1) := by decide +kernel
theorem dX11_moveLouvres_35 : decode cX11_moveLouvres 35 = .ok (.invokevirtual 112, 3) := by decide +kernel
theorem dX11_moveLouvres_38 : decode cX11_moveLouvres 38 = .ok (.isub, 1) := by decide +kernel
theorem dX11_moveLouvres_39 : decode cX11_moveLouvres 39 = .ok (.istore_n 2, 1) := by decide +kernel
theorem dX11_moveLouvres_40 : decode cX11_moveLouvres 40 = .ok (.aload_n 0, 1) := by decide +kernel
theorem dX11_moveLouvres_41 : decode cX11_moveLouvres 41 = .ok (.iload_n 1, 1) := by decide +kernel
theorem dX11_moveLouvres_42 : decode cX11_moveLouvres 42 = .ok (.iconst 4, 1) := by decide +kernel
theorem dX11_moveLouvres_43 : decode cX11_moveLouvres 43 = .ok (.invokevirtual 112, 3) := by decide +kernel
theorem dX11_moveLouvres_46 : decode cX11_moveLouvres 46 = .ok (.istore_n 3, 1) := by decide +kernel
theorem dX11_moveLouvres_47 : decode cX11_moveLouvres 47 = .ok (.aload_n 0, 1) := by decide +kernel
theorem dX11_moveLouvres_48 : decode cX11_moveLouvres 48 = .ok (.getfield 7, 3) := by decide +kernel
theorem dX11_moveLouvres_51 : decode cX11_moveLouvres 51 = .ok (.sipush 296, 3) := by decide +kernel
theorem dX11_moveLouvres_54 : decode cX11_moveLouvres 54 = .ok (.bipush 7, 2) := by decide +kernel
theorem dX11_moveLouvres_56 : decode cX11_moveLouvres 56 = .ok (.iload_n 1, 1) := by decide +kernel
theorem dX11_moveLouvres_57 : decode cX11_moveLouvres 57 = .ok (.imul, 1) := by decide +kernel
theorem dX11_moveLouvres_58 : decode cX11_moveLouvres 58 = .ok (.iadd, 1) := by decide +kernel
theorem dX11_moveLouvres_59 : decode cX11_moveLouvres 59 = .ok (.iconst 5, 1) := by decide +kernel
theorem dX11_moveLouvres_60 : decode cX11_moveLouvres 60 = .ok (.iadd, 1) := by decide +kernel
theorem dX11_moveLouvres_61 : decode cX11_moveLouvres 61 = .ok (.dup2, 1) := by decide +kernel
theorem dX11_moveLouvres_62 : decode cX11_moveLouvres 62 = .ok (.iaload, 1) := by decide +kernel
theorem dX11_moveLouvres_63 : decode cX11_moveLouvres 63 = .ok (.iload_n 2, 1) := by decide +kernel
theorem dX11_moveLouvres_64 : decode cX11_moveLouvres 64 = .ok (.i2l, 1) := by decide +kernel
theorem dX11_moveLouvres_65 : decode cX11_moveLouvres 65 = .ok (.iload_n 3, 1) := by decide +kernel
theorem dX11_moveLouvres_66 : decode cX11_moveLouvres 66 = .ok (.ineg, 1) := by decide +kernel
theorem dX11_moveLouvres_67 : decode cX11_moveLouvres 67 = .ok (.i2l, 1) := by decide +kernel
theorem dX11_moveLouvres_68 : decode cX11_moveLouvres 68 = .ok (.iload_n 3, 1) := by decide +kernel
theorem dX11_moveLouvres_69 : decode cX11_moveLouvres 69 = .ok (.i2l, 1) := by decide +kernel
theorem dX11_moveLouvres_70 : decode cX11_moveLouvres 70 = .ok (.invokestatic 117, 3) := by decide +kernel
theorem dX11_moveLouvres_73 : decode cX11_moveLouvres 73 = .ok (.l2i, 1) := by decide +kernel
theorem dX11_moveLouvres_74 : decode cX11_moveLouvres 74 = .ok (.iadd, 1) := by decide +kernel
theorem dX11_moveLouvres_75 : decode cX11_moveLouvres 75 = .ok (.iastore, 1) := by decide +kernel
theorem dX11_moveLouvres_76 : decode cX11_moveLouvres 76 = .ok (.iinc 1 1, 3) := by decide +kernel
theorem dX11_moveLouvres_79 : decode cX11_moveLouvres 79 = .ok (.goto (-77), 3) := by decide +kernel
theorem dX11_moveLouvres_82 : decode cX11_moveLouvres 82 = .ok (.return_, 1) := by decide +kernel
theorem dX11_wishOf_0 : decode cX11_wishOf 0 = .ok (.aload_n 0, 1) := by decide +kernel
theorem dX11_wishOf_1 : decode cX11_wishOf 1 = .ok (.iload_n 1, 1) := by decide +kernel
theorem dX11_wishOf_2 : decode cX11_wishOf 2 = .ok (.iconst 5, 1) := by decide +kernel
theorem dX11_wishOf_3 : decode cX11_wishOf 3 = .ok (.invokevirtual 128, 3) := by decide +kernel
theorem dX11_wishOf_6 : decode cX11_wishOf 6 = .ok (.istore_n 2, 1) := by decide +kernel
theorem dX11_wishOf_7 : decode cX11_wishOf 7 = .ok (.iload_n 2, 1) := by decide +kernel
theorem dX11_wishOf_8 : decode cX11_wishOf 8 = .ok (.ifCond .eq 14, 3) := by decide +kernel
theorem dX11_wishOf_11 : decode cX11_wishOf 11 = .ok (.iload_n 2, 1) := by decide +kernel
theorem dX11_wishOf_12 : decode cX11_wishOf 12 = .ok (.iconst 1, 1) := by decide +kernel
theorem dX11_wishOf_13 : decode cX11_wishOf 13 = .ok (.if_icmp .ne 7, 3) := by decide +kernel
theorem dX11_wishOf_16 : decode cX11_wishOf 16 = .ok (.iconst 1, 1) := by decide +kernel
theorem dX11_wishOf_17 : decode cX11_wishOf 17 = .ok (.goto 4, 3) := by decide +kernel
theorem dX11_wishOf_20 : decode cX11_wishOf 20 = .ok (.iconst 0, 1) := by decide +kernel
theorem dX11_wishOf_21 : decode cX11_wishOf 21 = .ok (.ireturn, 1) := by decide +kernel
theorem dX11_wishOf_22 : decode cX11_wishOf 22 = .ok (.aload_n 0, 1) := by decide +kernel
theorem dX11_wishOf_23 : decode cX11_wishOf 23 = .ok (.aload_n 0, 1) := by decide +kernel
theorem dX11_wishOf_24 : decode cX11_wishOf 24 = .ok (.iload_n 1, 1) := by decide +kernel
theorem dX11_wishOf_25 : decode cX11_wishOf 25 = .ok (.iconst 0, 1) := by decide +kernel
theorem dX11_wishOf_26 : decode cX11_wishOf 26 = .ok (.invokevirtual 128, 3) := by decide +kernel
theorem dX11_wishOf_29 : decode cX11_wishOf 29 = .ok (.iconst 1, 1) := by decide +kernel
theorem dX11_wishOf_30 : decode cX11_wishOf 30 = .ok (.invokevirtual 89, 3) := by decide +kernel
theorem dX11_wishOf_33 : decode cX11_wishOf 33 = .ok (.istore_n 3, 1) := by decide +kernel
theorem dX11_wishOf_34 : decode cX11_wishOf 34 = .ok (.iload_n 3, 1) := by decide +kernel
theorem dX11_wishOf_35 : decode cX11_wishOf 35 = .ok (.aload_n 0, 1) := by decide +kernel
theorem dX11_wishOf_36 : decode cX11_wishOf 36 = .ok (.iload_n 1, 1) := by decide +kernel
theorem dX11_wishOf_37 : decode cX11_wishOf 37 = .ok (.iconst 2, 1) := by decide +kernel
theorem dX11_wishOf_38 : decode cX11_wishOf 38 = .ok (.invokevirtual 128, 3) := by decide +kernel
theorem dX11_wishOf_41 : decode cX11_wishOf 41 = .ok (.if_icmp .ge 5, 3) := by decide +kernel
theorem dX11_wishOf_44 : decode cX11_wishOf 44 = .ok (.iconst 1, 1) := by decide +kernel
theorem dX11_wishOf_45 : decode cX11_wishOf 45 = .ok (.ireturn, 1) := by decide +kernel
theorem dX11_wishOf_46 : decode cX11_wishOf 46 = .ok (.iload_n 3, 1) := by decide +kernel
theorem dX11_wishOf_47 : decode cX11_wishOf 47 = .ok (.aload_n 0, 1) := by decide +kernel
theorem dX11_wishOf_48 : decode cX11_wishOf 48 = .ok (.iload_n 1, 1) := by decide +kernel
theorem dX11_wishOf_49 : decode cX11_wishOf 49 = .ok (.iconst 3, 1) := by decide +kernel
theorem dX11_wishOf_50 : decode cX11_wishOf 50 = .ok (.invokevirtual 128, 3) := by decide +kernel
theorem dX11_wishOf_53 : decode cX11_wishOf 53 = .ok (.if_icmp .le 7, 3) := by decide +kernel
theorem dX11_wishOf_56 : decode cX11_wishOf 56 = .ok (.iconst 0, 1) := by decide +kernel
theorem dX11_wishOf_57 : decode cX11_wishOf 57 = .ok (.goto 10, 3) := by decide +kernel
theorem dX11_wishOf_60 : decode cX11_wishOf 60 = .ok (.aload_n 0, 1) := by decide +kernel
theorem dX11_wishOf_61 : decode cX11_wishOf 61 = .ok (.iload_n 1, 1) := by decide +kernel
theorem dX11_wishOf_62 : decode cX11_wishOf 62 = .ok (.bipush 6, 2) := by decide +kernel
theorem dX11_wishOf_64 : decode cX11_wishOf 64 = .ok (.invokevirtual 128, 3) := by decide +kernel
theorem dX11_wishOf_67 : decode cX11_wishOf 67 = .ok (.ireturn, 1) := by decide +kernel
theorem dX11_switchHeaters_0 : decode cX11_switchHeaters 0 = .ok (.aload_n 0, 1) := by decide +kernel
theorem dX11_switchHeaters_1 : decode cX11_switchHeaters 1 = .ok (.invokevirtual 135, 3) := by decide +kernel
theorem dX11_switchHeaters_4 : decode cX11_switchHeaters 4 = .ok (.ifCond .eq 14, 3) := by decide +kernel
theorem dX11_switchHeaters_7 : decode cX11_switchHeaters 7 = .ok (.aload_n 0, 1) := by decide +kernel
theorem dX11_switchHeaters_8 : decode cX11_switchHeaters 8 = .ok (.getfield 7, 3) := by decide +kernel
theorem dX11_switchHeaters_11 : decode cX11_switchHeaters 11 = .ok (.bipush 8, 2) := by decide +kernel
theorem dX11_switchHeaters_13 : decode cX11_switchHeaters 13 = .ok (.iaload, 1) := by decide +kernel
theorem dX11_switchHeaters_14 : decode cX11_switchHeaters 14 = .ok (.i2l, 1) := by decide +kernel
theorem dX11_switchHeaters_15 : decode cX11_switchHeaters 15 = .ok (.goto 4, 3) := by decide +kernel
theorem dX11_switchHeaters_18 : decode cX11_switchHeaters 18 = .ok (.lconst 0, 1) := by decide +kernel
theorem dX11_switchHeaters_19 : decode cX11_switchHeaters 19 = .ok (.lstore_n 1, 1) := by decide +kernel
theorem dX11_switchHeaters_20 : decode cX11_switchHeaters 20 = .ok (.lconst 0, 1) := by decide +kernel
theorem dX11_switchHeaters_21 : decode cX11_switchHeaters 21 = .ok (.aload_n 0, 1) := by decide +kernel
theorem dX11_switchHeaters_22 : decode cX11_switchHeaters 22 = .ok (.getfield 7, 3) := by decide +kernel
theorem dX11_switchHeaters_25 : decode cX11_switchHeaters 25 = .ok (.bipush 11, 2) := by decide +kernel
theorem dX11_switchHeaters_27 : decode cX11_switchHeaters 27 = .ok (.iaload, 1) := by decide +kernel
theorem dX11_switchHeaters_28 : decode cX11_switchHeaters 28 = .ok (.aload_n 0, 1) := by decide +kernel
theorem dX11_switchHeaters_29 : decode cX11_switchHeaters 29 = .ok (.getfield 7, 3) := by decide +kernel
theorem dX11_switchHeaters_32 : decode cX11_switchHeaters 32 = .ok (.iconst 1, 1) := by decide +kernel
theorem dX11_switchHeaters_33 : decode cX11_switchHeaters 33 = .ok (.iaload, 1) := by decide +kernel
theorem dX11_switchHeaters_34 : decode cX11_switchHeaters 34 = .ok (.idiv, 1) := by decide +kernel
theorem dX11_switchHeaters_35 : decode cX11_switchHeaters 35 = .ok (.i2l, 1) := by decide +kernel
theorem dX11_switchHeaters_36 : decode cX11_switchHeaters 36 = .ok (.aload_n 0, 1) := by decide +kernel
theorem dX11_switchHeaters_37 : decode cX11_switchHeaters 37 = .ok (.getfield 7, 3) := by decide +kernel
theorem dX11_switchHeaters_40 : decode cX11_switchHeaters 40 = .ok (.bipush 9, 2) := by decide +kernel
theorem dX11_switchHeaters_42 : decode cX11_switchHeaters 42 = .ok (.iaload, 1) := by decide +kernel
theorem dX11_switchHeaters_43 : decode cX11_switchHeaters 43 = .ok (.i2l, 1) := by decide +kernel
theorem dX11_switchHeaters_44 : decode cX11_switchHeaters 44 = .ok (.lsub, 1) := by decide +kernel
theorem dX11_switchHeaters_45 : decode cX11_switchHeaters 45 = .ok (.lload_n 1, 1) := by decide +kernel
theorem dX11_switchHeaters_46 : decode cX11_switchHeaters 46 = .ok (.ladd, 1) := by decide +kernel
theorem dX11_switchHeaters_47 : decode cX11_switchHeaters 47 = .ok (.invokestatic 64, 3) := by decide +kernel
theorem dX11_switchHeaters_50 : decode cX11_switchHeaters 50 = .ok (.lstore_n 3, 1) := by decide +kernel
theorem dX11_switchHeaters_51 : decode cX11_switchHeaters 51 = .ok (.iconst 0, 1) := by decide +kernel
theorem dX11_switchHeaters_52 : decode cX11_switchHeaters 52 = .ok (.istore 5, 2) := by decide +kernel
theorem dX11_switchHeaters_54 : decode cX11_switchHeaters 54 = .ok (.iload 5, 2) := by decide +kernel
theorem dX11_switchHeaters_56 : decode cX11_switchHeaters 56 = .ok (.aload_n 0, 1) := by decide +kernel
theorem dX11_switchHeaters_57 : decode cX11_switchHeaters 57 = .ok (.getfield 7, 3) := by decide +kernel
theorem dX11_switchHeaters_60 : decode cX11_switchHeaters 60 = .ok (.bipush 14, 2) := by decide +kernel
theorem dX11_switchHeaters_62 : decode cX11_switchHeaters 62 = .ok (.iaload, 1) := by decide +kernel
theorem dX11_switchHeaters_63 : decode cX11_switchHeaters 63 = .ok (.if_icmp .ge 50, 3) := by decide +kernel
theorem dX11_switchHeaters_66 : decode cX11_switchHeaters 66 = .ok (.aload_n 0, 1) := by decide +kernel
theorem dX11_switchHeaters_67 : decode cX11_switchHeaters 67 = .ok (.getfield 7, 3) := by decide +kernel
theorem dX11_switchHeaters_70 : decode cX11_switchHeaters 70 = .ok (.sipush 338, 3) := by decide +kernel
theorem dX11_switchHeaters_73 : decode cX11_switchHeaters 73 = .ok (.bipush 8, 2) := by decide +kernel
theorem dX11_switchHeaters_75 : decode cX11_switchHeaters 75 = .ok (.iload 5, 2) := by decide +kernel
theorem dX11_switchHeaters_77 : decode cX11_switchHeaters 77 = .ok (.imul, 1) := by decide +kernel
theorem dX11_switchHeaters_78 : decode cX11_switchHeaters 78 = .ok (.iadd, 1) := by decide +kernel
theorem dX11_switchHeaters_79 : decode cX11_switchHeaters 79 = .ok (.bipush 6, 2) := by decide +kernel
theorem dX11_switchHeaters_81 : decode cX11_switchHeaters 81 = .ok (.iadd, 1) := by decide +kernel
theorem dX11_switchHeaters_82 : decode cX11_switchHeaters 82 = .ok (.aload_n 0, 1) := by decide +kernel
theorem dX11_switchHeaters_83 : decode cX11_switchHeaters 83 = .ok (.iload 5, 2) := by decide +kernel
theorem dX11_switchHeaters_85 : decode cX11_switchHeaters 85 = .ok (.invokevirtual 139, 3) := by decide +kernel
theorem dX11_switchHeaters_88 : decode cX11_switchHeaters 88 = .ok (.iastore, 1) := by decide +kernel
theorem dX11_switchHeaters_89 : decode cX11_switchHeaters 89 = .ok (.aload_n 0, 1) := by decide +kernel
theorem dX11_switchHeaters_90 : decode cX11_switchHeaters 90 = .ok (.getfield 7, 3) := by decide +kernel
theorem dX11_switchHeaters_93 : decode cX11_switchHeaters 93 = .ok (.sipush 338, 3) := by decide +kernel
theorem dX11_switchHeaters_96 : decode cX11_switchHeaters 96 = .ok (.bipush 8, 2) := by decide +kernel
theorem dX11_switchHeaters_98 : decode cX11_switchHeaters 98 = .ok (.iload 5, 2) := by decide +kernel
theorem dX11_switchHeaters_100 : decode cX11_switchHeaters 100 = .ok (.imul, 1) := by decide +kernel
theorem dX11_switchHeaters_101 : decode cX11_switchHeaters 101 = .ok (.iadd, 1) := by decide +kernel
theorem dX11_switchHeaters_102 : decode cX11_switchHeaters 102 = .ok (.bipush 7, 2) := by decide +kernel
theorem dX11_switchHeaters_104 : decode cX11_switchHeaters 104 = .ok (.iadd, 1) := by decide +kernel
theorem dX11_switchHeaters_105 : decode cX11_switchHeaters 105 = .ok (.iconst 0, 1) := by decide +kernel
theorem dX11_switchHeaters_106 : decode cX11_switchHeaters 106 = .ok (.iastore, 1) := by decide +kernel
theorem dX11_switchHeaters_107 : decode cX11_switchHeaters 107 = .ok (.iinc 5 1, 3) := by decide +kernel
theorem dX11_switchHeaters_110 : decode cX11_switchHeaters 110 = .ok (.goto (-56), 3) := by decide +kernel
theorem dX11_switchHeaters_113 : decode cX11_switchHeaters 113 = .ok (.bipush 9, 2) := by decide +kernel
theorem dX11_switchHeaters_115 : decode cX11_switchHeaters 115 = .ok (.istore 5, 2) := by decide +kernel
theorem dX11_switchHeaters_117 : decode cX11_switchHeaters 117 = .ok (.iload 5, 2) := by decide +kernel
theorem dX11_switchHeaters_119 : decode cX11_switchHeaters 119 = .ok (.ifCond .lt 143, 3) := by decide +kernel
theorem dX11_switchHeaters_122 : decode cX11_switchHeaters 122 = .ok (.iconst 0, 1) := by decide +kernel
theorem dX11_switchHeaters_123 : decode cX11_switchHeaters 123 = .ok (.istore 6, 2) := by decide +kernel
theorem dX11_switchHeaters_125 : decode cX11_switchHeaters 125 = .ok (.iload 6, 2) := by decide +kernel
theorem dX11_switchHeaters_127 : decode cX11_switchHeaters 127 = .ok (.aload_n 0, 1) := by decide +kernel
theorem dX11_switchHeaters_128 : decode cX11_switchHeaters 128 = .ok (.getfield 7, 3) := by decide +kernel
theorem dX11_switchHeaters_131 : decode cX11_switchHeaters 131 = .ok (.bipush 14, 2) := by decide +kernel
theorem dX11_switchHeaters_133 : decode cX11_switchHeaters 133 = .ok (.iaload, 1) := by decide +kernel
theorem dX11_switchHeaters_134 : decode cX11_switchHeaters 134 = .ok (.if_icmp .ge 122, 3) := by decide +kernel
theorem dX11_switchHeaters_137 : decode cX11_switchHeaters 137 = .ok (.aload_n 0, 1) := by decide +kernel
theorem dX11_switchHeaters_138 : decode cX11_switchHeaters 138 = .ok (.iload 6, 2) := by decide +kernel
theorem dX11_switchHeaters_140 : decode cX11_switchHeaters 140 = .ok (.iconst 4, 1) := by decide +kernel
theorem dX11_switchHeaters_141 : decode cX11_switchHeaters 141 = .ok (.invokevirtual 128, 3) := by decide +kernel
theorem dX11_switchHeaters_144 : decode cX11_switchHeaters 144 = .ok (.iload 5, 2) := by decide +kernel
theorem dX11_switchHeaters_146 : decode cX11_switchHeaters 146 = .ok (.if_icmp .ne 104, 3) := by decide +kernel
theorem dX11_switchHeaters_149 : decode cX11_switchHeaters 149 = .ok (.aload_n 0, 1) := by decide +kernel
theorem dX11_switchHeaters_150 : decode cX11_switchHeaters 150 = .ok (.iload 6, 2) := by decide +kernel
theorem dX11_switchHeaters_152 : decode cX11_switchHeaters 152 = .ok (.bipush 6, 2) := by decide +kernel
theorem dX11_switchHeaters_154 : decode cX11_switchHeaters 154 = .ok (.invokevirtual 128, 3) := by decide +kernel
theorem dX11_switchHeaters_157 : decode cX11_switchHeaters 157 = .ok (.ifCond .ne 6, 3) := by decide +kernel
theorem dX11_switchHeaters_160 : decode cX11_switchHeaters 160 = .ok (.goto 90, 3) := by decide +kernel
theorem dX11_switchHeaters_163 : decode cX11_switchHeaters 163 = .ok (.aload_n 0, 1) := by decide +kernel
theorem dX11_switchHeaters_164 : decode cX11_switchHeaters 164 = .ok (.iload 6, 2) := by decide +kernel
theorem dX11_switchHeaters_166 : decode cX11_switchHeaters 166 = .ok (.iconst 1, 1) := by decide +kernel
theorem dX11_switchHeaters_167 : decode cX11_switchHeaters 167 = .ok (.invokevirtual 128, 3) := by decide +kernel
theorem dX11_switchHeaters_170 : decode cX11_switchHeaters 170 = .ok (.i2l, 1) := by decide +kernel
theorem dX11_switchHeaters_171 : decode cX11_switchHeaters 171 = .ok (.lload_n 3, 1) := by decide +kernel
theorem dX11_switchHeaters_172 : decode cX11_switchHeaters 172 = .ok (.lcmp, 1) := by decide +kernel
theorem dX11_switchHeaters_173 : decode cX11_switchHeaters 173 = .ok (.ifCond .gt 7, 3) := by decide +kernel
theorem dX11_switchHeaters_176 : decode cX11_switchHeaters 176 = .ok (.iconst 1, 1) := by decide +kernel
theorem dX11_switchHeaters_177 : decode cX11_switchHeaters 177 = .ok (.goto 4, 3) := by decide +kernel
theorem dX11_switchHeaters_180 : decode cX11_switchHeaters 180 = .ok (.iconst 0, 1) := by decide +kernel
theorem dX11_switchHeaters_181 : decode cX11_switchHeaters 181 = .ok (.istore 7, 2) := by decide +kernel
theorem dX11_switchHeaters_183 : decode cX11_switchHeaters 183 = .ok (.lload_n 3, 1) := by decide +kernel
theorem dX11_switchHeaters_184 : decode cX11_switchHeaters 184 = .ok (.iload 7, 2) := by decide +kernel
theorem dX11_switchHeaters_186 : decode cX11_switchHeaters 186 = .ok (.ifCond .eq 14, 3) := by decide +kernel
theorem dX11_switchHeaters_189 : decode cX11_switchHeaters 189 = .ok (.aload_n 0, 1) := by decide +kernel
theorem dX11_switchHeaters_190 : decode cX11_switchHeaters 190 = .ok (.iload 6, 2) := by decide +kernel
theorem dX11_switchHeaters_192 : decode cX11_switchHeaters 192 = .ok (.iconst 1, 1) := by decide +kernel
theorem dX11_switchHeaters_193 : decode cX11_switchHeaters 193 = .ok (.invokevirtual 128, 3) := by decide +kernel
theorem dX11_switchHeaters_196 : decode cX11_switchHeaters 196 = .ok (.i2l, 1) := by decide +kernel
theorem dX11_switchHeaters_197 : decode cX11_switchHeaters 197 = .ok (.goto 4, 3) := by decide +kernel
theorem dX11_switchHeaters_200 : decode cX11_switchHeaters 200 = .ok (.lconst 0, 1) := by decide +kernel
theorem dX11_switchHeaters_201 : decode cX11_switchHeaters 201 = .ok (.lsub, 1) := by decide +kernel
theorem dX11_switchHeaters_202 : decode cX11_switchHeaters 202 = .ok (.lstore_n 3, 1) := by decide +kernel
theorem dX11_switchHeaters_203 : decode cX11_switchHeaters 203 = .ok (.aload_n 0, 1) := by decide +kernel
theorem dX11_switchHeaters_204 : decode cX11_switchHeaters 204 = .ok (.getfield 7, 3) := by decide +kernel
theorem dX11_switchHeaters_207 : decode cX11_switchHeaters 207 = .ok (.sipush 338, 3) := by decide +kernel
theorem dX11_switchHeaters_210 : decode cX11_switchHeaters 210 = .ok (.bipush 8, 2) := by decide +kernel
theorem dX11_switchHeaters_212 : decode cX11_switchHeaters 212 = .ok (.iload 6, 2) := by decide +kernel
theorem dX11_switchHeaters_214 : decode cX11_switchHeaters 214 = .ok (.imul, 1) := by decide +kernel
theorem dX11_switchHeaters_215 : decode cX11_switchHeaters 215 = .ok (.iadd, 1) := by decide +kernel
theorem dX11_switchHeaters_216 : decode cX11_switchHeaters 216 = .ok (.bipush 7, 2) := by decide +kernel
theorem dX11_switchHeaters_218 : decode cX11_switchHeaters 218 = .ok (.iadd, 1) := by decide +kernel
theorem dX11_switchHeaters_219 : decode cX11_switchHeaters 219 = .ok (.iload 7, 2) := by decide +kernel
theorem dX11_switchHeaters_221 : decode cX11_switchHeaters 221 = .ok (.ifCond .eq 7, 3) := by decide +kernel
theorem dX11_switchHeaters_224 : decode cX11_switchHeaters 224 = .ok (.iconst 1, 1) := by decide +kernel
theorem dX11_switchHeaters_225 : decode cX11_switchHeaters 225 = .ok (.goto 4, 3) := by decide +kernel
theorem dX11_switchHeaters_228 : decode cX11_switchHeaters 228 = .ok (.iconst 2, 1) := by decide +kernel
theorem dX11_switchHeaters_229 : decode cX11_switchHeaters 229 = .ok (.iastore, 1) := by decide +kernel
theorem dX11_switchHeaters_230 : decode cX11_switchHeaters 230 = .ok (.aload_n 0, 1) := by decide +kernel
theorem dX11_switchHeaters_231 : decode cX11_switchHeaters 231 = .ok (.getfield 7, 3) := by decide +kernel
theorem dX11_switchHeaters_234 : decode cX11_switchHeaters 234 = .ok (.bipush 17, 2) := by decide +kernel
theorem dX11_switchHeaters_236 : decode cX11_switchHeaters 236 = .ok (.dup2, 1) := by decide +kernel
theorem dX11_switchHeaters_237 : decode cX11_switchHeaters 237 = .ok (.iaload, 1) := by decide +kernel
theorem dX11_switchHeaters_238 : decode cX11_switchHeaters 238 = .ok (.iload 7, 2) := by decide +kernel
theorem dX11_switchHeaters_240 : decode cX11_switchHeaters 240 = .ok (.ifCond .eq 7, 3) := by decide +kernel
theorem dX11_switchHeaters_243 : decode cX11_switchHeaters 243 = .ok (.iconst 0, 1) := by decide +kernel
theorem dX11_switchHeaters_244 : decode cX11_switchHeaters 244 = .ok (.goto 4, 3) := by decide +kernel
theorem dX11_switchHeaters_247 : decode cX11_switchHeaters 247 = .ok (.iconst 1, 1) := by decide +kernel
theorem dX11_switchHeaters_248 : decode cX11_switchHeaters 248 = .ok (.iadd, 1) := by decide +kernel
theorem dX11_switchHeaters_249 : decode cX11_switchHeaters 249 = .ok (.iastore, 1) := by decide +kernel
theorem dX11_switchHeaters_250 : decode cX11_switchHeaters 250 = .ok (.iinc 6 1, 3) := by decide +kernel
theorem dX11_switchHeaters_253 : decode cX11_switchHeaters 253 = .ok (.goto (-128), 3) := by decide +kernel
theorem dX11_switchHeaters_256 : decode cX11_switchHeaters 256 = .ok (.iinc 5 (-1), 3) := by decide +kernel
theorem dX11_switchHeaters_259 : decode cX11_switchHeaters 259 = .ok (.goto (-142), 3) := by decide +kernel
theorem dX11_switchHeaters_262 : decode cX11_switchHeaters 262 = .ok (.aload_n 0, 1) := by decide +kernel
theorem dX11_switchHeaters_263 : decode cX11_switchHeaters 263 = .ok (.getfield 7, 3) := by decide +kernel
theorem dX11_switchHeaters_266 : decode cX11_switchHeaters 266 = .ok (.bipush 11, 2) := by decide +kernel
theorem dX11_switchHeaters_268 : decode cX11_switchHeaters 268 = .ok (.iaload, 1) := by decide +kernel
theorem dX11_switchHeaters_269 : decode cX11_switchHeaters 269 = .ok (.i2l, 1) := by decide +kernel
theorem dX11_switchHeaters_270 : decode cX11_switchHeaters 270 = .ok (.aload_n 0, 1) := by decide +kernel
theorem dX11_switchHeaters_271 : decode cX11_switchHeaters 271 = .ok (.getfield 7, 3) := by decide +kernel
theorem dX11_switchHeaters_274 : decode cX11_switchHeaters 274 = .ok (.iconst 1, 1) := by decide +kernel
theorem dX11_switchHeaters_275 : decode cX11_switchHeaters 275 = .ok (.iaload, 1) := by decide +kernel
theorem dX11_switchHeaters_276 : decode cX11_switchHeaters 276 = .ok (.i2l, 1) := by decide +kernel
theorem dX11_switchHeaters_277 : decode cX11_switchHeaters 277 = .ok (.lload_n 1, 1) := by decide +kernel
theorem dX11_switchHeaters_278 : decode cX11_switchHeaters 278 = .ok (.aload_n 0, 1) := by decide +kernel
theorem dX11_switchHeaters_279 : decode cX11_switchHeaters 279 = .ok (.getfield 7, 3) := by decide +kernel
theorem dX11_switchHeaters_282 : decode cX11_switchHeaters 282 = .ok (.bipush 9, 2) := by decide +kernel
theorem dX11_switchHeaters_284 : decode cX11_switchHeaters 284 = .ok (.iaload, 1) := by decide +kernel
theorem dX11_switchHeaters_285 : decode cX11_switchHeaters 285 = .ok (.i2l, 1) := by decide +kernel
theorem dX11_switchHeaters_286 : decode cX11_switchHeaters 286 = .ok (.lsub, 1) := by decide +kernel
theorem dX11_switchHeaters_287 : decode cX11_switchHeaters 287 = .ok (.aload_n 0, 1) := by decide +kernel
theorem dX11_switchHeaters_288 : decode cX11_switchHeaters 288 = .ok (.invokevirtual 142, 3) := by decide +kernel
theorem dX11_switchHeaters_291 : decode cX11_switchHeaters 291 = .ok (.i2l, 1) := by decide +kernel
theorem dX11_switchHeaters_292 : decode cX11_switchHeaters 292 = .ok (.lsub, 1) := by decide +kernel
theorem dX11_switchHeaters_293 : decode cX11_switchHeaters 293 = .ok (.lmul, 1) := by decide +kernel
theorem dX11_switchHeaters_294 : decode cX11_switchHeaters 294 = .ok (.ladd, 1) := by decide +kernel
theorem dX11_switchHeaters_295 : decode cX11_switchHeaters 295 = .ok (.lstore 5, 2) := by decide +kernel
theorem dX11_switchHeaters_297 : decode cX11_switchHeaters 297 = .ok (.aload_n 0, 1) := by decide +kernel
theorem dX11_switchHeaters_298 : decode cX11_switchHeaters 298 = .ok (.getfield 7, 3) := by decide +kernel
theorem dX11_switchHeaters_301 : decode cX11_switchHeaters 301 = .ok (.bipush 11, 2) := by decide +kernel
theorem dX11_switchHeaters_303 : decode cX11_switchHeaters 303 = .ok (.lload 5, 2) := by decide +kernel
theorem dX11_switchHeaters_305 : decode cX11_switchHeaters 305 = .ok (.lconst 0, 1) := by decide +kernel
theorem dX11_switchHeaters_306 : decode cX11_switchHeaters 306 = .ok (.aload_n 0, 1) := by decide +kernel
theorem dX11_switchHeaters_307 : decode cX11_switchHeaters 307 = .ok (.getfield 7, 3) := by decide +kernel
theorem dX11_switchHeaters_310 : decode cX11_switchHeaters 310 = .ok (.bipush 10, 2) := by decide +kernel
theorem dX11_switchHeaters_312 : decode cX11_switchHeaters 312 = .ok (.iaload, 1) := by decide +kernel
theorem dX11_switchHeaters_313 : decode cX11_switchHeaters 313 = .ok (.i2l, 1) := by decide +kernel
theorem dX11_switchHeaters_314 : decode cX11_switchHeaters 314 = .ok (.invokestatic 117, 3) := by decide +kernel
theorem dX11_switchHeaters_317 : decode cX11_switchHeaters 317 = .ok (.l2i, 1) := by decide +kernel
theorem dX11_switchHeaters_318 : decode cX11_switchHeaters 318 = .ok (.iastore, 1) := by decide +kernel
theorem dX11_switchHeaters_319 : decode cX11_switchHeaters 319 = .ok (.return_, 1) := by decide +kernel
theorem dX11_exchangeHeat_0 : decode cX11_exchangeHeat 0 = .ok (.lconst 0, 1) := by decide +kernel
theorem dX11_exchangeHeat_1 : decode cX11_exchangeHeat 1 = .ok (.lstore_n 1, 1) := by decide +kernel
theorem dX11_exchangeHeat_2 : decode cX11_exchangeHeat 2 = .ok (.lconst 0, 1) := by decide +kernel
theorem dX11_exchangeHeat_3 : decode cX11_exchangeHeat 3 = .ok (.lstore_n 3, 1) := by decide +kernel
theorem dX11_exchangeHeat_4 : decode cX11_exchangeHeat 4 = .ok (.iconst 0, 1) := by decide +kernel
theorem dX11_exchangeHeat_5 : decode cX11_exchangeHeat 5 = .ok (.istore 5, 2) := by decide +kernel
theorem dX11_exchangeHeat_7 : decode cX11_exchangeHeat 7 = .ok (.iload 5, 2) := by decide +kernel
theorem dX11_exchangeHeat_9 : decode cX11_exchangeHeat 9 = .ok (.aload_n 0, 1) := by decide +kernel
theorem dX11_exchangeHeat_10 : decode cX11_exchangeHeat 10 = .ok (.getfield 7, 3) := by decide +kernel
theorem dX11_exchangeHeat_13 : decode cX11_exchangeHeat 13 = .ok (.bipush 12, 2) := by decide +kernel
theorem dX11_exchangeHeat_15 : decode cX11_exchangeHeat 15 = .ok (.iaload, 1) := by decide +kernel
theorem dX11_exchangeHeat_16 : decode cX11_exchangeHeat 16 = .ok (.if_icmp .ge 40, 3) := by decide +kernel
theorem dX11_exchangeHeat_19 : decode cX11_exchangeHeat 19 = .ok (.aload_n 0, 1) := by decide +kernel
theorem dX11_exchangeHeat_20 : decode cX11_exchangeHeat 20 = .ok (.getfield 33, 3) := by decide +kernel
theorem dX11_exchangeHeat_23 : decode cX11_exchangeHeat 23 = .ok (.iload 5, 2) := by decide +kernel
theorem dX11_exchangeHeat_25 : decode cX11_exchangeHeat 25 = .ok (.aload_n 0, 1) := by decide +kernel
theorem dX11_exchangeHeat_26 : decode cX11_exchangeHeat 26 = .ok (.iload 5, 2) := by decide +kernel
theorem dX11_exchangeHeat_28 : decode cX11_exchangeHeat 28 = .ok (.invokevirtual 145, 3) := by decide +kernel
theorem dX11_exchangeHeat_31 : decode cX11_exchangeHeat 31 = .ok (.lastore, 1) := by decide +kernel
theorem dX11_exchangeHeat_32 : decode cX11_exchangeHeat 32 = .ok (.lload_n 1, 1) := by decide +kernel
theorem dX11_exchangeHeat_33 : decode cX11_exchangeHeat 33 = .ok (.aload_n 0, 1) := by decide +kernel
theorem dX11_exchangeHeat_34 : decode cX11_exchangeHeat 34 = .ok (.iload 5, 2) := by decide +kernel
theorem dX11_exchangeHeat_36 : decode cX11_exchangeHeat 36 = .ok (.invokevirtual 149, 3) := by decide +kernel
theorem dX11_exchangeHeat_39 : decode cX11_exchangeHeat 39 = .ok (.ladd, 1) := by decide +kernel
theorem dX11_exchangeHeat_40 : decode cX11_exchangeHeat 40 = .ok (.lstore_n 1, 1) := by decide +kernel
theorem dX11_exchangeHeat_41 : decode cX11_exchangeHeat 41 = .ok (.lload_n 3, 1) := by decide +kernel
theorem dX11_exchangeHeat_42 : decode cX11_exchangeHeat 42 = .ok (.aload_n 0, 1) := by decide +kernel
theorem dX11_exchangeHeat_43 : decode cX11_exchangeHeat 43 = .ok (.iload 5, 2) := by decide +kernel
theorem dX11_exchangeHeat_45 : decode cX11_exchangeHeat 45 = .ok (.invokevirtual 152, 3) := by decide +kernel
theorem dX11_exchangeHeat_48 : decode cX11_exchangeHeat 48 = .ok (.ladd, 1) := by decide +kernel
theorem dX11_exchangeHeat_49 : decode cX11_exchangeHeat 49 = .ok (.lstore_n 3, 1) := by decide +kernel
theorem dX11_exchangeHeat_50 : decode cX11_exchangeHeat 50 = .ok (.iinc 5 1, 3) := by decide +kernel
theorem dX11_exchangeHeat_53 : decode cX11_exchangeHeat 53 = .ok (.goto (-46), 3) := by decide +kernel
theorem dX11_exchangeHeat_56 : decode cX11_exchangeHeat 56 = .ok (.aload_n 0, 1) := by decide +kernel
theorem dX11_exchangeHeat_57 : decode cX11_exchangeHeat 57 = .ok (.getfield 19, 3) := by decide +kernel
theorem dX11_exchangeHeat_60 : decode cX11_exchangeHeat 60 = .ok (.iconst 0, 1) := by decide +kernel
theorem dX11_exchangeHeat_61 : decode cX11_exchangeHeat 61 = .ok (.dup2, 1) := by decide +kernel
theorem dX11_exchangeHeat_62 : decode cX11_exchangeHeat 62 = .ok (.laload, 1) := by decide +kernel
theorem dX11_exchangeHeat_63 : decode cX11_exchangeHeat 63 = .ok (.aload_n 0, 1) := by decide +kernel
theorem dX11_exchangeHeat_64 : decode cX11_exchangeHeat 64 = .ok (.getfield 7, 3) := by decide +kernel
theorem dX11_exchangeHeat_67 : decode cX11_exchangeHeat 67 = .ok (.iconst 1, 1) := by decide +kernel
theorem dX11_exchangeHeat_68 : decode cX11_exchangeHeat 68 = .ok (.iaload, 1) := by decide +kernel
theorem dX11_exchangeHeat_69 : decode cX11_exchangeHeat 69 = .ok (.i2l, 1) := by decide +kernel
theorem dX11_exchangeHeat_70 : decode cX11_exchangeHeat 70 = .ok (.lload_n 1, 1) := by decide +kernel
theorem dX11_exchangeHeat_71 : decode cX11_exchangeHeat 71 = .ok (.lmul, 1) := by decide +kernel
theorem dX11_exchangeHeat_72 : decode cX11_exchangeHeat 72 = .ok (.ladd, 1) := by decide +kernel
theorem dX11_exchangeHeat_73 : decode cX11_exchangeHeat 73 = .ok (.lastore, 1) := by decide +kernel
theorem dX11_exchangeHeat_74 : decode cX11_exchangeHeat 74 = .ok (.aload_n 0, 1) := by decide +kernel
theorem dX11_exchangeHeat_75 : decode cX11_exchangeHeat 75 = .ok (.getfield 19, 3) := by decide +kernel
theorem dX11_exchangeHeat_78 : decode cX11_exchangeHeat 78 = .ok (.iconst 1, 1) := by decide +kernel
theorem dX11_exchangeHeat_79 : decode cX11_exchangeHeat 79 = .ok (.dup2, 1) := by decide +kernel
theorem dX11_exchangeHeat_80 : decode cX11_exchangeHeat 80 = .ok (.laload, 1) := by decide +kernel
theorem dX11_exchangeHeat_81 : decode cX11_exchangeHeat 81 = .ok (.aload_n 0, 1) := by decide +kernel
theorem dX11_exchangeHeat_82 : decode cX11_exchangeHeat 82 = .ok (.getfield 7, 3) := by decide +kernel
theorem dX11_exchangeHeat_85 : decode cX11_exchangeHeat 85 = .ok (.iconst 1, 1) := by decide +kernel
theorem dX11_exchangeHeat_86 : decode cX11_exchangeHeat 86 = .ok (.iaload, 1) := by decide +kernel
theorem dX11_exchangeHeat_87 : decode cX11_exchangeHeat 87 = .ok (.i2l, 1) := by decide +kernel
theorem dX11_exchangeHeat_88 : decode cX11_exchangeHeat 88 = .ok (.lload_n 3, 1) := by decide +kernel
theorem dX11_exchangeHeat_89 : decode cX11_exchangeHeat 89 = .ok (.lmul, 1) := by decide +kernel
theorem dX11_exchangeHeat_90 : decode cX11_exchangeHeat 90 = .ok (.ladd, 1) := by decide +kernel
theorem dX11_exchangeHeat_91 : decode cX11_exchangeHeat 91 = .ok (.lastore, 1) := by decide +kernel
theorem dX11_exchangeHeat_92 : decode cX11_exchangeHeat 92 = .ok (.aload_n 0, 1) := by decide +kernel
theorem dX11_exchangeHeat_93 : decode cX11_exchangeHeat 93 = .ok (.getfield 19, 3) := by decide +kernel
theorem dX11_exchangeHeat_96 : decode cX11_exchangeHeat 96 = .ok (.iconst 2, 1) := by decide +kernel
theorem dX11_exchangeHeat_97 : decode cX11_exchangeHeat 97 = .ok (.dup2, 1) := by decide +kernel
theorem dX11_exchangeHeat_98 : decode cX11_exchangeHeat 98 = .ok (.laload, 1) := by decide +kernel
theorem dX11_exchangeHeat_99 : decode cX11_exchangeHeat 99 = .ok (.aload_n 0, 1) := by decide +kernel
theorem dX11_exchangeHeat_100 : decode cX11_exchangeHeat 100 = .ok (.getfield 7, 3) := by decide +kernel
theorem dX11_exchangeHeat_103 : decode cX11_exchangeHeat 103 = .ok (.iconst 1, 1) := by decide +kernel
theorem dX11_exchangeHeat_104 : decode cX11_exchangeHeat 104 = .ok (.iaload, 1) := by decide +kernel
theorem dX11_exchangeHeat_105 : decode cX11_exchangeHeat 105 = .ok (.i2l, 1) := by decide +kernel
theorem dX11_exchangeHeat_106 : decode cX11_exchangeHeat 106 = .ok (.aload_n 0, 1) := by decide +kernel
theorem dX11_exchangeHeat_107 : decode cX11_exchangeHeat 107 = .ok (.invokevirtual 142, 3) := by decide +kernel
theorem dX11_exchangeHeat_110 : decode cX11_exchangeHeat 110 = .ok (.i2l, 1) := by decide +kernel
theorem dX11_exchangeHeat_111 : decode cX11_exchangeHeat 111 = .ok (.lmul, 1) := by decide +kernel
theorem dX11_exchangeHeat_112 : decode cX11_exchangeHeat 112 = .ok (.ladd, 1) := by decide +kernel
theorem dX11_exchangeHeat_113 : decode cX11_exchangeHeat 113 = .ok (.lastore, 1) := by decide +kernel
theorem dX11_exchangeHeat_114 : decode cX11_exchangeHeat 114 = .ok (.iconst 0, 1) := by decide +kernel
theorem dX11_exchangeHeat_115 : decode cX11_exchangeHeat 115 = .ok (.istore 5, 2) := by decide +kernel
theorem dX11_exchangeHeat_117 : decode cX11_exchangeHeat 117 = .ok (.iload 5, 2) := by decide +kernel
theorem dX11_exchangeHeat_119 : decode cX11_exchangeHeat 119 = .ok (.aload_n 0, 1) := by decide +kernel
theorem dX11_exchangeHeat_120 : decode cX11_exchangeHeat 120 = .ok (.getfield 7, 3) := by decide +kernel
theorem dX11_exchangeHeat_123 : decode cX11_exchangeHeat 123 = .ok (.bipush 12, 2) := by decide +kernel
theorem dX11_exchangeHeat_125 : decode cX11_exchangeHeat 125 = .ok (.iaload, 1) := by decide +kernel
theorem dX11_exchangeHeat_126 : decode cX11_exchangeHeat 126 = .ok (.if_icmp .ge 63, 3) := by decide +kernel
theorem dX11_exchangeHeat_129 : decode cX11_exchangeHeat 129 = .ok (.aload_n 0, 1) := by decide +kernel
theorem dX11_exchangeHeat_130 : decode cX11_exchangeHeat 130 = .ok (.iload 5, 2) := by decide +kernel
theorem dX11_exchangeHeat_132 : decode cX11_exchangeHeat 132 = .ok (.iconst 1, 1) := by decide +kernel
theorem dX11_exchangeHeat_133 : decode cX11_exchangeHeat 133 = .ok (.invokevirtual 89, 3) := by decide +kernel
theorem dX11_exchangeHeat_136 : decode cX11_exchangeHeat 136 = .ok (.i2l, 1) := by decide +kernel
theorem dX11_exchangeHeat_137 : decode cX11_exchangeHeat 137 = .ok (.aload_n 0, 1) := by decide +kernel
theorem dX11_exchangeHeat_138 : decode cX11_exchangeHeat 138 = .ok (.getfield 33, 3) := by decide +kernel
theorem dX11_exchangeHeat_141 : decode cX11_exchangeHeat 141 = .ok (.iload 5, 2) := by decide +kernel
theorem dX11_exchangeHeat_143 : decode cX11_exchangeHeat 143 = .ok (.laload, 1) := by decide +kernel
theorem dX11_exchangeHeat_144 : decode cX11_exchangeHeat 144 = .ok (.aload_n 0, 1) := by decide +kernel
theorem dX11_exchangeHeat_145 : decode cX11_exchangeHeat 145 = .ok (.getfield 7, 3) := by decide +kernel
theorem dX11_exchangeHeat_148 : decode cX11_exchangeHeat 148 = .ok (.iconst 1, 1) := by decide +kernel
theorem dX11_exchangeHeat_149 : decode cX11_exchangeHeat 149 = .ok (.iaload, 1) := by decide +kernel
theorem dX11_exchangeHeat_150 : decode cX11_exchangeHeat 150 = .ok (.i2l, 1) := by decide +kernel
theorem dX11_exchangeHeat_151 : decode cX11_exchangeHeat 151 = .ok (.lmul, 1) := by decide +kernel
theorem dX11_exchangeHeat_152 : decode cX11_exchangeHeat 152 = .ok (.aload_n 0, 1) := by decide +kernel
theorem dX11_exchangeHeat_153 : decode cX11_exchangeHeat 153 = .ok (.iload 5, 2) := by decide +kernel
theorem dX11_exchangeHeat_155 : decode cX11_exchangeHeat 155 = .ok (.iconst 0, 1) := by decide +kernel
theorem dX11_exchangeHeat_156 : decode cX11_exchangeHeat 156 = .ok (.invokevirtual 89, 3) := by decide +kernel
theorem dX11_exchangeHeat_159 : decode cX11_exchangeHeat 159 = .ok (.i2l, 1) := by decide +kernel
theorem dX11_exchangeHeat_160 : decode cX11_exchangeHeat 160 = .ok (.ldiv, 1) := by decide +kernel
theorem dX11_exchangeHeat_161 : decode cX11_exchangeHeat 161 = .ok (.ladd, 1) := by decide +kernel
theorem dX11_exchangeHeat_162 : decode cX11_exchangeHeat 162 = .ok (.lstore 6, 2) := by decide +kernel
theorem dX11_exchangeHeat_164 : decode cX11_exchangeHeat 164 = .ok (.aload_n 0, 1) := by decide +kernel
theorem dX11_exchangeHeat_165 : decode cX11_exchangeHeat 165 = .ok (.iload 5, 2) := by decide +kernel
theorem dX11_exchangeHeat_167 : decode cX11_exchangeHeat 167 = .ok (.iconst 1, 1) := by decide +kernel
theorem dX11_exchangeHeat_168 : decode cX11_exchangeHeat 168 = .ok (.lload 6, 2) := by decide +kernel
theorem dX11_exchangeHeat_170 : decode cX11_exchangeHeat 170 = .ok (.ldc2_w 155, 3) := by decide +kernel
theorem dX11_exchangeHeat_173 : decode cX11_exchangeHeat 173 = .ok (.ldc2_w 157, 3) := by decide +kernel
theorem dX11_exchangeHeat_176 : decode cX11_exchangeHeat 176 = .ok (.invokestatic 117, 3) := by decide +kernel
theorem dX11_exchangeHeat_179 : decode cX11_exchangeHeat 179 = .ok (.l2i, 1) := by decide +kernel
theorem dX11_exchangeHeat_180 : decode cX11_exchangeHeat 180 = .ok (.invokevirtual 81, 3) := by decide +kernel
theorem dX11_exchangeHeat_183 : decode cX11_exchangeHeat 183 = .ok (.iinc 5 1, 3) := by decide +kernel
theorem dX11_exchangeHeat_186 : decode cX11_exchangeHeat 186 = .ok (.goto (-69), 3) := by decide +kernel
theorem dX11_exchangeHeat_189 : decode cX11_exchangeHeat 189 = .ok (.return_, 1) := by decide +kernel
theorem dX11_isOutside_0 : decode cX11_isOutside 0 = .ok (.aload_n 0, 1) := by decide +kernel
theorem dX11_isOutside_1 : decode cX11_isOutside 1 = .ok (.iload_n 1, 1) := by decide +kernel
theorem dX11_isOutside_2 : decode cX11_isOutside 2 = .ok (.iconst 1, 1) := by decide +kernel
theorem dX11_isOutside_3 : decode cX11_isOutside 3 = .ok (.invokevirtual 89, 3) := by decide +kernel
theorem dX11_isOutside_6 : decode cX11_isOutside 6 = .ok (.aload_n 0, 1) := by decide +kernel
theorem dX11_isOutside_7 : decode cX11_isOutside 7 = .ok (.iload_n 1, 1) := by decide +kernel
theorem dX11_isOutside_8 : decode cX11_isOutside 8 = .ok (.iconst 5, 1) := by decide +kernel
theorem dX11_isOutside_9 : decode cX11_isOutside 9 = .ok (.invokevirtual 89, 3) := by decide +kernel
theorem dX11_isOutside_12 : decode cX11_isOutside 12 = .ok (.if_icmp .lt 19, 3) := by decide +kernel
theorem dX11_isOutside_15 : decode cX11_isOutside 15 = .ok (.aload_n 0, 1) := by decide +kernel
theorem dX11_isOutside_16 : decode cX11_isOutside 16 = .ok (.iload_n 1, 1) := by decide +kernel
theorem dX11_isOutside_17 : decode cX11_isOutside 17 = .ok (.iconst 1, 1) := by decide +kernel
theorem dX11_isOutside_18 : decode cX11_isOutside 18 = .ok (.invokevirtual 89, 3) := by decide +kernel
theorem dX11_isOutside_21 : decode cX11_isOutside 21 = .ok (.aload_n 0, 1) := by decide +kernel
theorem dX11_isOutside_22 : decode cX11_isOutside 22 = .ok (.iload_n 1, 1) := by decide +kernel
theorem dX11_isOutside_23 : decode cX11_isOutside 23 = .ok (.bipush 6, 2) := by decide +kernel
theorem dX11_isOutside_25 : decode cX11_isOutside 25 = .ok (.invokevirtual 89, 3) := by decide +kernel
theorem dX11_isOutside_28 : decode cX11_isOutside 28 = .ok (.if_icmp .le 7, 3) := by decide +kernel
theorem dX11_isOutside_31 : decode cX11_isOutside 31 = .ok (.iconst 1, 1) := by decide +kernel
theorem dX11_isOutside_32 : decode cX11_isOutside 32 = .ok (.goto 4, 3) := by decide +kernel
theorem dX11_isOutside_35 : decode cX11_isOutside 35 = .ok (.iconst 0, 1) := by decide +kernel
theorem dX11_isOutside_36 : decode cX11_isOutside 36 = .ok (.ireturn, 1) := by decide +kernel
theorem dX11_updateRecords_0 : decode cX11_updateRecords 0 = .ok (.iconst 0, 1) := by decide +kernel
theorem dX11_updateRecords_1 : decode cX11_updateRecords 1 = .ok (.istore_n 1, 1) := by decide +kernel
theorem dX11_updateRecords_2 : decode cX11_updateRecords 2 = .ok (.iconst 0, 1) := by decide +kernel
theorem dX11_updateRecords_3 : decode cX11_updateRecords 3 = .ok (.istore_n 2, 1) := by decide +kernel
theorem dX11_updateRecords_4 : decode cX11_updateRecords 4 = .ok (.iload_n 2, 1) := by decide +kernel
theorem dX11_updateRecords_5 : decode cX11_updateRecords 5 = .ok (.aload_n 0, 1) := by decide +kernel
theorem dX11_updateRecords_6 : decode cX11_updateRecords 6 = .ok (.getfield 7, 3) := by decide +kernel
theorem dX11_updateRecords_9 : decode cX11_updateRecords 9 = .ok (.bipush 12, 2) := by decide +kernel
theorem dX11_updateRecords_11 : decode cX11_updateRecords 11 = .ok (.iaload, 1) := by decide +kernel
theorem dX11_updateRecords_12 : decode cX11_updateRecords 12 = .ok (.if_icmp .ge 133, 3) := by decide +kernel
theorem dX11_updateRecords_15 : decode cX11_updateRecords 15 = .ok (.aload_n 0, 1) := by decide +kernel
theorem dX11_updateRecords_16 : decode cX11_updateRecords 16 = .ok (.iload_n 2, 1) := by decide +kernel
theorem dX11_updateRecords_17 : decode cX11_updateRecords 17 = .ok (.iconst 1, 1) := by decide +kernel
theorem dX11_updateRecords_18 : decode cX11_updateRecords 18 = .ok (.invokevirtual 89, 3) := by decide +kernel
theorem dX11_updateRecords_21 : decode cX11_updateRecords 21 = .ok (.istore_n 3, 1) := by decide +kernel
theorem dX11_updateRecords_22 : decode cX11_updateRecords 22 = .ok (.aload_n 0, 1) := by decide +kernel
theorem dX11_updateRecords_23 : decode cX11_updateRecords 23 = .ok (.iload_n 2, 1) := by decide +kernel
theorem dX11_updateRecords_24 : decode cX11_updateRecords 24 = .ok (.bipush 7, 2) := by decide +kernel
theorem dX11_updateRecords_26 : decode cX11_updateRecords 26 = .ok (.iload_n 3, 1) := by decide +kernel
theorem dX11_updateRecords_27 : decode cX11_updateRecords 27 = .ok (.aload_n 0, 1) := by decide +kernel
theorem dX11_updateRecords_28 : decode cX11_updateRecords 28 = .ok (.iload_n 2, 1) := by decide +kernel
theorem dX11_updateRecords_29 : decode cX11_updateRecords 29 = .ok (.bipush 7, 2) := by decide +kernel
theorem dX11_updateRecords_31 : decode cX11_updateRecords 31 = .ok (.invokevirtual 89, 3) := by decide +kernel
theorem dX11_updateRecords_34 : decode cX11_updateRecords 34 = .ok (.invokestatic 159, 3) := by decide +kernel
theorem dX11_updateRecords_37 : decode cX11_updateRecords 37 = .ok (.invokevirtual 81, 3) := by decide +kernel
theorem dX11_updateRecords_40 : decode cX11_updateRecords 40 = .ok (.aload_n 0, 1) := by decide +kernel
theorem dX11_updateRecords_41 : decode cX11_updateRecords 41 = .ok (.iload_n 2, 1) := by decide +kernel
theorem dX11_updateRecords_42 : decode cX11_updateRecords 42 = .ok (.bipush 8, 2) := by decide +kernel
theorem dX11_updateRecords_44 : decode cX11_updateRecords 44 = .ok (.iload_n 3, 1) := by decide +kernel
theorem dX11_updateRecords_45 : decode cX11_updateRecords 45 = .ok (.aload_n 0, 1) := by decide +kernel
theorem dX11_updateRecords_46 : decode cX11_updateRecords 46 = .ok (.iload_n 2, 1) := by decide +kernel
theorem dX11_updateRecords_47 : decode cX11_updateRecords 47 = .ok (.bipush 8, 2) := by decide +kernel
theorem dX11_updateRecords_49 : decode cX11_updateRecords 49 = .ok (.invokevirtual 89, 3) := by decide +kernel
theorem dX11_updateRecords_52 : decode cX11_updateRecords 52 = .ok (.invokestatic 161, 3) := by decide +kernel
theorem dX11_updateRecords_55 : decode cX11_updateRecords 55 = .ok (.invokevirtual 81, 3) := by decide +kernel
theorem dX11_updateRecords_58 : decode cX11_updateRecords 58 = .ok (.aload_n 0, 1) := by decide +kernel
theorem dX11_updateRecords_59 : decode cX11_updateRecords 59 = .ok (.iload_n 2, 1) := by decide +kernel
theorem dX11_updateRecords_60 : decode cX11_updateRecords 60 = .ok (.invokevirtual 163, 3) := by decide +kernel
theorem dX11_updateRecords_63 : decode cX11_updateRecords 63 = .ok (.ifCond .ne 6, 3) := by decide +kernel
theorem dX11_updateRecords_66 : decode cX11_updateRecords 66 = .ok (.goto 73, 3) := by decide +kernel
theorem dX11_updateRecords_69 : decode cX11_updateRecords 69 = .ok (.iconst 1, 1) := by decide +kernel
theorem dX11_updateRecords_70 : decode cX11_updateRecords 70 = .ok (.istore_n 1, 1) := by decide +kernel
theorem dX11_updateRecords_71 : decode cX11_updateRecords 71 = .ok (.aload_n 0, 1) := by decide +kernel
theorem dX11_updateRecords_72 : decode cX11_updateRecords 72 = .ok (.iload_n 2, 1) := by decide +kernel
theorem dX11_updateRecords_73 : decode cX11_updateRecords 73 = .ok (.bipush 9, 2) := by decide +kernel
theorem dX11_updateRecords_75 : decode cX11_updateRecords 75 = .ok (.aload_n 0, 1) := by decide +kernel
theorem dX11_updateRecords_76 : decode cX11_updateRecords 76 = .ok (.iload_n 2, 1) := by decide +kernel
theorem dX11_updateRecords_77 : decode cX11_updateRecords 77 = .ok (.bipush 9, 2) := by decide +kernel
theorem dX11_updateRecords_79 : decode cX11_updateRecords 79 = .ok (.invokevirtual 89, 3) := by decide +kernel
theorem dX11_updateRecords_82 : decode cX11_updateRecords 82 = .ok (.iconst 1, 1) := by decide +kernel
theorem dX11_updateRecords_83 : decode cX11_updateRecords 83 = .ok (.iadd, 1) := by decide +kernel
theorem dX11_updateRecords_84 : decode cX11_updateRecords 84 = .ok (.invokevirtual 81, 3) := by decide +kernel
theorem dX11_updateRecords_87 : decode cX11_updateRecords 87 = .ok (.aload_n 0, 1) := by decide +kernel
theorem dX11_updateRecords_88 : decode cX11_updateRecords 88 = .ok (.iload_n 2, 1) := by decide +kernel
theorem dX11_updateRecords_89 : decode cX11_updateRecords 89 = .ok (.bipush 10, 2) := by decide +kernel
theorem dX11_updateRecords_91 : decode cX11_updateRecords 91 = .ok (.invokevirtual 89, 3) := by decide +kernel
theorem dX11_updateRecords_94 : decode cX11_updateRecords 94 = .ok (.iconst (-1), 1) := by decide +kernel
theorem dX11_updateRecords_95 : decode cX11_updateRecords 95 = .ok (.if_icmp .ne 44, 3) := by decide +kernel
theorem dX11_updateRecords_98 : decode cX11_updateRecords 98 = .ok (.aload_n 0, 1) := by decide +kernel
theorem dX11_updateRecords_99 : decode cX11_updateRecords 99 = .ok (.iload_n 2, 1) := by decide +kernel
theorem dX11_updateRecords_100 : decode cX11_updateRecords 100 = .ok (.bipush 10, 2) := by decide +kernel
theorem dX11_updateRecords_102 : decode cX11_updateRecords 102 = .ok (.aload_n 0, 1) := by decide +kernel
theorem dX11_updateRecords_103 : decode cX11_updateRecords 103 = .ok (.getfield 7, 3) := by decide +kernel
theorem dX11_updateRecords_106 : decode cX11_updateRecords 106 = .ok (.iconst 0, 1) := by decide +kernel
theorem dX11_updateRecords_107 : decode cX11_updateRecords 107 = .ok (.iaload, 1) := by decide +kernel
theorem dX11_updateRecords_108 : decode cX11_updateRecords 108 = .ok (.invokevirtual 81, 3) := by decide +kernel
theorem dX11_updateRecords_111 : decode cX11_updateRecords 111 = .ok (.aload_n 0, 1) := by decide +kernel
theorem dX11_updateRecords_112 : decode cX11_updateRecords 112 = .ok (.getfield 7, 3) := by decide +kernel
theorem dX11_updateRecords_115 : decode cX11_updateRecords 115 = .ok (.sipush 402, 3) := by decide +kernel
theorem dX11_updateRecords_118 : decode cX11_updateRecords 118 = .ok (.aload_n 0, 1) := by decide +kernel
theorem dX11_updateRecords_119 : decode cX11_updateRecords 119 = .ok (.getfield 7, 3) := by decide +kernel
theorem dX11_updateRecords_122 : decode cX11_updateRecords 122 = .ok (.bipush 16, 2) := by decide +kernel
theorem dX11_updateRecords_124 : decode cX11_updateRecords 124 = .ok (.iaload, 1) := by decide +kernel
theorem dX11_updateRecords_125 : decode cX11_updateRecords 125 = .ok (.iadd, 1) := by decide +kernel
theorem dX11_updateRecords_126 : decode cX11_updateRecords 126 = .ok (.iload_n 2, 1) := by decide +kernel
theorem dX11_updateRecords_127 : decode cX11_updateRecords 127 = .ok (.iastore, 1) := by decide +kernel
theorem dX11_updateRecords_128 : decode cX11_updateRecords 128 = .ok (.aload_n 0, 1) := by decide +kernel
theorem dX11_updateRecords_129 : decode cX11_updateRecords 129 = .ok (.getfield 7, 3) := by decide +kernel
theorem dX11_updateRecords_132 : decode cX11_updateRecords 132 = .ok (.bipush 16, 2) := by decide +kernel
theorem dX11_updateRecords_134 : decode cX11_updateRecords 134 = .ok (.dup2, 1) := by decide +kernel
theorem dX11_updateRecords_135 : decode cX11_updateRecords 135 = .ok (.iaload, 1) := by decide +kernel
theorem dX11_updateRecords_136 : decode cX11_updateRecords 136 = .ok (.iconst 1, 1) := by decide +kernel
theorem dX11_updateRecords_137 : decode cX11_updateRecords 137 = .ok (.iadd, 1) := by decide +kernel
theorem dX11_updateRecords_138 : decode cX11_updateRecords 138 = .ok (.iastore, 1) := by decide +kernel
theorem dX11_updateRecords_139 : decode cX11_updateRecords 139 = .ok (.iinc 2 1, 3) := by decide +kernel
theorem dX11_updateRecords_142 : decode cX11_updateRecords 142 = .ok (.goto (-138), 3) := by decide +kernel
theorem dX11_updateRecords_145 : decode cX11_updateRecords 145 = .ok (.iload_n 1, 1) := by decide +kernel
theorem dX11_updateRecords_146 : decode cX11_updateRecords 146 = .ok (.ireturn, 1) := by decide +kernel
theorem dX11_step_0 : decode cX11_step 0 = .ok (.iconst 0, 1) := by decide +kernel
theorem dX11_step_1 : decode cX11_step 1 = .ok (.istore_n 1, 1) := by decide +kernel
theorem dX11_step_2 : decode cX11_step 2 = .ok (.iload_n 1, 1) := by decide +kernel
theorem dX11_step_3 : decode cX11_step 3 = .ok (.aload_n 0, 1) := by decide +kernel
theorem dX11_step_4 : decode cX11_step 4 = .ok (.getfield 7, 3) := by decide +kernel
theorem dX11_step_7 : decode cX11_step 7 = .ok (.bipush 15, 2) := by decide +kernel
theorem dX11_step_9 : decode cX11_step 9 = .ok (.iaload, 1) := by decide +kernel
theorem dX11_step_10 : decode cX11_step 10 = .ok (.if_icmp .ge 14, 3) := by decide +kernel
theorem dX11_step_13 : decode cX11_step 13 = .ok (.aload_n 0, 1) := by decide +kernel
theorem dX11_step_14 : decode cX11_step 14 = .ok (.iload_n 1, 1) := by decide +kernel
theorem dX11_step_15 : decode cX11_step 15 = .ok (.invokevirtual 166, 3) := by decide +kernel
theorem dX11_step_18 : decode cX11_step 18 = .ok (.iinc 1 1, 3) := by decide +kernel
theorem dX11_step_21 : decode cX11_step 21 = .ok (.goto (-19), 3) := by decide +kernel
theorem dX11_step_24 : decode cX11_step 24 = .ok (.aload_n 0, 1) := by decide +kernel
theorem dX11_step_25 : decode cX11_step 25 = .ok (.invokevirtual 169, 3) := by decide +kernel
theorem dX11_step_28 : decode cX11_step 28 = .ok (.aload_n 0, 1) := by decide +kernel
theorem dX11_step_29 : decode cX11_step 29 = .ok (.invokevirtual 172, 3) := by decide +kernel
theorem dX11_step_32 : decode cX11_step 32 = .ok (.aload_n 0, 1) := by decide +kernel
theorem dX11_step_33 : decode cX11_step 33 = .ok (.invokevirtual 175, 3) := by decide +kernel
theorem dX11_step_36 : decode cX11_step 36 = .ok (.aload_n 0, 1) := by decide +kernel
theorem dX11_step_37 : decode cX11_step 37 = .ok (.getfield 7, 3) := by decide +kernel
theorem dX11_step_40 : decode cX11_step 40 = .ok (.iconst 0, 1) := by decide +kernel
theorem dX11_step_41 : decode cX11_step 41 = .ok (.dup2, 1) := by decide +kernel
theorem dX11_step_42 : decode cX11_step 42 = .ok (.iaload, 1) := by decide +kernel
theorem dX11_step_43 : decode cX11_step 43 = .ok (.aload_n 0, 1) := by decide +kernel
theorem dX11_step_44 : decode cX11_step 44 = .ok (.getfield 7, 3) := by decide +kernel
theorem dX11_step_47 : decode cX11_step 47 = .ok (.iconst 1, 1) := by decide +kernel
theorem dX11_step_48 : decode cX11_step 48 = .ok (.iaload, 1) := by decide +kernel
theorem dX11_step_49 : decode cX11_step 49 = .ok (.iadd, 1) := by decide +kernel
theorem dX11_step_50 : decode cX11_step 50 = .ok (.iastore, 1) := by decide +kernel
theorem dX11_step_51 : decode cX11_step 51 = .ok (.aload_n 0, 1) := by decide +kernel
theorem dX11_step_52 : decode cX11_step 52 = .ok (.invokevirtual 178, 3) := by decide +kernel
theorem dX11_step_55 : decode cX11_step 55 = .ok (.ireturn, 1) := by decide +kernel
theorem dX11_run_0 : decode cX11_run 0 = .ok (.iload_n 1, 1) := by decide +kernel
theorem dX11_run_1 : decode cX11_run 1 = .ok (.iconst 1, 1) := by decide +kernel
theorem dX11_run_2 : decode cX11_run 2 = .ok (.sipush 1000, 3) := by decide +kernel
theorem dX11_run_5 : decode cX11_run 5 = .ok (.invokestatic 67, 3) := by decide +kernel
theorem dX11_run_8 : decode cX11_run 8 = .ok (.ifCond .eq 23, 3) := by decide +kernel
theorem dX11_run_11 : decode cX11_run 11 = .ok (.aload_n 0, 1) := by decide +kernel
theorem dX11_run_12 : decode cX11_run 12 = .ok (.getfield 7, 3) := by decide +kernel
theorem dX11_run_15 : decode cX11_run 15 = .ok (.iconst 0, 1) := by decide +kernel
theorem dX11_run_16 : decode cX11_run 16 = .ok (.iaload, 1) := by decide +kernel
theorem dX11_run_17 : decode cX11_run 17 = .ok (.iload_n 1, 1) := by decide +kernel
theorem dX11_run_18 : decode cX11_run 18 = .ok (.aload_n 0, 1) := by decide +kernel
theorem dX11_run_19 : decode cX11_run 19 = .ok (.getfield 7, 3) := by decide +kernel
theorem dX11_run_22 : decode cX11_run 22 = .ok (.iconst 1, 1) := by decide +kernel
theorem dX11_run_23 : decode cX11_run 23 = .ok (.iaload, 1) := by decide +kernel
theorem dX11_run_24 : decode cX11_run 24 = .ok (.imul, 1) := by decide +kernel
theorem dX11_run_25 : decode cX11_run 25 = .ok (.iadd, 1) := by decide +kernel
theorem dX11_run_26 : decode cX11_run 26 = .ok (.ldc 181, 2) := by decide +kernel
theorem dX11_run_28 : decode cX11_run 28 = .ok (.if_icmp .le 6, 3) := by decide +kernel
theorem dX11_run_31 : decode cX11_run 31 = .ok (.ldc 79, 2) := by decide +kernel
theorem dX11_run_33 : decode cX11_run 33 = .ok (.ireturn, 1) := by decide +kernel
theorem dX11_run_34 : decode cX11_run 34 = .ok (.iconst 0, 1) := by decide +kernel
theorem dX11_run_35 : decode cX11_run 35 = .ok (.istore_n 2, 1) := by decide +kernel
theorem dX11_run_36 : decode cX11_run 36 = .ok (.iconst 0, 1) := by decide +kernel
theorem dX11_run_37 : decode cX11_run 37 = .ok (.istore_n 3, 1) := by decide +kernel
theorem dX11_run_38 : decode cX11_run 38 = .ok (.iload_n 3, 1) := by decide +kernel
theorem dX11_run_39 : decode cX11_run 39 = .ok (.iload_n 1, 1) := by decide +kernel
theorem dX11_run_40 : decode cX11_run 40 = .ok (.if_icmp .ge 24, 3) := by decide +kernel
theorem dX11_run_43 : decode cX11_run 43 = .ok (.iload_n 2, 1) := by decide +kernel
theorem dX11_run_44 : decode cX11_run 44 = .ok (.aload_n 0, 1) := by decide +kernel
theorem dX11_run_45 : decode cX11_run 45 = .ok (.invokevirtual 182, 3) := by decide +kernel
theorem dX11_run_48 : decode cX11_run 48 = .ok (.ifCond .eq 7, 3) := by decide +kernel
theorem dX11_run_51 : decode cX11_run 51 = .ok (.iconst 1, 1) := by decide +kernel
theorem dX11_run_52 : decode cX11_run 52 = .ok (.goto 4, 3) := by decide +kernel
theorem dX11_run_55 : decode cX11_run 55 = .ok (.iconst 0, 1) := by decide +kernel
theorem dX11_run_56 : decode cX11_run 56 = .ok (.iadd, 1) := by decide +kernel
theorem dX11_run_57 : decode cX11_run 57 = .ok (.istore_n 2, 1) := by decide +kernel
theorem dX11_run_58 : decode cX11_run 58 = .ok (.iinc 3 1, 3) := by decide +kernel
theorem dX11_run_61 : decode cX11_run 61 = .ok (.goto (-23), 3) := by decide +kernel
theorem dX11_run_64 : decode cX11_run 64 = .ok (.iload_n 2, 1) := by decide +kernel
theorem dX11_run_65 : decode cX11_run 65 = .ok (.ireturn, 1) := by decide +kernel
theorem dX11_absorbedBy_0 : decode cX11_absorbedBy 0 = .ok (.aload_n 0, 1) := by decide +kernel
theorem dX11_absorbedBy_1 : decode cX11_absorbedBy 1 = .ok (.iload_n 1, 1) := by decide +kernel
theorem dX11_absorbedBy_2 : decode cX11_absorbedBy 2 = .ok (.iconst 2, 1) := by decide +kernel
theorem dX11_absorbedBy_3 : decode cX11_absorbedBy 3 = .ok (.invokevirtual 89, 3) := by decide +kernel
theorem dX11_absorbedBy_6 : decode cX11_absorbedBy 6 = .ok (.i2l, 1) := by decide +kernel
theorem dX11_absorbedBy_7 : decode cX11_absorbedBy 7 = .ok (.aload_n 0, 1) := by decide +kernel
theorem dX11_absorbedBy_8 : decode cX11_absorbedBy 8 = .ok (.getfield 7, 3) := by decide +kernel
theorem dX11_absorbedBy_11 : decode cX11_absorbedBy 11 = .ok (.bipush 7, 2) := by decide +kernel
theorem dX11_absorbedBy_13 : decode cX11_absorbedBy 13 = .ok (.iaload, 1) := by decide +kernel
theorem dX11_absorbedBy_14 : decode cX11_absorbedBy 14 = .ok (.i2l, 1) := by decide +kernel
theorem dX11_absorbedBy_15 : decode cX11_absorbedBy 15 = .ok (.lmul, 1) := by decide +kernel
theorem dX11_absorbedBy_16 : decode cX11_absorbedBy 16 = .ok (.ldc2_w 185, 3) := by decide +kernel
theorem dX11_absorbedBy_19 : decode cX11_absorbedBy 19 = .ok (.ldiv, 1) := by decide +kernel
theorem dX11_absorbedBy_20 : decode cX11_absorbedBy 20 = .ok (.lstore_n 2, 1) := by decide +kernel
theorem dX11_absorbedBy_21 : decode cX11_absorbedBy 21 = .ok (.aload_n 0, 1) := by decide +kernel
theorem dX11_absorbedBy_22 : decode cX11_absorbedBy 22 = .ok (.invokevirtual 135, 3) := by decide +kernel
theorem dX11_absorbedBy_25 : decode cX11_absorbedBy 25 = .ok (.ifCond .eq 45, 3) := by decide +kernel
theorem dX11_absorbedBy_28 : decode cX11_absorbedBy 28 = .ok (.aload_n 0, 1) := by decide +kernel
theorem dX11_absorbedBy_29 : decode cX11_absorbedBy 29 = .ok (.iload_n 1, 1) := by decide +kernel
theorem dX11_absorbedBy_30 : decode cX11_absorbedBy 30 = .ok (.iconst 3, 1) := by decide +kernel
theorem dX11_absorbedBy_31 : decode cX11_absorbedBy 31 = .ok (.invokevirtual 89, 3) := by decide +kernel
theorem dX11_absorbedBy_34 : decode cX11_absorbedBy 34 = .ok (.i2l, 1) := by decide +kernel
theorem dX11_absorbedBy_35 : decode cX11_absorbedBy 35 = .ok (.aload_n 0, 1) := by decide +kernel
theorem dX11_absorbedBy_36 : decode cX11_absorbedBy 36 = .ok (.getfield 7, 3) := by decide +kernel
theorem dX11_absorbedBy_39 : decode cX11_absorbedBy 39 = .ok (.iconst 5, 1) := by decide +kernel
theorem dX11_absorbedBy_40 : decode cX11_absorbedBy 40 = .ok (.iaload, 1) := by decide +kernel
theorem dX11_absorbedBy_41 : decode cX11_absorbedBy 41 = .ok (.i2l, 1) := by decide +kernel
theorem dX11_absorbedBy_42 : decode cX11_absorbedBy 42 = .ok (.lmul, 1) := by decide +kernel
theorem dX11_absorbedBy_43 : decode cX11_absorbedBy 43 = .ok (.lstore 4, 2) := by decide +kernel
theorem dX11_absorbedBy_45 : decode cX11_absorbedBy 45 = .ok (.lload_n 2, 1) := by decide +kernel
theorem dX11_absorbedBy_46 : decode cX11_absorbedBy 46 = .ok (.lload 4, 2) := by decide +kernel
theorem dX11_absorbedBy_48 : decode cX11_absorbedBy 48 = .ok (.ldc2_w 185, 3) := by decide +kernel
theorem dX11_absorbedBy_51 : decode cX11_absorbedBy 51 = .ok (.ldiv, 1) := by decide +kernel
theorem dX11_absorbedBy_52 : decode cX11_absorbedBy 52 = .ok (.lload 4, 2) := by decide +kernel
theorem dX11_absorbedBy_54 : decode cX11_absorbedBy 54 = .ok (.aload_n 0, 1) := by decide +kernel
theorem dX11_absorbedBy_55 : decode cX11_absorbedBy 55 = .ok (.getfield 7, 3) := by decide +kernel
theorem dX11_absorbedBy_58 : decode cX11_absorbedBy 58 = .ok (.bipush 6, 2) := by decide +kernel
theorem dX11_absorbedBy_60 : decode cX11_absorbedBy 60 = .ok (.iaload, 1) := by decide +kernel
theorem dX11_absorbedBy_61 : decode cX11_absorbedBy 61 = .ok (.i2l, 1) := by decide +kernel
theorem dX11_absorbedBy_62 : decode cX11_absorbedBy 62 = .ok (.lmul, 1) := by decide +kernel
theorem dX11_absorbedBy_63 : decode cX11_absorbedBy 63 = .ok (.ldc2_w 115, 3) := by decide +kernel
theorem dX11_absorbedBy_66 : decode cX11_absorbedBy 66 = .ok (.ldiv, 1) := by decide +kernel
theorem dX11_absorbedBy_67 : decode cX11_absorbedBy 67 = .ok (.ladd, 1) := by decide +kernel
theorem dX11_absorbedBy_68 : decode cX11_absorbedBy 68 = .ok (.ladd, 1) := by decide +kernel
theorem dX11_absorbedBy_69 : decode cX11_absorbedBy 69 = .ok (.lstore_n 2, 1) := by decide +kernel
theorem dX11_absorbedBy_70 : decode cX11_absorbedBy 70 = .ok (.lload_n 2, 1) := by decide +kernel
theorem dX11_absorbedBy_71 : decode cX11_absorbedBy 71 = .ok (.lreturn, 1) := by decide +kernel
theorem dX11_emittedBy_0 : decode cX11_emittedBy 0 = .ok (.aload_n 0, 1) := by decide +kernel
theorem dX11_emittedBy_1 : decode cX11_emittedBy 1 = .ok (.iload_n 1, 1) := by decide +kernel
theorem dX11_emittedBy_2 : decode cX11_emittedBy 2 = .ok (.iconst 2, 1) := by decide +kernel
theorem dX11_emittedBy_3 : decode cX11_emittedBy 3 = .ok (.invokevirtual 89, 3) := by decide +kernel
theorem dX11_emittedBy_6 : decode cX11_emittedBy 6 = .ok (.i2l, 1) := by decide +kernel
theorem dX11_emittedBy_7 : decode cX11_emittedBy 7 = .ok (.lstore_n 2, 1) := by decide +kernel
theorem dX11_emittedBy_8 : decode cX11_emittedBy 8 = .ok (.iconst 0, 1) := by decide +kernel
theorem dX11_emittedBy_9 : decode cX11_emittedBy 9 = .ok (.istore 4, 2) := by decide +kernel
theorem dX11_emittedBy_11 : decode cX11_emittedBy 11 = .ok (.iload 4, 2) := by decide +kernel
theorem dX11_emittedBy_13 : decode cX11_emittedBy 13 = .ok (.aload_n 0, 1) := by decide +kernel
theorem dX11_emittedBy_14 : decode cX11_emittedBy 14 = .ok (.getfield 7, 3) := by decide +kernel
theorem dX11_emittedBy_17 : decode cX11_emittedBy 17 = .ok (.bipush 13, 2) := by decide +kernel
theorem dX11_emittedBy_19 : decode cX11_emittedBy 19 = .ok (.iaload, 1) := by decide +kernel
theorem dX11_emittedBy_20 : decode cX11_emittedBy 20 = .ok (.if_icmp .ge 47, 3) := by decide +kernel
theorem dX11_emittedBy_23 : decode cX11_emittedBy 23 = .ok (.lload_n 2, 1) := by decide +kernel
theorem dX11_emittedBy_24 : decode cX11_emittedBy 24 = .ok (.aload_n 0, 1) := by decide +kernel
theorem dX11_emittedBy_25 : decode cX11_emittedBy 25 = .ok (.iload 4, 2) := by decide +kernel
theorem dX11_emittedBy_27 : decode cX11_emittedBy 27 = .ok (.iconst 0, 1) := by decide +kernel
theorem dX11_emittedBy_28 : decode cX11_emittedBy 28 = .ok (.invokevirtual 112, 3) := by decide +kernel
theorem dX11_emittedBy_31 : decode cX11_emittedBy 31 = .ok (.iload_n 1, 1) := by decide +kernel
theorem dX11_emittedBy_32 : decode cX11_emittedBy 32 = .ok (.if_icmp .ne 26, 3) := by decide +kernel
theorem dX11_emittedBy_35 : decode cX11_emittedBy 35 = .ok (.aload_n 0, 1) := by decide +kernel
theorem dX11_emittedBy_36 : decode cX11_emittedBy 36 = .ok (.iload 4, 2) := by decide +kernel
theorem dX11_emittedBy_38 : decode cX11_emittedBy 38 = .ok (.iconst 1, 1) := by decide +kernel
theorem dX11_emittedBy_39 : decode cX11_emittedBy 39 = .ok (.invokevirtual 112, 3) := by decide +kernel
theorem dX11_emittedBy_42 : decode cX11_emittedBy 42 = .ok (.aload_n 0, 1) := by decide +kernel
theorem dX11_emittedBy_43 : decode cX11_emittedBy 43 = .ok (.iload 4, 2) := by decide +kernel
theorem dX11_emittedBy_45 : decode cX11_emittedBy 45 = .ok (.iconst 5, 1) := by decide +kernel
theorem dX11_emittedBy_46 : decode cX11_emittedBy 46 = .ok (.invokevirtual 112, 3) := by decide +kernel
theorem dX11_emittedBy_49 : decode cX11_emittedBy 49 = .ok (.imul, 1) := by decide +kernel
theorem dX11_emittedBy_50 : decode cX11_emittedBy 50 = .ok (.sipush 1000, 3) := by decide +kernel
theorem dX11_emittedBy_53 : decode cX11_emittedBy 53 = .ok (.idiv, 1) := by decide +kernel
theorem dX11_emittedBy_54 : decode cX11_emittedBy 54 = .ok (.i2l, 1) := by decide +kernel
theorem dX11_emittedBy_55 : decode cX11_emittedBy 55 = .ok (.goto 4, 3) := by decide +kernel
theorem dX11_emittedBy_58 : decode cX11_emittedBy 58 = .ok (.lconst 0, 1) := by decide +kernel
theorem dX11_emittedBy_59 : decode cX11_emittedBy 59 = .ok (.ladd, 1) := by decide +kernel
theorem dX11_emittedBy_60 : decode cX11_emittedBy 60 = .ok (.lstore_n 2, 1) := by decide +kernel
theorem dX11_emittedBy_61 : decode cX11_emittedBy 61 = .ok (.iinc 4 1, 3) := by decide +kernel
theorem dX11_emittedBy_64 : decode cX11_emittedBy 64 = .ok (.goto (-53), 3) := by decide +kernel
theorem dX11_emittedBy_67 : decode cX11_emittedBy 67 = .ok (.aload_n 0, 1) := by decide +kernel
theorem dX11_emittedBy_68 : decode cX11_emittedBy 68 = .ok (.iload_n 1, 1) := by decide +kernel
theorem dX11_emittedBy_69 : decode cX11_emittedBy 69 = .ok (.iconst 1, 1) := by decide +kernel
theorem dX11_emittedBy_70 : decode cX11_emittedBy 70 = .ok (.invokevirtual 89, 3) := by decide +kernel
theorem dX11_emittedBy_73 : decode cX11_emittedBy 73 = .ok (.ldc 187, 2) := by decide +kernel
theorem dX11_emittedBy_75 : decode cX11_emittedBy 75 = .ok (.iadd, 1) := by decide +kernel
theorem dX11_emittedBy_76 : decode cX11_emittedBy 76 = .ok (.sipush 1000, 3) := by decide +kernel
theorem dX11_emittedBy_79 : decode cX11_emittedBy 79 = .ok (.idiv, 1) := by decide +kernel
theorem dX11_emittedBy_80 : decode cX11_emittedBy 80 = .ok (.i2l, 1) := by decide +kernel
theorem dX11_emittedBy_81 : decode cX11_emittedBy 81 = .ok (.lstore 4, 2) := by decide +kernel
theorem dX11_emittedBy_83 : decode cX11_emittedBy 83 = .ok (.lload_n 2, 1) := by decide +kernel
theorem dX11_emittedBy_84 : decode cX11_emittedBy 84 = .ok (.lload 4, 2) := by decide +kernel
theorem dX11_emittedBy_86 : decode cX11_emittedBy 86 = .ok (.lmul, 1) := by decide +kernel
theorem dX11_emittedBy_87 : decode cX11_emittedBy 87 = .ok (.lload 4, 2) := by decide +kernel
theorem dX11_emittedBy_89 : decode cX11_emittedBy 89 = .ok (.lmul, 1) := by decide +kernel
theorem dX11_emittedBy_90 : decode cX11_emittedBy 90 = .ok (.lload 4, 2) := by decide +kernel
theorem dX11_emittedBy_92 : decode cX11_emittedBy 92 = .ok (.lmul, 1) := by decide +kernel
theorem dX11_emittedBy_93 : decode cX11_emittedBy 93 = .ok (.lload 4, 2) := by decide +kernel
theorem dX11_emittedBy_95 : decode cX11_emittedBy 95 = .ok (.lmul, 1) := by decide +kernel
theorem dX11_emittedBy_96 : decode cX11_emittedBy 96 = .ok (.ldc2_w 188, 3) := by decide +kernel
theorem dX11_emittedBy_99 : decode cX11_emittedBy 99 = .ok (.lmul, 1) := by decide +kernel
theorem dX11_emittedBy_100 : decode cX11_emittedBy 100 = .ok (.ldc2_w 190, 3) := by decide +kernel
theorem dX11_emittedBy_103 : decode cX11_emittedBy 103 = .ok (.ldiv, 1) := by decide +kernel
theorem dX11_emittedBy_104 : decode cX11_emittedBy 104 = .ok (.lreturn, 1) := by decide +kernel
theorem dX11_conductedTo_0 : decode cX11_conductedTo 0 = .ok (.lconst 0, 1) := by decide +kernel
theorem dX11_conductedTo_1 : decode cX11_conductedTo 1 = .ok (.lstore_n 2, 1) := by decide +kernel
theorem dX11_conductedTo_2 : decode cX11_conductedTo 2 = .ok (.iconst 0, 1) := by decide +kernel
theorem dX11_conductedTo_3 : decode cX11_conductedTo 3 = .ok (.istore 4, 2) := by decide +kernel
theorem dX11_conductedTo_5 : decode cX11_conductedTo 5 = .ok (.iload 4, 2) := by decide +kernel
theorem dX11_conductedTo_7 : decode cX11_conductedTo 7 = .ok (.aload_n 0, 1) := by decide +kernel
theorem dX11_conductedTo_8 : decode cX11_conductedTo 8 = .ok (.getfield 7, 3) := by decide +kernel
theorem dX11_conductedTo_11 : decode cX11_conductedTo 11 = .ok (.bipush 12, 2) := by decide +kernel
theorem dX11_conductedTo_13 : decode cX11_conductedTo 13 = .ok (.iaload, 1) := by decide +kernel
theorem dX11_conductedTo_14 : decode cX11_conductedTo 14 = .ok (.if_icmp .ge 44, 3) := by decide +kernel
theorem dX11_conductedTo_17 : decode cX11_conductedTo 17 = .ok (.aload_n 0, 1) := by decide +kernel
theorem dX11_conductedTo_18 : decode cX11_conductedTo 18 = .ok (.iload 4, 2) := by decide +kernel
theorem dX11_conductedTo_20 : decode cX11_conductedTo 20 = .ok (.iconst 1, 1) := by decide +kernel
theorem dX11_conductedTo_21 : decode cX11_conductedTo 21 = .ok (.invokevirtual 89, 3) := by decide +kernel
theorem dX11_conductedTo_24 : decode cX11_conductedTo 24 = .ok (.aload_n 0, 1) := by decide +kernel
theorem dX11_conductedTo_25 : decode cX11_conductedTo 25 = .ok (.iload_n 1, 1) := by decide +kernel
theorem dX11_conductedTo_26 : decode cX11_conductedTo 26 = .ok (.iconst 1, 1) := by decide +kernel
theorem dX11_conductedTo_27 : decode cX11_conductedTo 27 = .ok (.invokevirtual 89, 3) := by decide +kernel
theorem dX11_conductedTo_30 : decode cX11_conductedTo 30 = .ok (.isub, 1) := by decide +kernel
theorem dX11_conductedTo_31 : decode cX11_conductedTo 31 = .ok (.i2l, 1) := by decide +kernel
theorem dX11_conductedTo_32 : decode cX11_conductedTo 32 = .ok (.lstore 5, 2) := by decide +kernel
theorem dX11_conductedTo_34 : decode cX11_conductedTo 34 = .ok (.lload_n 2, 1) := by decide +kernel
theorem dX11_conductedTo_35 : decode cX11_conductedTo 35 = .ok (.aload_n 0, 1) := by decide +kernel
theorem dX11_conductedTo_36 : decode cX11_conductedTo 36 = .ok (.iload_n 1, 1) := by decide +kernel
theorem dX11_conductedTo_37 : decode cX11_conductedTo 37 = .ok (.iload 4, 2) := by decide +kernel
theorem dX11_conductedTo_39 : decode cX11_conductedTo 39 = .ok (.invokevirtual 101, 3) := by decide +kernel
theorem dX11_conductedTo_42 : decode cX11_conductedTo 42 = .ok (.i2l, 1) := by decide +kernel
theorem dX11_conductedTo_43 : decode cX11_conductedTo 43 = .ok (.lload 5, 2) := by decide +kernel
theorem dX11_conductedTo_45 : decode cX11_conductedTo 45 = .ok (.lmul, 1) := by decide +kernel
theorem dX11_conductedTo_46 : decode cX11_conductedTo 46 = .ok (.ldc2_w 115, 3) := by decide +kernel
theorem dX11_conductedTo_49 : decode cX11_conductedTo 49 = .ok (.ldiv, 1) := by decide +kernel
theorem dX11_conductedTo_50 : decode cX11_conductedTo 50 = .ok (.ladd, 1) := by decide +kernel
theorem dX11_conductedTo_51 : decode cX11_conductedTo 51 = .ok (.lstore_n 2, 1) := by decide +kernel
theorem dX11_conductedTo_52 : decode cX11_conductedTo 52 = .ok (.iinc 4 1, 3) := by decide +kernel
theorem dX11_conductedTo_55 : decode cX11_conductedTo 55 = .ok (.goto (-50), 3) := by decide +kernel
theorem dX11_conductedTo_58 : decode cX11_conductedTo 58 = .ok (.lload_n 2, 1) := by decide +kernel
theorem dX11_conductedTo_59 : decode cX11_conductedTo 59 = .ok (.lreturn, 1) := by decide +kernel
theorem dX11_netOf_0 : decode cX11_netOf 0 = .ok (.aload_n 0, 1) := by decide +kernel
theorem dX11_netOf_1 : decode cX11_netOf 1 = .ok (.iload_n 1, 1) := by decide +kernel
theorem dX11_netOf_2 : decode cX11_netOf 2 = .ok (.iconst 4, 1) := by decide +kernel
theorem dX11_netOf_3 : decode cX11_netOf 3 = .ok (.invokevirtual 89, 3) := by decide +kernel
theorem dX11_netOf_6 : decode cX11_netOf 6 = .ok (.i2l, 1) := by decide +kernel
theorem dX11_netOf_7 : decode cX11_netOf 7 = .ok (.aload_n 0, 1) := by decide +kernel
theorem dX11_netOf_8 : decode cX11_netOf 8 = .ok (.iload_n 1, 1) := by decide +kernel
theorem dX11_netOf_9 : decode cX11_netOf 9 = .ok (.invokevirtual 152, 3) := by decide +kernel
theorem dX11_netOf_12 : decode cX11_netOf 12 = .ok (.ladd, 1) := by decide +kernel
theorem dX11_netOf_13 : decode cX11_netOf 13 = .ok (.aload_n 0, 1) := by decide +kernel
theorem dX11_netOf_14 : decode cX11_netOf 14 = .ok (.iload_n 1, 1) := by decide +kernel
theorem dX11_netOf_15 : decode cX11_netOf 15 = .ok (.invokevirtual 192, 3) := by decide +kernel
theorem dX11_netOf_18 : decode cX11_netOf 18 = .ok (.ladd, 1) := by decide +kernel
theorem dX11_netOf_19 : decode cX11_netOf 19 = .ok (.aload_n 0, 1) := by decide +kernel
theorem dX11_netOf_20 : decode cX11_netOf 20 = .ok (.iload_n 1, 1) := by decide +kernel
theorem dX11_netOf_21 : decode cX11_netOf 21 = .ok (.invokevirtual 149, 3) := by decide +kernel
theorem dX11_netOf_24 : decode cX11_netOf 24 = .ok (.lsub, 1) := by decide +kernel
theorem dX11_netOf_25 : decode cX11_netOf 25 = .ok (.lstore_n 2, 1) := by decide +kernel
theorem dX11_netOf_26 : decode cX11_netOf 26 = .ok (.iconst 0, 1) := by decide +kernel
theorem dX11_netOf_27 : decode cX11_netOf 27 = .ok (.istore 4, 2) := by decide +kernel
theorem dX11_netOf_29 : decode cX11_netOf 29 = .ok (.iload 4, 2) := by decide +kernel
theorem dX11_netOf_31 : decode cX11_netOf 31 = .ok (.aload_n 0, 1) := by decide +kernel
theorem dX11_netOf_32 : decode cX11_netOf 32 = .ok (.getfield 7, 3) := by decide +kernel
theorem dX11_netOf_35 : decode cX11_netOf 35 = .ok (.bipush 14, 2) := by decide +kernel
theorem dX11_netOf_37 : decode cX11_netOf 37 = .ok (.iaload, 1) := by decide +kernel
theorem dX11_netOf_38 : decode cX11_netOf 38 = .ok (.if_icmp .ge 59, 3) := by decide +kernel
theorem dX11_netOf_41 : decode cX11_netOf 41 = .ok (.aload_n 0, 1) := by decide +kernel
theorem dX11_netOf_42 : decode cX11_netOf 42 = .ok (.iload 4, 2) := by decide +kernel
theorem dX11_netOf_44 : decode cX11_netOf 44 = .ok (.iconst 0, 1) := by decide +kernel
theorem dX11_netOf_45 : decode cX11_netOf 45 = .ok (.invokevirtual 128, 3) := by decide +kernel
theorem dX11_netOf_48 : decode cX11_netOf 48 = .ok (.iload_n 1, 1) := by decide +kernel
theorem dX11_netOf_49 : decode cX11_netOf 49 = .ok (.if_icmp .ne 19, 3) := by decide +kernel
theorem dX11_netOf_52 : decode cX11_netOf 52 = .ok (.aload_n 0, 1) := by decide +kernel
theorem dX11_netOf_53 : decode cX11_netOf 53 = .ok (.iload 4, 2) := by decide +kernel
theorem dX11_netOf_55 : decode cX11_netOf 55 = .ok (.bipush 7, 2) := by decide +kernel
theorem dX11_netOf_57 : decode cX11_netOf 57 = .ok (.invokevirtual 128, 3) := by decide +kernel
theorem dX11_netOf_60 : decode cX11_netOf 60 = .ok (.iconst 1, 1) := by decide +kernel
theorem dX11_netOf_61 : decode cX11_netOf 61 = .ok (.if_icmp .ne 7, 3) := by decide +kernel
theorem dX11_netOf_64 : decode cX11_netOf 64 = .ok (.iconst 1, 1) := by decide +kernel
theorem dX11_netOf_65 : decode cX11_netOf 65 = .ok (.goto 4, 3) := by decide +kernel
theorem dX11_netOf_68 : decode cX11_netOf 68 = .ok (.iconst 0, 1) := by decide +kernel
theorem dX11_netOf_69 : decode cX11_netOf 69 = .ok (.istore 5, 2) := by decide +kernel
theorem dX11_netOf_71 : decode cX11_netOf 71 = .ok (.lload_n 2, 1) := by decide +kernel
theorem dX11_netOf_72 : decode cX11_netOf 72 = .ok (.iload 5, 2) := by decide +kernel
theorem dX11_netOf_74 : decode cX11_netOf 74 = .ok (.ifCond .eq 14, 3) := by decide +kernel
theorem dX11_netOf_77 : decode cX11_netOf 77 = .ok (.aload_n 0, 1) := by decide +kernel
theorem dX11_netOf_78 : decode cX11_netOf 78 = .ok (.iload 4, 2) := by decide +kernel
theorem dX11_netOf_80 : decode cX11_netOf 80 = .ok (.iconst 1, 1) := by decide +kernel
theorem dX11_netOf_81 : decode cX11_netOf 81 = .ok (.invokevirtual 128, 3) := by decide +kernel
theorem dX11_netOf_84 : decode cX11_netOf 84 = .ok (.i2l, 1) := by decide +kernel
theorem dX11_netOf_85 : decode cX11_netOf 85 = .ok (.goto 4, 3) := by decide +kernel
theorem dX11_netOf_88 : decode cX11_netOf 88 = .ok (.lconst 0, 1) := by decide +kernel
theorem dX11_netOf_89 : decode cX11_netOf 89 = .ok (.ladd, 1) := by decide +kernel
theorem dX11_netOf_90 : decode cX11_netOf 90 = .ok (.lstore_n 2, 1) := by decide +kernel
theorem dX11_netOf_91 : decode cX11_netOf 91 = .ok (.iinc 4 1, 3) := by decide +kernel
theorem dX11_netOf_94 : decode cX11_netOf 94 = .ok (.goto (-65), 3) := by decide +kernel
theorem dX11_netOf_97 : decode cX11_netOf 97 = .ok (.lload_n 2, 1) := by decide +kernel
theorem dX11_netOf_98 : decode cX11_netOf 98 = .ok (.lreturn, 1) := by decide +kernel
theorem dX11_temperature_0 : decode cX11_temperature 0 = .ok (.aload_n 0, 1) := by decide +kernel
theorem dX11_temperature_1 : decode cX11_temperature 1 = .ok (.iload_n 1, 1) := by decide +kernel
theorem dX11_temperature_2 : decode cX11_temperature 2 = .ok (.invokevirtual 93, 3) := by decide +kernel
theorem dX11_temperature_5 : decode cX11_temperature 5 = .ok (.ifCond .eq 12, 3) := by decide +kernel
theorem dX11_temperature_8 : decode cX11_temperature 8 = .ok (.aload_n 0, 1) := by decide +kernel
theorem dX11_temperature_9 : decode cX11_temperature 9 = .ok (.iload_n 1, 1) := by decide +kernel
theorem dX11_temperature_10 : decode cX11_temperature 10 = .ok (.iconst 1, 1) := by decide +kernel
theorem dX11_temperature_11 : decode cX11_temperature 11 = .ok (.invokevirtual 89, 3) := by decide +kernel
theorem dX11_temperature_14 : decode cX11_temperature 14 = .ok (.goto 5, 3) := by decide +kernel
theorem dX11_temperature_17 : decode cX11_temperature 17 = .ok (.ldc 96, 2) := by decide +kernel
theorem dX11_temperature_19 : decode cX11_temperature 19 = .ok (.ireturn, 1) := by decide +kernel
theorem dX11_load_0 : decode cX11_load 0 = .ok (.aload_n 0, 1) := by decide +kernel
theorem dX11_load_1 : decode cX11_load 1 = .ok (.iload_n 1, 1) := by decide +kernel
theorem dX11_load_2 : decode cX11_load 2 = .ok (.invokevirtual 93, 3) := by decide +kernel
theorem dX11_load_5 : decode cX11_load 5 = .ok (.ifCond .eq 12, 3) := by decide +kernel
theorem dX11_load_8 : decode cX11_load 8 = .ok (.aload_n 0, 1) := by decide +kernel
theorem dX11_load_9 : decode cX11_load 9 = .ok (.iload_n 1, 1) := by decide +kernel
theorem dX11_load_10 : decode cX11_load 10 = .ok (.iconst 4, 1) := by decide +kernel
theorem dX11_load_11 : decode cX11_load 11 = .ok (.invokevirtual 89, 3) := by decide +kernel
theorem dX11_load_14 : decode cX11_load 14 = .ok (.goto 5, 3) := by decide +kernel
theorem dX11_load_17 : decode cX11_load 17 = .ok (.ldc 96, 2) := by decide +kernel
theorem dX11_load_19 : decode cX11_load 19 = .ok (.ireturn, 1) := by decide +kernel
theorem dX11_absorbedHeat_0 : decode cX11_absorbedHeat 0 = .ok (.aload_n 0, 1) := by decide +kernel
theorem dX11_absorbedHeat_1 : decode cX11_absorbedHeat 1 = .ok (.iload_n 1, 1) := by decide +kernel
theorem dX11_absorbedHeat_2 : decode cX11_absorbedHeat 2 = .ok (.invokevirtual 93, 3) := by decide +kernel
theorem dX11_absorbedHeat_5 : decode cX11_absorbedHeat 5 = .ok (.ifCond .eq 11, 3) := by decide +kernel
theorem dX11_absorbedHeat_8 : decode cX11_absorbedHeat 8 = .ok (.aload_n 0, 1) := by decide +kernel
theorem dX11_absorbedHeat_9 : decode cX11_absorbedHeat 9 = .ok (.iload_n 1, 1) := by decide +kernel
theorem dX11_absorbedHeat_10 : decode cX11_absorbedHeat 10 = .ok (.invokevirtual 152, 3) := by decide +kernel
theorem dX11_absorbedHeat_13 : decode cX11_absorbedHeat 13 = .ok (.goto 6, 3) := by decide +kernel
theorem dX11_absorbedHeat_16 : decode cX11_absorbedHeat 16 = .ok (.ldc2_w 195, 3) := by decide +kernel
theorem dX11_absorbedHeat_19 : decode cX11_absorbedHeat 19 = .ok (.lreturn, 1) := by decide +kernel
theorem dX11_emittedHeat_0 : decode cX11_emittedHeat 0 = .ok (.aload_n 0, 1) := by decide +kernel
theorem dX11_emittedHeat_1 : decode cX11_emittedHeat 1 = .ok (.iload_n 1, 1) := by decide +kernel
theorem dX11_emittedHeat_2 : decode cX11_emittedHeat 2 = .ok (.invokevirtual 93, 3) := by decide +kernel
theorem dX11_emittedHeat_5 : decode cX11_emittedHeat 5 = .ok (.ifCond .eq 11, 3) := by decide +kernel
theorem dX11_emittedHeat_8 : decode cX11_emittedHeat 8 = .ok (.aload_n 0, 1) := by decide +kernel
theorem dX11_emittedHeat_9 : decode cX11_emittedHeat 9 = .ok (.iload_n 1, 1) := by decide +kernel
theorem dX11_emittedHeat_10 : decode cX11_emittedHeat 10 = .ok (.invokevirtual 149, 3) := by decide +kernel
theorem dX11_emittedHeat_13 : decode cX11_emittedHeat 13 = .ok (.goto 6, 3) := by decide +kernel
theorem dX11_emittedHeat_16 : decode cX11_emittedHeat 16 = .ok (.ldc2_w 195, 3) := by decide +kernel
theorem dX11_emittedHeat_19 : decode cX11_emittedHeat 19 = .ok (.lreturn, 1) := by decide +kernel
theorem dX11_conductedHeat_0 : decode cX11_conductedHeat 0 = .ok (.aload_n 0, 1) := by decide +kernel
theorem dX11_conductedHeat_1 : decode cX11_conductedHeat 1 = .ok (.iload_n 1, 1) := by decide +kernel
theorem dX11_conductedHeat_2 : decode cX11_conductedHeat 2 = .ok (.invokevirtual 93, 3) := by decide +kernel
theorem dX11_conductedHeat_5 : decode cX11_conductedHeat 5 = .ok (.ifCond .eq 11, 3) := by decide +kernel
theorem dX11_conductedHeat_8 : decode cX11_conductedHeat 8 = .ok (.aload_n 0, 1) := by decide +kernel
theorem dX11_conductedHeat_9 : decode cX11_conductedHeat 9 = .ok (.iload_n 1, 1) := by decide +kernel
theorem dX11_conductedHeat_10 : decode cX11_conductedHeat 10 = .ok (.invokevirtual 192, 3) := by decide +kernel
theorem dX11_conductedHeat_13 : decode cX11_conductedHeat 13 = .ok (.goto 6, 3) := by decide +kernel
theorem dX11_conductedHeat_16 : decode cX11_conductedHeat 16 = .ok (.ldc2_w 195, 3) := by decide +kernel
theorem dX11_conductedHeat_19 : decode cX11_conductedHeat 19 = .ok (.lreturn, 1) := by decide +kernel
theorem dX11_netHeat_0 : decode cX11_netHeat 0 = .ok (.aload_n 0, 1) := by decide +kernel
theorem dX11_netHeat_1 : decode cX11_netHeat 1 = .ok (.iload_n 1, 1) := by decide +kernel
theorem dX11_netHeat_2 : decode cX11_netHeat 2 = .ok (.invokevirtual 93, 3) := by decide +kernel
theorem dX11_netHeat_5 : decode cX11_netHeat 5 = .ok (.ifCond .eq 11, 3) := by decide +kernel
theorem dX11_netHeat_8 : decode cX11_netHeat 8 = .ok (.aload_n 0, 1) := by decide +kernel
theorem dX11_netHeat_9 : decode cX11_netHeat 9 = .ok (.iload_n 1, 1) := by decide +kernel
theorem dX11_netHeat_10 : decode cX11_netHeat 10 = .ok (.invokevirtual 145, 3) := by decide +kernel
theorem dX11_netHeat_13 : decode cX11_netHeat 13 = .ok (.goto 6, 3) := by decide +kernel
theorem dX11_netHeat_16 : decode cX11_netHeat 16 = .ok (.ldc2_w 195, 3) := by decide +kernel
theorem dX11_netHeat_19 : decode cX11_netHeat 19 = .ok (.lreturn, 1) := by decide +kernel
theorem dX11_margin_0 : decode cX11_margin 0 = .ok (.aload_n 0, 1) := by decide +kernel
theorem dX11_margin_1 : decode cX11_margin 1 = .ok (.iload_n 1, 1) := by decide +kernel
theorem dX11_margin_2 : decode cX11_margin 2 = .ok (.invokevirtual 93, 3) := by decide +kernel
theorem dX11_margin_5 : decode cX11_margin 5 = .ok (.ifCond .ne 6, 3) := by decide +kernel
theorem dX11_margin_8 : decode cX11_margin 8 = .ok (.ldc 96, 2) := by decide +kernel
theorem dX11_margin_10 : decode cX11_margin 10 = .ok (.ireturn, 1) := by decide +kernel
theorem dX11_margin_11 : decode cX11_margin 11 = .ok (.aload_n 0, 1) := by decide +kernel
theorem dX11_margin_12 : decode cX11_margin 12 = .ok (.iload_n 1, 1) := by decide +kernel
theorem dX11_margin_13 : decode cX11_margin 13 = .ok (.iconst 1, 1) := by decide +kernel
theorem dX11_margin_14 : decode cX11_margin 14 = .ok (.invokevirtual 89, 3) := by decide +kernel
theorem dX11_margin_17 : decode cX11_margin 17 = .ok (.aload_n 0, 1) := by decide +kernel
theorem dX11_margin_18 : decode cX11_margin 18 = .ok (.iload_n 1, 1) := by decide +kernel
theorem dX11_margin_19 : decode cX11_margin 19 = .ok (.iconst 5, 1) := by decide +kernel
theorem dX11_margin_20 : decode cX11_margin 20 = .ok (.invokevirtual 89, 3) := by decide +kernel
theorem dX11_margin_23 : decode cX11_margin 23 = .ok (.isub, 1) := by decide +kernel
theorem dX11_margin_24 : decode cX11_margin 24 = .ok (.aload_n 0, 1) := by decide +kernel
theorem dX11_margin_25 : decode cX11_margin 25 = .ok (.iload_n 1, 1) := by decide +kernel
theorem dX11_margin_26 : decode cX11_margin 26 = .ok (.bipush 6, 2) := by decide +kernel
theorem dX11_margin_28 : decode cX11_margin 28 = .ok (.invokevirtual 89, 3) := by decide +kernel
theorem dX11_margin_31 : decode cX11_margin 31 = .ok (.aload_n 0, 1) := by decide +kernel
theorem dX11_margin_32 : decode cX11_margin 32 = .ok (.iload_n 1, 1) := by decide +kernel
theorem dX11_margin_33 : decode cX11_margin 33 = .ok (.iconst 1, 1) := by decide +kernel
theorem dX11_margin_34 : decode cX11_margin 34 = .ok (.invokevirtual 89, 3) := by decide +kernel
theorem dX11_margin_37 : decode cX11_margin 37 = .ok (.isub, 1) := by decide +kernel
theorem dX11_margin_38 : decode cX11_margin 38 = .ok (.invokestatic 159, 3) := by decide +kernel
theorem dX11_margin_41 : decode cX11_margin 41 = .ok (.ireturn, 1) := by decide +kernel
theorem dX11_resetRecords_0 : decode cX11_resetRecords 0 = .ok (.aload_n 0, 1) := by decide +kernel
theorem dX11_resetRecords_1 : decode cX11_resetRecords 1 = .ok (.getfield 7, 3) := by decide +kernel
theorem dX11_resetRecords_4 : decode cX11_resetRecords 4 = .ok (.bipush 16, 2) := by decide +kernel
theorem dX11_resetRecords_6 : decode cX11_resetRecords 6 = .ok (.iaload, 1) := by decide +kernel
theorem dX11_resetRecords_7 : decode cX11_resetRecords 7 = .ok (.istore_n 1, 1) := by decide +kernel
theorem dX11_resetRecords_8 : decode cX11_resetRecords 8 = .ok (.iconst 0, 1) := by decide +kernel
theorem dX11_resetRecords_9 : decode cX11_resetRecords 9 = .ok (.istore_n 2, 1) := by decide +kernel
theorem dX11_resetRecords_10 : decode cX11_resetRecords 10 = .ok (.iload_n 2, 1) := by decide +kernel
theorem dX11_resetRecords_11 : decode cX11_resetRecords 11 = .ok (.aload_n 0, 1) := by decide +kernel
theorem dX11_resetRecords_12 : decode cX11_resetRecords 12 = .ok (.getfield 7, 3) := by decide +kernel
theorem dX11_resetRecords_15 : decode cX11_resetRecords 15 = .ok (.bipush 12, 2) := by decide +kernel
theorem dX11_resetRecords_17 : decode cX11_resetRecords 17 = .ok (.iaload, 1) := by decide +kernel
theorem dX11_resetRecords_18 : decode cX11_resetRecords 18 = .ok (.if_icmp .ge 14, 3) := by decide +kernel
theorem dX11_resetRecords_21 : decode cX11_resetRecords 21 = .ok (.aload_n 0, 1) := by decide +kernel
theorem dX11_resetRecords_22 : decode cX11_resetRecords 22 = .ok (.iload_n 2, 1) := by decide +kernel
theorem dX11_resetRecords_23 : decode cX11_resetRecords 23 = .ok (.invokevirtual 85, 3) := by decide +kernel
theorem dX11_resetRecords_26 : decode cX11_resetRecords 26 = .ok (.iinc 2 1, 3) := by decide +kernel
theorem dX11_resetRecords_29 : decode cX11_resetRecords 29 = .ok (.goto (-19), 3) := by decide +kernel
theorem dX11_resetRecords_32 : decode cX11_resetRecords 32 = .ok (.aload_n 0, 1) := by decide +kernel
theorem dX11_resetRecords_33 : decode cX11_resetRecords 33 = .ok (.getfield 7, 3) := by decide +kernel
theorem dX11_resetRecords_36 : decode cX11_resetRecords 36 = .ok (.bipush 16, 2) := by decide +kernel
theorem dX11_resetRecords_38 : decode cX11_resetRecords 38 = .ok (.iconst 0, 1) := by decide +kernel
theorem dX11_resetRecords_39 : decode cX11_resetRecords 39 = .ok (.iastore, 1) := by decide +kernel
theorem dX11_resetRecords_40 : decode cX11_resetRecords 40 = .ok (.aload_n 0, 1) := by decide +kernel
theorem dX11_resetRecords_41 : decode cX11_resetRecords 41 = .ok (.getfield 7, 3) := by decide +kernel
theorem dX11_resetRecords_44 : decode cX11_resetRecords 44 = .ok (.bipush 17, 2) := by decide +kernel
theorem dX11_resetRecords_46 : decode cX11_resetRecords 46 = .ok (.iconst 0, 1) := by decide +kernel
theorem dX11_resetRecords_47 : decode cX11_resetRecords 47 = .ok (.iastore, 1) := by decide +kernel
theorem dX11_resetRecords_48 : decode cX11_resetRecords 48 = .ok (.iconst 0, 1) := by decide +kernel
theorem dX11_resetRecords_49 : decode cX11_resetRecords 49 = .ok (.istore_n 2, 1) := by decide +kernel
theorem dX11_resetRecords_50 : decode cX11_resetRecords 50 = .ok (.iload_n 2, 1) := by decide +kernel
theorem dX11_resetRecords_51 : decode cX11_resetRecords 51 = .ok (.iconst 3, 1) := by decide +kernel
theorem dX11_resetRecords_52 : decode cX11_resetRecords 52 = .ok (.if_icmp .ge 16, 3) := by decide +kernel
theorem dX11_resetRecords_55 : decode cX11_resetRecords 55 = .ok (.aload_n 0, 1) := by decide +kernel
theorem dX11_resetRecords_56 : decode cX11_resetRecords 56 = .ok (.getfield 19, 3) := by decide +kernel
theorem dX11_resetRecords_59 : decode cX11_resetRecords 59 = .ok (.iload_n 2, 1) := by decide +kernel
theorem dX11_resetRecords_60 : decode cX11_resetRecords 60 = .ok (.lconst 0, 1) := by decide +kernel
theorem dX11_resetRecords_61 : decode cX11_resetRecords 61 = .ok (.lastore, 1) := by decide +kernel
theorem dX11_resetRecords_62 : decode cX11_resetRecords 62 = .ok (.iinc 2 1, 3) := by decide +kernel
theorem dX11_resetRecords_65 : decode cX11_resetRecords 65 = .ok (.goto (-15), 3) := by decide +kernel
theorem dX11_resetRecords_68 : decode cX11_resetRecords 68 = .ok (.iload_n 1, 1) := by decide +kernel
theorem dX11_resetRecords_69 : decode cX11_resetRecords 69 = .ok (.ireturn, 1) := by decide +kernel
theorem dX11_lowest_0 : decode cX11_lowest 0 = .ok (.aload_n 0, 1) := by decide +kernel
theorem dX11_lowest_1 : decode cX11_lowest 1 = .ok (.iload_n 1, 1) := by decide +kernel
theorem dX11_lowest_2 : decode cX11_lowest 2 = .ok (.invokevirtual 93, 3) := by decide +kernel
theorem dX11_lowest_5 : decode cX11_lowest 5 = .ok (.ifCond .eq 13, 3) := by decide +kernel
theorem dX11_lowest_8 : decode cX11_lowest 8 = .ok (.aload_n 0, 1) := by decide +kernel
theorem dX11_lowest_9 : decode cX11_lowest 9 = .ok (.iload_n 1, 1) := by decide +kernel
theorem dX11_lowest_10 : decode cX11_lowest 10 = .ok (.bipush 7, 2) := by decide +kernel
theorem dX11_lowest_12 : decode cX11_lowest 12 = .ok (.invokevirtual 89, 3) := by decide +kernel
theorem dX11_lowest_15 : decode cX11_lowest 15 = .ok (.goto 5, 3) := by decide +kernel
theorem dX11_lowest_18 : decode cX11_lowest 18 = .ok (.ldc 96, 2) := by decide +kernel
theorem dX11_lowest_20 : decode cX11_lowest 20 = .ok (.ireturn, 1) := by decide +kernel
theorem dX11_highest_0 : decode cX11_highest 0 = .ok (.aload_n 0, 1) := by decide +kernel
theorem dX11_highest_1 : decode cX11_highest 1 = .ok (.iload_n 1, 1) := by decide +kernel
theorem dX11_highest_2 : decode cX11_highest 2 = .ok (.invokevirtual 93, 3) := by decide +kernel
theorem dX11_highest_5 : decode cX11_highest 5 = .ok (.ifCond .eq 13, 3) := by decide +kernel
theorem dX11_highest_8 : decode cX11_highest 8 = .ok (.aload_n 0, 1) := by decide +kernel
theorem dX11_highest_9 : decode cX11_highest 9 = .ok (.iload_n 1, 1) := by decide +kernel
theorem dX11_highest_10 : decode cX11_highest 10 = .ok (.bipush 8, 2) := by decide +kernel
theorem dX11_highest_12 : decode cX11_highest 12 = .ok (.invokevirtual 89, 3) := by decide +kernel
theorem dX11_highest_15 : decode cX11_highest 15 = .ok (.goto 5, 3) := by decide +kernel
theorem dX11_highest_18 : decode cX11_highest 18 = .ok (.ldc 96, 2) := by decide +kernel
theorem dX11_highest_20 : decode cX11_highest 20 = .ok (.ireturn, 1) := by decide +kernel
theorem dX11_violations_0 : decode cX11_violations 0 = .ok (.aload_n 0, 1) := by decide +kernel
theorem dX11_violations_1 : decode cX11_violations 1 = .ok (.iload_n 1, 1) := by decide +kernel
theorem dX11_violations_2 : decode cX11_violations 2 = .ok (.invokevirtual 93, 3) := by decide +kernel
theorem dX11_violations_5 : decode cX11_violations 5 = .ok (.ifCond .eq 13, 3) := by decide +kernel
theorem dX11_violations_8 : decode cX11_violations 8 = .ok (.aload_n 0, 1) := by decide +kernel
theorem dX11_violations_9 : decode cX11_violations 9 = .ok (.iload_n 1, 1) := by decide +kernel
theorem dX11_violations_10 : decode cX11_violations 10 = .ok (.bipush 9, 2) := by decide +kernel
theorem dX11_violations_12 : decode cX11_violations 12 = .ok (.invokevirtual 89, 3) := by decide +kernel
theorem dX11_violations_15 : decode cX11_violations 15 = .ok (.goto 5, 3) := by decide +kernel
theorem dX11_violations_18 : decode cX11_violations 18 = .ok (.ldc 96, 2) := by decide +kernel
theorem dX11_violations_20 : decode cX11_violations 20 = .ok (.ireturn, 1) := by decide +kernel
theorem dX11_firstViolation_0 : decode cX11_firstViolation 0 = .ok (.aload_n 0, 1) := by decide +kernel
theorem dX11_firstViolation_1 : decode cX11_firstViolation 1 = .ok (.iload_n 1, 1) := by decide +kernel
theorem dX11_firstViolation_2 : decode cX11_firstViolation 2 = .ok (.invokevirtual 93, 3) := by decide +kernel
theorem dX11_firstViolation_5 : decode cX11_firstViolation 5 = .ok (.ifCond .eq 13, 3) := by decide +kernel
theorem dX11_firstViolation_8 : decode cX11_firstViolation 8 = .ok (.aload_n 0, 1) := by decide +kernel
theorem dX11_firstViolation_9 : decode cX11_firstViolation 9 = .ok (.iload_n 1, 1) := by decide +kernel
theorem dX11_firstViolation_10 : decode cX11_firstViolation 10 = .ok (.bipush 10, 2) := by decide +kernel
theorem dX11_firstViolation_12 : decode cX11_firstViolation 12 = .ok (.invokevirtual 89, 3) := by decide +kernel
theorem dX11_firstViolation_15 : decode cX11_firstViolation 15 = .ok (.goto 5, 3) := by decide +kernel
theorem dX11_firstViolation_18 : decode cX11_firstViolation 18 = .ok (.ldc 96, 2) := by decide +kernel
theorem dX11_firstViolation_20 : decode cX11_firstViolation 20 = .ok (.ireturn, 1) := by decide +kernel
theorem dX11_violatorCount_0 : decode cX11_violatorCount 0 = .ok (.aload_n 0, 1) := by decide +kernel
theorem dX11_violatorCount_1 : decode cX11_violatorCount 1 = .ok (.getfield 7, 3) := by decide +kernel
theorem dX11_violatorCount_4 : decode cX11_violatorCount 4 = .ok (.bipush 16, 2) := by decide +kernel
theorem dX11_violatorCount_6 : decode cX11_violatorCount 6 = .ok (.iaload, 1) := by decide +kernel
theorem dX11_violatorCount_7 : decode cX11_violatorCount 7 = .ok (.ireturn, 1) := by decide +kernel
theorem dX11_violator_0 : decode cX11_violator 0 = .ok (.iload_n 1, 1) := by decide +kernel
theorem dX11_violator_1 : decode cX11_violator 1 = .ok (.iconst 0, 1) := by decide +kernel
theorem dX11_violator_2 : decode cX11_violator 2 = .ok (.aload_n 0, 1) := by decide +kernel
theorem dX11_violator_3 : decode cX11_violator 3 = .ok (.getfield 7, 3) := by decide +kernel
theorem dX11_violator_6 : decode cX11_violator 6 = .ok (.bipush 16, 2) := by decide +kernel
theorem dX11_violator_8 : decode cX11_violator 8 = .ok (.iaload, 1) := by decide +kernel
theorem dX11_violator_9 : decode cX11_violator 9 = .ok (.iconst 1, 1) := by decide +kernel
theorem dX11_violator_10 : decode cX11_violator 10 = .ok (.isub, 1) := by decide +kernel
theorem dX11_violator_11 : decode cX11_violator 11 = .ok (.invokestatic 67, 3) := by decide +kernel
theorem dX11_violator_14 : decode cX11_violator 14 = .ok (.ifCond .eq 16, 3) := by decide +kernel
theorem dX11_violator_17 : decode cX11_violator 17 = .ok (.aload_n 0, 1) := by decide +kernel
theorem dX11_violator_18 : decode cX11_violator 18 = .ok (.getfield 7, 3) := by decide +kernel
theorem dX11_violator_21 : decode cX11_violator 21 = .ok (.sipush 402, 3) := by decide +kernel
theorem dX11_violator_24 : decode cX11_violator 24 = .ok (.iload_n 1, 1) := by decide +kernel
theorem dX11_violator_25 : decode cX11_violator 25 = .ok (.iadd, 1) := by decide +kernel
theorem dX11_violator_26 : decode cX11_violator 26 = .ok (.iaload, 1) := by decide +kernel
theorem dX11_violator_27 : decode cX11_violator 27 = .ok (.goto 5, 3) := by decide +kernel
theorem dX11_violator_30 : decode cX11_violator 30 = .ok (.ldc 79, 2) := by decide +kernel
theorem dX11_violator_32 : decode cX11_violator 32 = .ok (.ireturn, 1) := by decide +kernel
theorem dX11_shedCount_0 : decode cX11_shedCount 0 = .ok (.aload_n 0, 1) := by decide +kernel
theorem dX11_shedCount_1 : decode cX11_shedCount 1 = .ok (.getfield 7, 3) := by decide +kernel
theorem dX11_shedCount_4 : decode cX11_shedCount 4 = .ok (.bipush 17, 2) := by decide +kernel
theorem dX11_shedCount_6 : decode cX11_shedCount 6 = .ok (.iaload, 1) := by decide +kernel
theorem dX11_shedCount_7 : decode cX11_shedCount 7 = .ok (.ireturn, 1) := by decide +kernel
theorem dX11_energy_0 : decode cX11_energy 0 = .ok (.iload_n 1, 1) := by decide +kernel
theorem dX11_energy_1 : decode cX11_energy 1 = .ok (.iconst 0, 1) := by decide +kernel
theorem dX11_energy_2 : decode cX11_energy 2 = .ok (.iconst 2, 1) := by decide +kernel
theorem dX11_energy_3 : decode cX11_energy 3 = .ok (.invokestatic 67, 3) := by decide +kernel
theorem dX11_energy_6 : decode cX11_energy 6 = .ok (.ifCond .eq 12, 3) := by decide +kernel
theorem dX11_energy_9 : decode cX11_energy 9 = .ok (.aload_n 0, 1) := by decide +kernel
theorem dX11_energy_10 : decode cX11_energy 10 = .ok (.getfield 19, 3) := by decide +kernel
theorem dX11_energy_13 : decode cX11_energy 13 = .ok (.iload_n 1, 1) := by decide +kernel
theorem dX11_energy_14 : decode cX11_energy 14 = .ok (.laload, 1) := by decide +kernel
theorem dX11_energy_15 : decode cX11_energy 15 = .ok (.goto 6, 3) := by decide +kernel
theorem dX11_energy_18 : decode cX11_energy 18 = .ok (.ldc2_w 197, 3) := by decide +kernel
theorem dX11_energy_21 : decode cX11_energy 21 = .ok (.lreturn, 1) := by decide +kernel
theorem dX11_keepState_0 : decode cX11_keepState 0 = .ok (.iconst 0, 1) := by decide +kernel
theorem dX11_keepState_1 : decode cX11_keepState 1 = .ok (.istore_n 1, 1) := by decide +kernel
theorem dX11_keepState_2 : decode cX11_keepState 2 = .ok (.iload_n 1, 1) := by decide +kernel
theorem dX11_keepState_3 : decode cX11_keepState 3 = .ok (.sipush 1486, 3) := by decide +kernel
theorem dX11_keepState_6 : decode cX11_keepState 6 = .ok (.if_icmp .ge 21, 3) := by decide +kernel
theorem dX11_keepState_9 : decode cX11_keepState 9 = .ok (.aload_n 0, 1) := by decide +kernel
theorem dX11_keepState_10 : decode cX11_keepState 10 = .ok (.getfield 13, 3) := by decide +kernel
theorem dX11_keepState_13 : decode cX11_keepState 13 = .ok (.iload_n 1, 1) := by decide +kernel
theorem dX11_keepState_14 : decode cX11_keepState 14 = .ok (.aload_n 0, 1) := by decide +kernel
theorem dX11_keepState_15 : decode cX11_keepState 15 = .ok (.getfield 7, 3) := by decide +kernel
theorem dX11_keepState_18 : decode cX11_keepState 18 = .ok (.iload_n 1, 1) := by decide +kernel
theorem dX11_keepState_19 : decode cX11_keepState 19 = .ok (.iaload, 1) := by decide +kernel
theorem dX11_keepState_20 : decode cX11_keepState 20 = .ok (.iastore, 1) := by decide +kernel
theorem dX11_keepState_21 : decode cX11_keepState 21 = .ok (.iinc 1 1, 3) := by decide +kernel
theorem dX11_keepState_24 : decode cX11_keepState 24 = .ok (.goto (-22), 3) := by decide +kernel
theorem dX11_keepState_27 : decode cX11_keepState 27 = .ok (.iconst 0, 1) := by decide +kernel
theorem dX11_keepState_28 : decode cX11_keepState 28 = .ok (.istore_n 1, 1) := by decide +kernel
theorem dX11_keepState_29 : decode cX11_keepState 29 = .ok (.iload_n 1, 1) := by decide +kernel
theorem dX11_keepState_30 : decode cX11_keepState 30 = .ok (.iconst 3, 1) := by decide +kernel
theorem dX11_keepState_31 : decode cX11_keepState 31 = .ok (.if_icmp .ge 21, 3) := by decide +kernel
theorem dX11_keepState_34 : decode cX11_keepState 34 = .ok (.aload_n 0, 1) := by decide +kernel
theorem dX11_keepState_35 : decode cX11_keepState 35 = .ok (.getfield 23, 3) := by decide +kernel
theorem dX11_keepState_38 : decode cX11_keepState 38 = .ok (.iload_n 1, 1) := by decide +kernel
theorem dX11_keepState_39 : decode cX11_keepState 39 = .ok (.aload_n 0, 1) := by decide +kernel
theorem dX11_keepState_40 : decode cX11_keepState 40 = .ok (.getfield 19, 3) := by decide +kernel
theorem dX11_keepState_43 : decode cX11_keepState 43 = .ok (.iload_n 1, 1) := by decide +kernel
theorem dX11_keepState_44 : decode cX11_keepState 44 = .ok (.laload, 1) := by decide +kernel
theorem dX11_keepState_45 : decode cX11_keepState 45 = .ok (.lastore, 1) := by decide +kernel
theorem dX11_keepState_46 : decode cX11_keepState 46 = .ok (.iinc 1 1, 3) := by decide +kernel
theorem dX11_keepState_49 : decode cX11_keepState 49 = .ok (.goto (-20), 3) := by decide +kernel
theorem dX11_keepState_52 : decode cX11_keepState 52 = .ok (.return_, 1) := by decide +kernel
theorem dX11_putBackState_0 : decode cX11_putBackState 0 = .ok (.iconst 0, 1) := by decide +kernel
theorem dX11_putBackState_1 : decode cX11_putBackState 1 = .ok (.istore_n 1, 1) := by decide +kernel
theorem dX11_putBackState_2 : decode cX11_putBackState 2 = .ok (.iload_n 1, 1) := by decide +kernel
theorem dX11_putBackState_3 : decode cX11_putBackState 3 = .ok (.sipush 1486, 3) := by decide +kernel
theorem dX11_putBackState_6 : decode cX11_putBackState 6 = .ok (.if_icmp .ge 21, 3) := by decide +kernel
theorem dX11_putBackState_9 : decode cX11_putBackState 9 = .ok (.aload_n 0, 1) := by decide +kernel
theorem dX11_putBackState_10 : decode cX11_putBackState 10 = .ok (.getfield 7, 3) := by decide +kernel
theorem dX11_putBackState_13 : decode cX11_putBackState 13 = .ok (.iload_n 1, 1) := by decide +kernel
theorem dX11_putBackState_14 : decode cX11_putBackState 14 = .ok (.aload_n 0, 1) := by decide +kernel
theorem dX11_putBackState_15 : decode cX11_putBackState 15 = .ok (.getfield 13, 3) := by decide +kernel
theorem dX11_putBackState_18 : decode cX11_putBackState 18 = .ok (.iload_n 1, 1) := by decide +kernel
theorem dX11_putBackState_19 : decode cX11_putBackState 19 = .ok (.iaload, 1) := by decide +kernel
theorem dX11_putBackState_20 : decode cX11_putBackState 20 = .ok (.iastore, 1) := by decide +kernel
theorem dX11_putBackState_21 : decode cX11_putBackState 21 = .ok (.iinc 1 1, 3) := by decide +kernel
theorem dX11_putBackState_24 : decode cX11_putBackState 24 = .ok (.goto (-22), 3) := by decide +kernel
theorem dX11_putBackState_27 : decode cX11_putBackState 27 = .ok (.iconst 0, 1) := by decide +kernel
theorem dX11_putBackState_28 : decode cX11_putBackState 28 = .ok (.istore_n 1, 1) := by decide +kernel
theorem dX11_putBackState_29 : decode cX11_putBackState 29 = .ok (.iload_n 1, 1) := by decide +kernel
theorem dX11_putBackState_30 : decode cX11_putBackState 30 = .ok (.iconst 3, 1) := by decide +kernel
theorem dX11_putBackState_31 : decode cX11_putBackState 31 = .ok (.if_icmp .ge 21, 3) := by decide +kernel
theorem dX11_putBackState_34 : decode cX11_putBackState 34 = .ok (.aload_n 0, 1) := by decide +kernel
theorem dX11_putBackState_35 : decode cX11_putBackState 35 = .ok (.getfield 19, 3) := by decide +kernel
theorem dX11_putBackState_38 : decode cX11_putBackState 38 = .ok (.iload_n 1, 1) := by decide +kernel
theorem dX11_putBackState_39 : decode cX11_putBackState 39 = .ok (.aload_n 0, 1) := by decide +kernel
theorem dX11_putBackState_40 : decode cX11_putBackState 40 = .ok (.getfield 23, 3) := by decide +kernel
theorem dX11_putBackState_43 : decode cX11_putBackState 43 = .ok (.iload_n 1, 1) := by decide +kernel
theorem dX11_putBackState_44 : decode cX11_putBackState 44 = .ok (.laload, 1) := by decide +kernel
theorem dX11_putBackState_45 : decode cX11_putBackState 45 = .ok (.lastore, 1) := by decide +kernel
theorem dX11_putBackState_46 : decode cX11_putBackState 46 = .ok (.iinc 1 1, 3) := by decide +kernel
theorem dX11_putBackState_49 : decode cX11_putBackState 49 = .ok (.goto (-20), 3) := by decide +kernel
theorem dX11_putBackState_52 : decode cX11_putBackState 52 = .ok (.return_, 1) := by decide +kernel
theorem dX11_runToViolation_0 : decode cX11_runToViolation 0 = .ok (.iconst 1, 1) := by decide +kernel
theorem dX11_runToViolation_1 : decode cX11_runToViolation 1 = .ok (.istore_n 3, 1) := by decide +kernel
theorem dX11_runToViolation_2 : decode cX11_runToViolation 2 = .ok (.iload_n 3, 1) := by decide +kernel
theorem dX11_runToViolation_3 : decode cX11_runToViolation 3 = .ok (.iload_n 2, 1) := by decide +kernel
theorem dX11_runToViolation_4 : decode cX11_runToViolation 4 = .ok (.if_icmp .gt 38, 3) := by decide +kernel
theorem dX11_runToViolation_7 : decode cX11_runToViolation 7 = .ok (.aload_n 0, 1) := by decide +kernel
theorem dX11_runToViolation_8 : decode cX11_runToViolation 8 = .ok (.invokevirtual 182, 3) := by decide +kernel
theorem dX11_runToViolation_11 : decode cX11_runToViolation 11 = .ok (.istore 4, 2) := by decide +kernel
theorem dX11_runToViolation_13 : decode cX11_runToViolation 13 = .ok (.iload_n 1, 1) := by decide +kernel
theorem dX11_runToViolation_14 : decode cX11_runToViolation 14 = .ok (.iconst (-1), 1) := by decide +kernel
theorem dX11_runToViolation_15 : decode cX11_runToViolation 15 = .ok (.if_icmp .ne 11, 3) := by decide +kernel
theorem dX11_runToViolation_18 : decode cX11_runToViolation 18 = .ok (.iload 4, 2) := by decide +kernel
theorem dX11_runToViolation_20 : decode cX11_runToViolation 20 = .ok (.ifCond .eq 16, 3) := by decide +kernel
theorem dX11_runToViolation_23 : decode cX11_runToViolation 23 = .ok (.goto 11, 3) := by decide +kernel
theorem dX11_runToViolation_26 : decode cX11_runToViolation 26 = .ok (.aload_n 0, 1) := by decide +kernel
theorem dX11_runToViolation_27 : decode cX11_runToViolation 27 = .ok (.iload_n 1, 1) := by decide +kernel
theorem dX11_runToViolation_28 : decode cX11_runToViolation 28 = .ok (.invokevirtual 163, 3) := by decide +kernel
theorem dX11_runToViolation_31 : decode cX11_runToViolation 31 = .ok (.ifCond .eq 5, 3) := by decide +kernel
theorem dX11_runToViolation_34 : decode cX11_runToViolation 34 = .ok (.iload_n 3, 1) := by decide +kernel
theorem dX11_runToViolation_35 : decode cX11_runToViolation 35 = .ok (.ireturn, 1) := by decide +kernel
theorem dX11_runToViolation_36 : decode cX11_runToViolation 36 = .ok (.iinc 3 1, 3) := by decide +kernel
theorem dX11_runToViolation_39 : decode cX11_runToViolation 39 = .ok (.goto (-37), 3) := by decide +kernel
theorem dX11_runToViolation_42 : decode cX11_runToViolation 42 = .ok (.iconst (-1), 1) := by decide +kernel
theorem dX11_runToViolation_43 : decode cX11_runToViolation 43 = .ok (.ireturn, 1) := by decide +kernel
theorem dX11_stepsToViolation_0 : decode cX11_stepsToViolation 0 = .ok (.iload_n 1, 1) := by decide +kernel
theorem dX11_stepsToViolation_1 : decode cX11_stepsToViolation 1 = .ok (.iconst (-1), 1) := by decide +kernel
theorem dX11_stepsToViolation_2 : decode cX11_stepsToViolation 2 = .ok (.if_icmp .eq 14, 3) := by decide +kernel
theorem dX11_stepsToViolation_5 : decode cX11_stepsToViolation 5 = .ok (.aload_n 0, 1) := by decide +kernel
theorem dX11_stepsToViolation_6 : decode cX11_stepsToViolation 6 = .ok (.iload_n 1, 1) := by decide +kernel
theorem dX11_stepsToViolation_7 : decode cX11_stepsToViolation 7 = .ok (.invokevirtual 93, 3) := by decide +kernel
theorem dX11_stepsToViolation_10 : decode cX11_stepsToViolation 10 = .ok (.ifCond .ne 6, 3) := by decide +kernel
theorem dX11_stepsToViolation_13 : decode cX11_stepsToViolation 13 = .ok (.ldc 96, 2) := by decide +kernel
theorem dX11_stepsToViolation_15 : decode cX11_stepsToViolation 15 = .ok (.ireturn, 1) := by decide +kernel
theorem dX11_stepsToViolation_16 : decode cX11_stepsToViolation 16 = .ok (.iload_n 2, 1) := by decide +kernel
theorem dX11_stepsToViolation_17 : decode cX11_stepsToViolation 17 = .ok (.iconst 1, 1) := by decide +kernel
theorem dX11_stepsToViolation_18 : decode cX11_stepsToViolation 18 = .ok (.sipush 2000, 3) := by decide +kernel
theorem dX11_stepsToViolation_21 : decode cX11_stepsToViolation 21 = .ok (.invokestatic 67, 3) := by decide +kernel
theorem dX11_stepsToViolation_24 : decode cX11_stepsToViolation 24 = .ok (.ifCond .ne 6, 3) := by decide +kernel
theorem dX11_stepsToViolation_27 : decode cX11_stepsToViolation 27 = .ok (.ldc 79, 2) := by decide +kernel
theorem dX11_stepsToViolation_29 : decode cX11_stepsToViolation 29 = .ok (.ireturn, 1) := by decide +kernel
theorem dX11_stepsToViolation_30 : decode cX11_stepsToViolation 30 = .ok (.aload_n 0, 1) := by decide +kernel
theorem dX11_stepsToViolation_31 : decode cX11_stepsToViolation 31 = .ok (.invokevirtual 199, 3) := by decide +kernel
theorem dX11_stepsToViolation_34 : decode cX11_stepsToViolation 34 = .ok (.aload_n 0, 1) := by decide +kernel
theorem dX11_stepsToViolation_35 : decode cX11_stepsToViolation 35 = .ok (.iload_n 1, 1) := by decide +kernel
theorem dX11_stepsToViolation_36 : decode cX11_stepsToViolation 36 = .ok (.iload_n 2, 1) := by decide +kernel
theorem dX11_stepsToViolation_37 : decode cX11_stepsToViolation 37 = .ok (.invokevirtual 202, 3) := by decide +kernel
theorem dX11_stepsToViolation_40 : decode cX11_stepsToViolation 40 = .ok (.istore_n 3, 1) := by decide +kernel
theorem dX11_stepsToViolation_41 : decode cX11_stepsToViolation 41 = .ok (.aload_n 0, 1) := by decide +kernel
theorem dX11_stepsToViolation_42 : decode cX11_stepsToViolation 42 = .ok (.invokevirtual 205, 3) := by decide +kernel
theorem dX11_stepsToViolation_45 : decode cX11_stepsToViolation 45 = .ok (.iload_n 3, 1) := by decide +kernel
theorem dX11_stepsToViolation_46 : decode cX11_stepsToViolation 46 = .ok (.ireturn, 1) := by decide +kernel
theorem dX11_extremeAhead_0 : decode cX11_extremeAhead 0 = .ok (.aload_n 0, 1) := by decide +kernel
theorem dX11_extremeAhead_1 : decode cX11_extremeAhead 1 = .ok (.iload_n 1, 1) := by decide +kernel
theorem dX11_extremeAhead_2 : decode cX11_extremeAhead 2 = .ok (.invokevirtual 93, 3) := by decide +kernel
theorem dX11_extremeAhead_5 : decode cX11_extremeAhead 5 = .ok (.ifCond .ne 6, 3) := by decide +kernel
theorem dX11_extremeAhead_8 : decode cX11_extremeAhead 8 = .ok (.ldc 96, 2) := by decide +kernel
theorem dX11_extremeAhead_10 : decode cX11_extremeAhead 10 = .ok (.ireturn, 1) := by decide +kernel
theorem dX11_extremeAhead_11 : decode cX11_extremeAhead 11 = .ok (.iload_n 2, 1) := by decide +kernel
theorem dX11_extremeAhead_12 : decode cX11_extremeAhead 12 = .ok (.iconst 1, 1) := by decide +kernel
theorem dX11_extremeAhead_13 : decode cX11_extremeAhead 13 = .ok (.sipush 2000, 3) := by decide +kernel
theorem dX11_extremeAhead_16 : decode cX11_extremeAhead 16 = .ok (.invokestatic 67, 3) := by decide +kernel
theorem dX11_extremeAhead_19 : decode cX11_extremeAhead 19 = .ok (.ifCond .ne 6, 3) := by decide +kernel
theorem dX11_extremeAhead_22 : decode cX11_extremeAhead 22 = .ok (.ldc 79, 2) := by decide +kernel
theorem dX11_extremeAhead_24 : decode cX11_extremeAhead 24 = .ok (.ireturn, 1) := by decide +kernel
theorem dX11_extremeAhead_25 : decode cX11_extremeAhead 25 = .ok (.aload_n 0, 1) := by decide +kernel
theorem dX11_extremeAhead_26 : decode cX11_extremeAhead 26 = .ok (.invokevirtual 199, 3) := by decide +kernel
theorem dX11_extremeAhead_29 : decode cX11_extremeAhead 29 = .ok (.iload_n 3, 1) := by decide +kernel
theorem dX11_extremeAhead_30 : decode cX11_extremeAhead 30 = .ok (.ifCond .eq 8, 3) := by decide +kernel
theorem dX11_extremeAhead_33 : decode cX11_extremeAhead 33 = .ok (.ldc 71, 2) := by decide +kernel
theorem dX11_extremeAhead_35 : decode cX11_extremeAhead 35 = .ok (.goto 5, 3) := by decide +kernel
theorem dX11_extremeAhead_38 : decode cX11_extremeAhead 38 = .ok (.ldc 72, 2) := by decide +kernel
theorem dX11_extremeAhead_40 : decode cX11_extremeAhead 40 = .ok (.istore 4, 2) := by decide +kernel
theorem dX11_extremeAhead_42 : decode cX11_extremeAhead 42 = .ok (.iconst 0, 1) := by decide +kernel
theorem dX11_extremeAhead_43 : decode cX11_extremeAhead 43 = .ok (.istore 5, 2) := by decide +kernel
theorem dX11_extremeAhead_45 : decode cX11_extremeAhead 45 = .ok (.iload 5, 2) := by decide +kernel
theorem dX11_extremeAhead_47 : decode cX11_extremeAhead 47 = .ok (.iload_n 2, 1) := by decide +kernel
theorem dX11_extremeAhead_48 : decode cX11_extremeAhead 48 = .ok (.if_icmp .ge 46, 3) := by decide +kernel
theorem dX11_extremeAhead_51 : decode cX11_extremeAhead 51 = .ok (.aload_n 0, 1) := by decide +kernel
theorem dX11_extremeAhead_52 : decode cX11_extremeAhead 52 = .ok (.invokevirtual 182, 3) := by decide +kernel
theorem dX11_extremeAhead_55 : decode cX11_extremeAhead 55 = .ok (.istore 6, 2) := by decide +kernel
theorem dX11_extremeAhead_57 : decode cX11_extremeAhead 57 = .ok (.aload_n 0, 1) := by decide +kernel
theorem dX11_extremeAhead_58 : decode cX11_extremeAhead 58 = .ok (.iload_n 1, 1) := by decide +kernel
theorem dX11_extremeAhead_59 : decode cX11_extremeAhead 59 = .ok (.iconst 1, 1) := by decide +kernel
theorem dX11_extremeAhead_60 : decode cX11_extremeAhead 60 = .ok (.invokevirtual 89, 3) := by decide +kernel
theorem dX11_extremeAhead_63 : decode cX11_extremeAhead 63 = .ok (.istore 7, 2) := by decide +kernel
theorem dX11_extremeAhead_65 : decode cX11_extremeAhead 65 = .ok (.iload_n 3, 1) := by decide +kernel
theorem dX11_extremeAhead_66 : decode cX11_extremeAhead 66 = .ok (.ifCond .eq 13, 3) := by decide +kernel
theorem dX11_extremeAhead_69 : decode cX11_extremeAhead 69 = .ok (.iload 4, 2) := by decide +kernel
theorem dX11_extremeAhead_71 : decode cX11_extremeAhead 71 = .ok (.iload 7, 2) := by decide +kernel
theorem dX11_extremeAhead_73 : decode cX11_extremeAhead 73 = .ok (.invokestatic 161, 3) := by decide +kernel
theorem dX11_extremeAhead_76 : decode cX11_extremeAhead 76 = .ok (.goto 10, 3) := by decide +kernel
theorem dX11_extremeAhead_79 : decode cX11_extremeAhead 79 = .ok (.iload 4, 2) := by decide +kernel
theorem dX11_extremeAhead_81 : decode cX11_extremeAhead 81 = .ok (.iload 7, 2) := by decide +kernel
theorem dX11_extremeAhead_83 : decode cX11_extremeAhead 83 = .ok (.invokestatic 159, 3) := by decide +kernel
theorem dX11_extremeAhead_86 : decode cX11_extremeAhead 86 = .ok (.istore 4, 2) := by decide +kernel
theorem dX11_extremeAhead_88 : decode cX11_extremeAhead 88 = .ok (.iinc 5 1, 3) := by decide +kernel
theorem dX11_extremeAhead_91 : decode cX11_extremeAhead 91 = .ok (.goto (-46), 3) := by decide +kernel
theorem dX11_extremeAhead_94 : decode cX11_extremeAhead 94 = .ok (.aload_n 0, 1) := by decide +kernel
theorem dX11_extremeAhead_95 : decode cX11_extremeAhead 95 = .ok (.invokevirtual 205, 3) := by decide +kernel
theorem dX11_extremeAhead_98 : decode cX11_extremeAhead 98 = .ok (.iload 4, 2) := by decide +kernel
theorem dX11_extremeAhead_100 : decode cX11_extremeAhead 100 = .ok (.ireturn, 1) := by decide +kernel
theorem dX11_leastValue_0 : decode cX11_leastValue 0 = .ok (.aload_n 0, 1) := by decide +kernel
theorem dX11_leastValue_1 : decode cX11_leastValue 1 = .ok (.invokevirtual 199, 3) := by decide +kernel
theorem dX11_leastValue_4 : decode cX11_leastValue 4 = .ok (.iconst (-1), 1) := by decide +kernel
theorem dX11_leastValue_5 : decode cX11_leastValue 5 = .ok (.istore 4, 2) := by decide +kernel
theorem dX11_leastValue_7 : decode cX11_leastValue 7 = .ok (.iconst 0, 1) := by decide +kernel
theorem dX11_leastValue_8 : decode cX11_leastValue 8 = .ok (.istore 5, 2) := by decide +kernel
theorem dX11_leastValue_10 : decode cX11_leastValue 10 = .ok (.iload 5, 2) := by decide +kernel
theorem dX11_leastValue_12 : decode cX11_leastValue 12 = .ok (.bipush 30, 2) := by decide +kernel
theorem dX11_leastValue_14 : decode cX11_leastValue 14 = .ok (.if_icmp .gt 49, 3) := by decide +kernel
theorem dX11_leastValue_17 : decode cX11_leastValue 17 = .ok (.iload 4, 2) := by decide +kernel
theorem dX11_leastValue_19 : decode cX11_leastValue 19 = .ok (.iconst (-1), 1) := by decide +kernel
theorem dX11_leastValue_20 : decode cX11_leastValue 20 = .ok (.if_icmp .ne 43, 3) := by decide +kernel
theorem dX11_leastValue_23 : decode cX11_leastValue 23 = .ok (.aload_n 0, 1) := by decide +kernel
theorem dX11_leastValue_24 : decode cX11_leastValue 24 = .ok (.getfield 7, 3) := by decide +kernel
theorem dX11_leastValue_27 : decode cX11_leastValue 27 = .ok (.iload_n 1, 1) := by decide +kernel
theorem dX11_leastValue_28 : decode cX11_leastValue 28 = .ok (.iload_n 2, 1) := by decide +kernel
theorem dX11_leastValue_29 : decode cX11_leastValue 29 = .ok (.iload 5, 2) := by decide +kernel
theorem dX11_leastValue_31 : decode cX11_leastValue 31 = .ok (.imul, 1) := by decide +kernel
theorem dX11_leastValue_32 : decode cX11_leastValue 32 = .ok (.iastore, 1) := by decide +kernel
theorem dX11_leastValue_33 : decode cX11_leastValue 33 = .ok (.aload_n 0, 1) := by decide +kernel
theorem dX11_leastValue_34 : decode cX11_leastValue 34 = .ok (.iconst (-1), 1) := by decide +kernel
theorem dX11_leastValue_35 : decode cX11_leastValue 35 = .ok (.iload_n 3, 1) := by decide +kernel
theorem dX11_leastValue_36 : decode cX11_leastValue 36 = .ok (.invokevirtual 202, 3) := by decide +kernel
theorem dX11_leastValue_39 : decode cX11_leastValue 39 = .ok (.iconst (-1), 1) := by decide +kernel
theorem dX11_leastValue_40 : decode cX11_leastValue 40 = .ok (.if_icmp .ne 10, 3) := by decide +kernel
theorem dX11_leastValue_43 : decode cX11_leastValue 43 = .ok (.iload_n 2, 1) := by decide +kernel
theorem dX11_leastValue_44 : decode cX11_leastValue 44 = .ok (.iload 5, 2) := by decide +kernel
theorem dX11_leastValue_46 : decode cX11_leastValue 46 = .ok (.imul, 1) := by decide +kernel
theorem dX11_leastValue_47 : decode cX11_leastValue 47 = .ok (.goto 4, 3) := by decide +kernel
theorem dX11_leastValue_50 : decode cX11_leastValue 50 = .ok (.iconst (-1), 1) := by decide +kernel
theorem dX11_leastValue_51 : decode cX11_leastValue 51 = .ok (.istore 4, 2) := by decide +kernel
theorem dX11_leastValue_53 : decode cX11_leastValue 53 = .ok (.aload_n 0, 1) := by decide +kernel
theorem dX11_leastValue_54 : decode cX11_leastValue 54 = .ok (.invokevirtual 205, 3) := by decide +kernel
theorem dX11_leastValue_57 : decode cX11_leastValue 57 = .ok (.iinc 5 1, 3) := by decide +kernel
theorem dX11_leastValue_60 : decode cX11_leastValue 60 = .ok (.goto (-50), 3) := by decide +kernel
theorem dX11_leastValue_63 : decode cX11_leastValue 63 = .ok (.iload 4, 2) := by decide +kernel
theorem dX11_leastValue_65 : decode cX11_leastValue 65 = .ok (.ireturn, 1) := by decide +kernel
theorem dX11_leastHeaterPower_0 : decode cX11_leastHeaterPower 0 = .ok (.aload_n 0, 1) := by decide +kernel
theorem dX11_leastHeaterPower_1 : decode cX11_leastHeaterPower 1 = .ok (.iload_n 1, 1) := by decide +kernel
theorem dX11_leastHeaterPower_2 : decode cX11_leastHeaterPower 2 = .ok (.invokevirtual 125, 3) := by decide +kernel
theorem dX11_leastHeaterPower_5 : decode cX11_leastHeaterPower 5 = .ok (.ifCond .ne 6, 3) := by decide +kernel
theorem dX11_leastHeaterPower_8 : decode cX11_leastHeaterPower 8 = .ok (.ldc 96, 2) := by decide +kernel
theorem dX11_leastHeaterPower_10 : decode cX11_leastHeaterPower 10 = .ok (.ireturn, 1) := by decide +kernel
theorem dX11_leastHeaterPower_11 : decode cX11_leastHeaterPower 11 = .ok (.iload_n 2, 1) := by decide +kernel
theorem dX11_leastHeaterPower_12 : decode cX11_leastHeaterPower 12 = .ok (.iconst 1, 1) := by decide +kernel
theorem dX11_leastHeaterPower_13 : decode cX11_leastHeaterPower 13 = .ok (.sipush 200, 3) := by decide +kernel
theorem dX11_leastHeaterPower_16 : decode cX11_leastHeaterPower 16 = .ok (.invokestatic 67, 3) := by decide +kernel
theorem dX11_leastHeaterPower_19 : decode cX11_leastHeaterPower 19 = .ok (.ifCond .eq 24, 3) := by decide +kernel
theorem dX11_leastHeaterPower_22 : decode cX11_leastHeaterPower 22 = .ok (.aload_n 0, 1) := by decide +kernel
theorem dX11_leastHeaterPower_23 : decode cX11_leastHeaterPower 23 = .ok (.sipush 338, 3) := by decide +kernel
theorem dX11_leastHeaterPower_26 : decode cX11_leastHeaterPower 26 = .ok (.bipush 8, 2) := by decide +kernel
theorem dX11_leastHeaterPower_28 : decode cX11_leastHeaterPower 28 = .ok (.iload_n 1, 1) := by decide +kernel
theorem dX11_leastHeaterPower_29 : decode cX11_leastHeaterPower 29 = .ok (.imul, 1) := by decide +kernel
theorem dX11_leastHeaterPower_30 : decode cX11_leastHeaterPower 30 = .ok (.iadd, 1) := by decide +kernel
theorem dX11_leastHeaterPower_31 : decode cX11_leastHeaterPower 31 = .ok (.iconst 1, 1) := by decide +kernel
theorem dX11_leastHeaterPower_32 : decode cX11_leastHeaterPower 32 = .ok (.iadd, 1) := by decide +kernel
theorem dX11_leastHeaterPower_33 : decode cX11_leastHeaterPower 33 = .ok (.sipush 1000, 3) := by decide +kernel
theorem dX11_leastHeaterPower_36 : decode cX11_leastHeaterPower 36 = .ok (.iload_n 2, 1) := by decide +kernel
theorem dX11_leastHeaterPower_37 : decode cX11_leastHeaterPower 37 = .ok (.invokevirtual 208, 3) := by decide +kernel
theorem dX11_leastHeaterPower_40 : decode cX11_leastHeaterPower 40 = .ok (.goto 5, 3) := by decide +kernel
theorem dX11_leastHeaterPower_43 : decode cX11_leastHeaterPower 43 = .ok (.ldc 79, 2) := by decide +kernel
theorem dX11_leastHeaterPower_45 : decode cX11_leastHeaterPower 45 = .ok (.ireturn, 1) := by decide +kernel
theorem dX11_leastLouvreArea_0 : decode cX11_leastLouvreArea 0 = .ok (.aload_n 0, 1) := by decide +kernel
theorem dX11_leastLouvreArea_1 : decode cX11_leastLouvreArea 1 = .ok (.iload_n 1, 1) := by decide +kernel
theorem dX11_leastLouvreArea_2 : decode cX11_leastLouvreArea 2 = .ok (.invokevirtual 109, 3) := by decide +kernel
theorem dX11_leastLouvreArea_5 : decode cX11_leastLouvreArea 5 = .ok (.ifCond .ne 6, 3) := by decide +kernel
theorem dX11_leastLouvreArea_8 : decode cX11_leastLouvreArea 8 = .ok (.ldc 96, 2) := by decide +kernel
theorem dX11_leastLouvreArea_10 : decode cX11_leastLouvreArea 10 = .ok (.ireturn, 1) := by decide +kernel
theorem dX11_leastLouvreArea_11 : decode cX11_leastLouvreArea 11 = .ok (.iload_n 2, 1) := by decide +kernel
theorem dX11_leastLouvreArea_12 : decode cX11_leastLouvreArea 12 = .ok (.iconst 1, 1) := by decide +kernel
theorem dX11_leastLouvreArea_13 : decode cX11_leastLouvreArea 13 = .ok (.sipush 200, 3) := by decide +kernel
theorem dX11_leastLouvreArea_16 : decode cX11_leastLouvreArea 16 = .ok (.invokestatic 67, 3) := by decide +kernel
theorem dX11_leastLouvreArea_19 : decode cX11_leastLouvreArea 19 = .ok (.ifCond .eq 23, 3) := by decide +kernel
theorem dX11_leastLouvreArea_22 : decode cX11_leastLouvreArea 22 = .ok (.aload_n 0, 1) := by decide +kernel
theorem dX11_leastLouvreArea_23 : decode cX11_leastLouvreArea 23 = .ok (.sipush 296, 3) := by decide +kernel
theorem dX11_leastLouvreArea_26 : decode cX11_leastLouvreArea 26 = .ok (.bipush 7, 2) := by decide +kernel
theorem dX11_leastLouvreArea_28 : decode cX11_leastLouvreArea 28 = .ok (.iload_n 1, 1) := by decide +kernel
theorem dX11_leastLouvreArea_29 : decode cX11_leastLouvreArea 29 = .ok (.imul, 1) := by decide +kernel
theorem dX11_leastLouvreArea_30 : decode cX11_leastLouvreArea 30 = .ok (.iadd, 1) := by decide +kernel
theorem dX11_leastLouvreArea_31 : decode cX11_leastLouvreArea 31 = .ok (.iconst 1, 1) := by decide +kernel
theorem dX11_leastLouvreArea_32 : decode cX11_leastLouvreArea 32 = .ok (.iadd, 1) := by decide +kernel
theorem dX11_leastLouvreArea_33 : decode cX11_leastLouvreArea 33 = .ok (.bipush 100, 2) := by decide +kernel
theorem dX11_leastLouvreArea_35 : decode cX11_leastLouvreArea 35 = .ok (.iload_n 2, 1) := by decide +kernel
theorem dX11_leastLouvreArea_36 : decode cX11_leastLouvreArea 36 = .ok (.invokevirtual 208, 3) := by decide +kernel
theorem dX11_leastLouvreArea_39 : decode cX11_leastLouvreArea 39 = .ok (.goto 5, 3) := by decide +kernel
theorem dX11_leastLouvreArea_42 : decode cX11_leastLouvreArea 42 = .ok (.ldc 79, 2) := by decide +kernel
theorem dX11_leastLouvreArea_44 : decode cX11_leastLouvreArea 44 = .ok (.ireturn, 1) := by decide +kernel
theorem dX11_isRepeated_0 : decode cX11_isRepeated 0 = .ok (.iconst 0, 1) := by decide +kernel
theorem dX11_isRepeated_1 : decode cX11_isRepeated 1 = .ok (.istore_n 3, 1) := by decide +kernel
theorem dX11_isRepeated_2 : decode cX11_isRepeated 2 = .ok (.iload_n 3, 1) := by decide +kernel
theorem dX11_isRepeated_3 : decode cX11_isRepeated 3 = .ok (.aload_n 0, 1) := by decide +kernel
theorem dX11_isRepeated_4 : decode cX11_isRepeated 4 = .ok (.getfield 7, 3) := by decide +kernel
theorem dX11_isRepeated_7 : decode cX11_isRepeated 7 = .ok (.bipush 12, 2) := by decide +kernel
theorem dX11_isRepeated_9 : decode cX11_isRepeated 9 = .ok (.iaload, 1) := by decide +kernel
theorem dX11_isRepeated_10 : decode cX11_isRepeated 10 = .ok (.if_icmp .ge 21, 3) := by decide +kernel
theorem dX11_isRepeated_13 : decode cX11_isRepeated 13 = .ok (.aload_n 0, 1) := by decide +kernel
theorem dX11_isRepeated_14 : decode cX11_isRepeated 14 = .ok (.getfield 36, 3) := by decide +kernel
theorem dX11_isRepeated_17 : decode cX11_isRepeated 17 = .ok (.iload_n 3, 1) := by decide +kernel
theorem dX11_isRepeated_18 : decode cX11_isRepeated 18 = .ok (.aload_n 0, 1) := by decide +kernel
theorem dX11_isRepeated_19 : decode cX11_isRepeated 19 = .ok (.iload_n 3, 1) := by decide +kernel
theorem dX11_isRepeated_20 : decode cX11_isRepeated 20 = .ok (.iconst 1, 1) := by decide +kernel
theorem dX11_isRepeated_21 : decode cX11_isRepeated 21 = .ok (.invokevirtual 89, 3) := by decide +kernel
theorem dX11_isRepeated_24 : decode cX11_isRepeated 24 = .ok (.iastore, 1) := by decide +kernel
theorem dX11_isRepeated_25 : decode cX11_isRepeated 25 = .ok (.iinc 3 1, 3) := by decide +kernel
theorem dX11_isRepeated_28 : decode cX11_isRepeated 28 = .ok (.goto (-26), 3) := by decide +kernel
theorem dX11_isRepeated_31 : decode cX11_isRepeated 31 = .ok (.iconst 0, 1) := by decide +kernel
theorem dX11_isRepeated_32 : decode cX11_isRepeated 32 = .ok (.istore_n 3, 1) := by decide +kernel
theorem dX11_isRepeated_33 : decode cX11_isRepeated 33 = .ok (.iload_n 3, 1) := by decide +kernel
theorem dX11_isRepeated_34 : decode cX11_isRepeated 34 = .ok (.iload_n 1, 1) := by decide +kernel
theorem dX11_isRepeated_35 : decode cX11_isRepeated 35 = .ok (.if_icmp .ge 15, 3) := by decide +kernel
theorem dX11_isRepeated_38 : decode cX11_isRepeated 38 = .ok (.aload_n 0, 1) := by decide +kernel
theorem dX11_isRepeated_39 : decode cX11_isRepeated 39 = .ok (.invokevirtual 182, 3) := by decide +kernel
theorem dX11_isRepeated_42 : decode cX11_isRepeated 42 = .ok (.istore 4, 2) := by decide +kernel
theorem dX11_isRepeated_44 : decode cX11_isRepeated 44 = .ok (.iinc 3 1, 3) := by decide +kernel
theorem dX11_isRepeated_47 : decode cX11_isRepeated 47 = .ok (.goto (-14), 3) := by decide +kernel
theorem dX11_isRepeated_50 : decode cX11_isRepeated 50 = .ok (.iconst 1, 1) := by decide +kernel
theorem dX11_isRepeated_51 : decode cX11_isRepeated 51 = .ok (.istore_n 3, 1) := by decide +kernel
theorem dX11_isRepeated_52 : decode cX11_isRepeated 52 = .ok (.iconst 0, 1) := by decide +kernel
theorem dX11_isRepeated_53 : decode cX11_isRepeated 53 = .ok (.istore 4, 2) := by decide +kernel
theorem dX11_isRepeated_55 : decode cX11_isRepeated 55 = .ok (.iload 4, 2) := by decide +kernel
theorem dX11_isRepeated_57 : decode cX11_isRepeated 57 = .ok (.aload_n 0, 1) := by decide +kernel
theorem dX11_isRepeated_58 : decode cX11_isRepeated 58 = .ok (.getfield 7, 3) := by decide +kernel
theorem dX11_isRepeated_61 : decode cX11_isRepeated 61 = .ok (.bipush 12, 2) := by decide +kernel
theorem dX11_isRepeated_63 : decode cX11_isRepeated 63 = .ok (.iaload, 1) := by decide +kernel
theorem dX11_isRepeated_64 : decode cX11_isRepeated 64 = .ok (.if_icmp .ge 41, 3) := by decide +kernel
theorem dX11_isRepeated_67 : decode cX11_isRepeated 67 = .ok (.iload_n 3, 1) := by decide +kernel
theorem dX11_isRepeated_68 : decode cX11_isRepeated 68 = .ok (.ifCond .eq 29, 3) := by decide +kernel
theorem dX11_isRepeated_71 : decode cX11_isRepeated 71 = .ok (.aload_n 0, 1) := by decide +kernel
theorem dX11_isRepeated_72 : decode cX11_isRepeated 72 = .ok (.iload 4, 2) := by decide +kernel
theorem dX11_isRepeated_74 : decode cX11_isRepeated 74 = .ok (.iconst 1, 1) := by decide +kernel
theorem dX11_isRepeated_75 : decode cX11_isRepeated 75 = .ok (.invokevirtual 89, 3) := by decide +kernel
theorem dX11_isRepeated_78 : decode cX11_isRepeated 78 = .ok (.aload_n 0, 1) := by decide +kernel
theorem dX11_isRepeated_79 : decode cX11_isRepeated 79 = .ok (.getfield 36, 3) := by decide +kernel
theorem dX11_isRepeated_82 : decode cX11_isRepeated 82 = .ok (.iload 4, 2) := by decide +kernel
theorem dX11_isRepeated_84 : decode cX11_isRepeated 84 = .ok (.iaload, 1) := by decide +kernel
theorem dX11_isRepeated_85 : decode cX11_isRepeated 85 = .ok (.isub, 1) := by decide +kernel
theorem dX11_isRepeated_86 : decode cX11_isRepeated 86 = .ok (.invokestatic 211, 3) := by decide +kernel
theorem dX11_isRepeated_89 : decode cX11_isRepeated 89 = .ok (.iload_n 2, 1) := by decide +kernel
theorem dX11_isRepeated_90 : decode cX11_isRepeated 90 = .ok (.if_icmp .gt 7, 3) := by decide +kernel
theorem dX11_isRepeated_93 : decode cX11_isRepeated 93 = .ok (.iconst 1, 1) := by decide +kernel
theorem dX11_isRepeated_94 : decode cX11_isRepeated 94 = .ok (.goto 4, 3) := by decide +kernel
theorem dX11_isRepeated_97 : decode cX11_isRepeated 97 = .ok (.iconst 0, 1) := by decide +kernel
theorem dX11_isRepeated_98 : decode cX11_isRepeated 98 = .ok (.istore_n 3, 1) := by decide +kernel
theorem dX11_isRepeated_99 : decode cX11_isRepeated 99 = .ok (.iinc 4 1, 3) := by decide +kernel
theorem dX11_isRepeated_102 : decode cX11_isRepeated 102 = .ok (.goto (-47), 3) := by decide +kernel
theorem dX11_isRepeated_105 : decode cX11_isRepeated 105 = .ok (.iload_n 3, 1) := by decide +kernel
theorem dX11_isRepeated_106 : decode cX11_isRepeated 106 = .ok (.ireturn, 1) := by decide +kernel
theorem dX11_settlingOrbit_0 : decode cX11_settlingOrbit 0 = .ok (.aload_n 0, 1) := by decide +kernel
theorem dX11_settlingOrbit_1 : decode cX11_settlingOrbit 1 = .ok (.getfield 7, 3) := by decide +kernel
theorem dX11_settlingOrbit_4 : decode cX11_settlingOrbit 4 = .ok (.iconst 2, 1) := by decide +kernel
theorem dX11_settlingOrbit_5 : decode cX11_settlingOrbit 5 = .ok (.iaload, 1) := by decide +kernel
theorem dX11_settlingOrbit_6 : decode cX11_settlingOrbit 6 = .ok (.aload_n 0, 1) := by decide +kernel
theorem dX11_settlingOrbit_7 : decode cX11_settlingOrbit 7 = .ok (.getfield 7, 3) := by decide +kernel
theorem dX11_settlingOrbit_10 : decode cX11_settlingOrbit 10 = .ok (.iconst 1, 1) := by decide +kernel
theorem dX11_settlingOrbit_11 : decode cX11_settlingOrbit 11 = .ok (.iaload, 1) := by decide +kernel
theorem dX11_settlingOrbit_12 : decode cX11_settlingOrbit 12 = .ok (.iadd, 1) := by decide +kernel
theorem dX11_settlingOrbit_13 : decode cX11_settlingOrbit 13 = .ok (.iconst 1, 1) := by decide +kernel
theorem dX11_settlingOrbit_14 : decode cX11_settlingOrbit 14 = .ok (.isub, 1) := by decide +kernel
theorem dX11_settlingOrbit_15 : decode cX11_settlingOrbit 15 = .ok (.aload_n 0, 1) := by decide +kernel
theorem dX11_settlingOrbit_16 : decode cX11_settlingOrbit 16 = .ok (.getfield 7, 3) := by decide +kernel
theorem dX11_settlingOrbit_19 : decode cX11_settlingOrbit 19 = .ok (.iconst 1, 1) := by decide +kernel
theorem dX11_settlingOrbit_20 : decode cX11_settlingOrbit 20 = .ok (.iaload, 1) := by decide +kernel
theorem dX11_settlingOrbit_21 : decode cX11_settlingOrbit 21 = .ok (.idiv, 1) := by decide +kernel
theorem dX11_settlingOrbit_22 : decode cX11_settlingOrbit 22 = .ok (.istore_n 3, 1) := by decide +kernel
theorem dX11_settlingOrbit_23 : decode cX11_settlingOrbit 23 = .ok (.iload_n 1, 1) := by decide +kernel
theorem dX11_settlingOrbit_24 : decode cX11_settlingOrbit 24 = .ok (.iconst 0, 1) := by decide +kernel
theorem dX11_settlingOrbit_25 : decode cX11_settlingOrbit 25 = .ok (.ldc 73, 2) := by decide +kernel
theorem dX11_settlingOrbit_27 : decode cX11_settlingOrbit 27 = .ok (.invokestatic 67, 3) := by decide +kernel
theorem dX11_settlingOrbit_30 : decode cX11_settlingOrbit 30 = .ok (.ifCond .eq 22, 3) := by decide +kernel
theorem dX11_settlingOrbit_33 : decode cX11_settlingOrbit 33 = .ok (.iload_n 2, 1) := by decide +kernel
theorem dX11_settlingOrbit_34 : decode cX11_settlingOrbit 34 = .ok (.iconst 1, 1) := by decide +kernel
theorem dX11_settlingOrbit_35 : decode cX11_settlingOrbit 35 = .ok (.bipush 20, 2) := by decide +kernel
theorem dX11_settlingOrbit_37 : decode cX11_settlingOrbit 37 = .ok (.invokestatic 67, 3) := by decide +kernel
theorem dX11_settlingOrbit_40 : decode cX11_settlingOrbit 40 = .ok (.ifCond .eq 12, 3) := by decide +kernel
theorem dX11_settlingOrbit_43 : decode cX11_settlingOrbit 43 = .ok (.iload_n 2, 1) := by decide +kernel
theorem dX11_settlingOrbit_44 : decode cX11_settlingOrbit 44 = .ok (.iload_n 3, 1) := by decide +kernel
theorem dX11_settlingOrbit_45 : decode cX11_settlingOrbit 45 = .ok (.imul, 1) := by decide +kernel
theorem dX11_settlingOrbit_46 : decode cX11_settlingOrbit 46 = .ok (.sipush 4000, 3) := by decide +kernel
theorem dX11_settlingOrbit_49 : decode cX11_settlingOrbit 49 = .ok (.if_icmp .le 6, 3) := by decide +kernel
theorem dX11_settlingOrbit_52 : decode cX11_settlingOrbit 52 = .ok (.ldc 79, 2) := by decide +kernel
theorem dX11_settlingOrbit_54 : decode cX11_settlingOrbit 54 = .ok (.ireturn, 1) := by decide +kernel
theorem dX11_settlingOrbit_55 : decode cX11_settlingOrbit 55 = .ok (.aload_n 0, 1) := by decide +kernel
theorem dX11_settlingOrbit_56 : decode cX11_settlingOrbit 56 = .ok (.invokevirtual 199, 3) := by decide +kernel
theorem dX11_settlingOrbit_59 : decode cX11_settlingOrbit 59 = .ok (.iconst (-1), 1) := by decide +kernel
theorem dX11_settlingOrbit_60 : decode cX11_settlingOrbit 60 = .ok (.istore 4, 2) := by decide +kernel
theorem dX11_settlingOrbit_62 : decode cX11_settlingOrbit 62 = .ok (.iconst 1, 1) := by decide +kernel
theorem dX11_settlingOrbit_63 : decode cX11_settlingOrbit 63 = .ok (.istore 5, 2) := by decide +kernel
theorem dX11_settlingOrbit_65 : decode cX11_settlingOrbit 65 = .ok (.iload 5, 2) := by decide +kernel
theorem dX11_settlingOrbit_67 : decode cX11_settlingOrbit 67 = .ok (.iload_n 2, 1) := by decide +kernel
theorem dX11_settlingOrbit_68 : decode cX11_settlingOrbit 68 = .ok (.if_icmp .gt 32, 3) := by decide +kernel
theorem dX11_settlingOrbit_71 : decode cX11_settlingOrbit 71 = .ok (.iload 4, 2) := by decide +kernel
theorem dX11_settlingOrbit_73 : decode cX11_settlingOrbit 73 = .ok (.iconst (-1), 1) := by decide +kernel
theorem dX11_settlingOrbit_74 : decode cX11_settlingOrbit 74 = .ok (.if_icmp .ne 26, 3) := by decide +kernel
theorem dX11_settlingOrbit_77 : decode cX11_settlingOrbit 77 = .ok (.aload_n 0, 1) := by decide +kernel
theorem dX11_settlingOrbit_78 : decode cX11_settlingOrbit 78 = .ok (.iload_n 3, 1) := by decide +kernel
theorem dX11_settlingOrbit_79 : decode cX11_settlingOrbit 79 = .ok (.iload_n 1, 1) := by decide +kernel
theorem dX11_settlingOrbit_80 : decode cX11_settlingOrbit 80 = .ok (.invokevirtual 214, 3) := by decide +kernel
theorem dX11_settlingOrbit_83 : decode cX11_settlingOrbit 83 = .ok (.ifCond .eq 8, 3) := by decide +kernel
theorem dX11_settlingOrbit_86 : decode cX11_settlingOrbit 86 = .ok (.iload 5, 2) := by decide +kernel
theorem dX11_settlingOrbit_88 : decode cX11_settlingOrbit 88 = .ok (.goto 4, 3) := by decide +kernel
theorem dX11_settlingOrbit_91 : decode cX11_settlingOrbit 91 = .ok (.iconst (-1), 1) := by decide +kernel
theorem dX11_settlingOrbit_92 : decode cX11_settlingOrbit 92 = .ok (.istore 4, 2) := by decide +kernel
theorem dX11_settlingOrbit_94 : decode cX11_settlingOrbit 94 = .ok (.iinc 5 1, 3) := by decide +kernel
theorem dX11_settlingOrbit_97 : decode cX11_settlingOrbit 97 = .ok (.goto (-32), 3) := by decide +kernel
theorem dX11_settlingOrbit_100 : decode cX11_settlingOrbit 100 = .ok (.aload_n 0, 1) := by decide +kernel
theorem dX11_settlingOrbit_101 : decode cX11_settlingOrbit 101 = .ok (.invokevirtual 205, 3) := by decide +kernel
theorem dX11_settlingOrbit_104 : decode cX11_settlingOrbit 104 = .ok (.iload 4, 2) := by decide +kernel
theorem dX11_settlingOrbit_106 : decode cX11_settlingOrbit 106 = .ok (.ireturn, 1) := by decide +kernel
theorem dX11_product_0 : decode cX11_product 0 = .ok (.lload_n 1, 1) := by decide +kernel
theorem dX11_product_1 : decode cX11_product 1 = .ok (.lconst 0, 1) := by decide +kernel
theorem dX11_product_2 : decode cX11_product 2 = .ok (.lcmp, 1) := by decide +kernel
theorem dX11_product_3 : decode cX11_product 3 = .ok (.ifCond .eq 54, 3) := by decide +kernel
theorem dX11_product_6 : decode cX11_product 6 = .ok (.lload_n 3, 1) := by decide +kernel
theorem dX11_product_7 : decode cX11_product 7 = .ok (.invokestatic 218, 3) := by decide +kernel
theorem dX11_product_10 : decode cX11_product 10 = .ok (.ldc2_w 221, 3) := by decide +kernel
theorem dX11_product_13 : decode cX11_product 13 = .ok (.lload_n 1, 1) := by decide +kernel
theorem dX11_product_14 : decode cX11_product 14 = .ok (.invokestatic 218, 3) := by decide +kernel
theorem dX11_product_17 : decode cX11_product 17 = .ok (.ldiv, 1) := by decide +kernel
theorem dX11_product_18 : decode cX11_product 18 = .ok (.lcmp, 1) := by decide +kernel
theorem dX11_product_19 : decode cX11_product 19 = .ok (.ifCond .le 38, 3) := by decide +kernel
theorem dX11_product_22 : decode cX11_product 22 = .ok (.lload_n 1, 1) := by decide +kernel
theorem dX11_product_23 : decode cX11_product 23 = .ok (.lconst 0, 1) := by decide +kernel
theorem dX11_product_24 : decode cX11_product 24 = .ok (.lcmp, 1) := by decide +kernel
theorem dX11_product_25 : decode cX11_product 25 = .ok (.ifCond .ge 7, 3) := by decide +kernel
theorem dX11_product_28 : decode cX11_product 28 = .ok (.iconst 1, 1) := by decide +kernel
theorem dX11_product_29 : decode cX11_product 29 = .ok (.goto 4, 3) := by decide +kernel
theorem dX11_product_32 : decode cX11_product 32 = .ok (.iconst 0, 1) := by decide +kernel
theorem dX11_product_33 : decode cX11_product 33 = .ok (.lload_n 3, 1) := by decide +kernel
theorem dX11_product_34 : decode cX11_product 34 = .ok (.lconst 0, 1) := by decide +kernel
theorem dX11_product_35 : decode cX11_product 35 = .ok (.lcmp, 1) := by decide +kernel
theorem dX11_product_36 : decode cX11_product 36 = .ok (.ifCond .ge 7, 3) := by decide +kernel
theorem dX11_product_39 : decode cX11_product 39 = .ok (.iconst 1, 1) := by decide +kernel
theorem dX11_product_40 : decode cX11_product 40 = .ok (.goto 4, 3) := by decide +kernel
theorem dX11_product_43 : decode cX11_product 43 = .ok (.iconst 0, 1) := by decide +kernel
theorem dX11_product_44 : decode cX11_product 44 = .ok (.if_icmp .ne 9, 3) := by decide +kernel
theorem dX11_product_47 : decode cX11_product 47 = .ok (.ldc2_w 221, 3) := by decide +kernel
theorem dX11_product_50 : decode cX11_product 50 = .ok (.goto 6, 3) := by decide +kernel
theorem dX11_product_53 : decode cX11_product 53 = .ok (.ldc2_w 223, 3) := by decide +kernel
theorem dX11_product_56 : decode cX11_product 56 = .ok (.lreturn, 1) := by decide +kernel
theorem dX11_product_57 : decode cX11_product 57 = .ok (.lload_n 1, 1) := by decide +kernel
theorem dX11_product_58 : decode cX11_product 58 = .ok (.lload_n 3, 1) := by decide +kernel
theorem dX11_product_59 : decode cX11_product 59 = .ok (.lmul, 1) := by decide +kernel
theorem dX11_product_60 : decode cX11_product 60 = .ok (.lreturn, 1) := by decide +kernel
theorem dX11_operate_0 : decode cX11_operate 0 = .ok (.iload_n 1, 1) := by decide +kernel
theorem dX11_operate_1 : decode cX11_operate 1 = .ok (.tableswitch 129 9 17 #[51, 56, 61, 69, 85, 98, 111, 129, 124], 51) := by decide +kernel
theorem dX11_operate_52 : decode cX11_operate 52 = .ok (.lload_n 2, 1) := by decide +kernel
theorem dX11_operate_53 : decode cX11_operate 53 = .ok (.lload 4, 2) := by decide +kernel
theorem dX11_operate_55 : decode cX11_operate 55 = .ok (.ladd, 1) := by decide +kernel
theorem dX11_operate_56 : decode cX11_operate 56 = .ok (.lreturn, 1) := by decide +kernel
theorem dX11_operate_57 : decode cX11_operate 57 = .ok (.lload_n 2, 1) := by decide +kernel
theorem dX11_operate_58 : decode cX11_operate 58 = .ok (.lload 4, 2) := by decide +kernel
theorem dX11_operate_60 : decode cX11_operate 60 = .ok (.lsub, 1) := by decide +kernel
theorem dX11_operate_61 : decode cX11_operate 61 = .ok (.lreturn, 1) := by decide +kernel
theorem dX11_operate_62 : decode cX11_operate 62 = .ok (.aload_n 0, 1) := by decide +kernel
theorem dX11_operate_63 : decode cX11_operate 63 = .ok (.lload_n 2, 1) := by decide +kernel
theorem dX11_operate_64 : decode cX11_operate 64 = .ok (.lload 4, 2) := by decide +kernel
theorem dX11_operate_66 : decode cX11_operate 66 = .ok (.invokevirtual 225, 3) := by decide +kernel
theorem dX11_operate_69 : decode cX11_operate 69 = .ok (.lreturn, 1) := by decide +kernel
theorem dX11_operate_70 : decode cX11_operate 70 = .ok (.lload 4, 2) := by decide +kernel
theorem dX11_operate_72 : decode cX11_operate 72 = .ok (.lconst 0, 1) := by decide +kernel
theorem dX11_operate_73 : decode cX11_operate 73 = .ok (.lcmp, 1) := by decide +kernel
theorem dX11_operate_74 : decode cX11_operate 74 = .ok (.ifCond .ne 7, 3) := by decide +kernel
theorem dX11_operate_77 : decode cX11_operate 77 = .ok (.lconst 0, 1) := by decide +kernel
theorem dX11_operate_78 : decode cX11_operate 78 = .ok (.goto 7, 3) := by decide +kernel
theorem dX11_operate_81 : decode cX11_operate 81 = .ok (.lload_n 2, 1) := by decide +kernel
theorem dX11_operate_82 : decode cX11_operate 82 = .ok (.lload 4, 2) := by decide +kernel
theorem dX11_operate_84 : decode cX11_operate 84 = .ok (.ldiv, 1) := by decide +kernel
theorem dX11_operate_85 : decode cX11_operate 85 = .ok (.lreturn, 1) := by decide +kernel
theorem dX11_operate_86 : decode cX11_operate 86 = .ok (.lload_n 2, 1) := by decide +kernel
theorem dX11_operate_87 : decode cX11_operate 87 = .ok (.lload 4, 2) := by decide +kernel
theorem dX11_operate_89 : decode cX11_operate 89 = .ok (.lcmp, 1) := by decide +kernel
theorem dX11_operate_90 : decode cX11_operate 90 = .ok (.ifCond .ge 7, 3) := by decide +kernel
theorem dX11_operate_93 : decode cX11_operate 93 = .ok (.lconst 1, 1) := by decide +kernel
theorem dX11_operate_94 : decode cX11_operate 94 = .ok (.goto 4, 3) := by decide +kernel
theorem dX11_operate_97 : decode cX11_operate 97 = .ok (.lconst 0, 1) := by decide +kernel
theorem dX11_operate_98 : decode cX11_operate 98 = .ok (.lreturn, 1) := by decide +kernel
theorem dX11_operate_99 : decode cX11_operate 99 = .ok (.lload_n 2, 1) := by decide +kernel
theorem dX11_operate_100 : decode cX11_operate 100 = .ok (.lload 4, 2) := by decide +kernel
theorem dX11_operate_102 : decode cX11_operate 102 = .ok (.lcmp, 1) := by decide +kernel
theorem dX11_operate_103 : decode cX11_operate 103 = .ok (.ifCond .le 7, 3) := by decide +kernel
theorem dX11_operate_106 : decode cX11_operate 106 = .ok (.lconst 1, 1) := by decide +kernel
theorem dX11_operate_107 : decode cX11_operate 107 = .ok (.goto 4, 3) := by decide +kernel
theorem dX11_operate_110 : decode cX11_operate 110 = .ok (.lconst 0, 1) := by decide +kernel
theorem dX11_operate_111 : decode cX11_operate 111 = .ok (.lreturn, 1) := by decide +kernel
theorem dX11_operate_112 : decode cX11_operate 112 = .ok (.lload_n 2, 1) := by decide +kernel
theorem dX11_operate_113 : decode cX11_operate 113 = .ok (.lload 4, 2) := by decide +kernel
theorem dX11_operate_115 : decode cX11_operate 115 = .ok (.lcmp, 1) := by decide +kernel
theorem dX11_operate_116 : decode cX11_operate 116 = .ok (.ifCond .ne 7, 3) := by decide +kernel
theorem dX11_operate_119 : decode cX11_operate 119 = .ok (.lconst 1, 1) := by decide +kernel
theorem dX11_operate_120 : decode cX11_operate 120 = .ok (.goto 4, 3) := by decide +kernel
theorem dX11_operate_123 : decode cX11_operate 123 = .ok (.lconst 0, 1) := by decide +kernel
theorem dX11_operate_124 : decode cX11_operate 124 = .ok (.lreturn, 1) := by decide +kernel
theorem dX11_operate_125 : decode cX11_operate 125 = .ok (.lload_n 2, 1) := by decide +kernel
theorem dX11_operate_126 : decode cX11_operate 126 = .ok (.lload 4, 2) := by decide +kernel
theorem dX11_operate_128 : decode cX11_operate 128 = .ok (.lmul, 1) := by decide +kernel
theorem dX11_operate_129 : decode cX11_operate 129 = .ok (.lreturn, 1) := by decide +kernel
theorem dX11_operate_130 : decode cX11_operate 130 = .ok (.lload_n 2, 1) := by decide +kernel
theorem dX11_operate_131 : decode cX11_operate 131 = .ok (.lload 4, 2) := by decide +kernel
theorem dX11_operate_133 : decode cX11_operate 133 = .ok (.invokestatic 64, 3) := by decide +kernel
theorem dX11_operate_136 : decode cX11_operate 136 = .ok (.lreturn, 1) := by decide +kernel
theorem dX11_read_0 : decode cX11_read 0 = .ok (.iload_n 1, 1) := by decide +kernel
theorem dX11_read_1 : decode cX11_read 1 = .ok (.tableswitch 99 0 6 #[43, 46, 54, 62, 71, 84, 90], 43) := by decide +kernel
theorem dX11_read_44 : decode cX11_read 44 = .ok (.iload_n 2, 1) := by decide +kernel
theorem dX11_read_45 : decode cX11_read 45 = .ok (.i2l, 1) := by decide +kernel
theorem dX11_read_46 : decode cX11_read 46 = .ok (.lreturn, 1) := by decide +kernel
theorem dX11_read_47 : decode cX11_read 47 = .ok (.aload_n 0, 1) := by decide +kernel
theorem dX11_read_48 : decode cX11_read 48 = .ok (.iload_n 2, 1) := by decide +kernel
theorem dX11_read_49 : decode cX11_read 49 = .ok (.iconst 1, 1) := by decide +kernel
theorem dX11_read_50 : decode cX11_read 50 = .ok (.invokevirtual 89, 3) := by decide +kernel
theorem dX11_read_53 : decode cX11_read 53 = .ok (.i2l, 1) := by decide +kernel
theorem dX11_read_54 : decode cX11_read 54 = .ok (.lreturn, 1) := by decide +kernel
theorem dX11_read_55 : decode cX11_read 55 = .ok (.aload_n 0, 1) := by decide +kernel
theorem dX11_read_56 : decode cX11_read 56 = .ok (.iload_n 2, 1) := by decide +kernel
theorem dX11_read_57 : decode cX11_read 57 = .ok (.iconst 5, 1) := by decide +kernel
theorem dX11_read_58 : decode cX11_read 58 = .ok (.invokevirtual 112, 3) := by decide +kernel
theorem dX11_read_61 : decode cX11_read 61 = .ok (.i2l, 1) := by decide +kernel
theorem dX11_read_62 : decode cX11_read 62 = .ok (.lreturn, 1) := by decide +kernel
theorem dX11_read_63 : decode cX11_read 63 = .ok (.aload_n 0, 1) := by decide +kernel
theorem dX11_read_64 : decode cX11_read 64 = .ok (.iload_n 2, 1) := by decide +kernel
theorem dX11_read_65 : decode cX11_read 65 = .ok (.bipush 7, 2) := by decide +kernel
theorem dX11_read_67 : decode cX11_read 67 = .ok (.invokevirtual 128, 3) := by decide +kernel
theorem dX11_read_70 : decode cX11_read 70 = .ok (.i2l, 1) := by decide +kernel
theorem dX11_read_71 : decode cX11_read 71 = .ok (.lreturn, 1) := by decide +kernel
theorem dX11_read_72 : decode cX11_read 72 = .ok (.aload_n 0, 1) := by decide +kernel
theorem dX11_read_73 : decode cX11_read 73 = .ok (.invokevirtual 135, 3) := by decide +kernel
theorem dX11_read_76 : decode cX11_read 76 = .ok (.ifCond .eq 7, 3) := by decide +kernel
theorem dX11_read_79 : decode cX11_read 79 = .ok (.lconst 1, 1) := by decide +kernel
theorem dX11_read_80 : decode cX11_read 80 = .ok (.goto 4, 3) := by decide +kernel
theorem dX11_read_83 : decode cX11_read 83 = .ok (.lconst 0, 1) := by decide +kernel
theorem dX11_read_84 : decode cX11_read 84 = .ok (.lreturn, 1) := by decide +kernel
theorem dX11_read_85 : decode cX11_read 85 = .ok (.aload_n 0, 1) := by decide +kernel
theorem dX11_read_86 : decode cX11_read 86 = .ok (.invokevirtual 132, 3) := by decide +kernel
theorem dX11_read_89 : decode cX11_read 89 = .ok (.i2l, 1) := by decide +kernel
theorem dX11_read_90 : decode cX11_read 90 = .ok (.lreturn, 1) := by decide +kernel
theorem dX11_read_91 : decode cX11_read 91 = .ok (.aload_n 0, 1) := by decide +kernel
theorem dX11_read_92 : decode cX11_read 92 = .ok (.getfield 7, 3) := by decide +kernel
theorem dX11_read_95 : decode cX11_read 95 = .ok (.bipush 11, 2) := by decide +kernel
theorem dX11_read_97 : decode cX11_read 97 = .ok (.iaload, 1) := by decide +kernel
theorem dX11_read_98 : decode cX11_read 98 = .ok (.i2l, 1) := by decide +kernel
theorem dX11_read_99 : decode cX11_read 99 = .ok (.lreturn, 1) := by decide +kernel
theorem dX11_read_100 : decode cX11_read 100 = .ok (.aload_n 0, 1) := by decide +kernel
theorem dX11_read_101 : decode cX11_read 101 = .ok (.invokevirtual 142, 3) := by decide +kernel
theorem dX11_read_104 : decode cX11_read 104 = .ok (.i2l, 1) := by decide +kernel
theorem dX11_read_105 : decode cX11_read 105 = .ok (.lreturn, 1) := by decide +kernel
theorem dX11_evaluate_0 : decode cX11_evaluate 0 = .ok (.iconst 0, 1) := by decide +kernel
theorem dX11_evaluate_1 : decode cX11_evaluate 1 = .ok (.istore_n 3, 1) := by decide +kernel
theorem dX11_evaluate_2 : decode cX11_evaluate 2 = .ok (.iload_n 1, 1) := by decide +kernel
theorem dX11_evaluate_3 : decode cX11_evaluate 3 = .ok (.istore 4, 2) := by decide +kernel
theorem dX11_evaluate_5 : decode cX11_evaluate 5 = .ok (.iload 4, 2) := by decide +kernel
theorem dX11_evaluate_7 : decode cX11_evaluate 7 = .ok (.iload_n 2, 1) := by decide +kernel
theorem dX11_evaluate_8 : decode cX11_evaluate 8 = .ok (.if_icmp .ge 159, 3) := by decide +kernel
theorem dX11_evaluate_11 : decode cX11_evaluate 11 = .ok (.aload_n 0, 1) := by decide +kernel
theorem dX11_evaluate_12 : decode cX11_evaluate 12 = .ok (.getfield 7, 3) := by decide +kernel
theorem dX11_evaluate_15 : decode cX11_evaluate 15 = .ok (.sipush 486, 3) := by decide +kernel
theorem dX11_evaluate_18 : decode cX11_evaluate 18 = .ok (.iconst 2, 1) := by decide +kernel
theorem dX11_evaluate_19 : decode cX11_evaluate 19 = .ok (.iload 4, 2) := by decide +kernel
theorem dX11_evaluate_21 : decode cX11_evaluate 21 = .ok (.imul, 1) := by decide +kernel
theorem dX11_evaluate_22 : decode cX11_evaluate 22 = .ok (.iadd, 1) := by decide +kernel
theorem dX11_evaluate_23 : decode cX11_evaluate 23 = .ok (.iaload, 1) := by decide +kernel
theorem dX11_evaluate_24 : decode cX11_evaluate 24 = .ok (.istore 5, 2) := by decide +kernel
theorem dX11_evaluate_26 : decode cX11_evaluate 26 = .ok (.iload 5, 2) := by decide +kernel
theorem dX11_evaluate_28 : decode cX11_evaluate 28 = .ok (.bipush 8, 2) := by decide +kernel
theorem dX11_evaluate_30 : decode cX11_evaluate 30 = .ok (.if_icmp .ge 36, 3) := by decide +kernel
theorem dX11_evaluate_33 : decode cX11_evaluate 33 = .ok (.aload_n 0, 1) := by decide +kernel
theorem dX11_evaluate_34 : decode cX11_evaluate 34 = .ok (.getfield 39, 3) := by decide +kernel
theorem dX11_evaluate_37 : decode cX11_evaluate 37 = .ok (.iload_n 3, 1) := by decide +kernel
theorem dX11_evaluate_38 : decode cX11_evaluate 38 = .ok (.aload_n 0, 1) := by decide +kernel
theorem dX11_evaluate_39 : decode cX11_evaluate 39 = .ok (.iload 5, 2) := by decide +kernel
theorem dX11_evaluate_41 : decode cX11_evaluate 41 = .ok (.aload_n 0, 1) := by decide +kernel
theorem dX11_evaluate_42 : decode cX11_evaluate 42 = .ok (.getfield 7, 3) := by decide +kernel
theorem dX11_evaluate_45 : decode cX11_evaluate 45 = .ok (.sipush 486, 3) := by decide +kernel
theorem dX11_evaluate_48 : decode cX11_evaluate 48 = .ok (.iconst 2, 1) := by decide +kernel
theorem dX11_evaluate_49 : decode cX11_evaluate 49 = .ok (.iload 4, 2) := by decide +kernel
theorem dX11_evaluate_51 : decode cX11_evaluate 51 = .ok (.imul, 1) := by decide +kernel
theorem dX11_evaluate_52 : decode cX11_evaluate 52 = .ok (.iadd, 1) := by decide +kernel
theorem dX11_evaluate_53 : decode cX11_evaluate 53 = .ok (.iconst 1, 1) := by decide +kernel
theorem dX11_evaluate_54 : decode cX11_evaluate 54 = .ok (.iadd, 1) := by decide +kernel
theorem dX11_evaluate_55 : decode cX11_evaluate 55 = .ok (.iaload, 1) := by decide +kernel
theorem dX11_evaluate_56 : decode cX11_evaluate 56 = .ok (.invokevirtual 228, 3) := by decide +kernel
theorem dX11_evaluate_59 : decode cX11_evaluate 59 = .ok (.lastore, 1) := by decide +kernel
theorem dX11_evaluate_60 : decode cX11_evaluate 60 = .ok (.iinc 3 1, 3) := by decide +kernel
theorem dX11_evaluate_63 : decode cX11_evaluate 63 = .ok (.goto 98, 3) := by decide +kernel
theorem dX11_evaluate_66 : decode cX11_evaluate 66 = .ok (.iload 5, 2) := by decide +kernel
theorem dX11_evaluate_68 : decode cX11_evaluate 68 = .ok (.bipush 8, 2) := by decide +kernel
theorem dX11_evaluate_70 : decode cX11_evaluate 70 = .ok (.if_icmp .ne 23, 3) := by decide +kernel
theorem dX11_evaluate_73 : decode cX11_evaluate 73 = .ok (.aload_n 0, 1) := by decide +kernel
theorem dX11_evaluate_74 : decode cX11_evaluate 74 = .ok (.getfield 39, 3) := by decide +kernel
theorem dX11_evaluate_77 : decode cX11_evaluate 77 = .ok (.iload_n 3, 1) := by decide +kernel
theorem dX11_evaluate_78 : decode cX11_evaluate 78 = .ok (.iconst 1, 1) := by decide +kernel
theorem dX11_evaluate_79 : decode cX11_evaluate 79 = .ok (.isub, 1) := by decide +kernel
theorem dX11_evaluate_80 : decode cX11_evaluate 80 = .ok (.aload_n 0, 1) := by decide +kernel
theorem dX11_evaluate_81 : decode cX11_evaluate 81 = .ok (.getfield 39, 3) := by decide +kernel
theorem dX11_evaluate_84 : decode cX11_evaluate 84 = .ok (.iload_n 3, 1) := by decide +kernel
theorem dX11_evaluate_85 : decode cX11_evaluate 85 = .ok (.iconst 1, 1) := by decide +kernel
theorem dX11_evaluate_86 : decode cX11_evaluate 86 = .ok (.isub, 1) := by decide +kernel
theorem dX11_evaluate_87 : decode cX11_evaluate 87 = .ok (.laload, 1) := by decide +kernel
theorem dX11_evaluate_88 : decode cX11_evaluate 88 = .ok (.lneg, 1) := by decide +kernel
theorem dX11_evaluate_89 : decode cX11_evaluate 89 = .ok (.lastore, 1) := by decide +kernel
theorem dX11_evaluate_90 : decode cX11_evaluate 90 = .ok (.goto 71, 3) := by decide +kernel
theorem dX11_evaluate_93 : decode cX11_evaluate 93 = .ok (.iload 5, 2) := by decide +kernel
theorem dX11_evaluate_95 : decode cX11_evaluate 95 = .ok (.bipush 16, 2) := by decide +kernel
theorem dX11_evaluate_97 : decode cX11_evaluate 97 = .ok (.if_icmp .ne 24, 3) := by decide +kernel
theorem dX11_evaluate_100 : decode cX11_evaluate 100 = .ok (.aload_n 0, 1) := by decide +kernel
theorem dX11_evaluate_101 : decode cX11_evaluate 101 = .ok (.getfield 39, 3) := by decide +kernel
theorem dX11_evaluate_104 : decode cX11_evaluate 104 = .ok (.iload_n 3, 1) := by decide +kernel
theorem dX11_evaluate_105 : decode cX11_evaluate 105 = .ok (.iconst 1, 1) := by decide +kernel
theorem dX11_evaluate_106 : decode cX11_evaluate 106 = .ok (.isub, 1) := by decide +kernel
theorem dX11_evaluate_107 : decode cX11_evaluate 107 = .ok (.lconst 1, 1) := by decide +kernel
theorem dX11_evaluate_108 : decode cX11_evaluate 108 = .ok (.aload_n 0, 1) := by decide +kernel
theorem dX11_evaluate_109 : decode cX11_evaluate 109 = .ok (.getfield 39, 3) := by decide +kernel
theorem dX11_evaluate_112 : decode cX11_evaluate 112 = .ok (.iload_n 3, 1) := by decide +kernel
theorem dX11_evaluate_113 : decode cX11_evaluate 113 = .ok (.iconst 1, 1) := by decide +kernel
theorem dX11_evaluate_114 : decode cX11_evaluate 114 = .ok (.isub, 1) := by decide +kernel
theorem dX11_evaluate_115 : decode cX11_evaluate 115 = .ok (.laload, 1) := by decide +kernel
theorem dX11_evaluate_116 : decode cX11_evaluate 116 = .ok (.lsub, 1) := by decide +kernel
theorem dX11_evaluate_117 : decode cX11_evaluate 117 = .ok (.lastore, 1) := by decide +kernel
theorem dX11_evaluate_118 : decode cX11_evaluate 118 = .ok (.goto 43, 3) := by decide +kernel
theorem dX11_evaluate_121 : decode cX11_evaluate 121 = .ok (.iinc 3 (-1), 3) := by decide +kernel
theorem dX11_evaluate_124 : decode cX11_evaluate 124 = .ok (.aload_n 0, 1) := by decide +kernel
theorem dX11_evaluate_125 : decode cX11_evaluate 125 = .ok (.getfield 39, 3) := by decide +kernel
theorem dX11_evaluate_128 : decode cX11_evaluate 128 = .ok (.iload_n 3, 1) := by decide +kernel
theorem dX11_evaluate_129 : decode cX11_evaluate 129 = .ok (.iconst 1, 1) := by decide +kernel
theorem dX11_evaluate_130 : decode cX11_evaluate 130 = .ok (.isub, 1) := by decide +kernel
theorem dX11_evaluate_131 : decode cX11_evaluate 131 = .ok (.aload_n 0, 1) := by decide +kernel
theorem dX11_evaluate_132 : decode cX11_evaluate 132 = .ok (.iload 5, 2) := by decide +kernel
theorem dX11_evaluate_134 : decode cX11_evaluate 134 = .ok (.aload_n 0, 1) := by decide +kernel
theorem dX11_evaluate_135 : decode cX11_evaluate 135 = .ok (.getfield 39, 3) := by decide +kernel
theorem dX11_evaluate_138 : decode cX11_evaluate 138 = .ok (.iload_n 3, 1) := by decide +kernel
theorem dX11_evaluate_139 : decode cX11_evaluate 139 = .ok (.iconst 1, 1) := by decide +kernel
theorem dX11_evaluate_140 : decode cX11_evaluate 140 = .ok (.isub, 1) := by decide +kernel
theorem dX11_evaluate_141 : decode cX11_evaluate 141 = .ok (.laload, 1) := by decide +kernel
theorem dX11_evaluate_142 : decode cX11_evaluate 142 = .ok (.aload_n 0, 1) := by decide +kernel
theorem dX11_evaluate_143 : decode cX11_evaluate 143 = .ok (.getfield 39, 3) := by decide +kernel
theorem dX11_evaluate_146 : decode cX11_evaluate 146 = .ok (.iload_n 3, 1) := by decide +kernel
theorem dX11_evaluate_147 : decode cX11_evaluate 147 = .ok (.laload, 1) := by decide +kernel
theorem dX11_evaluate_148 : decode cX11_evaluate 148 = .ok (.invokevirtual 232, 3) := by decide +kernel
theorem dX11_evaluate_151 : decode cX11_evaluate 151 = .ok (.ldc2_w 223, 3) := by decide +kernel
theorem dX11_evaluate_154 : decode cX11_evaluate 154 = .ok (.ldc2_w 221, 3) := by decide +kernel
theorem dX11_evaluate_157 : decode cX11_evaluate 157 = .ok (.invokestatic 117, 3) := by decide +kernel
theorem dX11_evaluate_160 : decode cX11_evaluate 160 = .ok (.lastore, 1) := by decide +kernel
theorem dX11_evaluate_161 : decode cX11_evaluate 161 = .ok (.iinc 4 1, 3) := by decide +kernel
theorem dX11_evaluate_164 : decode cX11_evaluate 164 = .ok (.goto (-159), 3) := by decide +kernel
theorem dX11_evaluate_167 : decode cX11_evaluate 167 = .ok (.aload_n 0, 1) := by decide +kernel
theorem dX11_evaluate_168 : decode cX11_evaluate 168 = .ok (.getfield 39, 3) := by decide +kernel
theorem dX11_evaluate_171 : decode cX11_evaluate 171 = .ok (.iconst 0, 1) := by decide +kernel
theorem dX11_evaluate_172 : decode cX11_evaluate 172 = .ok (.laload, 1) := by decide +kernel
theorem dX11_evaluate_173 : decode cX11_evaluate 173 = .ok (.lreturn, 1) := by decide +kernel
theorem dX11_rule_0 : decode cX11_rule 0 = .ok (.aload_n 0, 1) := by decide +kernel
theorem dX11_rule_1 : decode cX11_rule 1 = .ok (.getfield 7, 3) := by decide +kernel
theorem dX11_rule_4 : decode cX11_rule 4 = .ok (.sipush 414, 3) := by decide +kernel
theorem dX11_rule_7 : decode cX11_rule 7 = .ok (.bipush 6, 2) := by decide +kernel
theorem dX11_rule_9 : decode cX11_rule 9 = .ok (.iload_n 1, 1) := by decide +kernel
theorem dX11_rule_10 : decode cX11_rule 10 = .ok (.imul, 1) := by decide +kernel
theorem dX11_rule_11 : decode cX11_rule 11 = .ok (.iadd, 1) := by decide +kernel
theorem dX11_rule_12 : decode cX11_rule 12 = .ok (.iload_n 2, 1) := by decide +kernel
theorem dX11_rule_13 : decode cX11_rule 13 = .ok (.iadd, 1) := by decide +kernel
theorem dX11_rule_14 : decode cX11_rule 14 = .ok (.iaload, 1) := by decide +kernel
theorem dX11_rule_15 : decode cX11_rule 15 = .ok (.ireturn, 1) := by decide +kernel
theorem dX11_holds_0 : decode cX11_holds 0 = .ok (.aload_n 0, 1) := by decide +kernel
theorem dX11_holds_1 : decode cX11_holds 1 = .ok (.iload_n 1, 1) := by decide +kernel
theorem dX11_holds_2 : decode cX11_holds 2 = .ok (.iconst 0, 1) := by decide +kernel
theorem dX11_holds_3 : decode cX11_holds 3 = .ok (.invokevirtual 236, 3) := by decide +kernel
theorem dX11_holds_6 : decode cX11_holds 6 = .ok (.aload_n 0, 1) := by decide +kernel
theorem dX11_holds_7 : decode cX11_holds 7 = .ok (.iload_n 1, 1) := by decide +kernel
theorem dX11_holds_8 : decode cX11_holds 8 = .ok (.iconst 1, 1) := by decide +kernel
theorem dX11_holds_9 : decode cX11_holds 9 = .ok (.invokevirtual 236, 3) := by decide +kernel
theorem dX11_holds_12 : decode cX11_holds 12 = .ok (.if_icmp .eq 24, 3) := by decide +kernel
theorem dX11_holds_15 : decode cX11_holds 15 = .ok (.aload_n 0, 1) := by decide +kernel
theorem dX11_holds_16 : decode cX11_holds 16 = .ok (.aload_n 0, 1) := by decide +kernel
theorem dX11_holds_17 : decode cX11_holds 17 = .ok (.iload_n 1, 1) := by decide +kernel
theorem dX11_holds_18 : decode cX11_holds 18 = .ok (.iconst 0, 1) := by decide +kernel
theorem dX11_holds_19 : decode cX11_holds 19 = .ok (.invokevirtual 236, 3) := by decide +kernel
theorem dX11_holds_22 : decode cX11_holds 22 = .ok (.aload_n 0, 1) := by decide +kernel
theorem dX11_holds_23 : decode cX11_holds 23 = .ok (.iload_n 1, 1) := by decide +kernel
theorem dX11_holds_24 : decode cX11_holds 24 = .ok (.iconst 1, 1) := by decide +kernel
theorem dX11_holds_25 : decode cX11_holds 25 = .ok (.invokevirtual 236, 3) := by decide +kernel
theorem dX11_holds_28 : decode cX11_holds 28 = .ok (.invokevirtual 239, 3) := by decide +kernel
theorem dX11_holds_31 : decode cX11_holds 31 = .ok (.lconst 1, 1) := by decide +kernel
theorem dX11_holds_32 : decode cX11_holds 32 = .ok (.lcmp, 1) := by decide +kernel
theorem dX11_holds_33 : decode cX11_holds 33 = .ok (.ifCond .ne 7, 3) := by decide +kernel
theorem dX11_holds_36 : decode cX11_holds 36 = .ok (.iconst 1, 1) := by decide +kernel
theorem dX11_holds_37 : decode cX11_holds 37 = .ok (.goto 4, 3) := by decide +kernel
theorem dX11_holds_40 : decode cX11_holds 40 = .ok (.iconst 0, 1) := by decide +kernel
theorem dX11_holds_41 : decode cX11_holds 41 = .ok (.ireturn, 1) := by decide +kernel
theorem dX11_carryOut_0 : decode cX11_carryOut 0 = .ok (.aload_n 0, 1) := by decide +kernel
theorem dX11_carryOut_1 : decode cX11_carryOut 1 = .ok (.iload_n 1, 1) := by decide +kernel
theorem dX11_carryOut_2 : decode cX11_carryOut 2 = .ok (.invokevirtual 242, 3) := by decide +kernel
theorem dX11_carryOut_5 : decode cX11_carryOut 5 = .ok (.ifCond .ne 4, 3) := by decide +kernel
theorem dX11_carryOut_8 : decode cX11_carryOut 8 = .ok (.return_, 1) := by decide +kernel
theorem dX11_carryOut_9 : decode cX11_carryOut 9 = .ok (.aload_n 0, 1) := by decide +kernel
theorem dX11_carryOut_10 : decode cX11_carryOut 10 = .ok (.iload_n 1, 1) := by decide +kernel
theorem dX11_carryOut_11 : decode cX11_carryOut 11 = .ok (.iconst 2, 1) := by decide +kernel
theorem dX11_carryOut_12 : decode cX11_carryOut 12 = .ok (.invokevirtual 236, 3) := by decide +kernel
theorem dX11_carryOut_15 : decode cX11_carryOut 15 = .ok (.istore_n 2, 1) := by decide +kernel
theorem dX11_carryOut_16 : decode cX11_carryOut 16 = .ok (.aload_n 0, 1) := by decide +kernel
theorem dX11_carryOut_17 : decode cX11_carryOut 17 = .ok (.iload_n 1, 1) := by decide +kernel
theorem dX11_carryOut_18 : decode cX11_carryOut 18 = .ok (.iconst 3, 1) := by decide +kernel
theorem dX11_carryOut_19 : decode cX11_carryOut 19 = .ok (.invokevirtual 236, 3) := by decide +kernel
theorem dX11_carryOut_22 : decode cX11_carryOut 22 = .ok (.istore_n 3, 1) := by decide +kernel
theorem dX11_carryOut_23 : decode cX11_carryOut 23 = .ok (.iload_n 2, 1) := by decide +kernel
theorem dX11_carryOut_24 : decode cX11_carryOut 24 = .ok (.iconst 5, 1) := by decide +kernel
theorem dX11_carryOut_25 : decode cX11_carryOut 25 = .ok (.if_icmp .ne 36, 3) := by decide +kernel
theorem dX11_carryOut_28 : decode cX11_carryOut 28 = .ok (.aload_n 0, 1) := by decide +kernel
theorem dX11_carryOut_29 : decode cX11_carryOut 29 = .ok (.iload_n 3, 1) := by decide +kernel
theorem dX11_carryOut_30 : decode cX11_carryOut 30 = .ok (.iconst 4, 1) := by decide +kernel
theorem dX11_carryOut_31 : decode cX11_carryOut 31 = .ok (.aload_n 0, 1) := by decide +kernel
theorem dX11_carryOut_32 : decode cX11_carryOut 32 = .ok (.aload_n 0, 1) := by decide +kernel
theorem dX11_carryOut_33 : decode cX11_carryOut 33 = .ok (.iload_n 1, 1) := by decide +kernel
theorem dX11_carryOut_34 : decode cX11_carryOut 34 = .ok (.iconst 4, 1) := by decide +kernel
theorem dX11_carryOut_35 : decode cX11_carryOut 35 = .ok (.invokevirtual 236, 3) := by decide +kernel
theorem dX11_carryOut_38 : decode cX11_carryOut 38 = .ok (.aload_n 0, 1) := by decide +kernel
theorem dX11_carryOut_39 : decode cX11_carryOut 39 = .ok (.iload_n 1, 1) := by decide +kernel
theorem dX11_carryOut_40 : decode cX11_carryOut 40 = .ok (.iconst 5, 1) := by decide +kernel
theorem dX11_carryOut_41 : decode cX11_carryOut 41 = .ok (.invokevirtual 236, 3) := by decide +kernel
theorem dX11_carryOut_44 : decode cX11_carryOut 44 = .ok (.invokevirtual 239, 3) := by decide +kernel
theorem dX11_carryOut_47 : decode cX11_carryOut 47 = .ok (.lconst 0, 1) := by decide +kernel
theorem dX11_carryOut_48 : decode cX11_carryOut 48 = .ok (.ldc2_w 245, 3) := by decide +kernel
theorem dX11_carryOut_51 : decode cX11_carryOut 51 = .ok (.invokestatic 117, 3) := by decide +kernel
theorem dX11_carryOut_54 : decode cX11_carryOut 54 = .ok (.l2i, 1) := by decide +kernel
theorem dX11_carryOut_55 : decode cX11_carryOut 55 = .ok (.invokevirtual 81, 3) := by decide +kernel
theorem dX11_carryOut_58 : decode cX11_carryOut 58 = .ok (.goto 53, 3) := by decide +kernel
theorem dX11_carryOut_61 : decode cX11_carryOut 61 = .ok (.iload_n 2, 1) := by decide +kernel
theorem dX11_carryOut_62 : decode cX11_carryOut 62 = .ok (.iconst 3, 1) := by decide +kernel
theorem dX11_carryOut_63 : decode cX11_carryOut 63 = .ok (.if_icmp .lt 32, 3) := by decide +kernel
theorem dX11_carryOut_66 : decode cX11_carryOut 66 = .ok (.aload_n 0, 1) := by decide +kernel
theorem dX11_carryOut_67 : decode cX11_carryOut 67 = .ok (.getfield 7, 3) := by decide +kernel
theorem dX11_carryOut_70 : decode cX11_carryOut 70 = .ok (.sipush 296, 3) := by decide +kernel
theorem dX11_carryOut_73 : decode cX11_carryOut 73 = .ok (.bipush 7, 2) := by decide +kernel
theorem dX11_carryOut_75 : decode cX11_carryOut 75 = .ok (.iload_n 3, 1) := by decide +kernel
theorem dX11_carryOut_76 : decode cX11_carryOut 76 = .ok (.imul, 1) := by decide +kernel
theorem dX11_carryOut_77 : decode cX11_carryOut 77 = .ok (.iadd, 1) := by decide +kernel
theorem dX11_carryOut_78 : decode cX11_carryOut 78 = .ok (.bipush 6, 2) := by decide +kernel
theorem dX11_carryOut_80 : decode cX11_carryOut 80 = .ok (.iadd, 1) := by decide +kernel
theorem dX11_carryOut_81 : decode cX11_carryOut 81 = .ok (.iload_n 2, 1) := by decide +kernel
theorem dX11_carryOut_82 : decode cX11_carryOut 82 = .ok (.iconst 3, 1) := by decide +kernel
theorem dX11_carryOut_83 : decode cX11_carryOut 83 = .ok (.if_icmp .ne 7, 3) := by decide +kernel
theorem dX11_carryOut_86 : decode cX11_carryOut 86 = .ok (.iconst 1, 1) := by decide +kernel
theorem dX11_carryOut_87 : decode cX11_carryOut 87 = .ok (.goto 4, 3) := by decide +kernel
theorem dX11_carryOut_90 : decode cX11_carryOut 90 = .ok (.iconst 0, 1) := by decide +kernel
theorem dX11_carryOut_91 : decode cX11_carryOut 91 = .ok (.iastore, 1) := by decide +kernel
theorem dX11_carryOut_92 : decode cX11_carryOut 92 = .ok (.goto 19, 3) := by decide +kernel
theorem dX11_carryOut_95 : decode cX11_carryOut 95 = .ok (.aload_n 0, 1) := by decide +kernel
theorem dX11_carryOut_96 : decode cX11_carryOut 96 = .ok (.getfield 7, 3) := by decide +kernel
theorem dX11_carryOut_99 : decode cX11_carryOut 99 = .ok (.sipush 338, 3) := by decide +kernel
theorem dX11_carryOut_102 : decode cX11_carryOut 102 = .ok (.bipush 8, 2) := by decide +kernel
theorem dX11_carryOut_104 : decode cX11_carryOut 104 = .ok (.iload_n 3, 1) := by decide +kernel
theorem dX11_carryOut_105 : decode cX11_carryOut 105 = .ok (.imul, 1) := by decide +kernel
theorem dX11_carryOut_106 : decode cX11_carryOut 106 = .ok (.iadd, 1) := by decide +kernel
theorem dX11_carryOut_107 : decode cX11_carryOut 107 = .ok (.iconst 5, 1) := by decide +kernel
theorem dX11_carryOut_108 : decode cX11_carryOut 108 = .ok (.iadd, 1) := by decide +kernel
theorem dX11_carryOut_109 : decode cX11_carryOut 109 = .ok (.iload_n 2, 1) := by decide +kernel
theorem dX11_carryOut_110 : decode cX11_carryOut 110 = .ok (.iastore, 1) := by decide +kernel
theorem dX11_carryOut_111 : decode cX11_carryOut 111 = .ok (.return_, 1) := by decide +kernel
theorem dX11_ruleCount_0 : decode cX11_ruleCount 0 = .ok (.aload_n 0, 1) := by decide +kernel
theorem dX11_ruleCount_1 : decode cX11_ruleCount 1 = .ok (.getfield 7, 3) := by decide +kernel
theorem dX11_ruleCount_4 : decode cX11_ruleCount 4 = .ok (.bipush 15, 2) := by decide +kernel
theorem dX11_ruleCount_6 : decode cX11_ruleCount 6 = .ok (.iaload, 1) := by decide +kernel
theorem dX11_ruleCount_7 : decode cX11_ruleCount 7 = .ok (.ireturn, 1) := by decide +kernel
theorem dX11_ruleHolds_0 : decode cX11_ruleHolds 0 = .ok (.iload_n 1, 1) := by decide +kernel
theorem dX11_ruleHolds_1 : decode cX11_ruleHolds 1 = .ok (.iconst 0, 1) := by decide +kernel
theorem dX11_ruleHolds_2 : decode cX11_ruleHolds 2 = .ok (.aload_n 0, 1) := by decide +kernel
theorem dX11_ruleHolds_3 : decode cX11_ruleHolds 3 = .ok (.getfield 7, 3) := by decide +kernel
theorem dX11_ruleHolds_6 : decode cX11_ruleHolds 6 = .ok (.bipush 15, 2) := by decide +kernel
theorem dX11_ruleHolds_8 : decode cX11_ruleHolds 8 = .ok (.iaload, 1) := by decide +kernel
theorem dX11_ruleHolds_9 : decode cX11_ruleHolds 9 = .ok (.iconst 1, 1) := by decide +kernel
theorem dX11_ruleHolds_10 : decode cX11_ruleHolds 10 = .ok (.isub, 1) := by decide +kernel
theorem dX11_ruleHolds_11 : decode cX11_ruleHolds 11 = .ok (.invokestatic 67, 3) := by decide +kernel
theorem dX11_ruleHolds_14 : decode cX11_ruleHolds 14 = .ok (.ifCond .ne 6, 3) := by decide +kernel
theorem dX11_ruleHolds_17 : decode cX11_ruleHolds 17 = .ok (.ldc 79, 2) := by decide +kernel
theorem dX11_ruleHolds_19 : decode cX11_ruleHolds 19 = .ok (.ireturn, 1) := by decide +kernel
theorem dX11_ruleHolds_20 : decode cX11_ruleHolds 20 = .ok (.aload_n 0, 1) := by decide +kernel
theorem dX11_ruleHolds_21 : decode cX11_ruleHolds 21 = .ok (.iload_n 1, 1) := by decide +kernel
theorem dX11_ruleHolds_22 : decode cX11_ruleHolds 22 = .ok (.invokevirtual 242, 3) := by decide +kernel
theorem dX11_ruleHolds_25 : decode cX11_ruleHolds 25 = .ok (.ifCond .eq 7, 3) := by decide +kernel
theorem dX11_ruleHolds_28 : decode cX11_ruleHolds 28 = .ok (.iconst 1, 1) := by decide +kernel
theorem dX11_ruleHolds_29 : decode cX11_ruleHolds 29 = .ok (.goto 4, 3) := by decide +kernel
theorem dX11_ruleHolds_32 : decode cX11_ruleHolds 32 = .ok (.iconst 0, 1) := by decide +kernel
theorem dX11_ruleHolds_33 : decode cX11_ruleHolds 33 = .ok (.ireturn, 1) := by decide +kernel
theorem dX11_appendText_0 : decode cX11_appendText 0 = .ok (.aload_n 0, 1) := by decide +kernel
theorem dX11_appendText_1 : decode cX11_appendText 1 = .ok (.getfield 247, 3) := by decide +kernel
theorem dX11_appendText_4 : decode cX11_appendText 4 = .ok (.iconst 4, 1) := by decide +kernel
theorem dX11_appendText_5 : decode cX11_appendText 5 = .ok (.iadd, 1) := by decide +kernel
theorem dX11_appendText_6 : decode cX11_appendText 6 = .ok (.sipush 500, 3) := by decide +kernel
theorem dX11_appendText_9 : decode cX11_appendText 9 = .ok (.if_icmp .le 6, 3) := by decide +kernel
theorem dX11_appendText_12 : decode cX11_appendText 12 = .ok (.ldc 80, 2) := by decide +kernel
theorem dX11_appendText_14 : decode cX11_appendText 14 = .ok (.ireturn, 1) := by decide +kernel
theorem dX11_appendText_15 : decode cX11_appendText 15 = .ok (.bipush 24, 2) := by decide +kernel
theorem dX11_appendText_17 : decode cX11_appendText 17 = .ok (.istore_n 2, 1) := by decide +kernel
theorem dX11_appendText_18 : decode cX11_appendText 18 = .ok (.iload_n 2, 1) := by decide +kernel
theorem dX11_appendText_19 : decode cX11_appendText 19 = .ok (.ifCond .lt 35, 3) := by decide +kernel
theorem dX11_appendText_22 : decode cX11_appendText 22 = .ok (.aload_n 0, 1) := by decide +kernel
theorem dX11_appendText_23 : decode cX11_appendText 23 = .ok (.getfield 42, 3) := by decide +kernel
theorem dX11_appendText_26 : decode cX11_appendText 26 = .ok (.aload_n 0, 1) := by decide +kernel
theorem dX11_appendText_27 : decode cX11_appendText 27 = .ok (.getfield 247, 3) := by decide +kernel
theorem dX11_appendText_30 : decode cX11_appendText 30 = .ok (.iload_n 1, 1) := by decide +kernel
theorem dX11_appendText_31 : decode cX11_appendText 31 = .ok (.iload_n 2, 1) := by decide +kernel
theorem dX11_appendText_32 : decode cX11_appendText 32 = .ok (.ishr, 1) := by decide +kernel
theorem dX11_appendText_33 : decode cX11_appendText 33 = .ok (.sipush 255, 3) := by decide +kernel
theorem dX11_appendText_36 : decode cX11_appendText 36 = .ok (.iand, 1) := by decide +kernel
theorem dX11_appendText_37 : decode cX11_appendText 37 = .ok (.iastore, 1) := by decide +kernel
theorem dX11_appendText_38 : decode cX11_appendText 38 = .ok (.aload_n 0, 1) := by decide +kernel
theorem dX11_appendText_39 : decode cX11_appendText 39 = .ok (.dup, 1) := by decide +kernel
theorem dX11_appendText_40 : decode cX11_appendText 40 = .ok (.getfield 247, 3) := by decide +kernel
theorem dX11_appendText_43 : decode cX11_appendText 43 = .ok (.iconst 1, 1) := by decide +kernel
theorem dX11_appendText_44 : decode cX11_appendText 44 = .ok (.iadd, 1) := by decide +kernel
theorem dX11_appendText_45 : decode cX11_appendText 45 = .ok (.putfield 247, 3) := by decide +kernel
theorem dX11_appendText_48 : decode cX11_appendText 48 = .ok (.iinc 2 (-8), 3) := by decide +kernel
theorem dX11_appendText_51 : decode cX11_appendText 51 = .ok (.goto (-33), 3) := by decide +kernel
theorem dX11_appendText_54 : decode cX11_appendText 54 = .ok (.aload_n 0, 1) := by decide +kernel
theorem dX11_appendText_55 : decode cX11_appendText 55 = .ok (.getfield 247, 3) := by decide +kernel
theorem dX11_appendText_58 : decode cX11_appendText 58 = .ok (.ireturn, 1) := by decide +kernel
theorem dX11_truncateText_0 : decode cX11_truncateText 0 = .ok (.iload_n 1, 1) := by decide +kernel
theorem dX11_truncateText_1 : decode cX11_truncateText 1 = .ok (.iconst 0, 1) := by decide +kernel
theorem dX11_truncateText_2 : decode cX11_truncateText 2 = .ok (.aload_n 0, 1) := by decide +kernel
theorem dX11_truncateText_3 : decode cX11_truncateText 3 = .ok (.getfield 247, 3) := by decide +kernel
theorem dX11_truncateText_6 : decode cX11_truncateText 6 = .ok (.invokestatic 67, 3) := by decide +kernel
theorem dX11_truncateText_9 : decode cX11_truncateText 9 = .ok (.ifCond .ne 6, 3) := by decide +kernel
theorem dX11_truncateText_12 : decode cX11_truncateText 12 = .ok (.ldc 79, 2) := by decide +kernel
theorem dX11_truncateText_14 : decode cX11_truncateText 14 = .ok (.ireturn, 1) := by decide +kernel
theorem dX11_truncateText_15 : decode cX11_truncateText 15 = .ok (.aload_n 0, 1) := by decide +kernel
theorem dX11_truncateText_16 : decode cX11_truncateText 16 = .ok (.iload_n 1, 1) := by decide +kernel
theorem dX11_truncateText_17 : decode cX11_truncateText 17 = .ok (.putfield 247, 3) := by decide +kernel
theorem dX11_truncateText_20 : decode cX11_truncateText 20 = .ok (.aload_n 0, 1) := by decide +kernel
theorem dX11_truncateText_21 : decode cX11_truncateText 21 = .ok (.getfield 247, 3) := by decide +kernel
theorem dX11_truncateText_24 : decode cX11_truncateText 24 = .ok (.ireturn, 1) := by decide +kernel
theorem dX11_byteAt_0 : decode cX11_byteAt 0 = .ok (.iload_n 1, 1) := by decide +kernel
theorem dX11_byteAt_1 : decode cX11_byteAt 1 = .ok (.aload_n 0, 1) := by decide +kernel
theorem dX11_byteAt_2 : decode cX11_byteAt 2 = .ok (.getfield 247, 3) := by decide +kernel
theorem dX11_byteAt_5 : decode cX11_byteAt 5 = .ok (.if_icmp .ge 12, 3) := by decide +kernel
theorem dX11_byteAt_8 : decode cX11_byteAt 8 = .ok (.aload_n 0, 1) := by decide +kernel
theorem dX11_byteAt_9 : decode cX11_byteAt 9 = .ok (.getfield 42, 3) := by decide +kernel
theorem dX11_byteAt_12 : decode cX11_byteAt 12 = .ok (.iload_n 1, 1) := by decide +kernel
theorem dX11_byteAt_13 : decode cX11_byteAt 13 = .ok (.iaload, 1) := by decide +kernel
theorem dX11_byteAt_14 : decode cX11_byteAt 14 = .ok (.goto 4, 3) := by decide +kernel
theorem dX11_byteAt_17 : decode cX11_byteAt 17 = .ok (.iconst (-1), 1) := by decide +kernel
theorem dX11_byteAt_18 : decode cX11_byteAt 18 = .ok (.ireturn, 1) := by decide +kernel
theorem dX11_isLetter_0 : decode cX11_isLetter 0 = .ok (.iload_n 0, 1) := by decide +kernel
theorem dX11_isLetter_1 : decode cX11_isLetter 1 = .ok (.bipush 97, 2) := by decide +kernel
theorem dX11_isLetter_3 : decode cX11_isLetter 3 = .ok (.bipush 122, 2) := by decide +kernel
theorem dX11_isLetter_5 : decode cX11_isLetter 5 = .ok (.invokestatic 67, 3) := by decide +kernel
theorem dX11_isLetter_8 : decode cX11_isLetter 8 = .ok (.ireturn, 1) := by decide +kernel
theorem dX11_isDigit_0 : decode cX11_isDigit 0 = .ok (.iload_n 0, 1) := by decide +kernel
theorem dX11_isDigit_1 : decode cX11_isDigit 1 = .ok (.bipush 48, 2) := by decide +kernel
theorem dX11_isDigit_3 : decode cX11_isDigit 3 = .ok (.bipush 57, 2) := by decide +kernel
theorem dX11_isDigit_5 : decode cX11_isDigit 5 = .ok (.invokestatic 67, 3) := by decide +kernel
theorem dX11_isDigit_8 : decode cX11_isDigit 8 = .ok (.ireturn, 1) := by decide +kernel
theorem dX11_isSymbol_0 : decode cX11_isSymbol 0 = .ok (.iload_n 0, 1) := by decide +kernel
theorem dX11_isSymbol_1 : decode cX11_isSymbol 1 = .ok (.bipush 60, 2) := by decide +kernel
theorem dX11_isSymbol_3 : decode cX11_isSymbol 3 = .ok (.if_icmp .eq 39, 3) := by decide +kernel
theorem dX11_isSymbol_6 : decode cX11_isSymbol 6 = .ok (.iload_n 0, 1) := by decide +kernel
theorem dX11_isSymbol_7 : decode cX11_isSymbol 7 = .ok (.bipush 62, 2) := by decide +kernel
theorem dX11_isSymbol_9 : decode cX11_isSymbol 9 = .ok (.if_icmp .eq 33, 3) := by decide +kernel
theorem dX11_isSymbol_12 : decode cX11_isSymbol 12 = .ok (.iload_n 0, 1) := by decide +kernel
theorem dX11_isSymbol_13 : decode cX11_isSymbol 13 = .ok (.bipush 61, 2) := by decide +kernel
theorem dX11_isSymbol_15 : decode cX11_isSymbol 15 = .ok (.if_icmp .eq 27, 3) := by decide +kernel
theorem dX11_isSymbol_18 : decode cX11_isSymbol 18 = .ok (.iload_n 0, 1) := by decide +kernel
theorem dX11_isSymbol_19 : decode cX11_isSymbol 19 = .ok (.bipush 43, 2) := by decide +kernel
theorem dX11_isSymbol_21 : decode cX11_isSymbol 21 = .ok (.if_icmp .eq 21, 3) := by decide +kernel
theorem dX11_isSymbol_24 : decode cX11_isSymbol 24 = .ok (.iload_n 0, 1) := by decide +kernel
theorem dX11_isSymbol_25 : decode cX11_isSymbol 25 = .ok (.bipush 45, 2) := by decide +kernel
theorem dX11_isSymbol_27 : decode cX11_isSymbol 27 = .ok (.if_icmp .eq 15, 3) := by decide +kernel
theorem dX11_isSymbol_30 : decode cX11_isSymbol 30 = .ok (.iload_n 0, 1) := by decide +kernel
theorem dX11_isSymbol_31 : decode cX11_isSymbol 31 = .ok (.bipush 42, 2) := by decide +kernel
theorem dX11_isSymbol_33 : decode cX11_isSymbol 33 = .ok (.if_icmp .eq 9, 3) := by decide +kernel
theorem dX11_isSymbol_36 : decode cX11_isSymbol 36 = .ok (.iload_n 0, 1) := by decide +kernel
theorem dX11_isSymbol_37 : decode cX11_isSymbol 37 = .ok (.bipush 47, 2) := by decide +kernel
theorem dX11_isSymbol_39 : decode cX11_isSymbol 39 = .ok (.if_icmp .ne 7, 3) := by decide +kernel
theorem dX11_isSymbol_42 : decode cX11_isSymbol 42 = .ok (.iconst 1, 1) := by decide +kernel
theorem dX11_isSymbol_43 : decode cX11_isSymbol 43 = .ok (.goto 4, 3) := by decide +kernel
theorem dX11_isSymbol_46 : decode cX11_isSymbol 46 = .ok (.iconst 0, 1) := by decide +kernel
theorem dX11_isSymbol_47 : decode cX11_isSymbol 47 = .ok (.istore_n 1, 1) := by decide +kernel
theorem dX11_isSymbol_48 : decode cX11_isSymbol 48 = .ok (.iload_n 1, 1) := by decide +kernel
theorem dX11_isSymbol_49 : decode cX11_isSymbol 49 = .ok (.ifCond .ne 27, 3) := by decide +kernel
theorem dX11_isSymbol_52 : decode cX11_isSymbol 52 = .ok (.iload_n 0, 1) := by decide +kernel
theorem dX11_isSymbol_53 : decode cX11_isSymbol 53 = .ok (.bipush 40, 2) := by decide +kernel
theorem dX11_isSymbol_55 : decode cX11_isSymbol 55 = .ok (.if_icmp .eq 21, 3) := by decide +kernel
theorem dX11_isSymbol_58 : decode cX11_isSymbol 58 = .ok (.iload_n 0, 1) := by decide +kernel
theorem dX11_isSymbol_59 : decode cX11_isSymbol 59 = .ok (.bipush 41, 2) := by decide +kernel
theorem dX11_isSymbol_61 : decode cX11_isSymbol 61 = .ok (.if_icmp .eq 15, 3) := by decide +kernel
theorem dX11_isSymbol_64 : decode cX11_isSymbol 64 = .ok (.iload_n 0, 1) := by decide +kernel
theorem dX11_isSymbol_65 : decode cX11_isSymbol 65 = .ok (.bipush 58, 2) := by decide +kernel
theorem dX11_isSymbol_67 : decode cX11_isSymbol 67 = .ok (.if_icmp .eq 9, 3) := by decide +kernel
theorem dX11_isSymbol_70 : decode cX11_isSymbol 70 = .ok (.iload_n 0, 1) := by decide +kernel
theorem dX11_isSymbol_71 : decode cX11_isSymbol 71 = .ok (.bipush 59, 2) := by decide +kernel
theorem dX11_isSymbol_73 : decode cX11_isSymbol 73 = .ok (.if_icmp .ne 7, 3) := by decide +kernel
theorem dX11_isSymbol_76 : decode cX11_isSymbol 76 = .ok (.iconst 1, 1) := by decide +kernel
theorem dX11_isSymbol_77 : decode cX11_isSymbol 77 = .ok (.goto 4, 3) := by decide +kernel
theorem dX11_isSymbol_80 : decode cX11_isSymbol 80 = .ok (.iconst 0, 1) := by decide +kernel
theorem dX11_isSymbol_81 : decode cX11_isSymbol 81 = .ok (.ireturn, 1) := by decide +kernel
theorem dX11_nextToken_0 : decode cX11_nextToken 0 = .ok (.aload_n 0, 1) := by decide +kernel
theorem dX11_nextToken_1 : decode cX11_nextToken 1 = .ok (.aload_n 0, 1) := by decide +kernel
theorem dX11_nextToken_2 : decode cX11_nextToken 2 = .ok (.getfield 250, 3) := by decide +kernel
theorem dX11_nextToken_5 : decode cX11_nextToken 5 = .ok (.invokevirtual 253, 3) := by decide +kernel
theorem dX11_nextToken_8 : decode cX11_nextToken 8 = .ok (.bipush 32, 2) := by decide +kernel
theorem dX11_nextToken_10 : decode cX11_nextToken 10 = .ok (.if_icmp .eq 16, 3) := by decide +kernel
theorem dX11_nextToken_13 : decode cX11_nextToken 13 = .ok (.aload_n 0, 1) := by decide +kernel
theorem dX11_nextToken_14 : decode cX11_nextToken 14 = .ok (.aload_n 0, 1) := by decide +kernel
theorem dX11_nextToken_15 : decode cX11_nextToken 15 = .ok (.getfield 250, 3) := by decide +kernel
theorem dX11_nextToken_18 : decode cX11_nextToken 18 = .ok (.invokevirtual 253, 3) := by decide +kernel
theorem dX11_nextToken_21 : decode cX11_nextToken 21 = .ok (.bipush 10, 2) := by decide +kernel
theorem dX11_nextToken_23 : decode cX11_nextToken 23 = .ok (.if_icmp .ne 16, 3) := by decide +kernel
theorem dX11_nextToken_26 : decode cX11_nextToken 26 = .ok (.aload_n 0, 1) := by decide +kernel
theorem dX11_nextToken_27 : decode cX11_nextToken 27 = .ok (.dup, 1) := by decide +kernel
theorem dX11_nextToken_28 : decode cX11_nextToken 28 = .ok (.getfield 250, 3) := by decide +kernel
theorem dX11_nextToken_31 : decode cX11_nextToken 31 = .ok (.iconst 1, 1) := by decide +kernel
theorem dX11_nextToken_32 : decode cX11_nextToken 32 = .ok (.iadd, 1) := by decide +kernel
theorem dX11_nextToken_33 : decode cX11_nextToken 33 = .ok (.putfield 250, 3) := by decide +kernel
theorem dX11_nextToken_36 : decode cX11_nextToken 36 = .ok (.goto (-36), 3) := by decide +kernel
theorem dX11_nextToken_39 : decode cX11_nextToken 39 = .ok (.aload_n 0, 1) := by decide +kernel
theorem dX11_nextToken_40 : decode cX11_nextToken 40 = .ok (.aload_n 0, 1) := by decide +kernel
theorem dX11_nextToken_41 : decode cX11_nextToken 41 = .ok (.getfield 250, 3) := by decide +kernel
theorem dX11_nextToken_44 : decode cX11_nextToken 44 = .ok (.putfield 256, 3) := by decide +kernel
theorem dX11_nextToken_47 : decode cX11_nextToken 47 = .ok (.aload_n 0, 1) := by decide +kernel
theorem dX11_nextToken_48 : decode cX11_nextToken 48 = .ok (.iconst 0, 1) := by decide +kernel
theorem dX11_nextToken_49 : decode cX11_nextToken 49 = .ok (.putfield 259, 3) := by decide +kernel
theorem dX11_nextToken_52 : decode cX11_nextToken 52 = .ok (.aload_n 0, 1) := by decide +kernel
theorem dX11_nextToken_53 : decode cX11_nextToken 53 = .ok (.lconst 0, 1) := by decide +kernel
theorem dX11_nextToken_54 : decode cX11_nextToken 54 = .ok (.putfield 262, 3) := by decide +kernel
theorem dX11_nextToken_57 : decode cX11_nextToken 57 = .ok (.aload_n 0, 1) := by decide +kernel
theorem dX11_nextToken_58 : decode cX11_nextToken 58 = .ok (.iconst 0, 1) := by decide +kernel
theorem dX11_nextToken_59 : decode cX11_nextToken 59 = .ok (.putfield 266, 3) := by decide +kernel
theorem dX11_nextToken_62 : decode cX11_nextToken 62 = .ok (.aload_n 0, 1) := by decide +kernel
theorem dX11_nextToken_63 : decode cX11_nextToken 63 = .ok (.iconst 0, 1) := by decide +kernel
theorem dX11_nextToken_64 : decode cX11_nextToken 64 = .ok (.putfield 269, 3) := by decide +kernel
theorem dX11_nextToken_67 : decode cX11_nextToken 67 = .ok (.aload_n 0, 1) := by decide +kernel
theorem dX11_nextToken_68 : decode cX11_nextToken 68 = .ok (.aload_n 0, 1) := by decide +kernel
theorem dX11_nextToken_69 : decode cX11_nextToken 69 = .ok (.getfield 250, 3) := by decide +kernel
theorem dX11_nextToken_72 : decode cX11_nextToken 72 = .ok (.invokevirtual 253, 3) := by decide +kernel
theorem dX11_nextToken_75 : decode cX11_nextToken 75 = .ok (.istore_n 1, 1) := by decide +kernel
theorem dX11_nextToken_76 : decode cX11_nextToken 76 = .ok (.iload_n 1, 1) := by decide +kernel
theorem dX11_nextToken_77 : decode cX11_nextToken 77 = .ok (.iconst (-1), 1) := by decide +kernel
theorem dX11_nextToken_78 : decode cX11_nextToken 78 = .ok (.if_icmp .ne 11, 3) := by decide +kernel
theorem dX11_nextToken_81 : decode cX11_nextToken 81 = .ok (.aload_n 0, 1) := by decide +kernel
theorem dX11_nextToken_82 : decode cX11_nextToken 82 = .ok (.iconst 0, 1) := by decide +kernel
theorem dX11_nextToken_83 : decode cX11_nextToken 83 = .ok (.putfield 272, 3) := by decide +kernel
theorem dX11_nextToken_86 : decode cX11_nextToken 86 = .ok (.goto 216, 3) := by decide +kernel
theorem dX11_nextToken_89 : decode cX11_nextToken 89 = .ok (.iload_n 1, 1) := by decide +kernel
theorem dX11_nextToken_90 : decode cX11_nextToken 90 = .ok (.invokestatic 275, 3) := by decide +kernel
theorem dX11_nextToken_93 : decode cX11_nextToken 93 = .ok (.ifCond .eq 87, 3) := by decide +kernel
theorem dX11_nextToken_96 : decode cX11_nextToken 96 = .ok (.aload_n 0, 1) := by decide +kernel
theorem dX11_nextToken_97 : decode cX11_nextToken 97 = .ok (.iconst 2, 1) := by decide +kernel
theorem dX11_nextToken_98 : decode cX11_nextToken 98 = .ok (.putfield 272, 3) := by decide +kernel
theorem dX11_nextToken_101 : decode cX11_nextToken 101 = .ok (.aload_n 0, 1) := by decide +kernel
theorem dX11_nextToken_102 : decode cX11_nextToken 102 = .ok (.aload_n 0, 1) := by decide +kernel
theorem dX11_nextToken_103 : decode cX11_nextToken 103 = .ok (.getfield 250, 3) := by decide +kernel
theorem dX11_nextToken_106 : decode cX11_nextToken 106 = .ok (.invokevirtual 253, 3) := by decide +kernel
theorem dX11_nextToken_109 : decode cX11_nextToken 109 = .ok (.invokestatic 275, 3) := by decide +kernel
theorem dX11_nextToken_112 : decode cX11_nextToken 112 = .ok (.ifCond .eq 190, 3) := by decide +kernel
theorem dX11_nextToken_115 : decode cX11_nextToken 115 = .ok (.aload_n 0, 1) := by decide +kernel
theorem dX11_nextToken_116 : decode cX11_nextToken 116 = .ok (.aload_n 0, 1) := by decide +kernel
theorem dX11_nextToken_117 : decode cX11_nextToken 117 = .ok (.getfield 259, 3) := by decide +kernel
theorem dX11_nextToken_120 : decode cX11_nextToken 120 = .ok (.bipush 8, 2) := by decide +kernel
theorem dX11_nextToken_122 : decode cX11_nextToken 122 = .ok (.if_icmp .ge 28, 3) := by decide +kernel
theorem dX11_nextToken_125 : decode cX11_nextToken 125 = .ok (.ldc2_w 278, 3) := by decide +kernel
theorem dX11_nextToken_128 : decode cX11_nextToken 128 = .ok (.aload_n 0, 1) := by decide +kernel
theorem dX11_nextToken_129 : decode cX11_nextToken 129 = .ok (.getfield 262, 3) := by decide +kernel
theorem dX11_nextToken_132 : decode cX11_nextToken 132 = .ok (.lmul, 1) := by decide +kernel
theorem dX11_nextToken_133 : decode cX11_nextToken 133 = .ok (.aload_n 0, 1) := by decide +kernel
theorem dX11_nextToken_134 : decode cX11_nextToken 134 = .ok (.aload_n 0, 1) := by decide +kernel
theorem dX11_nextToken_135 : decode cX11_nextToken 135 = .ok (.getfield 250, 3) := by decide +kernel
theorem dX11_nextToken_138 : decode cX11_nextToken 138 = .ok (.invokevirtual 253, 3) := by decide +kernel
theorem dX11_nextToken_141 : decode cX11_nextToken 141 = .ok (.i2l, 1) := by decide +kernel
theorem dX11_nextToken_142 : decode cX11_nextToken 142 = .ok (.ladd, 1) := by decide +kernel
theorem dX11_nextToken_143 : decode cX11_nextToken 143 = .ok (.ldc2_w 280, 3) := by decide +kernel
theorem dX11_nextToken_146 : decode cX11_nextToken 146 = .ok (.lsub, 1) := by decide +kernel
theorem dX11_nextToken_147 : decode cX11_nextToken 147 = .ok (.goto 7, 3) := by decide +kernel
theorem dX11_nextToken_150 : decode cX11_nextToken 150 = .ok (.aload_n 0, 1) := by decide +kernel
theorem dX11_nextToken_151 : decode cX11_nextToken 151 = .ok (.getfield 262, 3) := by decide +kernel
theorem dX11_nextToken_154 : decode cX11_nextToken 154 = .ok (.putfield 262, 3) := by decide +kernel
theorem dX11_nextToken_157 : decode cX11_nextToken 157 = .ok (.aload_n 0, 1) := by decide +kernel
theorem dX11_nextToken_158 : decode cX11_nextToken 158 = .ok (.dup, 1) := by decide +kernel
theorem dX11_nextToken_159 : decode cX11_nextToken 159 = .ok (.getfield 259, 3) := by decide +kernel
theorem dX11_nextToken_162 : decode cX11_nextToken 162 = .ok (.iconst 1, 1) := by decide +kernel
theorem dX11_nextToken_163 : decode cX11_nextToken 163 = .ok (.iadd, 1) := by decide +kernel
theorem dX11_nextToken_164 : decode cX11_nextToken 164 = .ok (.putfield 259, 3) := by decide +kernel
theorem dX11_nextToken_167 : decode cX11_nextToken 167 = .ok (.aload_n 0, 1) := by decide +kernel
theorem dX11_nextToken_168 : decode cX11_nextToken 168 = .ok (.dup, 1) := by decide +kernel
theorem dX11_nextToken_169 : decode cX11_nextToken 169 = .ok (.getfield 250, 3) := by decide +kernel
theorem dX11_nextToken_172 : decode cX11_nextToken 172 = .ok (.iconst 1, 1) := by decide +kernel
theorem dX11_nextToken_173 : decode cX11_nextToken 173 = .ok (.iadd, 1) := by decide +kernel
theorem dX11_nextToken_174 : decode cX11_nextToken 174 = .ok (.putfield 250, 3) := by decide +kernel
theorem dX11_nextToken_177 : decode cX11_nextToken 177 = .ok (.goto (-76), 3) := by decide +kernel
theorem dX11_nextToken_180 : decode cX11_nextToken 180 = .ok (.iload_n 1, 1) := by decide +kernel
theorem dX11_nextToken_181 : decode cX11_nextToken 181 = .ok (.invokestatic 282, 3) := by decide +kernel
theorem dX11_nextToken_184 : decode cX11_nextToken 184 = .ok (.ifCond .eq 75, 3) := by decide +kernel
theorem dX11_nextToken_187 : decode cX11_nextToken 187 = .ok (.aload_n 0, 1) := by decide +kernel
theorem dX11_nextToken_188 : decode cX11_nextToken 188 = .ok (.iconst 3, 1) := by decide +kernel
theorem dX11_nextToken_189 : decode cX11_nextToken 189 = .ok (.putfield 272, 3) := by decide +kernel
theorem dX11_nextToken_192 : decode cX11_nextToken 192 = .ok (.aload_n 0, 1) := by decide +kernel
theorem dX11_nextToken_193 : decode cX11_nextToken 193 = .ok (.aload_n 0, 1) := by decide +kernel
theorem dX11_nextToken_194 : decode cX11_nextToken 194 = .ok (.getfield 250, 3) := by decide +kernel
theorem dX11_nextToken_197 : decode cX11_nextToken 197 = .ok (.invokevirtual 253, 3) := by decide +kernel
theorem dX11_nextToken_200 : decode cX11_nextToken 200 = .ok (.invokestatic 282, 3) := by decide +kernel
theorem dX11_nextToken_203 : decode cX11_nextToken 203 = .ok (.ifCond .eq 99, 3) := by decide +kernel
theorem dX11_nextToken_206 : decode cX11_nextToken 206 = .ok (.aload_n 0, 1) := by decide +kernel
theorem dX11_nextToken_207 : decode cX11_nextToken 207 = .ok (.aload_n 0, 1) := by decide +kernel
theorem dX11_nextToken_208 : decode cX11_nextToken 208 = .ok (.getfield 266, 3) := by decide +kernel
theorem dX11_nextToken_211 : decode cX11_nextToken 211 = .ok (.ldc_w 285, 3) := by decide +kernel
theorem dX11_nextToken_214 : decode cX11_nextToken 214 = .ok (.if_icmp .le 10, 3) := by decide +kernel
theorem dX11_nextToken_217 : decode cX11_nextToken 217 = .ok (.aload_n 0, 1) := by decide +kernel
theorem dX11_nextToken_218 : decode cX11_nextToken 218 = .ok (.getfield 266, 3) := by decide +kernel
theorem dX11_nextToken_221 : decode cX11_nextToken 221 = .ok (.goto 22, 3) := by decide +kernel
theorem dX11_nextToken_224 : decode cX11_nextToken 224 = .ok (.bipush 10, 2) := by decide +kernel
theorem dX11_nextToken_226 : decode cX11_nextToken 226 = .ok (.aload_n 0, 1) := by decide +kernel
theorem dX11_nextToken_227 : decode cX11_nextToken 227 = .ok (.getfield 266, 3) := by decide +kernel
theorem dX11_nextToken_230 : decode cX11_nextToken 230 = .ok (.imul, 1) := by decide +kernel
theorem dX11_nextToken_231 : decode cX11_nextToken 231 = .ok (.aload_n 0, 1) := by decide +kernel
theorem dX11_nextToken_232 : decode cX11_nextToken 232 = .ok (.aload_n 0, 1) := by decide +kernel
theorem dX11_nextToken_233 : decode cX11_nextToken 233 = .ok (.getfield 250, 3) := by decide +kernel
theorem dX11_nextToken_236 : decode cX11_nextToken 236 = .ok (.invokevirtual 253, 3) := by decide +kernel
theorem dX11_nextToken_239 : decode cX11_nextToken 239 = .ok (.iadd, 1) := by decide +kernel
theorem dX11_nextToken_240 : decode cX11_nextToken 240 = .ok (.bipush 48, 2) := by decide +kernel
theorem dX11_nextToken_242 : decode cX11_nextToken 242 = .ok (.isub, 1) := by decide +kernel
theorem dX11_nextToken_243 : decode cX11_nextToken 243 = .ok (.putfield 266, 3) := by decide +kernel
theorem dX11_nextToken_246 : decode cX11_nextToken 246 = .ok (.aload_n 0, 1) := by decide +kernel
theorem dX11_nextToken_247 : decode cX11_nextToken 247 = .ok (.dup, 1) := by decide +kernel
theorem dX11_nextToken_248 : decode cX11_nextToken 248 = .ok (.getfield 250, 3) := by decide +kernel
theorem dX11_nextToken_251 : decode cX11_nextToken 251 = .ok (.iconst 1, 1) := by decide +kernel
theorem dX11_nextToken_252 : decode cX11_nextToken 252 = .ok (.iadd, 1) := by decide +kernel
theorem dX11_nextToken_253 : decode cX11_nextToken 253 = .ok (.putfield 250, 3) := by decide +kernel
theorem dX11_nextToken_256 : decode cX11_nextToken 256 = .ok (.goto (-64), 3) := by decide +kernel
theorem dX11_nextToken_259 : decode cX11_nextToken 259 = .ok (.aload_n 0, 1) := by decide +kernel
theorem dX11_nextToken_260 : decode cX11_nextToken 260 = .ok (.iload_n 1, 1) := by decide +kernel
theorem dX11_nextToken_261 : decode cX11_nextToken 261 = .ok (.invokestatic 286, 3) := by decide +kernel
theorem dX11_nextToken_264 : decode cX11_nextToken 264 = .ok (.ifCond .eq 7, 3) := by decide +kernel
theorem dX11_nextToken_267 : decode cX11_nextToken 267 = .ok (.iconst 4, 1) := by decide +kernel
theorem dX11_nextToken_268 : decode cX11_nextToken 268 = .ok (.goto 4, 3) := by decide +kernel
theorem dX11_nextToken_271 : decode cX11_nextToken 271 = .ok (.iconst 1, 1) := by decide +kernel
theorem dX11_nextToken_272 : decode cX11_nextToken 272 = .ok (.putfield 272, 3) := by decide +kernel
theorem dX11_nextToken_275 : decode cX11_nextToken 275 = .ok (.aload_n 0, 1) := by decide +kernel
theorem dX11_nextToken_276 : decode cX11_nextToken 276 = .ok (.aload_n 0, 1) := by decide +kernel
theorem dX11_nextToken_277 : decode cX11_nextToken 277 = .ok (.getfield 272, 3) := by decide +kernel
theorem dX11_nextToken_280 : decode cX11_nextToken 280 = .ok (.iconst 4, 1) := by decide +kernel
theorem dX11_nextToken_281 : decode cX11_nextToken 281 = .ok (.if_icmp .ne 7, 3) := by decide +kernel
theorem dX11_nextToken_284 : decode cX11_nextToken 284 = .ok (.iload_n 1, 1) := by decide +kernel
theorem dX11_nextToken_285 : decode cX11_nextToken 285 = .ok (.goto 4, 3) := by decide +kernel
theorem dX11_nextToken_288 : decode cX11_nextToken 288 = .ok (.iconst 0, 1) := by decide +kernel
theorem dX11_nextToken_289 : decode cX11_nextToken 289 = .ok (.putfield 269, 3) := by decide +kernel
theorem dX11_nextToken_292 : decode cX11_nextToken 292 = .ok (.aload_n 0, 1) := by decide +kernel
theorem dX11_nextToken_293 : decode cX11_nextToken 293 = .ok (.dup, 1) := by decide +kernel
theorem dX11_nextToken_294 : decode cX11_nextToken 294 = .ok (.getfield 250, 3) := by decide +kernel
theorem dX11_nextToken_297 : decode cX11_nextToken 297 = .ok (.iconst 1, 1) := by decide +kernel
theorem dX11_nextToken_298 : decode cX11_nextToken 298 = .ok (.iadd, 1) := by decide +kernel
theorem dX11_nextToken_299 : decode cX11_nextToken 299 = .ok (.putfield 250, 3) := by decide +kernel
theorem dX11_nextToken_302 : decode cX11_nextToken 302 = .ok (.return_, 1) := by decide +kernel
theorem dX11_isWord_0 : decode cX11_isWord 0 = .ok (.aload_n 0, 1) := by decide +kernel
theorem dX11_isWord_1 : decode cX11_isWord 1 = .ok (.getfield 272, 3) := by decide +kernel
theorem dX11_isWord_4 : decode cX11_isWord 4 = .ok (.iconst 2, 1) := by decide +kernel
theorem dX11_isWord_5 : decode cX11_isWord 5 = .ok (.if_icmp .ne 14, 3) := by decide +kernel
theorem dX11_isWord_8 : decode cX11_isWord 8 = .ok (.aload_n 0, 1) := by decide +kernel
theorem dX11_isWord_9 : decode cX11_isWord 9 = .ok (.getfield 259, 3) := by decide +kernel
theorem dX11_isWord_12 : decode cX11_isWord 12 = .ok (.aload_n 1, 1) := by decide +kernel
theorem dX11_isWord_13 : decode cX11_isWord 13 = .ok (.invokevirtual 289, 3) := by decide +kernel
theorem dX11_isWord_16 : decode cX11_isWord 16 = .ok (.if_icmp .eq 5, 3) := by decide +kernel
theorem dX11_isWord_19 : decode cX11_isWord 19 = .ok (.iconst 0, 1) := by decide +kernel
theorem dX11_isWord_20 : decode cX11_isWord 20 = .ok (.ireturn, 1) := by decide +kernel
theorem dX11_isWord_21 : decode cX11_isWord 21 = .ok (.lconst 0, 1) := by decide +kernel
theorem dX11_isWord_22 : decode cX11_isWord 22 = .ok (.lstore_n 2, 1) := by decide +kernel
theorem dX11_isWord_23 : decode cX11_isWord 23 = .ok (.iconst 0, 1) := by decide +kernel
theorem dX11_isWord_24 : decode cX11_isWord 24 = .ok (.istore 4, 2) := by decide +kernel
theorem dX11_isWord_26 : decode cX11_isWord 26 = .ok (.iload 4, 2) := by decide +kernel
theorem dX11_isWord_28 : decode cX11_isWord 28 = .ok (.aload_n 1, 1) := by decide +kernel
theorem dX11_isWord_29 : decode cX11_isWord 29 = .ok (.invokevirtual 289, 3) := by decide +kernel
theorem dX11_isWord_32 : decode cX11_isWord 32 = .ok (.if_icmp .ge 27, 3) := by decide +kernel
theorem dX11_isWord_35 : decode cX11_isWord 35 = .ok (.ldc2_w 278, 3) := by decide +kernel
theorem dX11_isWord_38 : decode cX11_isWord 38 = .ok (.lload_n 2, 1) := by decide +kernel
theorem dX11_isWord_39 : decode cX11_isWord 39 = .ok (.lmul, 1) := by decide +kernel
theorem dX11_isWord_40 : decode cX11_isWord 40 = .ok (.aload_n 1, 1) := by decide +kernel
theorem dX11_isWord_41 : decode cX11_isWord 41 = .ok (.iload 4, 2) := by decide +kernel
theorem dX11_isWord_43 : decode cX11_isWord 43 = .ok (.invokevirtual 294, 3) := by decide +kernel
theorem dX11_isWord_46 : decode cX11_isWord 46 = .ok (.i2l, 1) := by decide +kernel
theorem dX11_isWord_47 : decode cX11_isWord 47 = .ok (.ladd, 1) := by decide +kernel
theorem dX11_isWord_48 : decode cX11_isWord 48 = .ok (.ldc2_w 280, 3) := by decide +kernel
theorem dX11_isWord_51 : decode cX11_isWord 51 = .ok (.lsub, 1) := by decide +kernel
theorem dX11_isWord_52 : decode cX11_isWord 52 = .ok (.lstore_n 2, 1) := by decide +kernel
theorem dX11_isWord_53 : decode cX11_isWord 53 = .ok (.iinc 4 1, 3) := by decide +kernel
theorem dX11_isWord_56 : decode cX11_isWord 56 = .ok (.goto (-30), 3) := by decide +kernel
theorem dX11_isWord_59 : decode cX11_isWord 59 = .ok (.aload_n 0, 1) := by decide +kernel
theorem dX11_isWord_60 : decode cX11_isWord 60 = .ok (.getfield 262, 3) := by decide +kernel
theorem dX11_isWord_63 : decode cX11_isWord 63 = .ok (.lload_n 2, 1) := by decide +kernel
theorem dX11_isWord_64 : decode cX11_isWord 64 = .ok (.lcmp, 1) := by decide +kernel
theorem dX11_isWord_65 : decode cX11_isWord 65 = .ok (.ifCond .ne 7, 3) := by decide +kernel
theorem dX11_isWord_68 : decode cX11_isWord 68 = .ok (.iconst 1, 1) := by decide +kernel
theorem dX11_isWord_69 : decode cX11_isWord 69 = .ok (.goto 4, 3) := by decide +kernel
theorem dX11_isWord_72 : decode cX11_isWord 72 = .ok (.iconst 0, 1) := by decide +kernel
theorem dX11_isWord_73 : decode cX11_isWord 73 = .ok (.ireturn, 1) := by decide +kernel
theorem dX11_require_0 : decode cX11_require 0 = .ok (.iload_n 1, 1) := by decide +kernel
theorem dX11_require_1 : decode cX11_require 1 = .ok (.ifCond .ne 23, 3) := by decide +kernel
theorem dX11_require_4 : decode cX11_require 4 = .ok (.aload_n 0, 1) := by decide +kernel
theorem dX11_require_5 : decode cX11_require 5 = .ok (.getfield 298, 3) := by decide +kernel
theorem dX11_require_8 : decode cX11_require 8 = .ok (.ifCond .ne 16, 3) := by decide +kernel
theorem dX11_require_11 : decode cX11_require 11 = .ok (.aload_n 0, 1) := by decide +kernel
theorem dX11_require_12 : decode cX11_require 12 = .ok (.iload_n 2, 1) := by decide +kernel
theorem dX11_require_13 : decode cX11_require 13 = .ok (.putfield 298, 3) := by decide +kernel
theorem dX11_require_16 : decode cX11_require 16 = .ok (.aload_n 0, 1) := by decide +kernel
theorem dX11_require_17 : decode cX11_require 17 = .ok (.aload_n 0, 1) := by decide +kernel
theorem dX11_require_18 : decode cX11_require 18 = .ok (.getfield 256, 3) := by decide +kernel
theorem dX11_require_21 : decode cX11_require 21 = .ok (.putfield 45, 3) := by decide +kernel
theorem dX11_require_24 : decode cX11_require 24 = .ok (.return_, 1) := by decide +kernel
theorem dX11_advance_0 : decode cX11_advance 0 = .ok (.aload_n 0, 1) := by decide +kernel
theorem dX11_advance_1 : decode cX11_advance 1 = .ok (.getfield 298, 3) := by decide +kernel
theorem dX11_advance_4 : decode cX11_advance 4 = .ok (.ifCond .ne 7, 3) := by decide +kernel
theorem dX11_advance_7 : decode cX11_advance 7 = .ok (.aload_n 0, 1) := by decide +kernel
theorem dX11_advance_8 : decode cX11_advance 8 = .ok (.invokevirtual 301, 3) := by decide +kernel
theorem dX11_advance_11 : decode cX11_advance 11 = .ok (.return_, 1) := by decide +kernel
theorem dX11_requireSymbol_0 : decode cX11_requireSymbol 0 = .ok (.aload_n 0, 1) := by decide +kernel
theorem dX11_requireSymbol_1 : decode cX11_requireSymbol 1 = .ok (.aload_n 0, 1) := by decide +kernel
theorem dX11_requireSymbol_2 : decode cX11_requireSymbol 2 = .ok (.getfield 269, 3) := by decide +kernel
theorem dX11_requireSymbol_5 : decode cX11_requireSymbol 5 = .ok (.iload_n 1, 1) := by decide +kernel
theorem dX11_requireSymbol_6 : decode cX11_requireSymbol 6 = .ok (.if_icmp .ne 7, 3) := by decide +kernel
theorem dX11_requireSymbol_9 : decode cX11_requireSymbol 9 = .ok (.iconst 1, 1) := by decide +kernel
theorem dX11_requireSymbol_10 : decode cX11_requireSymbol 10 = .ok (.goto 4, 3) := by decide +kernel
theorem dX11_requireSymbol_13 : decode cX11_requireSymbol 13 = .ok (.iconst 0, 1) := by decide +kernel
theorem dX11_requireSymbol_14 : decode cX11_requireSymbol 14 = .ok (.iconst 1, 1) := by decide +kernel
theorem dX11_requireSymbol_15 : decode cX11_requireSymbol 15 = .ok (.invokevirtual 304, 3) := by decide +kernel
theorem dX11_requireSymbol_18 : decode cX11_requireSymbol 18 = .ok (.aload_n 0, 1) := by decide +kernel
theorem dX11_requireSymbol_19 : decode cX11_requireSymbol 19 = .ok (.invokevirtual 308, 3) := by decide +kernel
theorem dX11_requireSymbol_22 : decode cX11_requireSymbol 22 = .ok (.return_, 1) := by decide +kernel
theorem dX11_emit_0 : decode cX11_emit 0 = .ok (.aload_n 0, 1) := by decide +kernel
theorem dX11_emit_1 : decode cX11_emit 1 = .ok (.getfield 298, 3) := by decide +kernel
theorem dX11_emit_4 : decode cX11_emit 4 = .ok (.ifCond .ne 39, 3) := by decide +kernel
theorem dX11_emit_7 : decode cX11_emit 7 = .ok (.aload_n 0, 1) := by decide +kernel
theorem dX11_emit_8 : decode cX11_emit 8 = .ok (.getfield 52, 3) := by decide +kernel
theorem dX11_emit_11 : decode cX11_emit 11 = .ok (.iconst 2, 1) := by decide +kernel
theorem dX11_emit_12 : decode cX11_emit 12 = .ok (.aload_n 0, 1) := by decide +kernel
theorem dX11_emit_13 : decode cX11_emit 13 = .ok (.getfield 311, 3) := by decide +kernel
theorem dX11_emit_16 : decode cX11_emit 16 = .ok (.imul, 1) := by decide +kernel
theorem dX11_emit_17 : decode cX11_emit 17 = .ok (.iload_n 1, 1) := by decide +kernel
theorem dX11_emit_18 : decode cX11_emit 18 = .ok (.iastore, 1) := by decide +kernel
theorem dX11_emit_19 : decode cX11_emit 19 = .ok (.aload_n 0, 1) := by decide +kernel
theorem dX11_emit_20 : decode cX11_emit 20 = .ok (.getfield 52, 3) := by decide +kernel
theorem dX11_emit_23 : decode cX11_emit 23 = .ok (.iconst 2, 1) := by decide +kernel
theorem dX11_emit_24 : decode cX11_emit 24 = .ok (.aload_n 0, 1) := by decide +kernel
theorem dX11_emit_25 : decode cX11_emit 25 = .ok (.getfield 311, 3) := by decide +kernel
theorem dX11_emit_28 : decode cX11_emit 28 = .ok (.imul, 1) := by decide +kernel
theorem dX11_emit_29 : decode cX11_emit 29 = .ok (.iconst 1, 1) := by decide +kernel
theorem dX11_emit_30 : decode cX11_emit 30 = .ok (.iadd, 1) := by decide +kernel
theorem dX11_emit_31 : decode cX11_emit 31 = .ok (.iload_n 2, 1) := by decide +kernel
theorem dX11_emit_32 : decode cX11_emit 32 = .ok (.iastore, 1) := by decide +kernel
theorem dX11_emit_33 : decode cX11_emit 33 = .ok (.aload_n 0, 1) := by decide +kernel
theorem dX11_emit_34 : decode cX11_emit 34 = .ok (.dup, 1) := by decide +kernel
theorem dX11_emit_35 : decode cX11_emit 35 = .ok (.getfield 311, 3) := by decide +kernel
theorem dX11_emit_38 : decode cX11_emit 38 = .ok (.iconst 1, 1) := by decide +kernel
theorem dX11_emit_39 : decode cX11_emit 39 = .ok (.iadd, 1) := by decide +kernel
theorem dX11_emit_40 : decode cX11_emit 40 = .ok (.putfield 311, 3) := by decide +kernel
theorem dX11_emit_43 : decode cX11_emit 43 = .ok (.return_, 1) := by decide +kernel
theorem dX11_parsePart_0 : decode cX11_parsePart 0 = .ok (.aload_n 0, 1) := by decide +kernel
theorem dX11_parsePart_1 : decode cX11_parsePart 1 = .ok (.aload_n 0, 1) := by decide +kernel
theorem dX11_parsePart_2 : decode cX11_parsePart 2 = .ok (.getfield 272, 3) := by decide +kernel
theorem dX11_parsePart_5 : decode cX11_parsePart 5 = .ok (.iconst 3, 1) := by decide +kernel
theorem dX11_parsePart_6 : decode cX11_parsePart 6 = .ok (.if_icmp .ne 7, 3) := by decide +kernel
theorem dX11_parsePart_9 : decode cX11_parsePart 9 = .ok (.iconst 1, 1) := by decide +kernel
theorem dX11_parsePart_10 : decode cX11_parsePart 10 = .ok (.goto 4, 3) := by decide +kernel
theorem dX11_parsePart_13 : decode cX11_parsePart 13 = .ok (.iconst 0, 1) := by decide +kernel
theorem dX11_parsePart_14 : decode cX11_parsePart 14 = .ok (.iconst 1, 1) := by decide +kernel
theorem dX11_parsePart_15 : decode cX11_parsePart 15 = .ok (.invokevirtual 304, 3) := by decide +kernel
theorem dX11_parsePart_18 : decode cX11_parsePart 18 = .ok (.aload_n 0, 1) := by decide +kernel
theorem dX11_parsePart_19 : decode cX11_parsePart 19 = .ok (.aload_n 0, 1) := by decide +kernel
theorem dX11_parsePart_20 : decode cX11_parsePart 20 = .ok (.getfield 266, 3) := by decide +kernel
theorem dX11_parsePart_23 : decode cX11_parsePart 23 = .ok (.iload_n 1, 1) := by decide +kernel
theorem dX11_parsePart_24 : decode cX11_parsePart 24 = .ok (.if_icmp .ge 7, 3) := by decide +kernel
theorem dX11_parsePart_27 : decode cX11_parsePart 27 = .ok (.iconst 1, 1) := by decide +kernel
theorem dX11_parsePart_28 : decode cX11_parsePart 28 = .ok (.goto 4, 3) := by decide +kernel
theorem dX11_parsePart_31 : decode cX11_parsePart 31 = .ok (.iconst 0, 1) := by decide +kernel
theorem dX11_parsePart_32 : decode cX11_parsePart 32 = .ok (.iconst 2, 1) := by decide +kernel
theorem dX11_parsePart_33 : decode cX11_parsePart 33 = .ok (.invokevirtual 304, 3) := by decide +kernel
theorem dX11_parsePart_36 : decode cX11_parsePart 36 = .ok (.aload_n 0, 1) := by decide +kernel
theorem dX11_parsePart_37 : decode cX11_parsePart 37 = .ok (.getfield 266, 3) := by decide +kernel
theorem dX11_parsePart_40 : decode cX11_parsePart 40 = .ok (.istore_n 2, 1) := by decide +kernel
theorem dX11_parsePart_41 : decode cX11_parsePart 41 = .ok (.aload_n 0, 1) := by decide +kernel
theorem dX11_parsePart_42 : decode cX11_parsePart 42 = .ok (.invokevirtual 308, 3) := by decide +kernel
theorem dX11_parsePart_45 : decode cX11_parsePart 45 = .ok (.iload_n 2, 1) := by decide +kernel
theorem dX11_parsePart_46 : decode cX11_parsePart 46 = .ok (.ireturn, 1) := by decide +kernel
theorem dX11_readerOfWord_0 : decode cX11_readerOfWord 0 = .ok (.aload_n 0, 1) := by decide +kernel
theorem dX11_readerOfWord_1 : decode cX11_readerOfWord 1 = .ok (.ldc_w 314, 3) := by decide +kernel
theorem dX11_readerOfWord_4 : decode cX11_readerOfWord 4 = .ok (.invokevirtual 316, 3) := by decide +kernel
theorem dX11_readerOfWord_7 : decode cX11_readerOfWord 7 = .ok (.ifCond .eq 5, 3) := by decide +kernel
theorem dX11_readerOfWord_10 : decode cX11_readerOfWord 10 = .ok (.iconst 1, 1) := by decide +kernel
theorem dX11_readerOfWord_11 : decode cX11_readerOfWord 11 = .ok (.ireturn, 1) := by decide +kernel
theorem dX11_readerOfWord_12 : decode cX11_readerOfWord 12 = .ok (.aload_n 0, 1) := by decide +kernel
theorem dX11_readerOfWord_13 : decode cX11_readerOfWord 13 = .ok (.ldc_w 320, 3) := by decide +kernel
theorem dX11_readerOfWord_16 : decode cX11_readerOfWord 16 = .ok (.invokevirtual 316, 3) := by decide +kernel
theorem dX11_readerOfWord_19 : decode cX11_readerOfWord 19 = .ok (.ifCond .eq 5, 3) := by decide +kernel
theorem dX11_readerOfWord_22 : decode cX11_readerOfWord 22 = .ok (.iconst 2, 1) := by decide +kernel
theorem dX11_readerOfWord_23 : decode cX11_readerOfWord 23 = .ok (.ireturn, 1) := by decide +kernel
theorem dX11_readerOfWord_24 : decode cX11_readerOfWord 24 = .ok (.aload_n 0, 1) := by decide +kernel
theorem dX11_readerOfWord_25 : decode cX11_readerOfWord 25 = .ok (.ldc_w 322, 3) := by decide +kernel
theorem dX11_readerOfWord_28 : decode cX11_readerOfWord 28 = .ok (.invokevirtual 316, 3) := by decide +kernel
theorem dX11_readerOfWord_31 : decode cX11_readerOfWord 31 = .ok (.ifCond .eq 5, 3) := by decide +kernel
theorem dX11_readerOfWord_34 : decode cX11_readerOfWord 34 = .ok (.iconst 3, 1) := by decide +kernel
theorem dX11_readerOfWord_35 : decode cX11_readerOfWord 35 = .ok (.ireturn, 1) := by decide +kernel
theorem dX11_readerOfWord_36 : decode cX11_readerOfWord 36 = .ok (.aload_n 0, 1) := by decide +kernel
theorem dX11_readerOfWord_37 : decode cX11_readerOfWord 37 = .ok (.ldc_w 323, 3) := by decide +kernel
theorem dX11_readerOfWord_40 : decode cX11_readerOfWord 40 = .ok (.invokevirtual 316, 3) := by decide +kernel
theorem dX11_readerOfWord_43 : decode cX11_readerOfWord 43 = .ok (.ifCond .eq 5, 3) := by decide +kernel
theorem dX11_readerOfWord_46 : decode cX11_readerOfWord 46 = .ok (.iconst 4, 1) := by decide +kernel
theorem dX11_readerOfWord_47 : decode cX11_readerOfWord 47 = .ok (.ireturn, 1) := by decide +kernel
theorem dX11_readerOfWord_48 : decode cX11_readerOfWord 48 = .ok (.aload_n 0, 1) := by decide +kernel
theorem dX11_readerOfWord_49 : decode cX11_readerOfWord 49 = .ok (.ldc_w 325, 3) := by decide +kernel
theorem dX11_readerOfWord_52 : decode cX11_readerOfWord 52 = .ok (.invokevirtual 316, 3) := by decide +kernel
theorem dX11_readerOfWord_55 : decode cX11_readerOfWord 55 = .ok (.ifCond .eq 5, 3) := by decide +kernel
theorem dX11_readerOfWord_58 : decode cX11_readerOfWord 58 = .ok (.iconst 5, 1) := by decide +kernel
theorem dX11_readerOfWord_59 : decode cX11_readerOfWord 59 = .ok (.ireturn, 1) := by decide +kernel
theorem dX11_readerOfWord_60 : decode cX11_readerOfWord 60 = .ok (.aload_n 0, 1) := by decide +kernel
theorem dX11_readerOfWord_61 : decode cX11_readerOfWord 61 = .ok (.ldc_w 326, 3) := by decide +kernel
theorem dX11_readerOfWord_64 : decode cX11_readerOfWord 64 = .ok (.invokevirtual 316, 3) := by decide +kernel
theorem dX11_readerOfWord_67 : decode cX11_readerOfWord 67 = .ok (.ifCond .eq 6, 3) := by decide +kernel
theorem dX11_readerOfWord_70 : decode cX11_readerOfWord 70 = .ok (.bipush 6, 2) := by decide +kernel
theorem dX11_readerOfWord_72 : decode cX11_readerOfWord 72 = .ok (.ireturn, 1) := by decide +kernel
theorem dX11_readerOfWord_73 : decode cX11_readerOfWord 73 = .ok (.aload_n 0, 1) := by decide +kernel
theorem dX11_readerOfWord_74 : decode cX11_readerOfWord 74 = .ok (.ldc_w 328, 3) := by decide +kernel
theorem dX11_readerOfWord_77 : decode cX11_readerOfWord 77 = .ok (.invokevirtual 316, 3) := by decide +kernel
theorem dX11_readerOfWord_80 : decode cX11_readerOfWord 80 = .ok (.ifCond .eq 8, 3) := by decide +kernel
theorem dX11_readerOfWord_83 : decode cX11_readerOfWord 83 = .ok (.bipush 7, 2) := by decide +kernel
theorem dX11_readerOfWord_85 : decode cX11_readerOfWord 85 = .ok (.goto 4, 3) := by decide +kernel
theorem dX11_readerOfWord_88 : decode cX11_readerOfWord 88 = .ok (.iconst (-1), 1) := by decide +kernel
theorem dX11_readerOfWord_89 : decode cX11_readerOfWord 89 = .ok (.ireturn, 1) := by decide +kernel
theorem dX11_parseLeaf_0 : decode cX11_parseLeaf 0 = .ok (.aload_n 0, 1) := by decide +kernel
theorem dX11_parseLeaf_1 : decode cX11_parseLeaf 1 = .ok (.getfield 272, 3) := by decide +kernel
theorem dX11_parseLeaf_4 : decode cX11_parseLeaf 4 = .ok (.iconst 3, 1) := by decide +kernel
theorem dX11_parseLeaf_5 : decode cX11_parseLeaf 5 = .ok (.if_icmp .ne 37, 3) := by decide +kernel
theorem dX11_parseLeaf_8 : decode cX11_parseLeaf 8 = .ok (.aload_n 0, 1) := by decide +kernel
theorem dX11_parseLeaf_9 : decode cX11_parseLeaf 9 = .ok (.aload_n 0, 1) := by decide +kernel
theorem dX11_parseLeaf_10 : decode cX11_parseLeaf 10 = .ok (.getfield 266, 3) := by decide +kernel
theorem dX11_parseLeaf_13 : decode cX11_parseLeaf 13 = .ok (.ldc_w 285, 3) := by decide +kernel
theorem dX11_parseLeaf_16 : decode cX11_parseLeaf 16 = .ok (.if_icmp .gt 7, 3) := by decide +kernel
theorem dX11_parseLeaf_19 : decode cX11_parseLeaf 19 = .ok (.iconst 1, 1) := by decide +kernel
theorem dX11_parseLeaf_20 : decode cX11_parseLeaf 20 = .ok (.goto 4, 3) := by decide +kernel
theorem dX11_parseLeaf_23 : decode cX11_parseLeaf 23 = .ok (.iconst 0, 1) := by decide +kernel
theorem dX11_parseLeaf_24 : decode cX11_parseLeaf 24 = .ok (.iconst 2, 1) := by decide +kernel
theorem dX11_parseLeaf_25 : decode cX11_parseLeaf 25 = .ok (.invokevirtual 304, 3) := by decide +kernel
theorem dX11_parseLeaf_28 : decode cX11_parseLeaf 28 = .ok (.aload_n 0, 1) := by decide +kernel
theorem dX11_parseLeaf_29 : decode cX11_parseLeaf 29 = .ok (.iconst 0, 1) := by decide +kernel
theorem dX11_parseLeaf_30 : decode cX11_parseLeaf 30 = .ok (.aload_n 0, 1) := by decide +kernel
theorem dX11_parseLeaf_31 : decode cX11_parseLeaf 31 = .ok (.getfield 266, 3) := by decide +kernel
theorem dX11_parseLeaf_34 : decode cX11_parseLeaf 34 = .ok (.invokevirtual 330, 3) := by decide +kernel
theorem dX11_parseLeaf_37 : decode cX11_parseLeaf 37 = .ok (.aload_n 0, 1) := by decide +kernel
theorem dX11_parseLeaf_38 : decode cX11_parseLeaf 38 = .ok (.invokevirtual 308, 3) := by decide +kernel
theorem dX11_parseLeaf_41 : decode cX11_parseLeaf 41 = .ok (.return_, 1) := by decide +kernel
theorem dX11_parseLeaf_42 : decode cX11_parseLeaf 42 = .ok (.aload_n 0, 1) := by decide +kernel
theorem dX11_parseLeaf_43 : decode cX11_parseLeaf 43 = .ok (.invokevirtual 334, 3) := by decide +kernel
theorem dX11_parseLeaf_46 : decode cX11_parseLeaf 46 = .ok (.istore_n 1, 1) := by decide +kernel
theorem dX11_parseLeaf_47 : decode cX11_parseLeaf 47 = .ok (.aload_n 0, 1) := by decide +kernel
theorem dX11_parseLeaf_48 : decode cX11_parseLeaf 48 = .ok (.iload_n 1, 1) := by decide +kernel
theorem dX11_parseLeaf_49 : decode cX11_parseLeaf 49 = .ok (.iconst (-1), 1) := by decide +kernel
theorem dX11_parseLeaf_50 : decode cX11_parseLeaf 50 = .ok (.if_icmp .eq 7, 3) := by decide +kernel
theorem dX11_parseLeaf_53 : decode cX11_parseLeaf 53 = .ok (.iconst 1, 1) := by decide +kernel
theorem dX11_parseLeaf_54 : decode cX11_parseLeaf 54 = .ok (.goto 4, 3) := by decide +kernel
theorem dX11_parseLeaf_57 : decode cX11_parseLeaf 57 = .ok (.iconst 0, 1) := by decide +kernel
theorem dX11_parseLeaf_58 : decode cX11_parseLeaf 58 = .ok (.iconst 1, 1) := by decide +kernel
theorem dX11_parseLeaf_59 : decode cX11_parseLeaf 59 = .ok (.invokevirtual 304, 3) := by decide +kernel
theorem dX11_parseLeaf_62 : decode cX11_parseLeaf 62 = .ok (.aload_n 0, 1) := by decide +kernel
theorem dX11_parseLeaf_63 : decode cX11_parseLeaf 63 = .ok (.invokevirtual 308, 3) := by decide +kernel
theorem dX11_parseLeaf_66 : decode cX11_parseLeaf 66 = .ok (.iconst 0, 1) := by decide +kernel
theorem dX11_parseLeaf_67 : decode cX11_parseLeaf 67 = .ok (.istore_n 2, 1) := by decide +kernel
theorem dX11_parseLeaf_68 : decode cX11_parseLeaf 68 = .ok (.aload_n 0, 1) := by decide +kernel
theorem dX11_parseLeaf_69 : decode cX11_parseLeaf 69 = .ok (.getfield 298, 3) := by decide +kernel
theorem dX11_parseLeaf_72 : decode cX11_parseLeaf 72 = .ok (.ifCond .ne 40, 3) := by decide +kernel
theorem dX11_parseLeaf_75 : decode cX11_parseLeaf 75 = .ok (.iload_n 1, 1) := by decide +kernel
theorem dX11_parseLeaf_76 : decode cX11_parseLeaf 76 = .ok (.iconst 3, 1) := by decide +kernel
theorem dX11_parseLeaf_77 : decode cX11_parseLeaf 77 = .ok (.if_icmp .gt 35, 3) := by decide +kernel
theorem dX11_parseLeaf_80 : decode cX11_parseLeaf 80 = .ok (.aload_n 0, 1) := by decide +kernel
theorem dX11_parseLeaf_81 : decode cX11_parseLeaf 81 = .ok (.aload_n 0, 1) := by decide +kernel
theorem dX11_parseLeaf_82 : decode cX11_parseLeaf 82 = .ok (.getfield 7, 3) := by decide +kernel
theorem dX11_parseLeaf_85 : decode cX11_parseLeaf 85 = .ok (.iload_n 1, 1) := by decide +kernel
theorem dX11_parseLeaf_86 : decode cX11_parseLeaf 86 = .ok (.iconst 1, 1) := by decide +kernel
theorem dX11_parseLeaf_87 : decode cX11_parseLeaf 87 = .ok (.if_icmp .ne 8, 3) := by decide +kernel
theorem dX11_parseLeaf_90 : decode cX11_parseLeaf 90 = .ok (.bipush 12, 2) := by decide +kernel
theorem dX11_parseLeaf_92 : decode cX11_parseLeaf 92 = .ok (.goto 15, 3) := by decide +kernel
theorem dX11_parseLeaf_95 : decode cX11_parseLeaf 95 = .ok (.iload_n 1, 1) := by decide +kernel
theorem dX11_parseLeaf_96 : decode cX11_parseLeaf 96 = .ok (.iconst 2, 1) := by decide +kernel
theorem dX11_parseLeaf_97 : decode cX11_parseLeaf 97 = .ok (.if_icmp .ne 8, 3) := by decide +kernel
theorem dX11_parseLeaf_100 : decode cX11_parseLeaf 100 = .ok (.bipush 13, 2) := by decide +kernel
theorem dX11_parseLeaf_102 : decode cX11_parseLeaf 102 = .ok (.goto 5, 3) := by decide +kernel
theorem dX11_parseLeaf_105 : decode cX11_parseLeaf 105 = .ok (.bipush 14, 2) := by decide +kernel
theorem dX11_parseLeaf_107 : decode cX11_parseLeaf 107 = .ok (.iaload, 1) := by decide +kernel
theorem dX11_parseLeaf_108 : decode cX11_parseLeaf 108 = .ok (.invokevirtual 337, 3) := by decide +kernel
theorem dX11_parseLeaf_111 : decode cX11_parseLeaf 111 = .ok (.istore_n 2, 1) := by decide +kernel
theorem dX11_parseLeaf_112 : decode cX11_parseLeaf 112 = .ok (.aload_n 0, 1) := by decide +kernel
theorem dX11_parseLeaf_113 : decode cX11_parseLeaf 113 = .ok (.iload_n 1, 1) := by decide +kernel
theorem dX11_parseLeaf_114 : decode cX11_parseLeaf 114 = .ok (.iload_n 2, 1) := by decide +kernel
theorem dX11_parseLeaf_115 : decode cX11_parseLeaf 115 = .ok (.invokevirtual 330, 3) := by decide +kernel
theorem dX11_parseLeaf_118 : decode cX11_parseLeaf 118 = .ok (.return_, 1) := by decide +kernel
theorem dX11_rankOf_0 : decode cX11_rankOf 0 = .ok (.iload_n 0, 1) := by decide +kernel
theorem dX11_rankOf_1 : decode cX11_rankOf 1 = .ok (.tableswitch 35 9 12 #[31, 31, 33, 33], 31) := by decide +kernel
theorem dX11_rankOf_32 : decode cX11_rankOf 32 = .ok (.iconst 1, 1) := by decide +kernel
theorem dX11_rankOf_33 : decode cX11_rankOf 33 = .ok (.ireturn, 1) := by decide +kernel
theorem dX11_rankOf_34 : decode cX11_rankOf 34 = .ok (.iconst 2, 1) := by decide +kernel
theorem dX11_rankOf_35 : decode cX11_rankOf 35 = .ok (.ireturn, 1) := by decide +kernel
theorem dX11_rankOf_36 : decode cX11_rankOf 36 = .ok (.iconst 0, 1) := by decide +kernel
theorem dX11_rankOf_37 : decode cX11_rankOf 37 = .ok (.ireturn, 1) := by decide +kernel
theorem dX11_push_0 : decode cX11_push 0 = .ok (.aload_n 0, 1) := by decide +kernel
theorem dX11_push_1 : decode cX11_push 1 = .ok (.getfield 55, 3) := by decide +kernel
theorem dX11_push_4 : decode cX11_push 4 = .ok (.aload_n 0, 1) := by decide +kernel
theorem dX11_push_5 : decode cX11_push 5 = .ok (.getfield 340, 3) := by decide +kernel
theorem dX11_push_8 : decode cX11_push 8 = .ok (.iload_n 1, 1) := by decide +kernel
theorem dX11_push_9 : decode cX11_push 9 = .ok (.iastore, 1) := by decide +kernel
theorem dX11_push_10 : decode cX11_push 10 = .ok (.aload_n 0, 1) := by decide +kernel
theorem dX11_push_11 : decode cX11_push 11 = .ok (.dup, 1) := by decide +kernel
theorem dX11_push_12 : decode cX11_push 12 = .ok (.getfield 340, 3) := by decide +kernel
theorem dX11_push_15 : decode cX11_push 15 = .ok (.iconst 1, 1) := by decide +kernel
theorem dX11_push_16 : decode cX11_push 16 = .ok (.iadd, 1) := by decide +kernel
theorem dX11_push_17 : decode cX11_push 17 = .ok (.putfield 340, 3) := by decide +kernel
theorem dX11_push_20 : decode cX11_push 20 = .ok (.return_, 1) := by decide +kernel
theorem dX11_pop_0 : decode cX11_pop 0 = .ok (.aload_n 0, 1) := by decide +kernel
theorem dX11_pop_1 : decode cX11_pop 1 = .ok (.dup, 1) := by decide +kernel
theorem dX11_pop_2 : decode cX11_pop 2 = .ok (.getfield 340, 3) := by decide +kernel
theorem dX11_pop_5 : decode cX11_pop 5 = .ok (.iconst 1, 1) := by decide +kernel
theorem dX11_pop_6 : decode cX11_pop 6 = .ok (.isub, 1) := by decide +kernel
theorem dX11_pop_7 : decode cX11_pop 7 = .ok (.putfield 340, 3) := by decide +kernel
theorem dX11_pop_10 : decode cX11_pop 10 = .ok (.aload_n 0, 1) := by decide +kernel
theorem dX11_pop_11 : decode cX11_pop 11 = .ok (.aload_n 0, 1) := by decide +kernel
theorem dX11_pop_12 : decode cX11_pop 12 = .ok (.getfield 55, 3) := by decide +kernel
theorem dX11_pop_15 : decode cX11_pop 15 = .ok (.aload_n 0, 1) := by decide +kernel
theorem dX11_pop_16 : decode cX11_pop 16 = .ok (.getfield 340, 3) := by decide +kernel
theorem dX11_pop_19 : decode cX11_pop 19 = .ok (.iaload, 1) := by decide +kernel
theorem dX11_pop_20 : decode cX11_pop 20 = .ok (.iconst 0, 1) := by decide +kernel
theorem dX11_pop_21 : decode cX11_pop 21 = .ok (.invokevirtual 330, 3) := by decide +kernel
theorem dX11_pop_24 : decode cX11_pop 24 = .ok (.return_, 1) := by decide +kernel
theorem dX11_waits_0 : decode cX11_waits 0 = .ok (.aload_n 0, 1) := by decide +kernel
theorem dX11_waits_1 : decode cX11_waits 1 = .ok (.getfield 340, 3) := by decide +kernel
theorem dX11_waits_4 : decode cX11_waits 4 = .ok (.ifCond .le 22, 3) := by decide +kernel
theorem dX11_waits_7 : decode cX11_waits 7 = .ok (.aload_n 0, 1) := by decide +kernel
theorem dX11_waits_8 : decode cX11_waits 8 = .ok (.getfield 55, 3) := by decide +kernel
theorem dX11_waits_11 : decode cX11_waits 11 = .ok (.aload_n 0, 1) := by decide +kernel
theorem dX11_waits_12 : decode cX11_waits 12 = .ok (.getfield 340, 3) := by decide +kernel
theorem dX11_waits_15 : decode cX11_waits 15 = .ok (.iconst 1, 1) := by decide +kernel
theorem dX11_waits_16 : decode cX11_waits 16 = .ok (.isub, 1) := by decide +kernel
theorem dX11_waits_17 : decode cX11_waits 17 = .ok (.iaload, 1) := by decide +kernel
theorem dX11_waits_18 : decode cX11_waits 18 = .ok (.iload_n 1, 1) := by decide +kernel
theorem dX11_waits_19 : decode cX11_waits 19 = .ok (.if_icmp .ne 7, 3) := by decide +kernel
theorem dX11_waits_22 : decode cX11_waits 22 = .ok (.iconst 1, 1) := by decide +kernel
theorem dX11_waits_23 : decode cX11_waits 23 = .ok (.goto 4, 3) := by decide +kernel
theorem dX11_waits_26 : decode cX11_waits 26 = .ok (.iconst 0, 1) := by decide +kernel
theorem dX11_waits_27 : decode cX11_waits 27 = .ok (.ireturn, 1) := by decide +kernel
theorem dX11_endFactor_0 : decode cX11_endFactor 0 = .ok (.aload_n 0, 1) := by decide +kernel
theorem dX11_endFactor_1 : decode cX11_endFactor 1 = .ok (.bipush 8, 2) := by decide +kernel
theorem dX11_endFactor_3 : decode cX11_endFactor 3 = .ok (.invokevirtual 343, 3) := by decide +kernel
theorem dX11_endFactor_6 : decode cX11_endFactor 6 = .ok (.ifCond .eq 20, 3) := by decide +kernel
theorem dX11_endFactor_9 : decode cX11_endFactor 9 = .ok (.aload_n 0, 1) := by decide +kernel
theorem dX11_endFactor_10 : decode cX11_endFactor 10 = .ok (.invokevirtual 346, 3) := by decide +kernel
theorem dX11_endFactor_13 : decode cX11_endFactor 13 = .ok (.aload_n 0, 1) := by decide +kernel
theorem dX11_endFactor_14 : decode cX11_endFactor 14 = .ok (.dup, 1) := by decide +kernel
theorem dX11_endFactor_15 : decode cX11_endFactor 15 = .ok (.getfield 349, 3) := by decide +kernel
theorem dX11_endFactor_18 : decode cX11_endFactor 18 = .ok (.iconst 1, 1) := by decide +kernel
theorem dX11_endFactor_19 : decode cX11_endFactor 19 = .ok (.isub, 1) := by decide +kernel
theorem dX11_endFactor_20 : decode cX11_endFactor 20 = .ok (.putfield 349, 3) := by decide +kernel
theorem dX11_endFactor_23 : decode cX11_endFactor 23 = .ok (.goto (-23), 3) := by decide +kernel
theorem dX11_endFactor_26 : decode cX11_endFactor 26 = .ok (.return_, 1) := by decide +kernel
theorem dX11_popFromRank_0 : decode cX11_popFromRank 0 = .ok (.aload_n 0, 1) := by decide +kernel
theorem dX11_popFromRank_1 : decode cX11_popFromRank 1 = .ok (.getfield 340, 3) := by decide +kernel
theorem dX11_popFromRank_4 : decode cX11_popFromRank 4 = .ok (.ifCond .le 28, 3) := by decide +kernel
theorem dX11_popFromRank_7 : decode cX11_popFromRank 7 = .ok (.aload_n 0, 1) := by decide +kernel
theorem dX11_popFromRank_8 : decode cX11_popFromRank 8 = .ok (.getfield 55, 3) := by decide +kernel
theorem dX11_popFromRank_11 : decode cX11_popFromRank 11 = .ok (.aload_n 0, 1) := by decide +kernel
theorem dX11_popFromRank_12 : decode cX11_popFromRank 12 = .ok (.getfield 340, 3) := by decide +kernel
theorem dX11_popFromRank_15 : decode cX11_popFromRank 15 = .ok (.iconst 1, 1) := by decide +kernel
theorem dX11_popFromRank_16 : decode cX11_popFromRank 16 = .ok (.isub, 1) := by decide +kernel
theorem dX11_popFromRank_17 : decode cX11_popFromRank 17 = .ok (.iaload, 1) := by decide +kernel
theorem dX11_popFromRank_18 : decode cX11_popFromRank 18 = .ok (.invokestatic 352, 3) := by decide +kernel
theorem dX11_popFromRank_21 : decode cX11_popFromRank 21 = .ok (.iload_n 1, 1) := by decide +kernel
theorem dX11_popFromRank_22 : decode cX11_popFromRank 22 = .ok (.if_icmp .lt 10, 3) := by decide +kernel
theorem dX11_popFromRank_25 : decode cX11_popFromRank 25 = .ok (.aload_n 0, 1) := by decide +kernel
theorem dX11_popFromRank_26 : decode cX11_popFromRank 26 = .ok (.invokevirtual 346, 3) := by decide +kernel
theorem dX11_popFromRank_29 : decode cX11_popFromRank 29 = .ok (.goto (-29), 3) := by decide +kernel
theorem dX11_popFromRank_32 : decode cX11_popFromRank 32 = .ok (.return_, 1) := by decide +kernel
theorem dX11_parseFactorStart_0 : decode cX11_parseFactorStart 0 = .ok (.aload_n 0, 1) := by decide +kernel
theorem dX11_parseFactorStart_1 : decode cX11_parseFactorStart 1 = .ok (.getfield 269, 3) := by decide +kernel
theorem dX11_parseFactorStart_4 : decode cX11_parseFactorStart 4 = .ok (.bipush 45, 2) := by decide +kernel
theorem dX11_parseFactorStart_6 : decode cX11_parseFactorStart 6 = .ok (.if_icmp .eq 22, 3) := by decide +kernel
theorem dX11_parseFactorStart_9 : decode cX11_parseFactorStart 9 = .ok (.aload_n 0, 1) := by decide +kernel
theorem dX11_parseFactorStart_10 : decode cX11_parseFactorStart 10 = .ok (.getfield 269, 3) := by decide +kernel
theorem dX11_parseFactorStart_13 : decode cX11_parseFactorStart 13 = .ok (.bipush 40, 2) := by decide +kernel
theorem dX11_parseFactorStart_15 : decode cX11_parseFactorStart 15 = .ok (.if_icmp .eq 13, 3) := by decide +kernel
theorem dX11_parseFactorStart_18 : decode cX11_parseFactorStart 18 = .ok (.aload_n 0, 1) := by decide +kernel
theorem dX11_parseFactorStart_19 : decode cX11_parseFactorStart 19 = .ok (.invokevirtual 355, 3) := by decide +kernel
theorem dX11_parseFactorStart_22 : decode cX11_parseFactorStart 22 = .ok (.aload_n 0, 1) := by decide +kernel
theorem dX11_parseFactorStart_23 : decode cX11_parseFactorStart 23 = .ok (.invokevirtual 358, 3) := by decide +kernel
theorem dX11_parseFactorStart_26 : decode cX11_parseFactorStart 26 = .ok (.iconst 1, 1) := by decide +kernel
theorem dX11_parseFactorStart_27 : decode cX11_parseFactorStart 27 = .ok (.ireturn, 1) := by decide +kernel
theorem dX11_parseFactorStart_28 : decode cX11_parseFactorStart 28 = .ok (.aload_n 0, 1) := by decide +kernel
theorem dX11_parseFactorStart_29 : decode cX11_parseFactorStart 29 = .ok (.aload_n 0, 1) := by decide +kernel
theorem dX11_parseFactorStart_30 : decode cX11_parseFactorStart 30 = .ok (.getfield 349, 3) := by decide +kernel
theorem dX11_parseFactorStart_33 : decode cX11_parseFactorStart 33 = .ok (.bipush 20, 2) := by decide +kernel
theorem dX11_parseFactorStart_35 : decode cX11_parseFactorStart 35 = .ok (.if_icmp .ge 7, 3) := by decide +kernel
theorem dX11_parseFactorStart_38 : decode cX11_parseFactorStart 38 = .ok (.iconst 1, 1) := by decide +kernel
theorem dX11_parseFactorStart_39 : decode cX11_parseFactorStart 39 = .ok (.goto 4, 3) := by decide +kernel
theorem dX11_parseFactorStart_42 : decode cX11_parseFactorStart 42 = .ok (.iconst 0, 1) := by decide +kernel
theorem dX11_parseFactorStart_43 : decode cX11_parseFactorStart 43 = .ok (.iconst 4, 1) := by decide +kernel
theorem dX11_parseFactorStart_44 : decode cX11_parseFactorStart 44 = .ok (.invokevirtual 304, 3) := by decide +kernel
theorem dX11_parseFactorStart_47 : decode cX11_parseFactorStart 47 = .ok (.aload_n 0, 1) := by decide +kernel
theorem dX11_parseFactorStart_48 : decode cX11_parseFactorStart 48 = .ok (.aload_n 0, 1) := by decide +kernel
theorem dX11_parseFactorStart_49 : decode cX11_parseFactorStart 49 = .ok (.getfield 269, 3) := by decide +kernel
theorem dX11_parseFactorStart_52 : decode cX11_parseFactorStart 52 = .ok (.bipush 45, 2) := by decide +kernel
theorem dX11_parseFactorStart_54 : decode cX11_parseFactorStart 54 = .ok (.if_icmp .ne 8, 3) := by decide +kernel
theorem dX11_parseFactorStart_57 : decode cX11_parseFactorStart 57 = .ok (.bipush 8, 2) := by decide +kernel
theorem dX11_parseFactorStart_59 : decode cX11_parseFactorStart 59 = .ok (.goto 5, 3) := by decide +kernel
theorem dX11_parseFactorStart_62 : decode cX11_parseFactorStart 62 = .ok (.bipush 19, 2) := by decide +kernel
theorem dX11_parseFactorStart_64 : decode cX11_parseFactorStart 64 = .ok (.invokevirtual 361, 3) := by decide +kernel
theorem dX11_parseFactorStart_67 : decode cX11_parseFactorStart 67 = .ok (.aload_n 0, 1) := by decide +kernel
theorem dX11_parseFactorStart_68 : decode cX11_parseFactorStart 68 = .ok (.dup, 1) := by decide +kernel
theorem dX11_parseFactorStart_69 : decode cX11_parseFactorStart 69 = .ok (.getfield 349, 3) := by decide +kernel
theorem dX11_parseFactorStart_72 : decode cX11_parseFactorStart 72 = .ok (.iconst 1, 1) := by decide +kernel
theorem dX11_parseFactorStart_73 : decode cX11_parseFactorStart 73 = .ok (.iadd, 1) := by decide +kernel
theorem dX11_parseFactorStart_74 : decode cX11_parseFactorStart 74 = .ok (.putfield 349, 3) := by decide +kernel
theorem dX11_parseFactorStart_77 : decode cX11_parseFactorStart 77 = .ok (.aload_n 0, 1) := by decide +kernel
theorem dX11_parseFactorStart_78 : decode cX11_parseFactorStart 78 = .ok (.invokevirtual 308, 3) := by decide +kernel
theorem dX11_parseFactorStart_81 : decode cX11_parseFactorStart 81 = .ok (.iconst 0, 1) := by decide +kernel
theorem dX11_parseFactorStart_82 : decode cX11_parseFactorStart 82 = .ok (.ireturn, 1) := by decide +kernel
theorem dX11_binaryOperation_0 : decode cX11_binaryOperation 0 = .ok (.aload_n 0, 1) := by decide +kernel
theorem dX11_binaryOperation_1 : decode cX11_binaryOperation 1 = .ok (.getfield 269, 3) := by decide +kernel
theorem dX11_binaryOperation_4 : decode cX11_binaryOperation 4 = .ok (.tableswitch 52 42 47 #[46, 40, 52, 43, 52, 49], 40) := by decide +kernel
theorem dX11_binaryOperation_44 : decode cX11_binaryOperation 44 = .ok (.bipush 9, 2) := by decide +kernel
theorem dX11_binaryOperation_46 : decode cX11_binaryOperation 46 = .ok (.ireturn, 1) := by decide +kernel
theorem dX11_binaryOperation_47 : decode cX11_binaryOperation 47 = .ok (.bipush 10, 2) := by decide +kernel
theorem dX11_binaryOperation_49 : decode cX11_binaryOperation 49 = .ok (.ireturn, 1) := by decide +kernel
theorem dX11_binaryOperation_50 : decode cX11_binaryOperation 50 = .ok (.bipush 11, 2) := by decide +kernel
theorem dX11_binaryOperation_52 : decode cX11_binaryOperation 52 = .ok (.ireturn, 1) := by decide +kernel
theorem dX11_binaryOperation_53 : decode cX11_binaryOperation 53 = .ok (.bipush 12, 2) := by decide +kernel
theorem dX11_binaryOperation_55 : decode cX11_binaryOperation 55 = .ok (.ireturn, 1) := by decide +kernel
theorem dX11_binaryOperation_56 : decode cX11_binaryOperation 56 = .ok (.iconst (-1), 1) := by decide +kernel
theorem dX11_binaryOperation_57 : decode cX11_binaryOperation 57 = .ok (.ireturn, 1) := by decide +kernel
theorem dX11_parseSum_0 : decode cX11_parseSum 0 = .ok (.aload_n 0, 1) := by decide +kernel
theorem dX11_parseSum_1 : decode cX11_parseSum 1 = .ok (.iconst 0, 1) := by decide +kernel
theorem dX11_parseSum_2 : decode cX11_parseSum 2 = .ok (.putfield 340, 3) := by decide +kernel
theorem dX11_parseSum_5 : decode cX11_parseSum 5 = .ok (.aload_n 0, 1) := by decide +kernel
theorem dX11_parseSum_6 : decode cX11_parseSum 6 = .ok (.iconst 0, 1) := by decide +kernel
theorem dX11_parseSum_7 : decode cX11_parseSum 7 = .ok (.putfield 349, 3) := by decide +kernel
theorem dX11_parseSum_10 : decode cX11_parseSum 10 = .ok (.iconst 0, 1) := by decide +kernel
theorem dX11_parseSum_11 : decode cX11_parseSum 11 = .ok (.istore_n 1, 1) := by decide +kernel
theorem dX11_parseSum_12 : decode cX11_parseSum 12 = .ok (.iconst 0, 1) := by decide +kernel
theorem dX11_parseSum_13 : decode cX11_parseSum 13 = .ok (.istore_n 2, 1) := by decide +kernel
theorem dX11_parseSum_14 : decode cX11_parseSum 14 = .ok (.aload_n 0, 1) := by decide +kernel
theorem dX11_parseSum_15 : decode cX11_parseSum 15 = .ok (.getfield 298, 3) := by decide +kernel
theorem dX11_parseSum_18 : decode cX11_parseSum 18 = .ok (.ifCond .ne 139, 3) := by decide +kernel
theorem dX11_parseSum_21 : decode cX11_parseSum 21 = .ok (.aload_n 0, 1) := by decide +kernel
theorem dX11_parseSum_22 : decode cX11_parseSum 22 = .ok (.invokevirtual 364, 3) := by decide +kernel
theorem dX11_parseSum_25 : decode cX11_parseSum 25 = .ok (.istore_n 3, 1) := by decide +kernel
theorem dX11_parseSum_26 : decode cX11_parseSum 26 = .ok (.iload_n 2, 1) := by decide +kernel
theorem dX11_parseSum_27 : decode cX11_parseSum 27 = .ok (.ifCond .ne 28, 3) := by decide +kernel
theorem dX11_parseSum_30 : decode cX11_parseSum 30 = .ok (.iload_n 1, 1) := by decide +kernel
theorem dX11_parseSum_31 : decode cX11_parseSum 31 = .ok (.aload_n 0, 1) := by decide +kernel
theorem dX11_parseSum_32 : decode cX11_parseSum 32 = .ok (.getfield 269, 3) := by decide +kernel
theorem dX11_parseSum_35 : decode cX11_parseSum 35 = .ok (.bipush 40, 2) := by decide +kernel
theorem dX11_parseSum_37 : decode cX11_parseSum 37 = .ok (.if_icmp .ne 7, 3) := by decide +kernel
theorem dX11_parseSum_40 : decode cX11_parseSum 40 = .ok (.iconst 1, 1) := by decide +kernel
theorem dX11_parseSum_41 : decode cX11_parseSum 41 = .ok (.goto 4, 3) := by decide +kernel
theorem dX11_parseSum_44 : decode cX11_parseSum 44 = .ok (.iconst 0, 1) := by decide +kernel
theorem dX11_parseSum_45 : decode cX11_parseSum 45 = .ok (.iadd, 1) := by decide +kernel
theorem dX11_parseSum_46 : decode cX11_parseSum 46 = .ok (.istore_n 1, 1) := by decide +kernel
theorem dX11_parseSum_47 : decode cX11_parseSum 47 = .ok (.aload_n 0, 1) := by decide +kernel
theorem dX11_parseSum_48 : decode cX11_parseSum 48 = .ok (.invokevirtual 367, 3) := by decide +kernel
theorem dX11_parseSum_51 : decode cX11_parseSum 51 = .ok (.istore_n 2, 1) := by decide +kernel
theorem dX11_parseSum_52 : decode cX11_parseSum 52 = .ok (.goto 102, 3) := by decide +kernel
theorem dX11_parseSum_55 : decode cX11_parseSum 55 = .ok (.iload_n 3, 1) := by decide +kernel
theorem dX11_parseSum_56 : decode cX11_parseSum 56 = .ok (.iconst (-1), 1) := by decide +kernel
theorem dX11_parseSum_57 : decode cX11_parseSum 57 = .ok (.if_icmp .eq 25, 3) := by decide +kernel
theorem dX11_parseSum_60 : decode cX11_parseSum 60 = .ok (.aload_n 0, 1) := by decide +kernel
theorem dX11_parseSum_61 : decode cX11_parseSum 61 = .ok (.iload_n 3, 1) := by decide +kernel
theorem dX11_parseSum_62 : decode cX11_parseSum 62 = .ok (.invokestatic 352, 3) := by decide +kernel
theorem dX11_parseSum_65 : decode cX11_parseSum 65 = .ok (.invokevirtual 370, 3) := by decide +kernel
theorem dX11_parseSum_68 : decode cX11_parseSum 68 = .ok (.aload_n 0, 1) := by decide +kernel
theorem dX11_parseSum_69 : decode cX11_parseSum 69 = .ok (.iload_n 3, 1) := by decide +kernel
theorem dX11_parseSum_70 : decode cX11_parseSum 70 = .ok (.invokevirtual 361, 3) := by decide +kernel
theorem dX11_parseSum_73 : decode cX11_parseSum 73 = .ok (.aload_n 0, 1) := by decide +kernel
theorem dX11_parseSum_74 : decode cX11_parseSum 74 = .ok (.invokevirtual 308, 3) := by decide +kernel
theorem dX11_parseSum_77 : decode cX11_parseSum 77 = .ok (.iconst 0, 1) := by decide +kernel
theorem dX11_parseSum_78 : decode cX11_parseSum 78 = .ok (.istore_n 2, 1) := by decide +kernel
theorem dX11_parseSum_79 : decode cX11_parseSum 79 = .ok (.goto 75, 3) := by decide +kernel
theorem dX11_parseSum_82 : decode cX11_parseSum 82 = .ok (.aload_n 0, 1) := by decide +kernel
theorem dX11_parseSum_83 : decode cX11_parseSum 83 = .ok (.getfield 269, 3) := by decide +kernel
theorem dX11_parseSum_86 : decode cX11_parseSum 86 = .ok (.bipush 41, 2) := by decide +kernel
theorem dX11_parseSum_88 : decode cX11_parseSum 88 = .ok (.if_icmp .ne 46, 3) := by decide +kernel
theorem dX11_parseSum_91 : decode cX11_parseSum 91 = .ok (.iload_n 1, 1) := by decide +kernel
theorem dX11_parseSum_92 : decode cX11_parseSum 92 = .ok (.ifCond .le 42, 3) := by decide +kernel
theorem dX11_parseSum_95 : decode cX11_parseSum 95 = .ok (.aload_n 0, 1) := by decide +kernel
theorem dX11_parseSum_96 : decode cX11_parseSum 96 = .ok (.iconst 1, 1) := by decide +kernel
theorem dX11_parseSum_97 : decode cX11_parseSum 97 = .ok (.invokevirtual 370, 3) := by decide +kernel
theorem dX11_parseSum_100 : decode cX11_parseSum 100 = .ok (.aload_n 0, 1) := by decide +kernel
theorem dX11_parseSum_101 : decode cX11_parseSum 101 = .ok (.dup, 1) := by decide +kernel
theorem dX11_parseSum_102 : decode cX11_parseSum 102 = .ok (.getfield 340, 3) := by decide +kernel
theorem dX11_parseSum_105 : decode cX11_parseSum 105 = .ok (.iconst 1, 1) := by decide +kernel
theorem dX11_parseSum_106 : decode cX11_parseSum 106 = .ok (.isub, 1) := by decide +kernel
theorem dX11_parseSum_107 : decode cX11_parseSum 107 = .ok (.putfield 340, 3) := by decide +kernel
theorem dX11_parseSum_110 : decode cX11_parseSum 110 = .ok (.aload_n 0, 1) := by decide +kernel
theorem dX11_parseSum_111 : decode cX11_parseSum 111 = .ok (.dup, 1) := by decide +kernel
theorem dX11_parseSum_112 : decode cX11_parseSum 112 = .ok (.getfield 349, 3) := by decide +kernel
theorem dX11_parseSum_115 : decode cX11_parseSum 115 = .ok (.iconst 1, 1) := by decide +kernel
theorem dX11_parseSum_116 : decode cX11_parseSum 116 = .ok (.isub, 1) := by decide +kernel
theorem dX11_parseSum_117 : decode cX11_parseSum 117 = .ok (.putfield 349, 3) := by decide +kernel
theorem dX11_parseSum_120 : decode cX11_parseSum 120 = .ok (.iinc 1 (-1), 3) := by decide +kernel
theorem dX11_parseSum_123 : decode cX11_parseSum 123 = .ok (.aload_n 0, 1) := by decide +kernel
theorem dX11_parseSum_124 : decode cX11_parseSum 124 = .ok (.invokevirtual 308, 3) := by decide +kernel
theorem dX11_parseSum_127 : decode cX11_parseSum 127 = .ok (.aload_n 0, 1) := by decide +kernel
theorem dX11_parseSum_128 : decode cX11_parseSum 128 = .ok (.invokevirtual 358, 3) := by decide +kernel
theorem dX11_parseSum_131 : decode cX11_parseSum 131 = .ok (.goto 23, 3) := by decide +kernel
theorem dX11_parseSum_134 : decode cX11_parseSum 134 = .ok (.aload_n 0, 1) := by decide +kernel
theorem dX11_parseSum_135 : decode cX11_parseSum 135 = .ok (.iload_n 1, 1) := by decide +kernel
theorem dX11_parseSum_136 : decode cX11_parseSum 136 = .ok (.ifCond .ne 7, 3) := by decide +kernel
theorem dX11_parseSum_139 : decode cX11_parseSum 139 = .ok (.iconst 1, 1) := by decide +kernel
theorem dX11_parseSum_140 : decode cX11_parseSum 140 = .ok (.goto 4, 3) := by decide +kernel
theorem dX11_parseSum_143 : decode cX11_parseSum 143 = .ok (.iconst 0, 1) := by decide +kernel
theorem dX11_parseSum_144 : decode cX11_parseSum 144 = .ok (.iconst 1, 1) := by decide +kernel
theorem dX11_parseSum_145 : decode cX11_parseSum 145 = .ok (.invokevirtual 304, 3) := by decide +kernel
theorem dX11_parseSum_148 : decode cX11_parseSum 148 = .ok (.aload_n 0, 1) := by decide +kernel
theorem dX11_parseSum_149 : decode cX11_parseSum 149 = .ok (.iconst 1, 1) := by decide +kernel
theorem dX11_parseSum_150 : decode cX11_parseSum 150 = .ok (.invokevirtual 370, 3) := by decide +kernel
theorem dX11_parseSum_153 : decode cX11_parseSum 153 = .ok (.return_, 1) := by decide +kernel
theorem dX11_parseSum_154 : decode cX11_parseSum 154 = .ok (.goto (-140), 3) := by decide +kernel
theorem dX11_parseSum_157 : decode cX11_parseSum 157 = .ok (.return_, 1) := by decide +kernel
theorem dX11_parseComparison_0 : decode cX11_parseComparison 0 = .ok (.aload_n 0, 1) := by decide +kernel
theorem dX11_parseComparison_1 : decode cX11_parseComparison 1 = .ok (.ldc_w 373, 3) := by decide +kernel
theorem dX11_parseComparison_4 : decode cX11_parseComparison 4 = .ok (.invokevirtual 316, 3) := by decide +kernel
theorem dX11_parseComparison_7 : decode cX11_parseComparison 7 = .ok (.istore_n 1, 1) := by decide +kernel
theorem dX11_parseComparison_8 : decode cX11_parseComparison 8 = .ok (.iload_n 1, 1) := by decide +kernel
theorem dX11_parseComparison_9 : decode cX11_parseComparison 9 = .ok (.ifCond .eq 7, 3) := by decide +kernel
theorem dX11_parseComparison_12 : decode cX11_parseComparison 12 = .ok (.aload_n 0, 1) := by decide +kernel
theorem dX11_parseComparison_13 : decode cX11_parseComparison 13 = .ok (.invokevirtual 308, 3) := by decide +kernel
theorem dX11_parseComparison_16 : decode cX11_parseComparison 16 = .ok (.aload_n 0, 1) := by decide +kernel
theorem dX11_parseComparison_17 : decode cX11_parseComparison 17 = .ok (.invokevirtual 375, 3) := by decide +kernel
theorem dX11_parseComparison_20 : decode cX11_parseComparison 20 = .ok (.aload_n 0, 1) := by decide +kernel
theorem dX11_parseComparison_21 : decode cX11_parseComparison 21 = .ok (.getfield 269, 3) := by decide +kernel
theorem dX11_parseComparison_24 : decode cX11_parseComparison 24 = .ok (.bipush 60, 2) := by decide +kernel
theorem dX11_parseComparison_26 : decode cX11_parseComparison 26 = .ok (.if_icmp .ne 8, 3) := by decide +kernel
theorem dX11_parseComparison_29 : decode cX11_parseComparison 29 = .ok (.bipush 13, 2) := by decide +kernel
theorem dX11_parseComparison_31 : decode cX11_parseComparison 31 = .ok (.goto 32, 3) := by decide +kernel
theorem dX11_parseComparison_34 : decode cX11_parseComparison 34 = .ok (.aload_n 0, 1) := by decide +kernel
theorem dX11_parseComparison_35 : decode cX11_parseComparison 35 = .ok (.getfield 269, 3) := by decide +kernel
theorem dX11_parseComparison_38 : decode cX11_parseComparison 38 = .ok (.bipush 62, 2) := by decide +kernel
theorem dX11_parseComparison_40 : decode cX11_parseComparison 40 = .ok (.if_icmp .ne 8, 3) := by decide +kernel
theorem dX11_parseComparison_43 : decode cX11_parseComparison 43 = .ok (.bipush 14, 2) := by decide +kernel
theorem dX11_parseComparison_45 : decode cX11_parseComparison 45 = .ok (.goto 18, 3) := by decide +kernel
theorem dX11_parseComparison_48 : decode cX11_parseComparison 48 = .ok (.aload_n 0, 1) := by decide +kernel
theorem dX11_parseComparison_49 : decode cX11_parseComparison 49 = .ok (.getfield 269, 3) := by decide +kernel
theorem dX11_parseComparison_52 : decode cX11_parseComparison 52 = .ok (.bipush 61, 2) := by decide +kernel
theorem dX11_parseComparison_54 : decode cX11_parseComparison 54 = .ok (.if_icmp .ne 8, 3) := by decide +kernel
theorem dX11_parseComparison_57 : decode cX11_parseComparison 57 = .ok (.bipush 15, 2) := by decide +kernel
theorem dX11_parseComparison_59 : decode cX11_parseComparison 59 = .ok (.goto 4, 3) := by decide +kernel
theorem dX11_parseComparison_62 : decode cX11_parseComparison 62 = .ok (.iconst (-1), 1) := by decide +kernel
theorem dX11_parseComparison_63 : decode cX11_parseComparison 63 = .ok (.istore_n 2, 1) := by decide +kernel
theorem dX11_parseComparison_64 : decode cX11_parseComparison 64 = .ok (.aload_n 0, 1) := by decide +kernel
theorem dX11_parseComparison_65 : decode cX11_parseComparison 65 = .ok (.iload_n 2, 1) := by decide +kernel
theorem dX11_parseComparison_66 : decode cX11_parseComparison 66 = .ok (.iconst (-1), 1) := by decide +kernel
theorem dX11_parseComparison_67 : decode cX11_parseComparison 67 = .ok (.if_icmp .eq 7, 3) := by decide +kernel
theorem dX11_parseComparison_70 : decode cX11_parseComparison 70 = .ok (.iconst 1, 1) := by decide +kernel
theorem dX11_parseComparison_71 : decode cX11_parseComparison 71 = .ok (.goto 4, 3) := by decide +kernel
theorem dX11_parseComparison_74 : decode cX11_parseComparison 74 = .ok (.iconst 0, 1) := by decide +kernel
theorem dX11_parseComparison_75 : decode cX11_parseComparison 75 = .ok (.iconst 1, 1) := by decide +kernel
theorem dX11_parseComparison_76 : decode cX11_parseComparison 76 = .ok (.invokevirtual 304, 3) := by decide +kernel
theorem dX11_parseComparison_79 : decode cX11_parseComparison 79 = .ok (.aload_n 0, 1) := by decide +kernel
theorem dX11_parseComparison_80 : decode cX11_parseComparison 80 = .ok (.invokevirtual 308, 3) := by decide +kernel
theorem dX11_parseComparison_83 : decode cX11_parseComparison 83 = .ok (.aload_n 0, 1) := by decide +kernel
theorem dX11_parseComparison_84 : decode cX11_parseComparison 84 = .ok (.getfield 298, 3) := by decide +kernel
theorem dX11_parseComparison_87 : decode cX11_parseComparison 87 = .ok (.ifCond .ne 7, 3) := by decide +kernel
theorem dX11_parseComparison_90 : decode cX11_parseComparison 90 = .ok (.aload_n 0, 1) := by decide +kernel
theorem dX11_parseComparison_91 : decode cX11_parseComparison 91 = .ok (.invokevirtual 375, 3) := by decide +kernel
theorem dX11_parseComparison_94 : decode cX11_parseComparison 94 = .ok (.aload_n 0, 1) := by decide +kernel
theorem dX11_parseComparison_95 : decode cX11_parseComparison 95 = .ok (.iload_n 2, 1) := by decide +kernel
theorem dX11_parseComparison_96 : decode cX11_parseComparison 96 = .ok (.iconst 0, 1) := by decide +kernel
theorem dX11_parseComparison_97 : decode cX11_parseComparison 97 = .ok (.invokevirtual 330, 3) := by decide +kernel
theorem dX11_parseComparison_100 : decode cX11_parseComparison 100 = .ok (.iload_n 1, 1) := by decide +kernel
theorem dX11_parseComparison_101 : decode cX11_parseComparison 101 = .ok (.ifCond .eq 10, 3) := by decide +kernel
theorem dX11_parseComparison_104 : decode cX11_parseComparison 104 = .ok (.aload_n 0, 1) := by decide +kernel
theorem dX11_parseComparison_105 : decode cX11_parseComparison 105 = .ok (.bipush 16, 2) := by decide +kernel
theorem dX11_parseComparison_107 : decode cX11_parseComparison 107 = .ok (.iconst 0, 1) := by decide +kernel
theorem dX11_parseComparison_108 : decode cX11_parseComparison 108 = .ok (.invokevirtual 330, 3) := by decide +kernel
theorem dX11_parseComparison_111 : decode cX11_parseComparison 111 = .ok (.return_, 1) := by decide +kernel
theorem dX11_parseBoth_0 : decode cX11_parseBoth 0 = .ok (.aload_n 0, 1) := by decide +kernel
theorem dX11_parseBoth_1 : decode cX11_parseBoth 1 = .ok (.invokevirtual 378, 3) := by decide +kernel
theorem dX11_parseBoth_4 : decode cX11_parseBoth 4 = .ok (.aload_n 0, 1) := by decide +kernel
theorem dX11_parseBoth_5 : decode cX11_parseBoth 5 = .ok (.getfield 298, 3) := by decide +kernel
theorem dX11_parseBoth_8 : decode cX11_parseBoth 8 = .ok (.ifCond .ne 31, 3) := by decide +kernel
theorem dX11_parseBoth_11 : decode cX11_parseBoth 11 = .ok (.aload_n 0, 1) := by decide +kernel
theorem dX11_parseBoth_12 : decode cX11_parseBoth 12 = .ok (.ldc_w 381, 3) := by decide +kernel
theorem dX11_parseBoth_15 : decode cX11_parseBoth 15 = .ok (.invokevirtual 316, 3) := by decide +kernel
theorem dX11_parseBoth_18 : decode cX11_parseBoth 18 = .ok (.ifCond .eq 21, 3) := by decide +kernel
theorem dX11_parseBoth_21 : decode cX11_parseBoth 21 = .ok (.aload_n 0, 1) := by decide +kernel
theorem dX11_parseBoth_22 : decode cX11_parseBoth 22 = .ok (.invokevirtual 308, 3) := by decide +kernel
theorem dX11_parseBoth_25 : decode cX11_parseBoth 25 = .ok (.aload_n 0, 1) := by decide +kernel
theorem dX11_parseBoth_26 : decode cX11_parseBoth 26 = .ok (.invokevirtual 378, 3) := by decide +kernel
theorem dX11_parseBoth_29 : decode cX11_parseBoth 29 = .ok (.aload_n 0, 1) := by decide +kernel
theorem dX11_parseBoth_30 : decode cX11_parseBoth 30 = .ok (.bipush 17, 2) := by decide +kernel
theorem dX11_parseBoth_32 : decode cX11_parseBoth 32 = .ok (.iconst 0, 1) := by decide +kernel
theorem dX11_parseBoth_33 : decode cX11_parseBoth 33 = .ok (.invokevirtual 330, 3) := by decide +kernel
theorem dX11_parseBoth_36 : decode cX11_parseBoth 36 = .ok (.goto (-32), 3) := by decide +kernel
theorem dX11_parseBoth_39 : decode cX11_parseBoth 39 = .ok (.return_, 1) := by decide +kernel
theorem dX11_parseTest_0 : decode cX11_parseTest 0 = .ok (.aload_n 0, 1) := by decide +kernel
theorem dX11_parseTest_1 : decode cX11_parseTest 1 = .ok (.invokevirtual 383, 3) := by decide +kernel
theorem dX11_parseTest_4 : decode cX11_parseTest 4 = .ok (.aload_n 0, 1) := by decide +kernel
theorem dX11_parseTest_5 : decode cX11_parseTest 5 = .ok (.getfield 298, 3) := by decide +kernel
theorem dX11_parseTest_8 : decode cX11_parseTest 8 = .ok (.ifCond .ne 31, 3) := by decide +kernel
theorem dX11_parseTest_11 : decode cX11_parseTest 11 = .ok (.aload_n 0, 1) := by decide +kernel
theorem dX11_parseTest_12 : decode cX11_parseTest 12 = .ok (.ldc_w 386, 3) := by decide +kernel
theorem dX11_parseTest_15 : decode cX11_parseTest 15 = .ok (.invokevirtual 316, 3) := by decide +kernel
theorem dX11_parseTest_18 : decode cX11_parseTest 18 = .ok (.ifCond .eq 21, 3) := by decide +kernel
theorem dX11_parseTest_21 : decode cX11_parseTest 21 = .ok (.aload_n 0, 1) := by decide +kernel
theorem dX11_parseTest_22 : decode cX11_parseTest 22 = .ok (.invokevirtual 308, 3) := by decide +kernel
theorem dX11_parseTest_25 : decode cX11_parseTest 25 = .ok (.aload_n 0, 1) := by decide +kernel
theorem dX11_parseTest_26 : decode cX11_parseTest 26 = .ok (.invokevirtual 383, 3) := by decide +kernel
theorem dX11_parseTest_29 : decode cX11_parseTest 29 = .ok (.aload_n 0, 1) := by decide +kernel
theorem dX11_parseTest_30 : decode cX11_parseTest 30 = .ok (.bipush 18, 2) := by decide +kernel
theorem dX11_parseTest_32 : decode cX11_parseTest 32 = .ok (.iconst 0, 1) := by decide +kernel
theorem dX11_parseTest_33 : decode cX11_parseTest 33 = .ok (.invokevirtual 330, 3) := by decide +kernel
theorem dX11_parseTest_36 : decode cX11_parseTest 36 = .ok (.goto (-32), 3) := by decide +kernel
theorem dX11_parseTest_39 : decode cX11_parseTest 39 = .ok (.return_, 1) := by decide +kernel
theorem dX11_heaterAction_0 : decode cX11_heaterAction 0 = .ok (.aload_n 0, 1) := by decide +kernel
theorem dX11_heaterAction_1 : decode cX11_heaterAction 1 = .ok (.ldc_w 388, 3) := by decide +kernel
theorem dX11_heaterAction_4 : decode cX11_heaterAction 4 = .ok (.invokevirtual 316, 3) := by decide +kernel
theorem dX11_heaterAction_7 : decode cX11_heaterAction 7 = .ok (.ifCond .eq 7, 3) := by decide +kernel
theorem dX11_heaterAction_10 : decode cX11_heaterAction 10 = .ok (.iconst 1, 1) := by decide +kernel
theorem dX11_heaterAction_11 : decode cX11_heaterAction 11 = .ok (.goto 32, 3) := by decide +kernel
theorem dX11_heaterAction_14 : decode cX11_heaterAction 14 = .ok (.aload_n 0, 1) := by decide +kernel
theorem dX11_heaterAction_15 : decode cX11_heaterAction 15 = .ok (.ldc_w 390, 3) := by decide +kernel
theorem dX11_heaterAction_18 : decode cX11_heaterAction 18 = .ok (.invokevirtual 316, 3) := by decide +kernel
theorem dX11_heaterAction_21 : decode cX11_heaterAction 21 = .ok (.ifCond .eq 7, 3) := by decide +kernel
theorem dX11_heaterAction_24 : decode cX11_heaterAction 24 = .ok (.iconst 2, 1) := by decide +kernel
theorem dX11_heaterAction_25 : decode cX11_heaterAction 25 = .ok (.goto 18, 3) := by decide +kernel
theorem dX11_heaterAction_28 : decode cX11_heaterAction 28 = .ok (.aload_n 0, 1) := by decide +kernel
theorem dX11_heaterAction_29 : decode cX11_heaterAction 29 = .ok (.ldc_w 392, 3) := by decide +kernel
theorem dX11_heaterAction_32 : decode cX11_heaterAction 32 = .ok (.invokevirtual 316, 3) := by decide +kernel
theorem dX11_heaterAction_35 : decode cX11_heaterAction 35 = .ok (.ifCond .eq 7, 3) := by decide +kernel
theorem dX11_heaterAction_38 : decode cX11_heaterAction 38 = .ok (.iconst 0, 1) := by decide +kernel
theorem dX11_heaterAction_39 : decode cX11_heaterAction 39 = .ok (.goto 4, 3) := by decide +kernel
theorem dX11_heaterAction_42 : decode cX11_heaterAction 42 = .ok (.iconst (-1), 1) := by decide +kernel
theorem dX11_heaterAction_43 : decode cX11_heaterAction 43 = .ok (.istore_n 1, 1) := by decide +kernel
theorem dX11_heaterAction_44 : decode cX11_heaterAction 44 = .ok (.aload_n 0, 1) := by decide +kernel
theorem dX11_heaterAction_45 : decode cX11_heaterAction 45 = .ok (.iload_n 1, 1) := by decide +kernel
theorem dX11_heaterAction_46 : decode cX11_heaterAction 46 = .ok (.iconst (-1), 1) := by decide +kernel
theorem dX11_heaterAction_47 : decode cX11_heaterAction 47 = .ok (.if_icmp .eq 7, 3) := by decide +kernel
theorem dX11_heaterAction_50 : decode cX11_heaterAction 50 = .ok (.iconst 1, 1) := by decide +kernel
theorem dX11_heaterAction_51 : decode cX11_heaterAction 51 = .ok (.goto 4, 3) := by decide +kernel
theorem dX11_heaterAction_54 : decode cX11_heaterAction 54 = .ok (.iconst 0, 1) := by decide +kernel
theorem dX11_heaterAction_55 : decode cX11_heaterAction 55 = .ok (.iconst 1, 1) := by decide +kernel
theorem dX11_heaterAction_56 : decode cX11_heaterAction 56 = .ok (.invokevirtual 304, 3) := by decide +kernel
theorem dX11_heaterAction_59 : decode cX11_heaterAction 59 = .ok (.aload_n 0, 1) := by decide +kernel
theorem dX11_heaterAction_60 : decode cX11_heaterAction 60 = .ok (.invokevirtual 308, 3) := by decide +kernel
theorem dX11_heaterAction_63 : decode cX11_heaterAction 63 = .ok (.iload_n 1, 1) := by decide +kernel
theorem dX11_heaterAction_64 : decode cX11_heaterAction 64 = .ok (.ireturn, 1) := by decide +kernel
theorem dX11_louvreAction_0 : decode cX11_louvreAction 0 = .ok (.aload_n 0, 1) := by decide +kernel
theorem dX11_louvreAction_1 : decode cX11_louvreAction 1 = .ok (.ldc_w 394, 3) := by decide +kernel
theorem dX11_louvreAction_4 : decode cX11_louvreAction 4 = .ok (.invokevirtual 316, 3) := by decide +kernel
theorem dX11_louvreAction_7 : decode cX11_louvreAction 7 = .ok (.ifCond .eq 7, 3) := by decide +kernel
theorem dX11_louvreAction_10 : decode cX11_louvreAction 10 = .ok (.iconst 3, 1) := by decide +kernel
theorem dX11_louvreAction_11 : decode cX11_louvreAction 11 = .ok (.goto 18, 3) := by decide +kernel
theorem dX11_louvreAction_14 : decode cX11_louvreAction 14 = .ok (.aload_n 0, 1) := by decide +kernel
theorem dX11_louvreAction_15 : decode cX11_louvreAction 15 = .ok (.ldc_w 396, 3) := by decide +kernel
theorem dX11_louvreAction_18 : decode cX11_louvreAction 18 = .ok (.invokevirtual 316, 3) := by decide +kernel
theorem dX11_louvreAction_21 : decode cX11_louvreAction 21 = .ok (.ifCond .eq 7, 3) := by decide +kernel
theorem dX11_louvreAction_24 : decode cX11_louvreAction 24 = .ok (.iconst 4, 1) := by decide +kernel
theorem dX11_louvreAction_25 : decode cX11_louvreAction 25 = .ok (.goto 4, 3) := by decide +kernel
theorem dX11_louvreAction_28 : decode cX11_louvreAction 28 = .ok (.iconst (-1), 1) := by decide +kernel
theorem dX11_louvreAction_29 : decode cX11_louvreAction 29 = .ok (.istore_n 1, 1) := by decide +kernel
theorem dX11_louvreAction_30 : decode cX11_louvreAction 30 = .ok (.aload_n 0, 1) := by decide +kernel
theorem dX11_louvreAction_31 : decode cX11_louvreAction 31 = .ok (.iload_n 1, 1) := by decide +kernel
theorem dX11_louvreAction_32 : decode cX11_louvreAction 32 = .ok (.iconst (-1), 1) := by decide +kernel
theorem dX11_louvreAction_33 : decode cX11_louvreAction 33 = .ok (.if_icmp .eq 7, 3) := by decide +kernel
theorem dX11_louvreAction_36 : decode cX11_louvreAction 36 = .ok (.iconst 1, 1) := by decide +kernel
theorem dX11_louvreAction_37 : decode cX11_louvreAction 37 = .ok (.goto 4, 3) := by decide +kernel
theorem dX11_louvreAction_40 : decode cX11_louvreAction 40 = .ok (.iconst 0, 1) := by decide +kernel
theorem dX11_louvreAction_41 : decode cX11_louvreAction 41 = .ok (.iconst 1, 1) := by decide +kernel
theorem dX11_louvreAction_42 : decode cX11_louvreAction 42 = .ok (.invokevirtual 304, 3) := by decide +kernel
theorem dX11_louvreAction_45 : decode cX11_louvreAction 45 = .ok (.aload_n 0, 1) := by decide +kernel
theorem dX11_louvreAction_46 : decode cX11_louvreAction 46 = .ok (.invokevirtual 308, 3) := by decide +kernel
theorem dX11_louvreAction_49 : decode cX11_louvreAction 49 = .ok (.iload_n 1, 1) := by decide +kernel
theorem dX11_louvreAction_50 : decode cX11_louvreAction 50 = .ok (.ireturn, 1) := by decide +kernel
theorem dX11_parseAction_0 : decode cX11_parseAction 0 = .ok (.aload_n 0, 1) := by decide +kernel
theorem dX11_parseAction_1 : decode cX11_parseAction 1 = .ok (.ldc_w 398, 3) := by decide +kernel
theorem dX11_parseAction_4 : decode cX11_parseAction 4 = .ok (.invokevirtual 316, 3) := by decide +kernel
theorem dX11_parseAction_7 : decode cX11_parseAction 7 = .ok (.istore_n 2, 1) := by decide +kernel
theorem dX11_parseAction_8 : decode cX11_parseAction 8 = .ok (.aload_n 0, 1) := by decide +kernel
theorem dX11_parseAction_9 : decode cX11_parseAction 9 = .ok (.ldc_w 399, 3) := by decide +kernel
theorem dX11_parseAction_12 : decode cX11_parseAction 12 = .ok (.invokevirtual 316, 3) := by decide +kernel
theorem dX11_parseAction_15 : decode cX11_parseAction 15 = .ok (.istore_n 3, 1) := by decide +kernel
theorem dX11_parseAction_16 : decode cX11_parseAction 16 = .ok (.aload_n 0, 1) := by decide +kernel
theorem dX11_parseAction_17 : decode cX11_parseAction 17 = .ok (.iload_n 2, 1) := by decide +kernel
theorem dX11_parseAction_18 : decode cX11_parseAction 18 = .ok (.ifCond .ne 17, 3) := by decide +kernel
theorem dX11_parseAction_21 : decode cX11_parseAction 21 = .ok (.iload_n 3, 1) := by decide +kernel
theorem dX11_parseAction_22 : decode cX11_parseAction 22 = .ok (.ifCond .ne 13, 3) := by decide +kernel
theorem dX11_parseAction_25 : decode cX11_parseAction 25 = .ok (.aload_n 0, 1) := by decide +kernel
theorem dX11_parseAction_26 : decode cX11_parseAction 26 = .ok (.ldc_w 400, 3) := by decide +kernel
theorem dX11_parseAction_29 : decode cX11_parseAction 29 = .ok (.invokevirtual 316, 3) := by decide +kernel
theorem dX11_parseAction_32 : decode cX11_parseAction 32 = .ok (.ifCond .eq 7, 3) := by decide +kernel
theorem dX11_parseAction_35 : decode cX11_parseAction 35 = .ok (.iconst 1, 1) := by decide +kernel
theorem dX11_parseAction_36 : decode cX11_parseAction 36 = .ok (.goto 4, 3) := by decide +kernel
theorem dX11_parseAction_39 : decode cX11_parseAction 39 = .ok (.iconst 0, 1) := by decide +kernel
theorem dX11_parseAction_40 : decode cX11_parseAction 40 = .ok (.iconst 1, 1) := by decide +kernel
theorem dX11_parseAction_41 : decode cX11_parseAction 41 = .ok (.invokevirtual 304, 3) := by decide +kernel
theorem dX11_parseAction_44 : decode cX11_parseAction 44 = .ok (.aload_n 0, 1) := by decide +kernel
theorem dX11_parseAction_45 : decode cX11_parseAction 45 = .ok (.invokevirtual 308, 3) := by decide +kernel
theorem dX11_parseAction_48 : decode cX11_parseAction 48 = .ok (.aload_n 0, 1) := by decide +kernel
theorem dX11_parseAction_49 : decode cX11_parseAction 49 = .ok (.getfield 298, 3) := by decide +kernel
theorem dX11_parseAction_52 : decode cX11_parseAction 52 = .ok (.ifCond .eq 4, 3) := by decide +kernel
theorem dX11_parseAction_55 : decode cX11_parseAction 55 = .ok (.return_, 1) := by decide +kernel
theorem dX11_parseAction_56 : decode cX11_parseAction 56 = .ok (.aload_n 0, 1) := by decide +kernel
theorem dX11_parseAction_57 : decode cX11_parseAction 57 = .ok (.getfield 49, 3) := by decide +kernel
theorem dX11_parseAction_60 : decode cX11_parseAction 60 = .ok (.iload_n 1, 1) := by decide +kernel
theorem dX11_parseAction_61 : decode cX11_parseAction 61 = .ok (.iconst 3, 1) := by decide +kernel
theorem dX11_parseAction_62 : decode cX11_parseAction 62 = .ok (.iadd, 1) := by decide +kernel
theorem dX11_parseAction_63 : decode cX11_parseAction 63 = .ok (.aload_n 0, 1) := by decide +kernel
theorem dX11_parseAction_64 : decode cX11_parseAction 64 = .ok (.aload_n 0, 1) := by decide +kernel
theorem dX11_parseAction_65 : decode cX11_parseAction 65 = .ok (.getfield 7, 3) := by decide +kernel
theorem dX11_parseAction_68 : decode cX11_parseAction 68 = .ok (.iload_n 2, 1) := by decide +kernel
theorem dX11_parseAction_69 : decode cX11_parseAction 69 = .ok (.ifCond .eq 8, 3) := by decide +kernel
theorem dX11_parseAction_72 : decode cX11_parseAction 72 = .ok (.bipush 14, 2) := by decide +kernel
theorem dX11_parseAction_74 : decode cX11_parseAction 74 = .ok (.goto 14, 3) := by decide +kernel
theorem dX11_parseAction_77 : decode cX11_parseAction 77 = .ok (.iload_n 3, 1) := by decide +kernel
theorem dX11_parseAction_78 : decode cX11_parseAction 78 = .ok (.ifCond .eq 8, 3) := by decide +kernel
theorem dX11_parseAction_81 : decode cX11_parseAction 81 = .ok (.bipush 13, 2) := by decide +kernel
theorem dX11_parseAction_83 : decode cX11_parseAction 83 = .ok (.goto 5, 3) := by decide +kernel
theorem dX11_parseAction_86 : decode cX11_parseAction 86 = .ok (.bipush 12, 2) := by decide +kernel
theorem dX11_parseAction_88 : decode cX11_parseAction 88 = .ok (.iaload, 1) := by decide +kernel
theorem dX11_parseAction_89 : decode cX11_parseAction 89 = .ok (.invokevirtual 337, 3) := by decide +kernel
theorem dX11_parseAction_92 : decode cX11_parseAction 92 = .ok (.iastore, 1) := by decide +kernel
theorem dX11_parseAction_93 : decode cX11_parseAction 93 = .ok (.aload_n 0, 1) := by decide +kernel
theorem dX11_parseAction_94 : decode cX11_parseAction 94 = .ok (.getfield 298, 3) := by decide +kernel
theorem dX11_parseAction_97 : decode cX11_parseAction 97 = .ok (.ifCond .eq 4, 3) := by decide +kernel
theorem dX11_parseAction_100 : decode cX11_parseAction 100 = .ok (.return_, 1) := by decide +kernel
theorem dX11_parseAction_101 : decode cX11_parseAction 101 = .ok (.iload_n 2, 1) := by decide +kernel
theorem dX11_parseAction_102 : decode cX11_parseAction 102 = .ok (.ifCond .ne 7, 3) := by decide +kernel
theorem dX11_parseAction_105 : decode cX11_parseAction 105 = .ok (.iload_n 3, 1) := by decide +kernel
theorem dX11_parseAction_106 : decode cX11_parseAction 106 = .ok (.ifCond .eq 27, 3) := by decide +kernel
theorem dX11_parseAction_109 : decode cX11_parseAction 109 = .ok (.aload_n 0, 1) := by decide +kernel
theorem dX11_parseAction_110 : decode cX11_parseAction 110 = .ok (.getfield 49, 3) := by decide +kernel
theorem dX11_parseAction_113 : decode cX11_parseAction 113 = .ok (.iload_n 1, 1) := by decide +kernel
theorem dX11_parseAction_114 : decode cX11_parseAction 114 = .ok (.iconst 2, 1) := by decide +kernel
theorem dX11_parseAction_115 : decode cX11_parseAction 115 = .ok (.iadd, 1) := by decide +kernel
theorem dX11_parseAction_116 : decode cX11_parseAction 116 = .ok (.iload_n 2, 1) := by decide +kernel
theorem dX11_parseAction_117 : decode cX11_parseAction 117 = .ok (.ifCond .eq 10, 3) := by decide +kernel
theorem dX11_parseAction_120 : decode cX11_parseAction 120 = .ok (.aload_n 0, 1) := by decide +kernel
theorem dX11_parseAction_121 : decode cX11_parseAction 121 = .ok (.invokevirtual 402, 3) := by decide +kernel
theorem dX11_parseAction_124 : decode cX11_parseAction 124 = .ok (.goto 7, 3) := by decide +kernel
theorem dX11_parseAction_127 : decode cX11_parseAction 127 = .ok (.aload_n 0, 1) := by decide +kernel
theorem dX11_parseAction_128 : decode cX11_parseAction 128 = .ok (.invokevirtual 405, 3) := by decide +kernel
theorem dX11_parseAction_131 : decode cX11_parseAction 131 = .ok (.iastore, 1) := by decide +kernel
theorem dX11_parseAction_132 : decode cX11_parseAction 132 = .ok (.return_, 1) := by decide +kernel
theorem dX11_parseAction_133 : decode cX11_parseAction 133 = .ok (.aload_n 0, 1) := by decide +kernel
theorem dX11_parseAction_134 : decode cX11_parseAction 134 = .ok (.bipush 61, 2) := by decide +kernel
theorem dX11_parseAction_136 : decode cX11_parseAction 136 = .ok (.invokevirtual 408, 3) := by decide +kernel
theorem dX11_parseAction_139 : decode cX11_parseAction 139 = .ok (.aload_n 0, 1) := by decide +kernel
theorem dX11_parseAction_140 : decode cX11_parseAction 140 = .ok (.getfield 49, 3) := by decide +kernel
theorem dX11_parseAction_143 : decode cX11_parseAction 143 = .ok (.iload_n 1, 1) := by decide +kernel
theorem dX11_parseAction_144 : decode cX11_parseAction 144 = .ok (.iconst 2, 1) := by decide +kernel
theorem dX11_parseAction_145 : decode cX11_parseAction 145 = .ok (.iadd, 1) := by decide +kernel
theorem dX11_parseAction_146 : decode cX11_parseAction 146 = .ok (.iconst 5, 1) := by decide +kernel
theorem dX11_parseAction_147 : decode cX11_parseAction 147 = .ok (.iastore, 1) := by decide +kernel
theorem dX11_parseAction_148 : decode cX11_parseAction 148 = .ok (.aload_n 0, 1) := by decide +kernel
theorem dX11_parseAction_149 : decode cX11_parseAction 149 = .ok (.getfield 49, 3) := by decide +kernel
theorem dX11_parseAction_152 : decode cX11_parseAction 152 = .ok (.iload_n 1, 1) := by decide +kernel
theorem dX11_parseAction_153 : decode cX11_parseAction 153 = .ok (.iconst 4, 1) := by decide +kernel
theorem dX11_parseAction_154 : decode cX11_parseAction 154 = .ok (.iadd, 1) := by decide +kernel
theorem dX11_parseAction_155 : decode cX11_parseAction 155 = .ok (.aload_n 0, 1) := by decide +kernel
theorem dX11_parseAction_156 : decode cX11_parseAction 156 = .ok (.getfield 311, 3) := by decide +kernel
theorem dX11_parseAction_159 : decode cX11_parseAction 159 = .ok (.iastore, 1) := by decide +kernel
theorem dX11_parseAction_160 : decode cX11_parseAction 160 = .ok (.aload_n 0, 1) := by decide +kernel
theorem dX11_parseAction_161 : decode cX11_parseAction 161 = .ok (.getfield 298, 3) := by decide +kernel
theorem dX11_parseAction_164 : decode cX11_parseAction 164 = .ok (.ifCond .ne 7, 3) := by decide +kernel
theorem dX11_parseAction_167 : decode cX11_parseAction 167 = .ok (.aload_n 0, 1) := by decide +kernel
theorem dX11_parseAction_168 : decode cX11_parseAction 168 = .ok (.invokevirtual 375, 3) := by decide +kernel
theorem dX11_parseAction_171 : decode cX11_parseAction 171 = .ok (.aload_n 0, 1) := by decide +kernel
theorem dX11_parseAction_172 : decode cX11_parseAction 172 = .ok (.getfield 49, 3) := by decide +kernel
theorem dX11_parseAction_175 : decode cX11_parseAction 175 = .ok (.iload_n 1, 1) := by decide +kernel
theorem dX11_parseAction_176 : decode cX11_parseAction 176 = .ok (.iconst 5, 1) := by decide +kernel
theorem dX11_parseAction_177 : decode cX11_parseAction 177 = .ok (.iadd, 1) := by decide +kernel
theorem dX11_parseAction_178 : decode cX11_parseAction 178 = .ok (.aload_n 0, 1) := by decide +kernel
theorem dX11_parseAction_179 : decode cX11_parseAction 179 = .ok (.getfield 311, 3) := by decide +kernel
theorem dX11_parseAction_182 : decode cX11_parseAction 182 = .ok (.iastore, 1) := by decide +kernel
theorem dX11_parseAction_183 : decode cX11_parseAction 183 = .ok (.return_, 1) := by decide +kernel
theorem dX11_parseRule_0 : decode cX11_parseRule 0 = .ok (.aload_n 0, 1) := by decide +kernel
theorem dX11_parseRule_1 : decode cX11_parseRule 1 = .ok (.ldc_w 411, 3) := by decide +kernel
theorem dX11_parseRule_4 : decode cX11_parseRule 4 = .ok (.invokevirtual 316, 3) := by decide +kernel
theorem dX11_parseRule_7 : decode cX11_parseRule 7 = .ok (.istore_n 1, 1) := by decide +kernel
theorem dX11_parseRule_8 : decode cX11_parseRule 8 = .ok (.aload_n 0, 1) := by decide +kernel
theorem dX11_parseRule_9 : decode cX11_parseRule 9 = .ok (.iload_n 1, 1) := by decide +kernel
theorem dX11_parseRule_10 : decode cX11_parseRule 10 = .ok (.ifCond .ne 33, 3) := by decide +kernel
theorem dX11_parseRule_13 : decode cX11_parseRule 13 = .ok (.aload_n 0, 1) := by decide +kernel
theorem dX11_parseRule_14 : decode cX11_parseRule 14 = .ok (.ldc_w 398, 3) := by decide +kernel
theorem dX11_parseRule_17 : decode cX11_parseRule 17 = .ok (.invokevirtual 316, 3) := by decide +kernel
theorem dX11_parseRule_20 : decode cX11_parseRule 20 = .ok (.ifCond .ne 23, 3) := by decide +kernel
theorem dX11_parseRule_23 : decode cX11_parseRule 23 = .ok (.aload_n 0, 1) := by decide +kernel
theorem dX11_parseRule_24 : decode cX11_parseRule 24 = .ok (.ldc_w 399, 3) := by decide +kernel
theorem dX11_parseRule_27 : decode cX11_parseRule 27 = .ok (.invokevirtual 316, 3) := by decide +kernel
theorem dX11_parseRule_30 : decode cX11_parseRule 30 = .ok (.ifCond .ne 13, 3) := by decide +kernel
theorem dX11_parseRule_33 : decode cX11_parseRule 33 = .ok (.aload_n 0, 1) := by decide +kernel
theorem dX11_parseRule_34 : decode cX11_parseRule 34 = .ok (.ldc_w 400, 3) := by decide +kernel
theorem dX11_parseRule_37 : decode cX11_parseRule 37 = .ok (.invokevirtual 316, 3) := by decide +kernel
theorem dX11_parseRule_40 : decode cX11_parseRule 40 = .ok (.ifCond .eq 7, 3) := by decide +kernel
theorem dX11_parseRule_43 : decode cX11_parseRule 43 = .ok (.iconst 1, 1) := by decide +kernel
theorem dX11_parseRule_44 : decode cX11_parseRule 44 = .ok (.goto 4, 3) := by decide +kernel
theorem dX11_parseRule_47 : decode cX11_parseRule 47 = .ok (.iconst 0, 1) := by decide +kernel
theorem dX11_parseRule_48 : decode cX11_parseRule 48 = .ok (.iconst 1, 1) := by decide +kernel
theorem dX11_parseRule_49 : decode cX11_parseRule 49 = .ok (.invokevirtual 304, 3) := by decide +kernel
theorem dX11_parseRule_52 : decode cX11_parseRule 52 = .ok (.aload_n 0, 1) := by decide +kernel
theorem dX11_parseRule_53 : decode cX11_parseRule 53 = .ok (.aload_n 0, 1) := by decide +kernel
theorem dX11_parseRule_54 : decode cX11_parseRule 54 = .ok (.getfield 413, 3) := by decide +kernel
theorem dX11_parseRule_57 : decode cX11_parseRule 57 = .ok (.bipush 12, 2) := by decide +kernel
theorem dX11_parseRule_59 : decode cX11_parseRule 59 = .ok (.if_icmp .ge 7, 3) := by decide +kernel
theorem dX11_parseRule_62 : decode cX11_parseRule 62 = .ok (.iconst 1, 1) := by decide +kernel
theorem dX11_parseRule_63 : decode cX11_parseRule 63 = .ok (.goto 4, 3) := by decide +kernel
theorem dX11_parseRule_66 : decode cX11_parseRule 66 = .ok (.iconst 0, 1) := by decide +kernel
theorem dX11_parseRule_67 : decode cX11_parseRule 67 = .ok (.iconst 3, 1) := by decide +kernel
theorem dX11_parseRule_68 : decode cX11_parseRule 68 = .ok (.invokevirtual 304, 3) := by decide +kernel
theorem dX11_parseRule_71 : decode cX11_parseRule 71 = .ok (.aload_n 0, 1) := by decide +kernel
theorem dX11_parseRule_72 : decode cX11_parseRule 72 = .ok (.getfield 298, 3) := by decide +kernel
theorem dX11_parseRule_75 : decode cX11_parseRule 75 = .ok (.ifCond .eq 4, 3) := by decide +kernel
theorem dX11_parseRule_78 : decode cX11_parseRule 78 = .ok (.return_, 1) := by decide +kernel
theorem dX11_parseRule_79 : decode cX11_parseRule 79 = .ok (.bipush 6, 2) := by decide +kernel
theorem dX11_parseRule_81 : decode cX11_parseRule 81 = .ok (.aload_n 0, 1) := by decide +kernel
theorem dX11_parseRule_82 : decode cX11_parseRule 82 = .ok (.getfield 413, 3) := by decide +kernel
theorem dX11_parseRule_85 : decode cX11_parseRule 85 = .ok (.imul, 1) := by decide +kernel
theorem dX11_parseRule_86 : decode cX11_parseRule 86 = .ok (.istore_n 2, 1) := by decide +kernel
theorem dX11_parseRule_87 : decode cX11_parseRule 87 = .ok (.aload_n 0, 1) := by decide +kernel
theorem dX11_parseRule_88 : decode cX11_parseRule 88 = .ok (.getfield 49, 3) := by decide +kernel
theorem dX11_parseRule_91 : decode cX11_parseRule 91 = .ok (.iload_n 2, 1) := by decide +kernel
theorem dX11_parseRule_92 : decode cX11_parseRule 92 = .ok (.iconst 0, 1) := by decide +kernel
theorem dX11_parseRule_93 : decode cX11_parseRule 93 = .ok (.iadd, 1) := by decide +kernel
theorem dX11_parseRule_94 : decode cX11_parseRule 94 = .ok (.aload_n 0, 1) := by decide +kernel
theorem dX11_parseRule_95 : decode cX11_parseRule 95 = .ok (.getfield 311, 3) := by decide +kernel
theorem dX11_parseRule_98 : decode cX11_parseRule 98 = .ok (.iastore, 1) := by decide +kernel
theorem dX11_parseRule_99 : decode cX11_parseRule 99 = .ok (.iload_n 1, 1) := by decide +kernel
theorem dX11_parseRule_100 : decode cX11_parseRule 100 = .ok (.ifCond .eq 17, 3) := by decide +kernel
theorem dX11_parseRule_103 : decode cX11_parseRule 103 = .ok (.aload_n 0, 1) := by decide +kernel
theorem dX11_parseRule_104 : decode cX11_parseRule 104 = .ok (.invokevirtual 308, 3) := by decide +kernel
theorem dX11_parseRule_107 : decode cX11_parseRule 107 = .ok (.aload_n 0, 1) := by decide +kernel
theorem dX11_parseRule_108 : decode cX11_parseRule 108 = .ok (.invokevirtual 416, 3) := by decide +kernel
theorem dX11_parseRule_111 : decode cX11_parseRule 111 = .ok (.aload_n 0, 1) := by decide +kernel
theorem dX11_parseRule_112 : decode cX11_parseRule 112 = .ok (.bipush 58, 2) := by decide +kernel
theorem dX11_parseRule_114 : decode cX11_parseRule 114 = .ok (.invokevirtual 408, 3) := by decide +kernel
theorem dX11_parseRule_117 : decode cX11_parseRule 117 = .ok (.aload_n 0, 1) := by decide +kernel
theorem dX11_parseRule_118 : decode cX11_parseRule 118 = .ok (.getfield 49, 3) := by decide +kernel
theorem dX11_parseRule_121 : decode cX11_parseRule 121 = .ok (.iload_n 2, 1) := by decide +kernel
theorem dX11_parseRule_122 : decode cX11_parseRule 122 = .ok (.iconst 1, 1) := by decide +kernel
theorem dX11_parseRule_123 : decode cX11_parseRule 123 = .ok (.iadd, 1) := by decide +kernel
theorem dX11_parseRule_124 : decode cX11_parseRule 124 = .ok (.aload_n 0, 1) := by decide +kernel
theorem dX11_parseRule_125 : decode cX11_parseRule 125 = .ok (.getfield 311, 3) := by decide +kernel
theorem dX11_parseRule_128 : decode cX11_parseRule 128 = .ok (.iastore, 1) := by decide +kernel
theorem dX11_parseRule_129 : decode cX11_parseRule 129 = .ok (.aload_n 0, 1) := by decide +kernel
theorem dX11_parseRule_130 : decode cX11_parseRule 130 = .ok (.getfield 49, 3) := by decide +kernel
theorem dX11_parseRule_133 : decode cX11_parseRule 133 = .ok (.iload_n 2, 1) := by decide +kernel
theorem dX11_parseRule_134 : decode cX11_parseRule 134 = .ok (.iconst 4, 1) := by decide +kernel
theorem dX11_parseRule_135 : decode cX11_parseRule 135 = .ok (.iadd, 1) := by decide +kernel
theorem dX11_parseRule_136 : decode cX11_parseRule 136 = .ok (.aload_n 0, 1) := by decide +kernel
theorem dX11_parseRule_137 : decode cX11_parseRule 137 = .ok (.getfield 311, 3) := by decide +kernel
theorem dX11_parseRule_140 : decode cX11_parseRule 140 = .ok (.iastore, 1) := by decide +kernel
theorem dX11_parseRule_141 : decode cX11_parseRule 141 = .ok (.aload_n 0, 1) := by decide +kernel
theorem dX11_parseRule_142 : decode cX11_parseRule 142 = .ok (.getfield 49, 3) := by decide +kernel
theorem dX11_parseRule_145 : decode cX11_parseRule 145 = .ok (.iload_n 2, 1) := by decide +kernel
theorem dX11_parseRule_146 : decode cX11_parseRule 146 = .ok (.iconst 5, 1) := by decide +kernel
theorem dX11_parseRule_147 : decode cX11_parseRule 147 = .ok (.iadd, 1) := by decide +kernel
theorem dX11_parseRule_148 : decode cX11_parseRule 148 = .ok (.aload_n 0, 1) := by decide +kernel
theorem dX11_parseRule_149 : decode cX11_parseRule 149 = .ok (.getfield 311, 3) := by decide +kernel
theorem dX11_parseRule_152 : decode cX11_parseRule 152 = .ok (.iastore, 1) := by decide +kernel
theorem dX11_parseRule_153 : decode cX11_parseRule 153 = .ok (.aload_n 0, 1) := by decide +kernel
theorem dX11_parseRule_154 : decode cX11_parseRule 154 = .ok (.getfield 298, 3) := by decide +kernel
theorem dX11_parseRule_157 : decode cX11_parseRule 157 = .ok (.ifCond .ne 8, 3) := by decide +kernel
theorem dX11_parseRule_160 : decode cX11_parseRule 160 = .ok (.aload_n 0, 1) := by decide +kernel
theorem dX11_parseRule_161 : decode cX11_parseRule 161 = .ok (.iload_n 2, 1) := by decide +kernel
theorem dX11_parseRule_162 : decode cX11_parseRule 162 = .ok (.invokevirtual 419, 3) := by decide +kernel
theorem dX11_parseRule_165 : decode cX11_parseRule 165 = .ok (.aload_n 0, 1) := by decide +kernel
theorem dX11_parseRule_166 : decode cX11_parseRule 166 = .ok (.bipush 59, 2) := by decide +kernel
theorem dX11_parseRule_168 : decode cX11_parseRule 168 = .ok (.invokevirtual 408, 3) := by decide +kernel
theorem dX11_parseRule_171 : decode cX11_parseRule 171 = .ok (.aload_n 0, 1) := by decide +kernel
theorem dX11_parseRule_172 : decode cX11_parseRule 172 = .ok (.dup, 1) := by decide +kernel
theorem dX11_parseRule_173 : decode cX11_parseRule 173 = .ok (.getfield 413, 3) := by decide +kernel
theorem dX11_parseRule_176 : decode cX11_parseRule 176 = .ok (.iconst 1, 1) := by decide +kernel
theorem dX11_parseRule_177 : decode cX11_parseRule 177 = .ok (.iadd, 1) := by decide +kernel
theorem dX11_parseRule_178 : decode cX11_parseRule 178 = .ok (.putfield 413, 3) := by decide +kernel
theorem dX11_parseRule_181 : decode cX11_parseRule 181 = .ok (.return_, 1) := by decide +kernel
theorem dX11_loadRules_0 : decode cX11_loadRules 0 = .ok (.aload_n 0, 1) := by decide +kernel
theorem dX11_loadRules_1 : decode cX11_loadRules 1 = .ok (.iconst 0, 1) := by decide +kernel
theorem dX11_loadRules_2 : decode cX11_loadRules 2 = .ok (.putfield 298, 3) := by decide +kernel
theorem dX11_loadRules_5 : decode cX11_loadRules 5 = .ok (.aload_n 0, 1) := by decide +kernel
theorem dX11_loadRules_6 : decode cX11_loadRules 6 = .ok (.iconst (-1), 1) := by decide +kernel
theorem dX11_loadRules_7 : decode cX11_loadRules 7 = .ok (.putfield 45, 3) := by decide +kernel
theorem dX11_loadRules_10 : decode cX11_loadRules 10 = .ok (.aload_n 0, 1) := by decide +kernel
theorem dX11_loadRules_11 : decode cX11_loadRules 11 = .ok (.iconst 0, 1) := by decide +kernel
theorem dX11_loadRules_12 : decode cX11_loadRules 12 = .ok (.putfield 413, 3) := by decide +kernel
theorem dX11_loadRules_15 : decode cX11_loadRules 15 = .ok (.aload_n 0, 1) := by decide +kernel
theorem dX11_loadRules_16 : decode cX11_loadRules 16 = .ok (.iconst 0, 1) := by decide +kernel
theorem dX11_loadRules_17 : decode cX11_loadRules 17 = .ok (.putfield 311, 3) := by decide +kernel
theorem dX11_loadRules_20 : decode cX11_loadRules 20 = .ok (.aload_n 0, 1) := by decide +kernel
theorem dX11_loadRules_21 : decode cX11_loadRules 21 = .ok (.iconst 0, 1) := by decide +kernel
theorem dX11_loadRules_22 : decode cX11_loadRules 22 = .ok (.putfield 250, 3) := by decide +kernel
theorem dX11_loadRules_25 : decode cX11_loadRules 25 = .ok (.aload_n 0, 1) := by decide +kernel
theorem dX11_loadRules_26 : decode cX11_loadRules 26 = .ok (.invokevirtual 301, 3) := by decide +kernel
theorem dX11_loadRules_29 : decode cX11_loadRules 29 = .ok (.aload_n 0, 1) := by decide +kernel
theorem dX11_loadRules_30 : decode cX11_loadRules 30 = .ok (.getfield 298, 3) := by decide +kernel
theorem dX11_loadRules_33 : decode cX11_loadRules 33 = .ok (.ifCond .ne 17, 3) := by decide +kernel
theorem dX11_loadRules_36 : decode cX11_loadRules 36 = .ok (.aload_n 0, 1) := by decide +kernel
theorem dX11_loadRules_37 : decode cX11_loadRules 37 = .ok (.getfield 272, 3) := by decide +kernel
theorem dX11_loadRules_40 : decode cX11_loadRules 40 = .ok (.ifCond .eq 10, 3) := by decide +kernel
theorem dX11_loadRules_43 : decode cX11_loadRules 43 = .ok (.aload_n 0, 1) := by decide +kernel
theorem dX11_loadRules_44 : decode cX11_loadRules 44 = .ok (.invokevirtual 422, 3) := by decide +kernel
theorem dX11_loadRules_47 : decode cX11_loadRules 47 = .ok (.goto (-18), 3) := by decide +kernel
theorem dX11_loadRules_50 : decode cX11_loadRules 50 = .ok (.aload_n 0, 1) := by decide +kernel
theorem dX11_loadRules_51 : decode cX11_loadRules 51 = .ok (.iconst 0, 1) := by decide +kernel
theorem dX11_loadRules_52 : decode cX11_loadRules 52 = .ok (.putfield 247, 3) := by decide +kernel
theorem dX11_loadRules_55 : decode cX11_loadRules 55 = .ok (.aload_n 0, 1) := by decide +kernel
theorem dX11_loadRules_56 : decode cX11_loadRules 56 = .ok (.getfield 298, 3) := by decide +kernel
theorem dX11_loadRules_59 : decode cX11_loadRules 59 = .ok (.ifCond .eq 7, 3) := by decide +kernel
theorem dX11_loadRules_62 : decode cX11_loadRules 62 = .ok (.ldc_w 425, 3) := by decide +kernel
theorem dX11_loadRules_65 : decode cX11_loadRules 65 = .ok (.ireturn, 1) := by decide +kernel
theorem dX11_loadRules_66 : decode cX11_loadRules 66 = .ok (.iconst 0, 1) := by decide +kernel
theorem dX11_loadRules_67 : decode cX11_loadRules 67 = .ok (.istore_n 1, 1) := by decide +kernel
theorem dX11_loadRules_68 : decode cX11_loadRules 68 = .ok (.iload_n 1, 1) := by decide +kernel
theorem dX11_loadRules_69 : decode cX11_loadRules 69 = .ok (.bipush 6, 2) := by decide +kernel
theorem dX11_loadRules_71 : decode cX11_loadRules 71 = .ok (.aload_n 0, 1) := by decide +kernel
theorem dX11_loadRules_72 : decode cX11_loadRules 72 = .ok (.getfield 413, 3) := by decide +kernel
theorem dX11_loadRules_75 : decode cX11_loadRules 75 = .ok (.imul, 1) := by decide +kernel
theorem dX11_loadRules_76 : decode cX11_loadRules 76 = .ok (.if_icmp .ge 25, 3) := by decide +kernel
theorem dX11_loadRules_79 : decode cX11_loadRules 79 = .ok (.aload_n 0, 1) := by decide +kernel
theorem dX11_loadRules_80 : decode cX11_loadRules 80 = .ok (.getfield 7, 3) := by decide +kernel
theorem dX11_loadRules_83 : decode cX11_loadRules 83 = .ok (.sipush 414, 3) := by decide +kernel
theorem dX11_loadRules_86 : decode cX11_loadRules 86 = .ok (.iload_n 1, 1) := by decide +kernel
theorem dX11_loadRules_87 : decode cX11_loadRules 87 = .ok (.iadd, 1) := by decide +kernel
theorem dX11_loadRules_88 : decode cX11_loadRules 88 = .ok (.aload_n 0, 1) := by decide +kernel
theorem dX11_loadRules_89 : decode cX11_loadRules 89 = .ok (.getfield 49, 3) := by decide +kernel
theorem dX11_loadRules_92 : decode cX11_loadRules 92 = .ok (.iload_n 1, 1) := by decide +kernel
theorem dX11_loadRules_93 : decode cX11_loadRules 93 = .ok (.iaload, 1) := by decide +kernel
theorem dX11_loadRules_94 : decode cX11_loadRules 94 = .ok (.iastore, 1) := by decide +kernel
theorem dX11_loadRules_95 : decode cX11_loadRules 95 = .ok (.iinc 1 1, 3) := by decide +kernel
theorem dX11_loadRules_98 : decode cX11_loadRules 98 = .ok (.goto (-30), 3) := by decide +kernel
theorem dX11_loadRules_101 : decode cX11_loadRules 101 = .ok (.iconst 0, 1) := by decide +kernel
theorem dX11_loadRules_102 : decode cX11_loadRules 102 = .ok (.istore_n 1, 1) := by decide +kernel
theorem dX11_loadRules_103 : decode cX11_loadRules 103 = .ok (.iload_n 1, 1) := by decide +kernel
theorem dX11_loadRules_104 : decode cX11_loadRules 104 = .ok (.iconst 2, 1) := by decide +kernel
theorem dX11_loadRules_105 : decode cX11_loadRules 105 = .ok (.aload_n 0, 1) := by decide +kernel
theorem dX11_loadRules_106 : decode cX11_loadRules 106 = .ok (.getfield 311, 3) := by decide +kernel
theorem dX11_loadRules_109 : decode cX11_loadRules 109 = .ok (.imul, 1) := by decide +kernel
theorem dX11_loadRules_110 : decode cX11_loadRules 110 = .ok (.if_icmp .ge 25, 3) := by decide +kernel
theorem dX11_loadRules_113 : decode cX11_loadRules 113 = .ok (.aload_n 0, 1) := by decide +kernel
theorem dX11_loadRules_114 : decode cX11_loadRules 114 = .ok (.getfield 7, 3) := by decide +kernel
theorem dX11_loadRules_117 : decode cX11_loadRules 117 = .ok (.sipush 486, 3) := by decide +kernel
theorem dX11_loadRules_120 : decode cX11_loadRules 120 = .ok (.iload_n 1, 1) := by decide +kernel
theorem dX11_loadRules_121 : decode cX11_loadRules 121 = .ok (.iadd, 1) := by decide +kernel
theorem dX11_loadRules_122 : decode cX11_loadRules 122 = .ok (.aload_n 0, 1) := by decide +kernel
theorem dX11_loadRules_123 : decode cX11_loadRules 123 = .ok (.getfield 52, 3) := by decide +kernel
theorem dX11_loadRules_126 : decode cX11_loadRules 126 = .ok (.iload_n 1, 1) := by decide +kernel
theorem dX11_loadRules_127 : decode cX11_loadRules 127 = .ok (.iaload, 1) := by decide +kernel
theorem dX11_loadRules_128 : decode cX11_loadRules 128 = .ok (.iastore, 1) := by decide +kernel
theorem dX11_loadRules_129 : decode cX11_loadRules 129 = .ok (.iinc 1 1, 3) := by decide +kernel
theorem dX11_loadRules_132 : decode cX11_loadRules 132 = .ok (.goto (-29), 3) := by decide +kernel
theorem dX11_loadRules_135 : decode cX11_loadRules 135 = .ok (.aload_n 0, 1) := by decide +kernel
theorem dX11_loadRules_136 : decode cX11_loadRules 136 = .ok (.getfield 7, 3) := by decide +kernel
theorem dX11_loadRules_139 : decode cX11_loadRules 139 = .ok (.bipush 15, 2) := by decide +kernel
theorem dX11_loadRules_141 : decode cX11_loadRules 141 = .ok (.aload_n 0, 1) := by decide +kernel
theorem dX11_loadRules_142 : decode cX11_loadRules 142 = .ok (.getfield 413, 3) := by decide +kernel
theorem dX11_loadRules_145 : decode cX11_loadRules 145 = .ok (.iastore, 1) := by decide +kernel
theorem dX11_loadRules_146 : decode cX11_loadRules 146 = .ok (.aload_n 0, 1) := by decide +kernel
theorem dX11_loadRules_147 : decode cX11_loadRules 147 = .ok (.getfield 413, 3) := by decide +kernel
theorem dX11_loadRules_150 : decode cX11_loadRules 150 = .ok (.ireturn, 1) := by decide +kernel
theorem dX11_errorCode_0 : decode cX11_errorCode 0 = .ok (.aload_n 0, 1) := by decide +kernel
theorem dX11_errorCode_1 : decode cX11_errorCode 1 = .ok (.getfield 298, 3) := by decide +kernel
theorem dX11_errorCode_4 : decode cX11_errorCode 4 = .ok (.ireturn, 1) := by decide +kernel
theorem dX11_errorPosition_0 : decode cX11_errorPosition 0 = .ok (.aload_n 0, 1) := by decide +kernel
theorem dX11_errorPosition_1 : decode cX11_errorPosition 1 = .ok (.getfield 45, 3) := by decide +kernel
theorem dX11_errorPosition_4 : decode cX11_errorPosition 4 = .ok (.ireturn, 1) := by decide +kernel
theorem dX11_save_0 : decode cX11_save 0 = .ok (.iload_n 1, 1) := by decide +kernel
theorem dX11_save_1 : decode cX11_save 1 = .ok (.iconst 0, 1) := by decide +kernel
theorem dX11_save_2 : decode cX11_save 2 = .ok (.iconst 1, 1) := by decide +kernel
theorem dX11_save_3 : decode cX11_save 3 = .ok (.invokestatic 67, 3) := by decide +kernel
theorem dX11_save_6 : decode cX11_save 6 = .ok (.ifCond .ne 5, 3) := by decide +kernel
theorem dX11_save_9 : decode cX11_save 9 = .ok (.iconst 0, 1) := by decide +kernel
theorem dX11_save_10 : decode cX11_save 10 = .ok (.ireturn, 1) := by decide +kernel
theorem dX11_save_11 : decode cX11_save 11 = .ok (.iconst 0, 1) := by decide +kernel
theorem dX11_save_12 : decode cX11_save 12 = .ok (.istore_n 2, 1) := by decide +kernel
theorem dX11_save_13 : decode cX11_save 13 = .ok (.iload_n 2, 1) := by decide +kernel
theorem dX11_save_14 : decode cX11_save 14 = .ok (.sipush 1486, 3) := by decide +kernel
theorem dX11_save_17 : decode cX11_save 17 = .ok (.if_icmp .ge 27, 3) := by decide +kernel
theorem dX11_save_20 : decode cX11_save 20 = .ok (.aload_n 0, 1) := by decide +kernel
theorem dX11_save_21 : decode cX11_save 21 = .ok (.getfield 16, 3) := by decide +kernel
theorem dX11_save_24 : decode cX11_save 24 = .ok (.sipush 1486, 3) := by decide +kernel
theorem dX11_save_27 : decode cX11_save 27 = .ok (.iload_n 1, 1) := by decide +kernel
theorem dX11_save_28 : decode cX11_save 28 = .ok (.imul, 1) := by decide +kernel
theorem dX11_save_29 : decode cX11_save 29 = .ok (.iload_n 2, 1) := by decide +kernel
theorem dX11_save_30 : decode cX11_save 30 = .ok (.iadd, 1) := by decide +kernel
theorem dX11_save_31 : decode cX11_save 31 = .ok (.aload_n 0, 1) := by decide +kernel
theorem dX11_save_32 : decode cX11_save 32 = .ok (.getfield 7, 3) := by decide +kernel
theorem dX11_save_35 : decode cX11_save 35 = .ok (.iload_n 2, 1) := by decide +kernel
theorem dX11_save_36 : decode cX11_save 36 = .ok (.iaload, 1) := by decide +kernel
theorem dX11_save_37 : decode cX11_save 37 = .ok (.iastore, 1) := by decide +kernel
theorem dX11_save_38 : decode cX11_save 38 = .ok (.iinc 2 1, 3) := by decide +kernel
theorem dX11_save_41 : decode cX11_save 41 = .ok (.goto (-28), 3) := by decide +kernel
theorem dX11_save_44 : decode cX11_save 44 = .ok (.iconst 0, 1) := by decide +kernel
theorem dX11_save_45 : decode cX11_save 45 = .ok (.istore_n 2, 1) := by decide +kernel
theorem dX11_save_46 : decode cX11_save 46 = .ok (.iload_n 2, 1) := by decide +kernel
theorem dX11_save_47 : decode cX11_save 47 = .ok (.iconst 3, 1) := by decide +kernel
theorem dX11_save_48 : decode cX11_save 48 = .ok (.if_icmp .ge 25, 3) := by decide +kernel
theorem dX11_save_51 : decode cX11_save 51 = .ok (.aload_n 0, 1) := by decide +kernel
theorem dX11_save_52 : decode cX11_save 52 = .ok (.getfield 26, 3) := by decide +kernel
theorem dX11_save_55 : decode cX11_save 55 = .ok (.iconst 3, 1) := by decide +kernel
theorem dX11_save_56 : decode cX11_save 56 = .ok (.iload_n 1, 1) := by decide +kernel
theorem dX11_save_57 : decode cX11_save 57 = .ok (.imul, 1) := by decide +kernel
theorem dX11_save_58 : decode cX11_save 58 = .ok (.iload_n 2, 1) := by decide +kernel
theorem dX11_save_59 : decode cX11_save 59 = .ok (.iadd, 1) := by decide +kernel
theorem dX11_save_60 : decode cX11_save 60 = .ok (.aload_n 0, 1) := by decide +kernel
theorem dX11_save_61 : decode cX11_save 61 = .ok (.getfield 19, 3) := by decide +kernel
theorem dX11_save_64 : decode cX11_save 64 = .ok (.iload_n 2, 1) := by decide +kernel
theorem dX11_save_65 : decode cX11_save 65 = .ok (.laload, 1) := by decide +kernel
theorem dX11_save_66 : decode cX11_save 66 = .ok (.lastore, 1) := by decide +kernel
theorem dX11_save_67 : decode cX11_save 67 = .ok (.iinc 2 1, 3) := by decide +kernel
theorem dX11_save_70 : decode cX11_save 70 = .ok (.goto (-24), 3) := by decide +kernel
theorem dX11_save_73 : decode cX11_save 73 = .ok (.aload_n 0, 1) := by decide +kernel
theorem dX11_save_74 : decode cX11_save 74 = .ok (.getfield 29, 3) := by decide +kernel
theorem dX11_save_77 : decode cX11_save 77 = .ok (.iload_n 1, 1) := by decide +kernel
theorem dX11_save_78 : decode cX11_save 78 = .ok (.iconst 1, 1) := by decide +kernel
theorem dX11_save_79 : decode cX11_save 79 = .ok (.bastore, 1) := by decide +kernel
theorem dX11_save_80 : decode cX11_save 80 = .ok (.iconst 1, 1) := by decide +kernel
theorem dX11_save_81 : decode cX11_save 81 = .ok (.ireturn, 1) := by decide +kernel
theorem dX11_restore_0 : decode cX11_restore 0 = .ok (.iload_n 1, 1) := by decide +kernel
theorem dX11_restore_1 : decode cX11_restore 1 = .ok (.iconst 0, 1) := by decide +kernel
theorem dX11_restore_2 : decode cX11_restore 2 = .ok (.iconst 1, 1) := by decide +kernel
theorem dX11_restore_3 : decode cX11_restore 3 = .ok (.invokestatic 67, 3) := by decide +kernel
theorem dX11_restore_6 : decode cX11_restore 6 = .ok (.ifCond .eq 12, 3) := by decide +kernel
theorem dX11_restore_9 : decode cX11_restore 9 = .ok (.aload_n 0, 1) := by decide +kernel
theorem dX11_restore_10 : decode cX11_restore 10 = .ok (.getfield 29, 3) := by decide +kernel
theorem dX11_restore_13 : decode cX11_restore 13 = .ok (.iload_n 1, 1) := by decide +kernel
theorem dX11_restore_14 : decode cX11_restore 14 = .ok (.baload, 1) := by decide +kernel
theorem dX11_restore_15 : decode cX11_restore 15 = .ok (.ifCond .ne 5, 3) := by decide +kernel
theorem dX11_restore_18 : decode cX11_restore 18 = .ok (.iconst 0, 1) := by decide +kernel
theorem dX11_restore_19 : decode cX11_restore 19 = .ok (.ireturn, 1) := by decide +kernel
theorem dX11_restore_20 : decode cX11_restore 20 = .ok (.iconst 0, 1) := by decide +kernel
theorem dX11_restore_21 : decode cX11_restore 21 = .ok (.istore_n 2, 1) := by decide +kernel
theorem dX11_restore_22 : decode cX11_restore 22 = .ok (.iload_n 2, 1) := by decide +kernel
theorem dX11_restore_23 : decode cX11_restore 23 = .ok (.sipush 1486, 3) := by decide +kernel
theorem dX11_restore_26 : decode cX11_restore 26 = .ok (.if_icmp .ge 27, 3) := by decide +kernel
theorem dX11_restore_29 : decode cX11_restore 29 = .ok (.aload_n 0, 1) := by decide +kernel
theorem dX11_restore_30 : decode cX11_restore 30 = .ok (.getfield 7, 3) := by decide +kernel
theorem dX11_restore_33 : decode cX11_restore 33 = .ok (.iload_n 2, 1) := by decide +kernel
theorem dX11_restore_34 : decode cX11_restore 34 = .ok (.aload_n 0, 1) := by decide +kernel
theorem dX11_restore_35 : decode cX11_restore 35 = .ok (.getfield 16, 3) := by decide +kernel
theorem dX11_restore_38 : decode cX11_restore 38 = .ok (.sipush 1486, 3) := by decide +kernel
theorem dX11_restore_41 : decode cX11_restore 41 = .ok (.iload_n 1, 1) := by decide +kernel
theorem dX11_restore_42 : decode cX11_restore 42 = .ok (.imul, 1) := by decide +kernel
theorem dX11_restore_43 : decode cX11_restore 43 = .ok (.iload_n 2, 1) := by decide +kernel
theorem dX11_restore_44 : decode cX11_restore 44 = .ok (.iadd, 1) := by decide +kernel
theorem dX11_restore_45 : decode cX11_restore 45 = .ok (.iaload, 1) := by decide +kernel
theorem dX11_restore_46 : decode cX11_restore 46 = .ok (.iastore, 1) := by decide +kernel
theorem dX11_restore_47 : decode cX11_restore 47 = .ok (.iinc 2 1, 3) := by decide +kernel
theorem dX11_restore_50 : decode cX11_restore 50 = .ok (.goto (-28), 3) := by decide +kernel
theorem dX11_restore_53 : decode cX11_restore 53 = .ok (.iconst 0, 1) := by decide +kernel
theorem dX11_restore_54 : decode cX11_restore 54 = .ok (.istore_n 2, 1) := by decide +kernel
theorem dX11_restore_55 : decode cX11_restore 55 = .ok (.iload_n 2, 1) := by decide +kernel
theorem dX11_restore_56 : decode cX11_restore 56 = .ok (.iconst 3, 1) := by decide +kernel
theorem dX11_restore_57 : decode cX11_restore 57 = .ok (.if_icmp .ge 25, 3) := by decide +kernel
theorem dX11_restore_60 : decode cX11_restore 60 = .ok (.aload_n 0, 1) := by decide +kernel
theorem dX11_restore_61 : decode cX11_restore 61 = .ok (.getfield 19, 3) := by decide +kernel
theorem dX11_restore_64 : decode cX11_restore 64 = .ok (.iload_n 2, 1) := by decide +kernel
theorem dX11_restore_65 : decode cX11_restore 65 = .ok (.aload_n 0, 1) := by decide +kernel
theorem dX11_restore_66 : decode cX11_restore 66 = .ok (.getfield 26, 3) := by decide +kernel
theorem dX11_restore_69 : decode cX11_restore 69 = .ok (.iconst 3, 1) := by decide +kernel
theorem dX11_restore_70 : decode cX11_restore 70 = .ok (.iload_n 1, 1) := by decide +kernel
theorem dX11_restore_71 : decode cX11_restore 71 = .ok (.imul, 1) := by decide +kernel
theorem dX11_restore_72 : decode cX11_restore 72 = .ok (.iload_n 2, 1) := by decide +kernel
theorem dX11_restore_73 : decode cX11_restore 73 = .ok (.iadd, 1) := by decide +kernel
theorem dX11_restore_74 : decode cX11_restore 74 = .ok (.laload, 1) := by decide +kernel
theorem dX11_restore_75 : decode cX11_restore 75 = .ok (.lastore, 1) := by decide +kernel
theorem dX11_restore_76 : decode cX11_restore 76 = .ok (.iinc 2 1, 3) := by decide +kernel
theorem dX11_restore_79 : decode cX11_restore 79 = .ok (.goto (-24), 3) := by decide +kernel
theorem dX11_restore_82 : decode cX11_restore 82 = .ok (.iconst 1, 1) := by decide +kernel
theorem dX11_restore_83 : decode cX11_restore 83 = .ok (.ireturn, 1) := by decide +kernel
