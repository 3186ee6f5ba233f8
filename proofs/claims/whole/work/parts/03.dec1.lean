theorem dX0_init_0 : decode cX0_init 0 = .ok (.aload_n 0, 1) := by decide +kernel
theorem dX0_init_1 : decode cX0_init 1 = .ok (.invokespecial 3, 3) := by decide +kernel
theorem dX0_init_4 : decode cX0_init 4 = .ok (.aload_n 0, 1) := by decide +kernel
theorem dX0_init_5 : decode cX0_init 5 = .ok (.sipush 676, 3) := by decide +kernel
theorem dX0_init_8 : decode cX0_init 8 = .ok (.newarray .long, 2) := by decide +kernel
theorem dX0_init_10 : decode cX0_init 10 = .ok (.putfield 9, 3) := by decide +kernel
theorem dX0_init_13 : decode cX0_init 13 = .ok (.aload_n 0, 1) := by decide +kernel
theorem dX0_init_14 : decode cX0_init 14 = .ok (.sipush 676, 3) := by decide +kernel
theorem dX0_init_17 : decode cX0_init 17 = .ok (.newarray .long, 2) := by decide +kernel
theorem dX0_init_19 : decode cX0_init 19 = .ok (.putfield 15, 3) := by decide +kernel
theorem dX0_init_22 : decode cX0_init 22 = .ok (.aload_n 0, 1) := by decide +kernel
theorem dX0_init_23 : decode cX0_init 23 = .ok (.bipush 13, 2) := by decide +kernel
theorem dX0_init_25 : decode cX0_init 25 = .ok (.newarray .boolean, 2) := by decide +kernel
theorem dX0_init_27 : decode cX0_init 27 = .ok (.putfield 18, 3) := by decide +kernel
theorem dX0_init_30 : decode cX0_init 30 = .ok (.aload_n 0, 1) := by decide +kernel
theorem dX0_init_31 : decode cX0_init 31 = .ok (.bipush 10, 2) := by decide +kernel
theorem dX0_init_33 : decode cX0_init 33 = .ok (.newarray .int, 2) := by decide +kernel
theorem dX0_init_35 : decode cX0_init 35 = .ok (.putfield 22, 3) := by decide +kernel
theorem dX0_init_38 : decode cX0_init 38 = .ok (.aload_n 0, 1) := by decide +kernel
theorem dX0_init_39 : decode cX0_init 39 = .ok (.bipush 13, 2) := by decide +kernel
theorem dX0_init_41 : decode cX0_init 41 = .ok (.newarray .long, 2) := by decide +kernel
theorem dX0_init_43 : decode cX0_init 43 = .ok (.putfield 26, 3) := by decide +kernel
theorem dX0_init_46 : decode cX0_init 46 = .ok (.aload_n 0, 1) := by decide +kernel
theorem dX0_init_47 : decode cX0_init 47 = .ok (.bipush 13, 2) := by decide +kernel
theorem dX0_init_49 : decode cX0_init 49 = .ok (.newarray .long, 2) := by decide +kernel
theorem dX0_init_51 : decode cX0_init 51 = .ok (.putfield 29, 3) := by decide +kernel
theorem dX0_init_54 : decode cX0_init 54 = .ok (.return_, 1) := by decide +kernel
theorem dX0_isNode_0 : decode cX0_isNode 0 = .ok (.iload_n 1, 1) := by decide +kernel
theorem dX0_isNode_1 : decode cX0_isNode 1 = .ok (.ifCond .lt 15, 3) := by decide +kernel
theorem dX0_isNode_4 : decode cX0_isNode 4 = .ok (.iload_n 1, 1) := by decide +kernel
theorem dX0_isNode_5 : decode cX0_isNode 5 = .ok (.aload_n 0, 1) := by decide +kernel
theorem dX0_isNode_6 : decode cX0_isNode 6 = .ok (.getfield 32, 3) := by decide +kernel
theorem dX0_isNode_9 : decode cX0_isNode 9 = .ok (.if_icmp .ge 7, 3) := by decide +kernel
theorem dX0_isNode_12 : decode cX0_isNode 12 = .ok (.iconst 1, 1) := by decide +kernel
theorem dX0_isNode_13 : decode cX0_isNode 13 = .ok (.goto 4, 3) := by decide +kernel
theorem dX0_isNode_16 : decode cX0_isNode 16 = .ok (.iconst 0, 1) := by decide +kernel
theorem dX0_isNode_17 : decode cX0_isNode 17 = .ok (.ireturn, 1) := by decide +kernel
theorem dX0_build_0 : decode cX0_build 0 = .ok (.aload_n 0, 1) := by decide +kernel
theorem dX0_build_1 : decode cX0_build 1 = .ok (.iload_n 2, 1) := by decide +kernel
theorem dX0_build_2 : decode cX0_build 2 = .ok (.iconst 2, 1) := by decide +kernel
theorem dX0_build_3 : decode cX0_build 3 = .ok (.if_icmp .ne 7, 3) := by decide +kernel
theorem dX0_build_6 : decode cX0_build 6 = .ok (.iconst 1, 1) := by decide +kernel
theorem dX0_build_7 : decode cX0_build 7 = .ok (.goto 4, 3) := by decide +kernel
theorem dX0_build_10 : decode cX0_build 10 = .ok (.iconst 0, 1) := by decide +kernel
theorem dX0_build_11 : decode cX0_build 11 = .ok (.putfield 36, 3) := by decide +kernel
theorem dX0_build_14 : decode cX0_build 14 = .ok (.iconst 0, 1) := by decide +kernel
theorem dX0_build_15 : decode cX0_build 15 = .ok (.istore 5, 2) := by decide +kernel
theorem dX0_build_17 : decode cX0_build 17 = .ok (.iload 5, 2) := by decide +kernel
theorem dX0_build_19 : decode cX0_build 19 = .ok (.aload_n 1, 1) := by decide +kernel
theorem dX0_build_20 : decode cX0_build 20 = .ok (.getfield 40, 3) := by decide +kernel
theorem dX0_build_23 : decode cX0_build 23 = .ok (.if_icmp .ge 53, 3) := by decide +kernel
theorem dX0_build_26 : decode cX0_build 26 = .ok (.iload 5, 2) := by decide +kernel
theorem dX0_build_28 : decode cX0_build 28 = .ok (.iload_n 3, 1) := by decide +kernel
theorem dX0_build_29 : decode cX0_build 29 = .ok (.if_icmp .ne 8, 3) := by decide +kernel
theorem dX0_build_32 : decode cX0_build 32 = .ok (.iload 4, 2) := by decide +kernel
theorem dX0_build_34 : decode cX0_build 34 = .ok (.goto 10, 3) := by decide +kernel
theorem dX0_build_37 : decode cX0_build 37 = .ok (.aload_n 1, 1) := by decide +kernel
theorem dX0_build_38 : decode cX0_build 38 = .ok (.getfield 45, 3) := by decide +kernel
theorem dX0_build_41 : decode cX0_build 41 = .ok (.iload 5, 2) := by decide +kernel
theorem dX0_build_43 : decode cX0_build 43 = .ok (.iaload, 1) := by decide +kernel
theorem dX0_build_44 : decode cX0_build 44 = .ok (.istore 6, 2) := by decide +kernel
theorem dX0_build_46 : decode cX0_build 46 = .ok (.aload_n 0, 1) := by decide +kernel
theorem dX0_build_47 : decode cX0_build 47 = .ok (.getfield 22, 3) := by decide +kernel
theorem dX0_build_50 : decode cX0_build 50 = .ok (.iload 5, 2) := by decide +kernel
theorem dX0_build_52 : decode cX0_build 52 = .ok (.iload_n 2, 1) := by decide +kernel
theorem dX0_build_53 : decode cX0_build 53 = .ok (.iconst 1, 1) := by decide +kernel
theorem dX0_build_54 : decode cX0_build 54 = .ok (.if_icmp .ne 13, 3) := by decide +kernel
theorem dX0_build_57 : decode cX0_build 57 = .ok (.iload 6, 2) := by decide +kernel
theorem dX0_build_59 : decode cX0_build 59 = .ok (.iconst (-1), 1) := by decide +kernel
theorem dX0_build_60 : decode cX0_build 60 = .ok (.if_icmp .eq 7, 3) := by decide +kernel
theorem dX0_build_63 : decode cX0_build 63 = .ok (.iconst 1, 1) := by decide +kernel
theorem dX0_build_64 : decode cX0_build 64 = .ok (.goto 5, 3) := by decide +kernel
theorem dX0_build_67 : decode cX0_build 67 = .ok (.iload 6, 2) := by decide +kernel
theorem dX0_build_69 : decode cX0_build 69 = .ok (.iastore, 1) := by decide +kernel
theorem dX0_build_70 : decode cX0_build 70 = .ok (.iinc 5 1, 3) := by decide +kernel
theorem dX0_build_73 : decode cX0_build 73 = .ok (.goto (-56), 3) := by decide +kernel
theorem dX0_build_76 : decode cX0_build 76 = .ok (.aload_n 0, 1) := by decide +kernel
theorem dX0_build_77 : decode cX0_build 77 = .ok (.aload_n 1, 1) := by decide +kernel
theorem dX0_build_78 : decode cX0_build 78 = .ok (.invokevirtual 48, 3) := by decide +kernel
theorem dX0_build_81 : decode cX0_build 81 = .ok (.aload_n 0, 1) := by decide +kernel
theorem dX0_build_82 : decode cX0_build 82 = .ok (.aload_n 0, 1) := by decide +kernel
theorem dX0_build_83 : decode cX0_build 83 = .ok (.invokevirtual 52, 3) := by decide +kernel
theorem dX0_build_86 : decode cX0_build 86 = .ok (.putfield 56, 3) := by decide +kernel
theorem dX0_build_89 : decode cX0_build 89 = .ok (.aload_n 0, 1) := by decide +kernel
theorem dX0_build_90 : decode cX0_build 90 = .ok (.getfield 9, 3) := by decide +kernel
theorem dX0_build_93 : decode cX0_build 93 = .ok (.iconst 0, 1) := by decide +kernel
theorem dX0_build_94 : decode cX0_build 94 = .ok (.aload_n 0, 1) := by decide +kernel
theorem dX0_build_95 : decode cX0_build 95 = .ok (.getfield 15, 3) := by decide +kernel
theorem dX0_build_98 : decode cX0_build 98 = .ok (.iconst 0, 1) := by decide +kernel
theorem dX0_build_99 : decode cX0_build 99 = .ok (.aload_n 0, 1) := by decide +kernel
theorem dX0_build_100 : decode cX0_build 100 = .ok (.getfield 9, 3) := by decide +kernel
theorem dX0_build_103 : decode cX0_build 103 = .ok (.arraylength, 1) := by decide +kernel
theorem dX0_build_104 : decode cX0_build 104 = .ok (.invokestatic 59, 3) := by decide +kernel
theorem dX0_build_107 : decode cX0_build 107 = .ok (.aload_n 0, 1) := by decide +kernel
theorem dX0_build_108 : decode cX0_build 108 = .ok (.iconst 0, 1) := by decide +kernel
theorem dX0_build_109 : decode cX0_build 109 = .ok (.putfield 65, 3) := by decide +kernel
theorem dX0_build_112 : decode cX0_build 112 = .ok (.iconst 0, 1) := by decide +kernel
theorem dX0_build_113 : decode cX0_build 113 = .ok (.istore 5, 2) := by decide +kernel
theorem dX0_build_115 : decode cX0_build 115 = .ok (.iload 5, 2) := by decide +kernel
theorem dX0_build_117 : decode cX0_build 117 = .ok (.sipush 1000, 3) := by decide +kernel
theorem dX0_build_120 : decode cX0_build 120 = .ok (.if_icmp .ge 49, 3) := by decide +kernel
theorem dX0_build_123 : decode cX0_build 123 = .ok (.aload_n 0, 1) := by decide +kernel
theorem dX0_build_124 : decode cX0_build 124 = .ok (.aload_n 1, 1) := by decide +kernel
theorem dX0_build_125 : decode cX0_build 125 = .ok (.invokevirtual 68, 3) := by decide +kernel
theorem dX0_build_128 : decode cX0_build 128 = .ok (.ifCond .eq 41, 3) := by decide +kernel
theorem dX0_build_131 : decode cX0_build 131 = .ok (.aload_n 0, 1) := by decide +kernel
theorem dX0_build_132 : decode cX0_build 132 = .ok (.dup, 1) := by decide +kernel
theorem dX0_build_133 : decode cX0_build 133 = .ok (.getfield 65, 3) := by decide +kernel
theorem dX0_build_136 : decode cX0_build 136 = .ok (.iconst 1, 1) := by decide +kernel
theorem dX0_build_137 : decode cX0_build 137 = .ok (.iadd, 1) := by decide +kernel
theorem dX0_build_138 : decode cX0_build 138 = .ok (.putfield 65, 3) := by decide +kernel
theorem dX0_build_141 : decode cX0_build 141 = .ok (.aload_n 0, 1) := by decide +kernel
theorem dX0_build_142 : decode cX0_build 142 = .ok (.getfield 9, 3) := by decide +kernel
theorem dX0_build_145 : decode cX0_build 145 = .ok (.iconst 0, 1) := by decide +kernel
theorem dX0_build_146 : decode cX0_build 146 = .ok (.aload_n 0, 1) := by decide +kernel
theorem dX0_build_147 : decode cX0_build 147 = .ok (.getfield 15, 3) := by decide +kernel
theorem dX0_build_150 : decode cX0_build 150 = .ok (.iconst 0, 1) := by decide +kernel
theorem dX0_build_151 : decode cX0_build 151 = .ok (.aload_n 1, 1) := by decide +kernel
theorem dX0_build_152 : decode cX0_build 152 = .ok (.getfield 72, 3) := by decide +kernel
theorem dX0_build_155 : decode cX0_build 155 = .ok (.iconst 4, 1) := by decide +kernel
theorem dX0_build_156 : decode cX0_build 156 = .ok (.imul, 1) := by decide +kernel
theorem dX0_build_157 : decode cX0_build 157 = .ok (.bipush 13, 2) := by decide +kernel
theorem dX0_build_159 : decode cX0_build 159 = .ok (.imul, 1) := by decide +kernel
theorem dX0_build_160 : decode cX0_build 160 = .ok (.invokestatic 59, 3) := by decide +kernel
theorem dX0_build_163 : decode cX0_build 163 = .ok (.iinc 5 1, 3) := by decide +kernel
theorem dX0_build_166 : decode cX0_build 166 = .ok (.goto (-51), 3) := by decide +kernel
theorem dX0_build_169 : decode cX0_build 169 = .ok (.aload_n 0, 1) := by decide +kernel
theorem dX0_build_170 : decode cX0_build 170 = .ok (.aload_n 0, 1) := by decide +kernel
theorem dX0_build_171 : decode cX0_build 171 = .ok (.invokevirtual 52, 3) := by decide +kernel
theorem dX0_build_174 : decode cX0_build 174 = .ok (.putfield 75, 3) := by decide +kernel
theorem dX0_build_177 : decode cX0_build 177 = .ok (.return_, 1) := by decide +kernel
theorem dX0_layTargets_0 : decode cX0_layTargets 0 = .ok (.aload_n 1, 1) := by decide +kernel
theorem dX0_layTargets_1 : decode cX0_layTargets 1 = .ok (.getfield 72, 3) := by decide +kernel
theorem dX0_layTargets_4 : decode cX0_layTargets 4 = .ok (.istore_n 2, 1) := by decide +kernel
theorem dX0_layTargets_5 : decode cX0_layTargets 5 = .ok (.iload_n 2, 1) := by decide +kernel
theorem dX0_layTargets_6 : decode cX0_layTargets 6 = .ok (.iconst 1, 1) := by decide +kernel
theorem dX0_layTargets_7 : decode cX0_layTargets 7 = .ok (.iadd, 1) := by decide +kernel
theorem dX0_layTargets_8 : decode cX0_layTargets 8 = .ok (.istore_n 3, 1) := by decide +kernel
theorem dX0_layTargets_9 : decode cX0_layTargets 9 = .ok (.aload_n 0, 1) := by decide +kernel
theorem dX0_layTargets_10 : decode cX0_layTargets 10 = .ok (.iload_n 3, 1) := by decide +kernel
theorem dX0_layTargets_11 : decode cX0_layTargets 11 = .ok (.iconst 1, 1) := by decide +kernel
theorem dX0_layTargets_12 : decode cX0_layTargets 12 = .ok (.iadd, 1) := by decide +kernel
theorem dX0_layTargets_13 : decode cX0_layTargets 13 = .ok (.putfield 32, 3) := by decide +kernel
theorem dX0_layTargets_16 : decode cX0_layTargets 16 = .ok (.iconst 0, 1) := by decide +kernel
theorem dX0_layTargets_17 : decode cX0_layTargets 17 = .ok (.istore 4, 2) := by decide +kernel
theorem dX0_layTargets_19 : decode cX0_layTargets 19 = .ok (.iload 4, 2) := by decide +kernel
theorem dX0_layTargets_21 : decode cX0_layTargets 21 = .ok (.aload_n 0, 1) := by decide +kernel
theorem dX0_layTargets_22 : decode cX0_layTargets 22 = .ok (.getfield 9, 3) := by decide +kernel
theorem dX0_layTargets_25 : decode cX0_layTargets 25 = .ok (.arraylength, 1) := by decide +kernel
theorem dX0_layTargets_26 : decode cX0_layTargets 26 = .ok (.if_icmp .ge 19, 3) := by decide +kernel
theorem dX0_layTargets_29 : decode cX0_layTargets 29 = .ok (.aload_n 0, 1) := by decide +kernel
theorem dX0_layTargets_30 : decode cX0_layTargets 30 = .ok (.getfield 9, 3) := by decide +kernel
theorem dX0_layTargets_33 : decode cX0_layTargets 33 = .ok (.iload 4, 2) := by decide +kernel
theorem dX0_layTargets_35 : decode cX0_layTargets 35 = .ok (.ldc2_w 78, 3) := by decide +kernel
theorem dX0_layTargets_38 : decode cX0_layTargets 38 = .ok (.lastore, 1) := by decide +kernel
theorem dX0_layTargets_39 : decode cX0_layTargets 39 = .ok (.iinc 4 1, 3) := by decide +kernel
theorem dX0_layTargets_42 : decode cX0_layTargets 42 = .ok (.goto (-23), 3) := by decide +kernel
theorem dX0_layTargets_45 : decode cX0_layTargets 45 = .ok (.iconst 0, 1) := by decide +kernel
theorem dX0_layTargets_46 : decode cX0_layTargets 46 = .ok (.istore 4, 2) := by decide +kernel
theorem dX0_layTargets_48 : decode cX0_layTargets 48 = .ok (.iload 4, 2) := by decide +kernel
theorem dX0_layTargets_50 : decode cX0_layTargets 50 = .ok (.bipush 13, 2) := by decide +kernel
theorem dX0_layTargets_52 : decode cX0_layTargets 52 = .ok (.if_icmp .ge 33, 3) := by decide +kernel
theorem dX0_layTargets_55 : decode cX0_layTargets 55 = .ok (.aload_n 0, 1) := by decide +kernel
theorem dX0_layTargets_56 : decode cX0_layTargets 56 = .ok (.getfield 18, 3) := by decide +kernel
theorem dX0_layTargets_59 : decode cX0_layTargets 59 = .ok (.iload 4, 2) := by decide +kernel
theorem dX0_layTargets_61 : decode cX0_layTargets 61 = .ok (.iload 4, 2) := by decide +kernel
theorem dX0_layTargets_63 : decode cX0_layTargets 63 = .ok (.iload_n 2, 1) := by decide +kernel
theorem dX0_layTargets_64 : decode cX0_layTargets 64 = .ok (.if_icmp .eq 9, 3) := by decide +kernel
theorem dX0_layTargets_67 : decode cX0_layTargets 67 = .ok (.iload 4, 2) := by decide +kernel
theorem dX0_layTargets_69 : decode cX0_layTargets 69 = .ok (.iload_n 3, 1) := by decide +kernel
theorem dX0_layTargets_70 : decode cX0_layTargets 70 = .ok (.if_icmp .ne 7, 3) := by decide +kernel
theorem dX0_layTargets_73 : decode cX0_layTargets 73 = .ok (.iconst 1, 1) := by decide +kernel
theorem dX0_layTargets_74 : decode cX0_layTargets 74 = .ok (.goto 4, 3) := by decide +kernel
theorem dX0_layTargets_77 : decode cX0_layTargets 77 = .ok (.iconst 0, 1) := by decide +kernel
theorem dX0_layTargets_78 : decode cX0_layTargets 78 = .ok (.bastore, 1) := by decide +kernel
theorem dX0_layTargets_79 : decode cX0_layTargets 79 = .ok (.iinc 4 1, 3) := by decide +kernel
theorem dX0_layTargets_82 : decode cX0_layTargets 82 = .ok (.goto (-34), 3) := by decide +kernel
theorem dX0_layTargets_85 : decode cX0_layTargets 85 = .ok (.aload_n 0, 1) := by decide +kernel
theorem dX0_layTargets_86 : decode cX0_layTargets 86 = .ok (.iload_n 3, 1) := by decide +kernel
theorem dX0_layTargets_87 : decode cX0_layTargets 87 = .ok (.iload_n 3, 1) := by decide +kernel
theorem dX0_layTargets_88 : decode cX0_layTargets 88 = .ok (.invokevirtual 80, 3) := by decide +kernel
theorem dX0_layTargets_91 : decode cX0_layTargets 91 = .ok (.iconst 0, 1) := by decide +kernel
theorem dX0_layTargets_92 : decode cX0_layTargets 92 = .ok (.istore 4, 2) := by decide +kernel
theorem dX0_layTargets_94 : decode cX0_layTargets 94 = .ok (.iload 4, 2) := by decide +kernel
theorem dX0_layTargets_96 : decode cX0_layTargets 96 = .ok (.aload_n 1, 1) := by decide +kernel
theorem dX0_layTargets_97 : decode cX0_layTargets 97 = .ok (.getfield 84, 3) := by decide +kernel
theorem dX0_layTargets_100 : decode cX0_layTargets 100 = .ok (.if_icmp .ge 148, 3) := by decide +kernel
theorem dX0_layTargets_103 : decode cX0_layTargets 103 = .ok (.aload_n 1, 1) := by decide +kernel
theorem dX0_layTargets_104 : decode cX0_layTargets 104 = .ok (.getfield 87, 3) := by decide +kernel
theorem dX0_layTargets_107 : decode cX0_layTargets 107 = .ok (.iload 4, 2) := by decide +kernel
theorem dX0_layTargets_109 : decode cX0_layTargets 109 = .ok (.baload, 1) := by decide +kernel
theorem dX0_layTargets_110 : decode cX0_layTargets 110 = .ok (.ifCond .eq 7, 3) := by decide +kernel
theorem dX0_layTargets_113 : decode cX0_layTargets 113 = .ok (.iload_n 3, 1) := by decide +kernel
theorem dX0_layTargets_114 : decode cX0_layTargets 114 = .ok (.goto 4, 3) := by decide +kernel
theorem dX0_layTargets_117 : decode cX0_layTargets 117 = .ok (.iload_n 2, 1) := by decide +kernel
theorem dX0_layTargets_118 : decode cX0_layTargets 118 = .ok (.istore 5, 2) := by decide +kernel
theorem dX0_layTargets_120 : decode cX0_layTargets 120 = .ok (.aload_n 1, 1) := by decide +kernel
theorem dX0_layTargets_121 : decode cX0_layTargets 121 = .ok (.getfield 90, 3) := by decide +kernel
theorem dX0_layTargets_124 : decode cX0_layTargets 124 = .ok (.iload 4, 2) := by decide +kernel
theorem dX0_layTargets_126 : decode cX0_layTargets 126 = .ok (.iaload, 1) := by decide +kernel
theorem dX0_layTargets_127 : decode cX0_layTargets 127 = .ok (.istore 6, 2) := by decide +kernel
theorem dX0_layTargets_129 : decode cX0_layTargets 129 = .ok (.aload_n 1, 1) := by decide +kernel
theorem dX0_layTargets_130 : decode cX0_layTargets 130 = .ok (.getfield 93, 3) := by decide +kernel
theorem dX0_layTargets_133 : decode cX0_layTargets 133 = .ok (.iload 4, 2) := by decide +kernel
theorem dX0_layTargets_135 : decode cX0_layTargets 135 = .ok (.iaload, 1) := by decide +kernel
theorem dX0_layTargets_136 : decode cX0_layTargets 136 = .ok (.istore 7, 2) := by decide +kernel
theorem dX0_layTargets_138 : decode cX0_layTargets 138 = .ok (.iload 6, 2) := by decide +kernel
theorem dX0_layTargets_140 : decode cX0_layTargets 140 = .ok (.ifCond .ne 28, 3) := by decide +kernel
theorem dX0_layTargets_143 : decode cX0_layTargets 143 = .ok (.aload_n 0, 1) := by decide +kernel
theorem dX0_layTargets_144 : decode cX0_layTargets 144 = .ok (.getfield 18, 3) := by decide +kernel
theorem dX0_layTargets_147 : decode cX0_layTargets 147 = .ok (.iload 7, 2) := by decide +kernel
theorem dX0_layTargets_149 : decode cX0_layTargets 149 = .ok (.iconst 1, 1) := by decide +kernel
theorem dX0_layTargets_150 : decode cX0_layTargets 150 = .ok (.bastore, 1) := by decide +kernel
theorem dX0_layTargets_151 : decode cX0_layTargets 151 = .ok (.aload_n 1, 1) := by decide +kernel
theorem dX0_layTargets_152 : decode cX0_layTargets 152 = .ok (.getfield 87, 3) := by decide +kernel
theorem dX0_layTargets_155 : decode cX0_layTargets 155 = .ok (.iload 4, 2) := by decide +kernel
theorem dX0_layTargets_157 : decode cX0_layTargets 157 = .ok (.baload, 1) := by decide +kernel
theorem dX0_layTargets_158 : decode cX0_layTargets 158 = .ok (.ifCond .eq 10, 3) := by decide +kernel
theorem dX0_layTargets_161 : decode cX0_layTargets 161 = .ok (.aload_n 0, 1) := by decide +kernel
theorem dX0_layTargets_162 : decode cX0_layTargets 162 = .ok (.iload 7, 2) := by decide +kernel
theorem dX0_layTargets_164 : decode cX0_layTargets 164 = .ok (.iload_n 3, 1) := by decide +kernel
theorem dX0_layTargets_165 : decode cX0_layTargets 165 = .ok (.invokevirtual 80, 3) := by decide +kernel
theorem dX0_layTargets_168 : decode cX0_layTargets 168 = .ok (.iconst 0, 1) := by decide +kernel
theorem dX0_layTargets_169 : decode cX0_layTargets 169 = .ok (.istore 8, 2) := by decide +kernel
theorem dX0_layTargets_171 : decode cX0_layTargets 171 = .ok (.iload 8, 2) := by decide +kernel
theorem dX0_layTargets_173 : decode cX0_layTargets 173 = .ok (.iload 6, 2) := by decide +kernel
theorem dX0_layTargets_175 : decode cX0_layTargets 175 = .ok (.if_icmp .ge 67, 3) := by decide +kernel
theorem dX0_layTargets_178 : decode cX0_layTargets 178 = .ok (.iload 5, 2) := by decide +kernel
theorem dX0_layTargets_180 : decode cX0_layTargets 180 = .ok (.istore 9, 2) := by decide +kernel
theorem dX0_layTargets_182 : decode cX0_layTargets 182 = .ok (.iload 8, 2) := by decide +kernel
theorem dX0_layTargets_184 : decode cX0_layTargets 184 = .ok (.iload 6, 2) := by decide +kernel
theorem dX0_layTargets_186 : decode cX0_layTargets 186 = .ok (.iconst 1, 1) := by decide +kernel
theorem dX0_layTargets_187 : decode cX0_layTargets 187 = .ok (.isub, 1) := by decide +kernel
theorem dX0_layTargets_188 : decode cX0_layTargets 188 = .ok (.if_icmp .ge 19, 3) := by decide +kernel
theorem dX0_layTargets_191 : decode cX0_layTargets 191 = .ok (.aload_n 0, 1) := by decide +kernel
theorem dX0_layTargets_192 : decode cX0_layTargets 192 = .ok (.getfield 32, 3) := by decide +kernel
theorem dX0_layTargets_195 : decode cX0_layTargets 195 = .ok (.istore 9, 2) := by decide +kernel
theorem dX0_layTargets_197 : decode cX0_layTargets 197 = .ok (.aload_n 0, 1) := by decide +kernel
theorem dX0_layTargets_198 : decode cX0_layTargets 198 = .ok (.dup, 1) := by decide +kernel
theorem dX0_layTargets_199 : decode cX0_layTargets 199 = .ok (.getfield 32, 3) := by decide +kernel
theorem dX0_layTargets_202 : decode cX0_layTargets 202 = .ok (.iconst 1, 1) := by decide +kernel
theorem dX0_layTargets_203 : decode cX0_layTargets 203 = .ok (.iadd, 1) := by decide +kernel
theorem dX0_layTargets_204 : decode cX0_layTargets 204 = .ok (.putfield 32, 3) := by decide +kernel
theorem dX0_layTargets_207 : decode cX0_layTargets 207 = .ok (.aload_n 0, 1) := by decide +kernel
theorem dX0_layTargets_208 : decode cX0_layTargets 208 = .ok (.getfield 9, 3) := by decide +kernel
theorem dX0_layTargets_211 : decode cX0_layTargets 211 = .ok (.iload 7, 2) := by decide +kernel
theorem dX0_layTargets_213 : decode cX0_layTargets 213 = .ok (.aload_n 1, 1) := by decide +kernel
theorem dX0_layTargets_214 : decode cX0_layTargets 214 = .ok (.getfield 96, 3) := by decide +kernel
theorem dX0_layTargets_217 : decode cX0_layTargets 217 = .ok (.iload 4, 2) := by decide +kernel
theorem dX0_layTargets_219 : decode cX0_layTargets 219 = .ok (.iconst 3, 1) := by decide +kernel
theorem dX0_layTargets_220 : decode cX0_layTargets 220 = .ok (.imul, 1) := by decide +kernel
theorem dX0_layTargets_221 : decode cX0_layTargets 221 = .ok (.iload 8, 2) := by decide +kernel
theorem dX0_layTargets_223 : decode cX0_layTargets 223 = .ok (.iadd, 1) := by decide +kernel
theorem dX0_layTargets_224 : decode cX0_layTargets 224 = .ok (.iaload, 1) := by decide +kernel
theorem dX0_layTargets_225 : decode cX0_layTargets 225 = .ok (.iload 9, 2) := by decide +kernel
theorem dX0_layTargets_227 : decode cX0_layTargets 227 = .ok (.invokestatic 99, 3) := by decide +kernel
theorem dX0_layTargets_230 : decode cX0_layTargets 230 = .ok (.lconst 0, 1) := by decide +kernel
theorem dX0_layTargets_231 : decode cX0_layTargets 231 = .ok (.lastore, 1) := by decide +kernel
theorem dX0_layTargets_232 : decode cX0_layTargets 232 = .ok (.iload 9, 2) := by decide +kernel
theorem dX0_layTargets_234 : decode cX0_layTargets 234 = .ok (.istore 7, 2) := by decide +kernel
theorem dX0_layTargets_236 : decode cX0_layTargets 236 = .ok (.iinc 8 1, 3) := by decide +kernel
theorem dX0_layTargets_239 : decode cX0_layTargets 239 = .ok (.goto (-68), 3) := by decide +kernel
theorem dX0_layTargets_242 : decode cX0_layTargets 242 = .ok (.iinc 4 1, 3) := by decide +kernel
theorem dX0_layTargets_245 : decode cX0_layTargets 245 = .ok (.goto (-151), 3) := by decide +kernel
theorem dX0_layTargets_248 : decode cX0_layTargets 248 = .ok (.return_, 1) := by decide +kernel
theorem dX0_layAnyLetter_0 : decode cX0_layAnyLetter 0 = .ok (.iconst 0, 1) := by decide +kernel
theorem dX0_layAnyLetter_1 : decode cX0_layAnyLetter 1 = .ok (.istore_n 3, 1) := by decide +kernel
theorem dX0_layAnyLetter_2 : decode cX0_layAnyLetter 2 = .ok (.iload_n 3, 1) := by decide +kernel
theorem dX0_layAnyLetter_3 : decode cX0_layAnyLetter 3 = .ok (.iconst 4, 1) := by decide +kernel
theorem dX0_layAnyLetter_4 : decode cX0_layAnyLetter 4 = .ok (.if_icmp .ge 21, 3) := by decide +kernel
theorem dX0_layAnyLetter_7 : decode cX0_layAnyLetter 7 = .ok (.aload_n 0, 1) := by decide +kernel
theorem dX0_layAnyLetter_8 : decode cX0_layAnyLetter 8 = .ok (.getfield 9, 3) := by decide +kernel
theorem dX0_layAnyLetter_11 : decode cX0_layAnyLetter 11 = .ok (.iload_n 1, 1) := by decide +kernel
theorem dX0_layAnyLetter_12 : decode cX0_layAnyLetter 12 = .ok (.iload_n 3, 1) := by decide +kernel
theorem dX0_layAnyLetter_13 : decode cX0_layAnyLetter 13 = .ok (.iload_n 2, 1) := by decide +kernel
theorem dX0_layAnyLetter_14 : decode cX0_layAnyLetter 14 = .ok (.invokestatic 99, 3) := by decide +kernel
theorem dX0_layAnyLetter_17 : decode cX0_layAnyLetter 17 = .ok (.lconst 0, 1) := by decide +kernel
theorem dX0_layAnyLetter_18 : decode cX0_layAnyLetter 18 = .ok (.lastore, 1) := by decide +kernel
theorem dX0_layAnyLetter_19 : decode cX0_layAnyLetter 19 = .ok (.iinc 3 1, 3) := by decide +kernel
theorem dX0_layAnyLetter_22 : decode cX0_layAnyLetter 22 = .ok (.goto (-20), 3) := by decide +kernel
theorem dX0_layAnyLetter_25 : decode cX0_layAnyLetter 25 = .ok (.return_, 1) := by decide +kernel
theorem dX0_countEdges_0 : decode cX0_countEdges 0 = .ok (.iconst 0, 1) := by decide +kernel
theorem dX0_countEdges_1 : decode cX0_countEdges 1 = .ok (.istore_n 1, 1) := by decide +kernel
theorem dX0_countEdges_2 : decode cX0_countEdges 2 = .ok (.iconst 0, 1) := by decide +kernel
theorem dX0_countEdges_3 : decode cX0_countEdges 3 = .ok (.istore_n 2, 1) := by decide +kernel
theorem dX0_countEdges_4 : decode cX0_countEdges 4 = .ok (.iload_n 2, 1) := by decide +kernel
theorem dX0_countEdges_5 : decode cX0_countEdges 5 = .ok (.aload_n 0, 1) := by decide +kernel
theorem dX0_countEdges_6 : decode cX0_countEdges 6 = .ok (.getfield 9, 3) := by decide +kernel
theorem dX0_countEdges_9 : decode cX0_countEdges 9 = .ok (.arraylength, 1) := by decide +kernel
theorem dX0_countEdges_10 : decode cX0_countEdges 10 = .ok (.if_icmp .ge 25, 3) := by decide +kernel
theorem dX0_countEdges_13 : decode cX0_countEdges 13 = .ok (.aload_n 0, 1) := by decide +kernel
theorem dX0_countEdges_14 : decode cX0_countEdges 14 = .ok (.getfield 9, 3) := by decide +kernel
theorem dX0_countEdges_17 : decode cX0_countEdges 17 = .ok (.iload_n 2, 1) := by decide +kernel
theorem dX0_countEdges_18 : decode cX0_countEdges 18 = .ok (.laload, 1) := by decide +kernel
theorem dX0_countEdges_19 : decode cX0_countEdges 19 = .ok (.ldc2_w 78, 3) := by decide +kernel
theorem dX0_countEdges_22 : decode cX0_countEdges 22 = .ok (.lcmp, 1) := by decide +kernel
theorem dX0_countEdges_23 : decode cX0_countEdges 23 = .ok (.ifCond .ge 6, 3) := by decide +kernel
theorem dX0_countEdges_26 : decode cX0_countEdges 26 = .ok (.iinc 1 1, 3) := by decide +kernel
theorem dX0_countEdges_29 : decode cX0_countEdges 29 = .ok (.iinc 2 1, 3) := by decide +kernel
theorem dX0_countEdges_32 : decode cX0_countEdges 32 = .ok (.goto (-28), 3) := by decide +kernel
theorem dX0_countEdges_35 : decode cX0_countEdges 35 = .ok (.iload_n 1, 1) := by decide +kernel
theorem dX0_countEdges_36 : decode cX0_countEdges 36 = .ok (.ireturn, 1) := by decide +kernel
theorem dX0_playRound_0 : decode cX0_playRound 0 = .ok (.iconst 0, 1) := by decide +kernel
theorem dX0_playRound_1 : decode cX0_playRound 1 = .ok (.istore_n 2, 1) := by decide +kernel
theorem dX0_playRound_2 : decode cX0_playRound 2 = .ok (.iconst 0, 1) := by decide +kernel
theorem dX0_playRound_3 : decode cX0_playRound 3 = .ok (.istore_n 3, 1) := by decide +kernel
theorem dX0_playRound_4 : decode cX0_playRound 4 = .ok (.iload_n 3, 1) := by decide +kernel
theorem dX0_playRound_5 : decode cX0_playRound 5 = .ok (.aload_n 1, 1) := by decide +kernel
theorem dX0_playRound_6 : decode cX0_playRound 6 = .ok (.getfield 40, 3) := by decide +kernel
theorem dX0_playRound_9 : decode cX0_playRound 9 = .ok (.if_icmp .ge 101, 3) := by decide +kernel
theorem dX0_playRound_12 : decode cX0_playRound 12 = .ok (.aload_n 0, 1) := by decide +kernel
theorem dX0_playRound_13 : decode cX0_playRound 13 = .ok (.getfield 22, 3) := by decide +kernel
theorem dX0_playRound_16 : decode cX0_playRound 16 = .ok (.iload_n 3, 1) := by decide +kernel
theorem dX0_playRound_17 : decode cX0_playRound 17 = .ok (.iaload, 1) := by decide +kernel
theorem dX0_playRound_18 : decode cX0_playRound 18 = .ok (.iconst (-1), 1) := by decide +kernel
theorem dX0_playRound_19 : decode cX0_playRound 19 = .ok (.if_icmp .eq 85, 3) := by decide +kernel
theorem dX0_playRound_22 : decode cX0_playRound 22 = .ok (.aload_n 0, 1) := by decide +kernel
theorem dX0_playRound_23 : decode cX0_playRound 23 = .ok (.aload_n 1, 1) := by decide +kernel
theorem dX0_playRound_24 : decode cX0_playRound 24 = .ok (.getfield 103, 3) := by decide +kernel
theorem dX0_playRound_27 : decode cX0_playRound 27 = .ok (.iload_n 3, 1) := by decide +kernel
theorem dX0_playRound_28 : decode cX0_playRound 28 = .ok (.iaload, 1) := by decide +kernel
theorem dX0_playRound_29 : decode cX0_playRound 29 = .ok (.invokevirtual 106, 3) := by decide +kernel
theorem dX0_playRound_32 : decode cX0_playRound 32 = .ok (.aload_n 1, 1) := by decide +kernel
theorem dX0_playRound_33 : decode cX0_playRound 33 = .ok (.getfield 110, 3) := by decide +kernel
theorem dX0_playRound_36 : decode cX0_playRound 36 = .ok (.iload_n 3, 1) := by decide +kernel
theorem dX0_playRound_37 : decode cX0_playRound 37 = .ok (.iaload, 1) := by decide +kernel
theorem dX0_playRound_38 : decode cX0_playRound 38 = .ok (.istore 4, 2) := by decide +kernel
theorem dX0_playRound_40 : decode cX0_playRound 40 = .ok (.iload 4, 2) := by decide +kernel
theorem dX0_playRound_42 : decode cX0_playRound 42 = .ok (.invokestatic 113, 3) := by decide +kernel
theorem dX0_playRound_45 : decode cX0_playRound 45 = .ok (.ifCond .le 12, 3) := by decide +kernel
theorem dX0_playRound_48 : decode cX0_playRound 48 = .ok (.aload_n 0, 1) := by decide +kernel
theorem dX0_playRound_49 : decode cX0_playRound 49 = .ok (.iload 4, 2) := by decide +kernel
theorem dX0_playRound_51 : decode cX0_playRound 51 = .ok (.invokestatic 117, 3) := by decide +kernel
theorem dX0_playRound_54 : decode cX0_playRound 54 = .ok (.invokevirtual 120, 3) := by decide +kernel
theorem dX0_playRound_57 : decode cX0_playRound 57 = .ok (.iload 4, 2) := by decide +kernel
theorem dX0_playRound_59 : decode cX0_playRound 59 = .ok (.invokestatic 113, 3) := by decide +kernel
theorem dX0_playRound_62 : decode cX0_playRound 62 = .ok (.iconst 2, 1) := by decide +kernel
theorem dX0_playRound_63 : decode cX0_playRound 63 = .ok (.if_icmp .ne 12, 3) := by decide +kernel
theorem dX0_playRound_66 : decode cX0_playRound 66 = .ok (.aload_n 0, 1) := by decide +kernel
theorem dX0_playRound_67 : decode cX0_playRound 67 = .ok (.iload 4, 2) := by decide +kernel
theorem dX0_playRound_69 : decode cX0_playRound 69 = .ok (.invokestatic 123, 3) := by decide +kernel
theorem dX0_playRound_72 : decode cX0_playRound 72 = .ok (.invokevirtual 120, 3) := by decide +kernel
theorem dX0_playRound_75 : decode cX0_playRound 75 = .ok (.iload_n 2, 1) := by decide +kernel
theorem dX0_playRound_76 : decode cX0_playRound 76 = .ok (.aload_n 0, 1) := by decide +kernel
theorem dX0_playRound_77 : decode cX0_playRound 77 = .ok (.aload_n 1, 1) := by decide +kernel
theorem dX0_playRound_78 : decode cX0_playRound 78 = .ok (.getfield 126, 3) := by decide +kernel
theorem dX0_playRound_81 : decode cX0_playRound 81 = .ok (.iload_n 3, 1) := by decide +kernel
theorem dX0_playRound_82 : decode cX0_playRound 82 = .ok (.iaload, 1) := by decide +kernel
theorem dX0_playRound_83 : decode cX0_playRound 83 = .ok (.aload_n 1, 1) := by decide +kernel
theorem dX0_playRound_84 : decode cX0_playRound 84 = .ok (.getfield 129, 3) := by decide +kernel
theorem dX0_playRound_87 : decode cX0_playRound 87 = .ok (.iload_n 3, 1) := by decide +kernel
theorem dX0_playRound_88 : decode cX0_playRound 88 = .ok (.iaload, 1) := by decide +kernel
theorem dX0_playRound_89 : decode cX0_playRound 89 = .ok (.iconst 0, 1) := by decide +kernel
theorem dX0_playRound_90 : decode cX0_playRound 90 = .ok (.invokestatic 99, 3) := by decide +kernel
theorem dX0_playRound_93 : decode cX0_playRound 93 = .ok (.aload_n 0, 1) := by decide +kernel
theorem dX0_playRound_94 : decode cX0_playRound 94 = .ok (.getfield 22, 3) := by decide +kernel
theorem dX0_playRound_97 : decode cX0_playRound 97 = .ok (.iload_n 3, 1) := by decide +kernel
theorem dX0_playRound_98 : decode cX0_playRound 98 = .ok (.iaload, 1) := by decide +kernel
theorem dX0_playRound_99 : decode cX0_playRound 99 = .ok (.invokevirtual 132, 3) := by decide +kernel
theorem dX0_playRound_102 : decode cX0_playRound 102 = .ok (.ior, 1) := by decide +kernel
theorem dX0_playRound_103 : decode cX0_playRound 103 = .ok (.istore_n 2, 1) := by decide +kernel
theorem dX0_playRound_104 : decode cX0_playRound 104 = .ok (.iinc 3 1, 3) := by decide +kernel
theorem dX0_playRound_107 : decode cX0_playRound 107 = .ok (.goto (-103), 3) := by decide +kernel
theorem dX0_playRound_110 : decode cX0_playRound 110 = .ok (.iload_n 2, 1) := by decide +kernel
theorem dX0_playRound_111 : decode cX0_playRound 111 = .ok (.ireturn, 1) := by decide +kernel
theorem dX0_drawEdges_0 : decode cX0_drawEdges 0 = .ok (.iconst 0, 1) := by decide +kernel
theorem dX0_drawEdges_1 : decode cX0_drawEdges 1 = .ok (.istore_n 3, 1) := by decide +kernel
theorem dX0_drawEdges_2 : decode cX0_drawEdges 2 = .ok (.iconst 0, 1) := by decide +kernel
theorem dX0_drawEdges_3 : decode cX0_drawEdges 3 = .ok (.istore 4, 2) := by decide +kernel
theorem dX0_drawEdges_5 : decode cX0_drawEdges 5 = .ok (.iload 4, 2) := by decide +kernel
theorem dX0_drawEdges_7 : decode cX0_drawEdges 7 = .ok (.aload_n 0, 1) := by decide +kernel
theorem dX0_drawEdges_8 : decode cX0_drawEdges 8 = .ok (.getfield 32, 3) := by decide +kernel
theorem dX0_drawEdges_11 : decode cX0_drawEdges 11 = .ok (.if_icmp .ge 66, 3) := by decide +kernel
theorem dX0_drawEdges_14 : decode cX0_drawEdges 14 = .ok (.aload_n 0, 1) := by decide +kernel
theorem dX0_drawEdges_15 : decode cX0_drawEdges 15 = .ok (.getfield 26, 3) := by decide +kernel
theorem dX0_drawEdges_18 : decode cX0_drawEdges 18 = .ok (.iload 4, 2) := by decide +kernel
theorem dX0_drawEdges_20 : decode cX0_drawEdges 20 = .ok (.laload, 1) := by decide +kernel
theorem dX0_drawEdges_21 : decode cX0_drawEdges 21 = .ok (.ldc2_w 78, 3) := by decide +kernel
theorem dX0_drawEdges_24 : decode cX0_drawEdges 24 = .ok (.lcmp, 1) := by decide +kernel
theorem dX0_drawEdges_25 : decode cX0_drawEdges 25 = .ok (.ifCond .ge 46, 3) := by decide +kernel
theorem dX0_drawEdges_28 : decode cX0_drawEdges 28 = .ok (.aload_n 0, 1) := by decide +kernel
theorem dX0_drawEdges_29 : decode cX0_drawEdges 29 = .ok (.iload_n 2, 1) := by decide +kernel
theorem dX0_drawEdges_30 : decode cX0_drawEdges 30 = .ok (.i2l, 1) := by decide +kernel
theorem dX0_drawEdges_31 : decode cX0_drawEdges 31 = .ok (.aload_n 0, 1) := by decide +kernel
theorem dX0_drawEdges_32 : decode cX0_drawEdges 32 = .ok (.getfield 26, 3) := by decide +kernel
theorem dX0_drawEdges_35 : decode cX0_drawEdges 35 = .ok (.iload 4, 2) := by decide +kernel
theorem dX0_drawEdges_37 : decode cX0_drawEdges 37 = .ok (.laload, 1) := by decide +kernel
theorem dX0_drawEdges_38 : decode cX0_drawEdges 38 = .ok (.invokevirtual 136, 3) := by decide +kernel
theorem dX0_drawEdges_41 : decode cX0_drawEdges 41 = .ok (.lstore 5, 2) := by decide +kernel
theorem dX0_drawEdges_43 : decode cX0_drawEdges 43 = .ok (.lload 5, 2) := by decide +kernel
theorem dX0_drawEdges_45 : decode cX0_drawEdges 45 = .ok (.aload_n 0, 1) := by decide +kernel
theorem dX0_drawEdges_46 : decode cX0_drawEdges 46 = .ok (.getfield 9, 3) := by decide +kernel
theorem dX0_drawEdges_49 : decode cX0_drawEdges 49 = .ok (.iload_n 1, 1) := by decide +kernel
theorem dX0_drawEdges_50 : decode cX0_drawEdges 50 = .ok (.iload 4, 2) := by decide +kernel
theorem dX0_drawEdges_52 : decode cX0_drawEdges 52 = .ok (.iadd, 1) := by decide +kernel
theorem dX0_drawEdges_53 : decode cX0_drawEdges 53 = .ok (.laload, 1) := by decide +kernel
theorem dX0_drawEdges_54 : decode cX0_drawEdges 54 = .ok (.lcmp, 1) := by decide +kernel
theorem dX0_drawEdges_55 : decode cX0_drawEdges 55 = .ok (.ifCond .ge 16, 3) := by decide +kernel
theorem dX0_drawEdges_58 : decode cX0_drawEdges 58 = .ok (.aload_n 0, 1) := by decide +kernel
theorem dX0_drawEdges_59 : decode cX0_drawEdges 59 = .ok (.getfield 9, 3) := by decide +kernel
theorem dX0_drawEdges_62 : decode cX0_drawEdges 62 = .ok (.iload_n 1, 1) := by decide +kernel
theorem dX0_drawEdges_63 : decode cX0_drawEdges 63 = .ok (.iload 4, 2) := by decide +kernel
theorem dX0_drawEdges_65 : decode cX0_drawEdges 65 = .ok (.iadd, 1) := by decide +kernel
theorem dX0_drawEdges_66 : decode cX0_drawEdges 66 = .ok (.lload 5, 2) := by decide +kernel
theorem dX0_drawEdges_68 : decode cX0_drawEdges 68 = .ok (.lastore, 1) := by decide +kernel
theorem dX0_drawEdges_69 : decode cX0_drawEdges 69 = .ok (.iconst 1, 1) := by decide +kernel
theorem dX0_drawEdges_70 : decode cX0_drawEdges 70 = .ok (.istore_n 3, 1) := by decide +kernel
theorem dX0_drawEdges_71 : decode cX0_drawEdges 71 = .ok (.iinc 4 1, 3) := by decide +kernel
theorem dX0_drawEdges_74 : decode cX0_drawEdges 74 = .ok (.goto (-69), 3) := by decide +kernel
theorem dX0_drawEdges_77 : decode cX0_drawEdges 77 = .ok (.iload_n 3, 1) := by decide +kernel
theorem dX0_drawEdges_78 : decode cX0_drawEdges 78 = .ok (.ireturn, 1) := by decide +kernel
theorem dX0_joined_0 : decode cX0_joined 0 = .ok (.aload_n 0, 1) := by decide +kernel
theorem dX0_joined_1 : decode cX0_joined 1 = .ok (.getfield 36, 3) := by decide +kernel
theorem dX0_joined_4 : decode cX0_joined 4 = .ok (.ifCond .eq 11, 3) := by decide +kernel
theorem dX0_joined_7 : decode cX0_joined 7 = .ok (.lload_n 1, 1) := by decide +kernel
theorem dX0_joined_8 : decode cX0_joined 8 = .ok (.lload_n 3, 1) := by decide +kernel
theorem dX0_joined_9 : decode cX0_joined 9 = .ok (.invokestatic 140, 3) := by decide +kernel
theorem dX0_joined_12 : decode cX0_joined 12 = .ok (.goto 6, 3) := by decide +kernel
theorem dX0_joined_15 : decode cX0_joined 15 = .ok (.lload_n 1, 1) := by decide +kernel
theorem dX0_joined_16 : decode cX0_joined 16 = .ok (.lload_n 3, 1) := by decide +kernel
theorem dX0_joined_17 : decode cX0_joined 17 = .ok (.ladd, 1) := by decide +kernel
theorem dX0_joined_18 : decode cX0_joined 18 = .ok (.lreturn, 1) := by decide +kernel
theorem dX0_startAt_0 : decode cX0_startAt 0 = .ok (.iconst 0, 1) := by decide +kernel
theorem dX0_startAt_1 : decode cX0_startAt 1 = .ok (.istore_n 2, 1) := by decide +kernel
theorem dX0_startAt_2 : decode cX0_startAt 2 = .ok (.iload_n 2, 1) := by decide +kernel
theorem dX0_startAt_3 : decode cX0_startAt 3 = .ok (.bipush 13, 2) := by decide +kernel
theorem dX0_startAt_5 : decode cX0_startAt 5 = .ok (.if_icmp .ge 18, 3) := by decide +kernel
theorem dX0_startAt_8 : decode cX0_startAt 8 = .ok (.aload_n 0, 1) := by decide +kernel
theorem dX0_startAt_9 : decode cX0_startAt 9 = .ok (.getfield 26, 3) := by decide +kernel
theorem dX0_startAt_12 : decode cX0_startAt 12 = .ok (.iload_n 2, 1) := by decide +kernel
theorem dX0_startAt_13 : decode cX0_startAt 13 = .ok (.ldc2_w 78, 3) := by decide +kernel
theorem dX0_startAt_16 : decode cX0_startAt 16 = .ok (.lastore, 1) := by decide +kernel
theorem dX0_startAt_17 : decode cX0_startAt 17 = .ok (.iinc 2 1, 3) := by decide +kernel
theorem dX0_startAt_20 : decode cX0_startAt 20 = .ok (.goto (-18), 3) := by decide +kernel
theorem dX0_startAt_23 : decode cX0_startAt 23 = .ok (.aload_n 0, 1) := by decide +kernel
theorem dX0_startAt_24 : decode cX0_startAt 24 = .ok (.getfield 26, 3) := by decide +kernel
theorem dX0_startAt_27 : decode cX0_startAt 27 = .ok (.iload_n 1, 1) := by decide +kernel
theorem dX0_startAt_28 : decode cX0_startAt 28 = .ok (.lconst 0, 1) := by decide +kernel
theorem dX0_startAt_29 : decode cX0_startAt 29 = .ok (.lastore, 1) := by decide +kernel
theorem dX0_startAt_30 : decode cX0_startAt 30 = .ok (.return_, 1) := by decide +kernel
theorem dX0_readOn_0 : decode cX0_readOn 0 = .ok (.iconst 0, 1) := by decide +kernel
theorem dX0_readOn_1 : decode cX0_readOn 1 = .ok (.istore_n 2, 1) := by decide +kernel
theorem dX0_readOn_2 : decode cX0_readOn 2 = .ok (.iload_n 2, 1) := by decide +kernel
theorem dX0_readOn_3 : decode cX0_readOn 3 = .ok (.bipush 13, 2) := by decide +kernel
theorem dX0_readOn_5 : decode cX0_readOn 5 = .ok (.if_icmp .ge 18, 3) := by decide +kernel
theorem dX0_readOn_8 : decode cX0_readOn 8 = .ok (.aload_n 0, 1) := by decide +kernel
theorem dX0_readOn_9 : decode cX0_readOn 9 = .ok (.getfield 29, 3) := by decide +kernel
theorem dX0_readOn_12 : decode cX0_readOn 12 = .ok (.iload_n 2, 1) := by decide +kernel
theorem dX0_readOn_13 : decode cX0_readOn 13 = .ok (.ldc2_w 78, 3) := by decide +kernel
theorem dX0_readOn_16 : decode cX0_readOn 16 = .ok (.lastore, 1) := by decide +kernel
theorem dX0_readOn_17 : decode cX0_readOn 17 = .ok (.iinc 2 1, 3) := by decide +kernel
theorem dX0_readOn_20 : decode cX0_readOn 20 = .ok (.goto (-18), 3) := by decide +kernel
theorem dX0_readOn_23 : decode cX0_readOn 23 = .ok (.iconst 0, 1) := by decide +kernel
theorem dX0_readOn_24 : decode cX0_readOn 24 = .ok (.istore_n 2, 1) := by decide +kernel
theorem dX0_readOn_25 : decode cX0_readOn 25 = .ok (.iload_n 2, 1) := by decide +kernel
theorem dX0_readOn_26 : decode cX0_readOn 26 = .ok (.aload_n 0, 1) := by decide +kernel
theorem dX0_readOn_27 : decode cX0_readOn 27 = .ok (.getfield 32, 3) := by decide +kernel
theorem dX0_readOn_30 : decode cX0_readOn 30 = .ok (.if_icmp .ge 99, 3) := by decide +kernel
theorem dX0_readOn_33 : decode cX0_readOn 33 = .ok (.aload_n 0, 1) := by decide +kernel
theorem dX0_readOn_34 : decode cX0_readOn 34 = .ok (.getfield 26, 3) := by decide +kernel
theorem dX0_readOn_37 : decode cX0_readOn 37 = .ok (.iload_n 2, 1) := by decide +kernel
theorem dX0_readOn_38 : decode cX0_readOn 38 = .ok (.laload, 1) := by decide +kernel
theorem dX0_readOn_39 : decode cX0_readOn 39 = .ok (.ldc2_w 78, 3) := by decide +kernel
theorem dX0_readOn_42 : decode cX0_readOn 42 = .ok (.lcmp, 1) := by decide +kernel
theorem dX0_readOn_43 : decode cX0_readOn 43 = .ok (.ifCond .ge 80, 3) := by decide +kernel
theorem dX0_readOn_46 : decode cX0_readOn 46 = .ok (.iload_n 2, 1) := by decide +kernel
theorem dX0_readOn_47 : decode cX0_readOn 47 = .ok (.iload_n 1, 1) := by decide +kernel
theorem dX0_readOn_48 : decode cX0_readOn 48 = .ok (.iconst 0, 1) := by decide +kernel
theorem dX0_readOn_49 : decode cX0_readOn 49 = .ok (.invokestatic 99, 3) := by decide +kernel
theorem dX0_readOn_52 : decode cX0_readOn 52 = .ok (.istore_n 3, 1) := by decide +kernel
theorem dX0_readOn_53 : decode cX0_readOn 53 = .ok (.iconst 0, 1) := by decide +kernel
theorem dX0_readOn_54 : decode cX0_readOn 54 = .ok (.istore 4, 2) := by decide +kernel
theorem dX0_readOn_56 : decode cX0_readOn 56 = .ok (.iload 4, 2) := by decide +kernel
theorem dX0_readOn_58 : decode cX0_readOn 58 = .ok (.aload_n 0, 1) := by decide +kernel
theorem dX0_readOn_59 : decode cX0_readOn 59 = .ok (.getfield 32, 3) := by decide +kernel
theorem dX0_readOn_62 : decode cX0_readOn 62 = .ok (.if_icmp .ge 61, 3) := by decide +kernel
theorem dX0_readOn_65 : decode cX0_readOn 65 = .ok (.aload_n 0, 1) := by decide +kernel
theorem dX0_readOn_66 : decode cX0_readOn 66 = .ok (.getfield 15, 3) := by decide +kernel
theorem dX0_readOn_69 : decode cX0_readOn 69 = .ok (.iload_n 3, 1) := by decide +kernel
theorem dX0_readOn_70 : decode cX0_readOn 70 = .ok (.iload 4, 2) := by decide +kernel
theorem dX0_readOn_72 : decode cX0_readOn 72 = .ok (.iadd, 1) := by decide +kernel
theorem dX0_readOn_73 : decode cX0_readOn 73 = .ok (.laload, 1) := by decide +kernel
theorem dX0_readOn_74 : decode cX0_readOn 74 = .ok (.ldc2_w 78, 3) := by decide +kernel
theorem dX0_readOn_77 : decode cX0_readOn 77 = .ok (.lcmp, 1) := by decide +kernel
theorem dX0_readOn_78 : decode cX0_readOn 78 = .ok (.ifCond .ge 39, 3) := by decide +kernel
theorem dX0_readOn_81 : decode cX0_readOn 81 = .ok (.aload_n 0, 1) := by decide +kernel
theorem dX0_readOn_82 : decode cX0_readOn 82 = .ok (.getfield 29, 3) := by decide +kernel
theorem dX0_readOn_85 : decode cX0_readOn 85 = .ok (.iload 4, 2) := by decide +kernel
theorem dX0_readOn_87 : decode cX0_readOn 87 = .ok (.aload_n 0, 1) := by decide +kernel
theorem dX0_readOn_88 : decode cX0_readOn 88 = .ok (.getfield 29, 3) := by decide +kernel
theorem dX0_readOn_91 : decode cX0_readOn 91 = .ok (.iload 4, 2) := by decide +kernel
theorem dX0_readOn_93 : decode cX0_readOn 93 = .ok (.laload, 1) := by decide +kernel
theorem dX0_readOn_94 : decode cX0_readOn 94 = .ok (.aload_n 0, 1) := by decide +kernel
theorem dX0_readOn_95 : decode cX0_readOn 95 = .ok (.aload_n 0, 1) := by decide +kernel
theorem dX0_readOn_96 : decode cX0_readOn 96 = .ok (.getfield 26, 3) := by decide +kernel
theorem dX0_readOn_99 : decode cX0_readOn 99 = .ok (.iload_n 2, 1) := by decide +kernel
theorem dX0_readOn_100 : decode cX0_readOn 100 = .ok (.laload, 1) := by decide +kernel
theorem dX0_readOn_101 : decode cX0_readOn 101 = .ok (.aload_n 0, 1) := by decide +kernel
theorem dX0_readOn_102 : decode cX0_readOn 102 = .ok (.getfield 15, 3) := by decide +kernel
theorem dX0_readOn_105 : decode cX0_readOn 105 = .ok (.iload_n 3, 1) := by decide +kernel
theorem dX0_readOn_106 : decode cX0_readOn 106 = .ok (.iload 4, 2) := by decide +kernel
theorem dX0_readOn_108 : decode cX0_readOn 108 = .ok (.iadd, 1) := by decide +kernel
theorem dX0_readOn_109 : decode cX0_readOn 109 = .ok (.laload, 1) := by decide +kernel
theorem dX0_readOn_110 : decode cX0_readOn 110 = .ok (.invokevirtual 136, 3) := by decide +kernel
theorem dX0_readOn_113 : decode cX0_readOn 113 = .ok (.invokestatic 145, 3) := by decide +kernel
theorem dX0_readOn_116 : decode cX0_readOn 116 = .ok (.lastore, 1) := by decide +kernel
theorem dX0_readOn_117 : decode cX0_readOn 117 = .ok (.iinc 4 1, 3) := by decide +kernel
theorem dX0_readOn_120 : decode cX0_readOn 120 = .ok (.goto (-64), 3) := by decide +kernel
theorem dX0_readOn_123 : decode cX0_readOn 123 = .ok (.iinc 2 1, 3) := by decide +kernel
theorem dX0_readOn_126 : decode cX0_readOn 126 = .ok (.goto (-101), 3) := by decide +kernel
theorem dX0_readOn_129 : decode cX0_readOn 129 = .ok (.aload_n 0, 1) := by decide +kernel
theorem dX0_readOn_130 : decode cX0_readOn 130 = .ok (.getfield 29, 3) := by decide +kernel
theorem dX0_readOn_133 : decode cX0_readOn 133 = .ok (.astore_n 2, 1) := by decide +kernel
theorem dX0_readOn_134 : decode cX0_readOn 134 = .ok (.aload_n 0, 1) := by decide +kernel
theorem dX0_readOn_135 : decode cX0_readOn 135 = .ok (.aload_n 0, 1) := by decide +kernel
theorem dX0_readOn_136 : decode cX0_readOn 136 = .ok (.getfield 26, 3) := by decide +kernel
theorem dX0_readOn_139 : decode cX0_readOn 139 = .ok (.putfield 29, 3) := by decide +kernel
theorem dX0_readOn_142 : decode cX0_readOn 142 = .ok (.aload_n 0, 1) := by decide +kernel
theorem dX0_readOn_143 : decode cX0_readOn 143 = .ok (.aload_n 2, 1) := by decide +kernel
theorem dX0_readOn_144 : decode cX0_readOn 144 = .ok (.putfield 26, 3) := by decide +kernel
theorem dX0_readOn_147 : decode cX0_readOn 147 = .ok (.return_, 1) := by decide +kernel
theorem dX0_priceOf_0 : decode cX0_priceOf 0 = .ok (.aload_n 0, 1) := by decide +kernel
theorem dX0_priceOf_1 : decode cX0_priceOf 1 = .ok (.aload_n 1, 1) := by decide +kernel
theorem dX0_priceOf_2 : decode cX0_priceOf 2 = .ok (.getfield 148, 3) := by decide +kernel
theorem dX0_priceOf_5 : decode cX0_priceOf 5 = .ok (.invokevirtual 106, 3) := by decide +kernel
theorem dX0_priceOf_8 : decode cX0_priceOf 8 = .ok (.aload_n 1, 1) := by decide +kernel
theorem dX0_priceOf_9 : decode cX0_priceOf 9 = .ok (.getfield 151, 3) := by decide +kernel
theorem dX0_priceOf_12 : decode cX0_priceOf 12 = .ok (.iconst 1, 1) := by decide +kernel
theorem dX0_priceOf_13 : decode cX0_priceOf 13 = .ok (.isub, 1) := by decide +kernel
theorem dX0_priceOf_14 : decode cX0_priceOf 14 = .ok (.istore_n 2, 1) := by decide +kernel
theorem dX0_priceOf_15 : decode cX0_priceOf 15 = .ok (.iload_n 2, 1) := by decide +kernel
theorem dX0_priceOf_16 : decode cX0_priceOf 16 = .ok (.ifCond .lt 19, 3) := by decide +kernel
theorem dX0_priceOf_19 : decode cX0_priceOf 19 = .ok (.aload_n 0, 1) := by decide +kernel
theorem dX0_priceOf_20 : decode cX0_priceOf 20 = .ok (.aload_n 1, 1) := by decide +kernel
theorem dX0_priceOf_21 : decode cX0_priceOf 21 = .ok (.getfield 154, 3) := by decide +kernel
theorem dX0_priceOf_24 : decode cX0_priceOf 24 = .ok (.iload_n 2, 1) := by decide +kernel
theorem dX0_priceOf_25 : decode cX0_priceOf 25 = .ok (.iaload, 1) := by decide +kernel
theorem dX0_priceOf_26 : decode cX0_priceOf 26 = .ok (.invokevirtual 120, 3) := by decide +kernel
theorem dX0_priceOf_29 : decode cX0_priceOf 29 = .ok (.iinc 2 (-1), 3) := by decide +kernel
theorem dX0_priceOf_32 : decode cX0_priceOf 32 = .ok (.goto (-17), 3) := by decide +kernel
theorem dX0_priceOf_35 : decode cX0_priceOf 35 = .ok (.ldc2_w 78, 3) := by decide +kernel
theorem dX0_priceOf_38 : decode cX0_priceOf 38 = .ok (.lstore_n 2, 1) := by decide +kernel
theorem dX0_priceOf_39 : decode cX0_priceOf 39 = .ok (.iconst 0, 1) := by decide +kernel
theorem dX0_priceOf_40 : decode cX0_priceOf 40 = .ok (.istore 4, 2) := by decide +kernel
theorem dX0_priceOf_42 : decode cX0_priceOf 42 = .ok (.iload 4, 2) := by decide +kernel
theorem dX0_priceOf_44 : decode cX0_priceOf 44 = .ok (.aload_n 0, 1) := by decide +kernel
theorem dX0_priceOf_45 : decode cX0_priceOf 45 = .ok (.getfield 32, 3) := by decide +kernel
theorem dX0_priceOf_48 : decode cX0_priceOf 48 = .ok (.if_icmp .ge 31, 3) := by decide +kernel
theorem dX0_priceOf_51 : decode cX0_priceOf 51 = .ok (.aload_n 0, 1) := by decide +kernel
theorem dX0_priceOf_52 : decode cX0_priceOf 52 = .ok (.getfield 18, 3) := by decide +kernel
theorem dX0_priceOf_55 : decode cX0_priceOf 55 = .ok (.iload 4, 2) := by decide +kernel
theorem dX0_priceOf_57 : decode cX0_priceOf 57 = .ok (.baload, 1) := by decide +kernel
theorem dX0_priceOf_58 : decode cX0_priceOf 58 = .ok (.ifCond .eq 15, 3) := by decide +kernel
theorem dX0_priceOf_61 : decode cX0_priceOf 61 = .ok (.lload_n 2, 1) := by decide +kernel
theorem dX0_priceOf_62 : decode cX0_priceOf 62 = .ok (.aload_n 0, 1) := by decide +kernel
theorem dX0_priceOf_63 : decode cX0_priceOf 63 = .ok (.getfield 26, 3) := by decide +kernel
theorem dX0_priceOf_66 : decode cX0_priceOf 66 = .ok (.iload 4, 2) := by decide +kernel
theorem dX0_priceOf_68 : decode cX0_priceOf 68 = .ok (.laload, 1) := by decide +kernel
theorem dX0_priceOf_69 : decode cX0_priceOf 69 = .ok (.invokestatic 145, 3) := by decide +kernel
theorem dX0_priceOf_72 : decode cX0_priceOf 72 = .ok (.lstore_n 2, 1) := by decide +kernel
theorem dX0_priceOf_73 : decode cX0_priceOf 73 = .ok (.iinc 4 1, 3) := by decide +kernel
theorem dX0_priceOf_76 : decode cX0_priceOf 76 = .ok (.goto (-34), 3) := by decide +kernel
theorem dX0_priceOf_79 : decode cX0_priceOf 79 = .ok (.lload_n 2, 1) := by decide +kernel
theorem dX0_priceOf_80 : decode cX0_priceOf 80 = .ok (.ldc2_w 78, 3) := by decide +kernel
theorem dX0_priceOf_83 : decode cX0_priceOf 83 = .ok (.lcmp, 1) := by decide +kernel
theorem dX0_priceOf_84 : decode cX0_priceOf 84 = .ok (.ifCond .ge 8, 3) := by decide +kernel
theorem dX0_priceOf_87 : decode cX0_priceOf 87 = .ok (.lload_n 2, 1) := by decide +kernel
theorem dX0_priceOf_88 : decode cX0_priceOf 88 = .ok (.l2i, 1) := by decide +kernel
theorem dX0_priceOf_89 : decode cX0_priceOf 89 = .ok (.goto 5, 3) := by decide +kernel
theorem dX0_priceOf_92 : decode cX0_priceOf 92 = .ok (.bipush (-4), 2) := by decide +kernel
theorem dX0_priceOf_94 : decode cX0_priceOf 94 = .ok (.ireturn, 1) := by decide +kernel
theorem dX0_fillBottom_0 : decode cX0_fillBottom 0 = .ok (.iconst 0, 1) := by decide +kernel
theorem dX0_fillBottom_1 : decode cX0_fillBottom 1 = .ok (.istore_n 2, 1) := by decide +kernel
theorem dX0_fillBottom_2 : decode cX0_fillBottom 2 = .ok (.iload_n 2, 1) := by decide +kernel
theorem dX0_fillBottom_3 : decode cX0_fillBottom 3 = .ok (.bipush 13, 2) := by decide +kernel
theorem dX0_fillBottom_5 : decode cX0_fillBottom 5 = .ok (.if_icmp .ge 28, 3) := by decide +kernel
theorem dX0_fillBottom_8 : decode cX0_fillBottom 8 = .ok (.aload_n 1, 1) := by decide +kernel
theorem dX0_fillBottom_9 : decode cX0_fillBottom 9 = .ok (.iload_n 2, 1) := by decide +kernel
theorem dX0_fillBottom_10 : decode cX0_fillBottom 10 = .ok (.aload_n 0, 1) := by decide +kernel
theorem dX0_fillBottom_11 : decode cX0_fillBottom 11 = .ok (.getfield 18, 3) := by decide +kernel
theorem dX0_fillBottom_14 : decode cX0_fillBottom 14 = .ok (.iload_n 2, 1) := by decide +kernel
theorem dX0_fillBottom_15 : decode cX0_fillBottom 15 = .ok (.baload, 1) := by decide +kernel
theorem dX0_fillBottom_16 : decode cX0_fillBottom 16 = .ok (.ifCond .eq 7, 3) := by decide +kernel
theorem dX0_fillBottom_19 : decode cX0_fillBottom 19 = .ok (.lconst 0, 1) := by decide +kernel
theorem dX0_fillBottom_20 : decode cX0_fillBottom 20 = .ok (.goto 6, 3) := by decide +kernel
theorem dX0_fillBottom_23 : decode cX0_fillBottom 23 = .ok (.ldc2_w 78, 3) := by decide +kernel
theorem dX0_fillBottom_26 : decode cX0_fillBottom 26 = .ok (.lastore, 1) := by decide +kernel
theorem dX0_fillBottom_27 : decode cX0_fillBottom 27 = .ok (.iinc 2 1, 3) := by decide +kernel
theorem dX0_fillBottom_30 : decode cX0_fillBottom 30 = .ok (.goto (-28), 3) := by decide +kernel
theorem dX0_fillBottom_33 : decode cX0_fillBottom 33 = .ok (.return_, 1) := by decide +kernel
theorem dX0_stepsOver_0 : decode cX0_stepsOver 0 = .ok (.ldc2_w 78, 3) := by decide +kernel
theorem dX0_stepsOver_3 : decode cX0_stepsOver 3 = .ok (.lstore 5, 2) := by decide +kernel
theorem dX0_stepsOver_5 : decode cX0_stepsOver 5 = .ok (.iload_n 1, 1) := by decide +kernel
theorem dX0_stepsOver_6 : decode cX0_stepsOver 6 = .ok (.iload_n 2, 1) := by decide +kernel
theorem dX0_stepsOver_7 : decode cX0_stepsOver 7 = .ok (.iconst 0, 1) := by decide +kernel
theorem dX0_stepsOver_8 : decode cX0_stepsOver 8 = .ok (.invokestatic 99, 3) := by decide +kernel
theorem dX0_stepsOver_11 : decode cX0_stepsOver 11 = .ok (.istore 7, 2) := by decide +kernel
theorem dX0_stepsOver_13 : decode cX0_stepsOver 13 = .ok (.iconst 0, 1) := by decide +kernel
theorem dX0_stepsOver_14 : decode cX0_stepsOver 14 = .ok (.istore 8, 2) := by decide +kernel
theorem dX0_stepsOver_16 : decode cX0_stepsOver 16 = .ok (.iload 8, 2) := by decide +kernel
theorem dX0_stepsOver_18 : decode cX0_stepsOver 18 = .ok (.aload_n 0, 1) := by decide +kernel
theorem dX0_stepsOver_19 : decode cX0_stepsOver 19 = .ok (.getfield 32, 3) := by decide +kernel
theorem dX0_stepsOver_22 : decode cX0_stepsOver 22 = .ok (.if_icmp .ge 67, 3) := by decide +kernel
theorem dX0_stepsOver_25 : decode cX0_stepsOver 25 = .ok (.aload_n 3, 1) := by decide +kernel
theorem dX0_stepsOver_26 : decode cX0_stepsOver 26 = .ok (.iload 4, 2) := by decide +kernel
theorem dX0_stepsOver_28 : decode cX0_stepsOver 28 = .ok (.bipush 13, 2) := by decide +kernel
theorem dX0_stepsOver_30 : decode cX0_stepsOver 30 = .ok (.imul, 1) := by decide +kernel
theorem dX0_stepsOver_31 : decode cX0_stepsOver 31 = .ok (.iload 8, 2) := by decide +kernel
theorem dX0_stepsOver_33 : decode cX0_stepsOver 33 = .ok (.iadd, 1) := by decide +kernel
theorem dX0_stepsOver_34 : decode cX0_stepsOver 34 = .ok (.laload, 1) := by decide +kernel
theorem dX0_stepsOver_35 : decode cX0_stepsOver 35 = .ok (.lstore 9, 2) := by decide +kernel
theorem dX0_stepsOver_37 : decode cX0_stepsOver 37 = .ok (.aload_n 0, 1) := by decide +kernel
theorem dX0_stepsOver_38 : decode cX0_stepsOver 38 = .ok (.getfield 9, 3) := by decide +kernel
theorem dX0_stepsOver_41 : decode cX0_stepsOver 41 = .ok (.iload 7, 2) := by decide +kernel
theorem dX0_stepsOver_43 : decode cX0_stepsOver 43 = .ok (.iload 8, 2) := by decide +kernel
theorem dX0_stepsOver_45 : decode cX0_stepsOver 45 = .ok (.iadd, 1) := by decide +kernel
theorem dX0_stepsOver_46 : decode cX0_stepsOver 46 = .ok (.laload, 1) := by decide +kernel
theorem dX0_stepsOver_47 : decode cX0_stepsOver 47 = .ok (.ldc2_w 78, 3) := by decide +kernel
theorem dX0_stepsOver_50 : decode cX0_stepsOver 50 = .ok (.lcmp, 1) := by decide +kernel
theorem dX0_stepsOver_51 : decode cX0_stepsOver 51 = .ok (.ifCond .ge 32, 3) := by decide +kernel
theorem dX0_stepsOver_54 : decode cX0_stepsOver 54 = .ok (.lload 9, 2) := by decide +kernel
theorem dX0_stepsOver_56 : decode cX0_stepsOver 56 = .ok (.ldc2_w 78, 3) := by decide +kernel
theorem dX0_stepsOver_59 : decode cX0_stepsOver 59 = .ok (.lcmp, 1) := by decide +kernel
theorem dX0_stepsOver_60 : decode cX0_stepsOver 60 = .ok (.ifCond .ge 23, 3) := by decide +kernel
theorem dX0_stepsOver_63 : decode cX0_stepsOver 63 = .ok (.lload 5, 2) := by decide +kernel
theorem dX0_stepsOver_65 : decode cX0_stepsOver 65 = .ok (.aload_n 0, 1) := by decide +kernel
theorem dX0_stepsOver_66 : decode cX0_stepsOver 66 = .ok (.getfield 9, 3) := by decide +kernel
theorem dX0_stepsOver_69 : decode cX0_stepsOver 69 = .ok (.iload 7, 2) := by decide +kernel
theorem dX0_stepsOver_71 : decode cX0_stepsOver 71 = .ok (.iload 8, 2) := by decide +kernel
theorem dX0_stepsOver_73 : decode cX0_stepsOver 73 = .ok (.iadd, 1) := by decide +kernel
theorem dX0_stepsOver_74 : decode cX0_stepsOver 74 = .ok (.laload, 1) := by decide +kernel
theorem dX0_stepsOver_75 : decode cX0_stepsOver 75 = .ok (.lload 9, 2) := by decide +kernel
theorem dX0_stepsOver_77 : decode cX0_stepsOver 77 = .ok (.ladd, 1) := by decide +kernel
theorem dX0_stepsOver_78 : decode cX0_stepsOver 78 = .ok (.invokestatic 145, 3) := by decide +kernel
theorem dX0_stepsOver_81 : decode cX0_stepsOver 81 = .ok (.lstore 5, 2) := by decide +kernel
theorem dX0_stepsOver_83 : decode cX0_stepsOver 83 = .ok (.iinc 8 1, 3) := by decide +kernel
theorem dX0_stepsOver_86 : decode cX0_stepsOver 86 = .ok (.goto (-70), 3) := by decide +kernel
theorem dX0_stepsOver_89 : decode cX0_stepsOver 89 = .ok (.lload 5, 2) := by decide +kernel
theorem dX0_stepsOver_91 : decode cX0_stepsOver 91 = .ok (.lreturn, 1) := by decide +kernel
theorem dX0_stepsOverTwo_0 : decode cX0_stepsOverTwo 0 = .ok (.ldc2_w 78, 3) := by decide +kernel
theorem dX0_stepsOverTwo_3 : decode cX0_stepsOverTwo 3 = .ok (.lstore 6, 2) := by decide +kernel
theorem dX0_stepsOverTwo_5 : decode cX0_stepsOverTwo 5 = .ok (.iload_n 1, 1) := by decide +kernel
theorem dX0_stepsOverTwo_6 : decode cX0_stepsOverTwo 6 = .ok (.iload_n 2, 1) := by decide +kernel
theorem dX0_stepsOverTwo_7 : decode cX0_stepsOverTwo 7 = .ok (.iconst 0, 1) := by decide +kernel
theorem dX0_stepsOverTwo_8 : decode cX0_stepsOverTwo 8 = .ok (.invokestatic 99, 3) := by decide +kernel
theorem dX0_stepsOverTwo_11 : decode cX0_stepsOverTwo 11 = .ok (.istore 8, 2) := by decide +kernel
theorem dX0_stepsOverTwo_13 : decode cX0_stepsOverTwo 13 = .ok (.iconst 0, 1) := by decide +kernel
theorem dX0_stepsOverTwo_14 : decode cX0_stepsOverTwo 14 = .ok (.istore 9, 2) := by decide +kernel
theorem dX0_stepsOverTwo_16 : decode cX0_stepsOverTwo 16 = .ok (.iload 9, 2) := by decide +kernel
theorem dX0_stepsOverTwo_18 : decode cX0_stepsOverTwo 18 = .ok (.aload_n 0, 1) := by decide +kernel
theorem dX0_stepsOverTwo_19 : decode cX0_stepsOverTwo 19 = .ok (.getfield 32, 3) := by decide +kernel
theorem dX0_stepsOverTwo_22 : decode cX0_stepsOverTwo 22 = .ok (.if_icmp .ge 68, 3) := by decide +kernel
theorem dX0_stepsOverTwo_25 : decode cX0_stepsOverTwo 25 = .ok (.aload_n 0, 1) := by decide +kernel
theorem dX0_stepsOverTwo_26 : decode cX0_stepsOverTwo 26 = .ok (.getfield 9, 3) := by decide +kernel
theorem dX0_stepsOverTwo_29 : decode cX0_stepsOverTwo 29 = .ok (.iload 8, 2) := by decide +kernel
theorem dX0_stepsOverTwo_31 : decode cX0_stepsOverTwo 31 = .ok (.iload 9, 2) := by decide +kernel
theorem dX0_stepsOverTwo_33 : decode cX0_stepsOverTwo 33 = .ok (.iadd, 1) := by decide +kernel
theorem dX0_stepsOverTwo_34 : decode cX0_stepsOverTwo 34 = .ok (.laload, 1) := by decide +kernel
theorem dX0_stepsOverTwo_35 : decode cX0_stepsOverTwo 35 = .ok (.ldc2_w 78, 3) := by decide +kernel
theorem dX0_stepsOverTwo_38 : decode cX0_stepsOverTwo 38 = .ok (.lcmp, 1) := by decide +kernel
theorem dX0_stepsOverTwo_39 : decode cX0_stepsOverTwo 39 = .ok (.ifCond .ge 45, 3) := by decide +kernel
theorem dX0_stepsOverTwo_42 : decode cX0_stepsOverTwo 42 = .ok (.aload_n 0, 1) := by decide +kernel
theorem dX0_stepsOverTwo_43 : decode cX0_stepsOverTwo 43 = .ok (.iload 9, 2) := by decide +kernel
theorem dX0_stepsOverTwo_45 : decode cX0_stepsOverTwo 45 = .ok (.iload_n 3, 1) := by decide +kernel
theorem dX0_stepsOverTwo_46 : decode cX0_stepsOverTwo 46 = .ok (.aload 4, 2) := by decide +kernel
theorem dX0_stepsOverTwo_48 : decode cX0_stepsOverTwo 48 = .ok (.iload 5, 2) := by decide +kernel
theorem dX0_stepsOverTwo_50 : decode cX0_stepsOverTwo 50 = .ok (.invokevirtual 157, 3) := by decide +kernel
theorem dX0_stepsOverTwo_53 : decode cX0_stepsOverTwo 53 = .ok (.lstore 10, 2) := by decide +kernel
theorem dX0_stepsOverTwo_55 : decode cX0_stepsOverTwo 55 = .ok (.lload 10, 2) := by decide +kernel
theorem dX0_stepsOverTwo_57 : decode cX0_stepsOverTwo 57 = .ok (.ldc2_w 78, 3) := by decide +kernel
theorem dX0_stepsOverTwo_60 : decode cX0_stepsOverTwo 60 = .ok (.lcmp, 1) := by decide +kernel
theorem dX0_stepsOverTwo_61 : decode cX0_stepsOverTwo 61 = .ok (.ifCond .ge 23, 3) := by decide +kernel
theorem dX0_stepsOverTwo_64 : decode cX0_stepsOverTwo 64 = .ok (.lload 6, 2) := by decide +kernel
theorem dX0_stepsOverTwo_66 : decode cX0_stepsOverTwo 66 = .ok (.aload_n 0, 1) := by decide +kernel
theorem dX0_stepsOverTwo_67 : decode cX0_stepsOverTwo 67 = .ok (.getfield 9, 3) := by decide +kernel
theorem dX0_stepsOverTwo_70 : decode cX0_stepsOverTwo 70 = .ok (.iload 8, 2) := by decide +kernel
theorem dX0_stepsOverTwo_72 : decode cX0_stepsOverTwo 72 = .ok (.iload 9, 2) := by decide +kernel
theorem dX0_stepsOverTwo_74 : decode cX0_stepsOverTwo 74 = .ok (.iadd, 1) := by decide +kernel
theorem dX0_stepsOverTwo_75 : decode cX0_stepsOverTwo 75 = .ok (.laload, 1) := by decide +kernel
theorem dX0_stepsOverTwo_76 : decode cX0_stepsOverTwo 76 = .ok (.lload 10, 2) := by decide +kernel
theorem dX0_stepsOverTwo_78 : decode cX0_stepsOverTwo 78 = .ok (.ladd, 1) := by decide +kernel
theorem dX0_stepsOverTwo_79 : decode cX0_stepsOverTwo 79 = .ok (.invokestatic 145, 3) := by decide +kernel
theorem dX0_stepsOverTwo_82 : decode cX0_stepsOverTwo 82 = .ok (.lstore 6, 2) := by decide +kernel
theorem dX0_stepsOverTwo_84 : decode cX0_stepsOverTwo 84 = .ok (.iinc 9 1, 3) := by decide +kernel
theorem dX0_stepsOverTwo_87 : decode cX0_stepsOverTwo 87 = .ok (.goto (-71), 3) := by decide +kernel
theorem dX0_stepsOverTwo_90 : decode cX0_stepsOverTwo 90 = .ok (.lload 6, 2) := by decide +kernel
theorem dX0_stepsOverTwo_92 : decode cX0_stepsOverTwo 92 = .ok (.lreturn, 1) := by decide +kernel
theorem dX1_init_0 : decode cX1_init 0 = .ok (.aload_n 0, 1) := by decide +kernel
theorem dX1_init_1 : decode cX1_init 1 = .ok (.invokespecial 3, 3) := by decide +kernel
theorem dX1_init_4 : decode cX1_init 4 = .ok (.aload_n 0, 1) := by decide +kernel
theorem dX1_init_5 : decode cX1_init 5 = .ok (.bipush 12, 2) := by decide +kernel
theorem dX1_init_7 : decode cX1_init 7 = .ok (.newarray .int, 2) := by decide +kernel
theorem dX1_init_9 : decode cX1_init 9 = .ok (.putfield 9, 3) := by decide +kernel
theorem dX1_init_12 : decode cX1_init 12 = .ok (.return_, 1) := by decide +kernel
theorem dX1_hasHead_0 : decode cX1_hasHead 0 = .ok (.aload_n 0, 1) := by decide +kernel
theorem dX1_hasHead_1 : decode cX1_hasHead 1 = .ok (.getfield 15, 3) := by decide +kernel
theorem dX1_hasHead_4 : decode cX1_hasHead 4 = .ok (.iload_n 1, 1) := by decide +kernel
theorem dX1_hasHead_5 : decode cX1_hasHead 5 = .ok (.iconst 4, 1) := by decide +kernel
theorem dX1_hasHead_6 : decode cX1_hasHead 6 = .ok (.imul, 1) := by decide +kernel
theorem dX1_hasHead_7 : decode cX1_hasHead 7 = .ok (.iload_n 2, 1) := by decide +kernel
theorem dX1_hasHead_8 : decode cX1_hasHead 8 = .ok (.iadd, 1) := by decide +kernel
theorem dX1_hasHead_9 : decode cX1_hasHead 9 = .ok (.ishr, 1) := by decide +kernel
theorem dX1_hasHead_10 : decode cX1_hasHead 10 = .ok (.iconst 1, 1) := by decide +kernel
theorem dX1_hasHead_11 : decode cX1_hasHead 11 = .ok (.iand, 1) := by decide +kernel
theorem dX1_hasHead_12 : decode cX1_hasHead 12 = .ok (.iconst 1, 1) := by decide +kernel
theorem dX1_hasHead_13 : decode cX1_hasHead 13 = .ok (.if_icmp .ne 7, 3) := by decide +kernel
theorem dX1_hasHead_16 : decode cX1_hasHead 16 = .ok (.iconst 1, 1) := by decide +kernel
theorem dX1_hasHead_17 : decode cX1_hasHead 17 = .ok (.goto 4, 3) := by decide +kernel
theorem dX1_hasHead_20 : decode cX1_hasHead 20 = .ok (.iconst 0, 1) := by decide +kernel
theorem dX1_hasHead_21 : decode cX1_hasHead 21 = .ok (.ireturn, 1) := by decide +kernel
theorem dX1_explore_0 : decode cX1_explore 0 = .ok (.aload_n 0, 1) := by decide +kernel
theorem dX1_explore_1 : decode cX1_explore 1 = .ok (.aload_n 1, 1) := by decide +kernel
theorem dX1_explore_2 : decode cX1_explore 2 = .ok (.invokevirtual 19, 3) := by decide +kernel
theorem dX1_explore_5 : decode cX1_explore 5 = .ok (.aload_n 0, 1) := by decide +kernel
theorem dX1_explore_6 : decode cX1_explore 6 = .ok (.aload_n 1, 1) := by decide +kernel
theorem dX1_explore_7 : decode cX1_explore 7 = .ok (.invokevirtual 23, 3) := by decide +kernel
theorem dX1_explore_10 : decode cX1_explore 10 = .ok (.iconst 1, 1) := by decide +kernel
theorem dX1_explore_11 : decode cX1_explore 11 = .ok (.istore_n 2, 1) := by decide +kernel
theorem dX1_explore_12 : decode cX1_explore 12 = .ok (.iconst 0, 1) := by decide +kernel
theorem dX1_explore_13 : decode cX1_explore 13 = .ok (.istore_n 3, 1) := by decide +kernel
theorem dX1_explore_14 : decode cX1_explore 14 = .ok (.iload_n 3, 1) := by decide +kernel
theorem dX1_explore_15 : decode cX1_explore 15 = .ok (.sipush 1000, 3) := by decide +kernel
theorem dX1_explore_18 : decode cX1_explore 18 = .ok (.if_icmp .ge 19, 3) := by decide +kernel
theorem dX1_explore_21 : decode cX1_explore 21 = .ok (.iload_n 2, 1) := by decide +kernel
theorem dX1_explore_22 : decode cX1_explore 22 = .ok (.ifCond .eq 15, 3) := by decide +kernel
theorem dX1_explore_25 : decode cX1_explore 25 = .ok (.aload_n 0, 1) := by decide +kernel
theorem dX1_explore_26 : decode cX1_explore 26 = .ok (.aload_n 1, 1) := by decide +kernel
theorem dX1_explore_27 : decode cX1_explore 27 = .ok (.invokevirtual 26, 3) := by decide +kernel
theorem dX1_explore_30 : decode cX1_explore 30 = .ok (.istore_n 2, 1) := by decide +kernel
theorem dX1_explore_31 : decode cX1_explore 31 = .ok (.iinc 3 1, 3) := by decide +kernel
theorem dX1_explore_34 : decode cX1_explore 34 = .ok (.goto (-20), 3) := by decide +kernel
theorem dX1_explore_37 : decode cX1_explore 37 = .ok (.return_, 1) := by decide +kernel
theorem dX1_settleFalls_0 : decode cX1_settleFalls 0 = .ok (.iconst 0, 1) := by decide +kernel
theorem dX1_settleFalls_1 : decode cX1_settleFalls 1 = .ok (.istore_n 2, 1) := by decide +kernel
theorem dX1_settleFalls_2 : decode cX1_settleFalls 2 = .ok (.iload_n 2, 1) := by decide +kernel
theorem dX1_settleFalls_3 : decode cX1_settleFalls 3 = .ok (.bipush 12, 2) := by decide +kernel
theorem dX1_settleFalls_5 : decode cX1_settleFalls 5 = .ok (.if_icmp .ge 16, 3) := by decide +kernel
theorem dX1_settleFalls_8 : decode cX1_settleFalls 8 = .ok (.aload_n 0, 1) := by decide +kernel
theorem dX1_settleFalls_9 : decode cX1_settleFalls 9 = .ok (.getfield 9, 3) := by decide +kernel
theorem dX1_settleFalls_12 : decode cX1_settleFalls 12 = .ok (.iload_n 2, 1) := by decide +kernel
theorem dX1_settleFalls_13 : decode cX1_settleFalls 13 = .ok (.iconst 0, 1) := by decide +kernel
theorem dX1_settleFalls_14 : decode cX1_settleFalls 14 = .ok (.iastore, 1) := by decide +kernel
theorem dX1_settleFalls_15 : decode cX1_settleFalls 15 = .ok (.iinc 2 1, 3) := by decide +kernel
theorem dX1_settleFalls_18 : decode cX1_settleFalls 18 = .ok (.goto (-16), 3) := by decide +kernel
theorem dX1_settleFalls_21 : decode cX1_settleFalls 21 = .ok (.iconst 1, 1) := by decide +kernel
theorem dX1_settleFalls_22 : decode cX1_settleFalls 22 = .ok (.istore_n 2, 1) := by decide +kernel
theorem dX1_settleFalls_23 : decode cX1_settleFalls 23 = .ok (.iconst 0, 1) := by decide +kernel
theorem dX1_settleFalls_24 : decode cX1_settleFalls 24 = .ok (.istore_n 3, 1) := by decide +kernel
theorem dX1_settleFalls_25 : decode cX1_settleFalls 25 = .ok (.iload_n 3, 1) := by decide +kernel
theorem dX1_settleFalls_26 : decode cX1_settleFalls 26 = .ok (.sipush 1000, 3) := by decide +kernel
theorem dX1_settleFalls_29 : decode cX1_settleFalls 29 = .ok (.if_icmp .ge 109, 3) := by decide +kernel
theorem dX1_settleFalls_32 : decode cX1_settleFalls 32 = .ok (.iload_n 2, 1) := by decide +kernel
theorem dX1_settleFalls_33 : decode cX1_settleFalls 33 = .ok (.ifCond .eq 105, 3) := by decide +kernel
theorem dX1_settleFalls_36 : decode cX1_settleFalls 36 = .ok (.iconst 0, 1) := by decide +kernel
theorem dX1_settleFalls_37 : decode cX1_settleFalls 37 = .ok (.istore_n 2, 1) := by decide +kernel
theorem dX1_settleFalls_38 : decode cX1_settleFalls 38 = .ok (.iconst 0, 1) := by decide +kernel
theorem dX1_settleFalls_39 : decode cX1_settleFalls 39 = .ok (.istore 4, 2) := by decide +kernel
theorem dX1_settleFalls_41 : decode cX1_settleFalls 41 = .ok (.iload 4, 2) := by decide +kernel
theorem dX1_settleFalls_43 : decode cX1_settleFalls 43 = .ok (.aload_n 1, 1) := by decide +kernel
theorem dX1_settleFalls_44 : decode cX1_settleFalls 44 = .ok (.getfield 30, 3) := by decide +kernel
theorem dX1_settleFalls_47 : decode cX1_settleFalls 47 = .ok (.if_icmp .ge 85, 3) := by decide +kernel
theorem dX1_settleFalls_50 : decode cX1_settleFalls 50 = .ok (.aload_n 1, 1) := by decide +kernel
theorem dX1_settleFalls_51 : decode cX1_settleFalls 51 = .ok (.getfield 35, 3) := by decide +kernel
theorem dX1_settleFalls_54 : decode cX1_settleFalls 54 = .ok (.iload 4, 2) := by decide +kernel
theorem dX1_settleFalls_56 : decode cX1_settleFalls 56 = .ok (.iaload, 1) := by decide +kernel
theorem dX1_settleFalls_57 : decode cX1_settleFalls 57 = .ok (.iconst 4, 1) := by decide +kernel
theorem dX1_settleFalls_58 : decode cX1_settleFalls 58 = .ok (.imul, 1) := by decide +kernel
theorem dX1_settleFalls_59 : decode cX1_settleFalls 59 = .ok (.aload_n 1, 1) := by decide +kernel
theorem dX1_settleFalls_60 : decode cX1_settleFalls 60 = .ok (.getfield 38, 3) := by decide +kernel
theorem dX1_settleFalls_63 : decode cX1_settleFalls 63 = .ok (.iload 4, 2) := by decide +kernel
theorem dX1_settleFalls_65 : decode cX1_settleFalls 65 = .ok (.iaload, 1) := by decide +kernel
theorem dX1_settleFalls_66 : decode cX1_settleFalls 66 = .ok (.iadd, 1) := by decide +kernel
theorem dX1_settleFalls_67 : decode cX1_settleFalls 67 = .ok (.istore 5, 2) := by decide +kernel
theorem dX1_settleFalls_69 : decode cX1_settleFalls 69 = .ok (.aload_n 0, 1) := by decide +kernel
theorem dX1_settleFalls_70 : decode cX1_settleFalls 70 = .ok (.getfield 9, 3) := by decide +kernel
theorem dX1_settleFalls_73 : decode cX1_settleFalls 73 = .ok (.iload 5, 2) := by decide +kernel
theorem dX1_settleFalls_75 : decode cX1_settleFalls 75 = .ok (.iaload, 1) := by decide +kernel
theorem dX1_settleFalls_76 : decode cX1_settleFalls 76 = .ok (.aload_n 0, 1) := by decide +kernel
theorem dX1_settleFalls_77 : decode cX1_settleFalls 77 = .ok (.aload_n 1, 1) := by decide +kernel
theorem dX1_settleFalls_78 : decode cX1_settleFalls 78 = .ok (.getfield 41, 3) := by decide +kernel
theorem dX1_settleFalls_81 : decode cX1_settleFalls 81 = .ok (.iload 4, 2) := by decide +kernel
theorem dX1_settleFalls_83 : decode cX1_settleFalls 83 = .ok (.iaload, 1) := by decide +kernel
theorem dX1_settleFalls_84 : decode cX1_settleFalls 84 = .ok (.aload_n 1, 1) := by decide +kernel
theorem dX1_settleFalls_85 : decode cX1_settleFalls 85 = .ok (.getfield 44, 3) := by decide +kernel
theorem dX1_settleFalls_88 : decode cX1_settleFalls 88 = .ok (.iload 4, 2) := by decide +kernel
theorem dX1_settleFalls_90 : decode cX1_settleFalls 90 = .ok (.iaload, 1) := by decide +kernel
theorem dX1_settleFalls_91 : decode cX1_settleFalls 91 = .ok (.invokevirtual 47, 3) := by decide +kernel
theorem dX1_settleFalls_94 : decode cX1_settleFalls 94 = .ok (.ior, 1) := by decide +kernel
theorem dX1_settleFalls_95 : decode cX1_settleFalls 95 = .ok (.istore 6, 2) := by decide +kernel
theorem dX1_settleFalls_97 : decode cX1_settleFalls 97 = .ok (.iload_n 2, 1) := by decide +kernel
theorem dX1_settleFalls_98 : decode cX1_settleFalls 98 = .ok (.iload 6, 2) := by decide +kernel
theorem dX1_settleFalls_100 : decode cX1_settleFalls 100 = .ok (.aload_n 0, 1) := by decide +kernel
theorem dX1_settleFalls_101 : decode cX1_settleFalls 101 = .ok (.getfield 9, 3) := by decide +kernel
theorem dX1_settleFalls_104 : decode cX1_settleFalls 104 = .ok (.iload 5, 2) := by decide +kernel
theorem dX1_settleFalls_106 : decode cX1_settleFalls 106 = .ok (.iaload, 1) := by decide +kernel
theorem dX1_settleFalls_107 : decode cX1_settleFalls 107 = .ok (.if_icmp .eq 7, 3) := by decide +kernel
theorem dX1_settleFalls_110 : decode cX1_settleFalls 110 = .ok (.iconst 1, 1) := by decide +kernel
theorem dX1_settleFalls_111 : decode cX1_settleFalls 111 = .ok (.goto 4, 3) := by decide +kernel
theorem dX1_settleFalls_114 : decode cX1_settleFalls 114 = .ok (.iconst 0, 1) := by decide +kernel
theorem dX1_settleFalls_115 : decode cX1_settleFalls 115 = .ok (.ior, 1) := by decide +kernel
theorem dX1_settleFalls_116 : decode cX1_settleFalls 116 = .ok (.istore_n 2, 1) := by decide +kernel
theorem dX1_settleFalls_117 : decode cX1_settleFalls 117 = .ok (.aload_n 0, 1) := by decide +kernel
theorem dX1_settleFalls_118 : decode cX1_settleFalls 118 = .ok (.getfield 9, 3) := by decide +kernel
theorem dX1_settleFalls_121 : decode cX1_settleFalls 121 = .ok (.iload 5, 2) := by decide +kernel
theorem dX1_settleFalls_123 : decode cX1_settleFalls 123 = .ok (.iload 6, 2) := by decide +kernel
theorem dX1_settleFalls_125 : decode cX1_settleFalls 125 = .ok (.iastore, 1) := by decide +kernel
theorem dX1_settleFalls_126 : decode cX1_settleFalls 126 = .ok (.iinc 4 1, 3) := by decide +kernel
theorem dX1_settleFalls_129 : decode cX1_settleFalls 129 = .ok (.goto (-88), 3) := by decide +kernel
theorem dX1_settleFalls_132 : decode cX1_settleFalls 132 = .ok (.iinc 3 1, 3) := by decide +kernel
theorem dX1_settleFalls_135 : decode cX1_settleFalls 135 = .ok (.goto (-110), 3) := by decide +kernel
theorem dX1_settleFalls_138 : decode cX1_settleFalls 138 = .ok (.return_, 1) := by decide +kernel
theorem dX1_afterWord_0 : decode cX1_afterWord 0 = .ok (.iconst 1, 1) := by decide +kernel
theorem dX1_afterWord_1 : decode cX1_afterWord 1 = .ok (.iload_n 1, 1) := by decide +kernel
theorem dX1_afterWord_2 : decode cX1_afterWord 2 = .ok (.ishl, 1) := by decide +kernel
theorem dX1_afterWord_3 : decode cX1_afterWord 3 = .ok (.istore_n 3, 1) := by decide +kernel
theorem dX1_afterWord_4 : decode cX1_afterWord 4 = .ok (.iload_n 2, 1) := by decide +kernel
theorem dX1_afterWord_5 : decode cX1_afterWord 5 = .ok (.invokestatic 51, 3) := by decide +kernel
theorem dX1_afterWord_8 : decode cX1_afterWord 8 = .ok (.ifCond .le 13, 3) := by decide +kernel
theorem dX1_afterWord_11 : decode cX1_afterWord 11 = .ok (.aload_n 0, 1) := by decide +kernel
theorem dX1_afterWord_12 : decode cX1_afterWord 12 = .ok (.iload_n 3, 1) := by decide +kernel
theorem dX1_afterWord_13 : decode cX1_afterWord 13 = .ok (.iload_n 2, 1) := by decide +kernel
theorem dX1_afterWord_14 : decode cX1_afterWord 14 = .ok (.invokestatic 55, 3) := by decide +kernel
theorem dX1_afterWord_17 : decode cX1_afterWord 17 = .ok (.invokevirtual 58, 3) := by decide +kernel
theorem dX1_afterWord_20 : decode cX1_afterWord 20 = .ok (.istore_n 3, 1) := by decide +kernel
theorem dX1_afterWord_21 : decode cX1_afterWord 21 = .ok (.iload_n 2, 1) := by decide +kernel
theorem dX1_afterWord_22 : decode cX1_afterWord 22 = .ok (.invokestatic 51, 3) := by decide +kernel
theorem dX1_afterWord_25 : decode cX1_afterWord 25 = .ok (.iconst 2, 1) := by decide +kernel
theorem dX1_afterWord_26 : decode cX1_afterWord 26 = .ok (.if_icmp .ne 15, 3) := by decide +kernel
theorem dX1_afterWord_29 : decode cX1_afterWord 29 = .ok (.aload_n 0, 1) := by decide +kernel
theorem dX1_afterWord_30 : decode cX1_afterWord 30 = .ok (.iload_n 3, 1) := by decide +kernel
theorem dX1_afterWord_31 : decode cX1_afterWord 31 = .ok (.iload_n 2, 1) := by decide +kernel
theorem dX1_afterWord_32 : decode cX1_afterWord 32 = .ok (.invokestatic 61, 3) := by decide +kernel
theorem dX1_afterWord_35 : decode cX1_afterWord 35 = .ok (.invokevirtual 58, 3) := by decide +kernel
theorem dX1_afterWord_38 : decode cX1_afterWord 38 = .ok (.goto 4, 3) := by decide +kernel
theorem dX1_afterWord_41 : decode cX1_afterWord 41 = .ok (.iload_n 3, 1) := by decide +kernel
theorem dX1_afterWord_42 : decode cX1_afterWord 42 = .ok (.ireturn, 1) := by decide +kernel
theorem dX1_afterLetter_0 : decode cX1_afterLetter 0 = .ok (.iconst 0, 1) := by decide +kernel
theorem dX1_afterLetter_1 : decode cX1_afterLetter 1 = .ok (.istore_n 3, 1) := by decide +kernel
theorem dX1_afterLetter_2 : decode cX1_afterLetter 2 = .ok (.iconst 0, 1) := by decide +kernel
theorem dX1_afterLetter_3 : decode cX1_afterLetter 3 = .ok (.istore 4, 2) := by decide +kernel
theorem dX1_afterLetter_5 : decode cX1_afterLetter 5 = .ok (.iload 4, 2) := by decide +kernel
theorem dX1_afterLetter_7 : decode cX1_afterLetter 7 = .ok (.iconst 3, 1) := by decide +kernel
theorem dX1_afterLetter_8 : decode cX1_afterLetter 8 = .ok (.if_icmp .ge 33, 3) := by decide +kernel
theorem dX1_afterLetter_11 : decode cX1_afterLetter 11 = .ok (.iload_n 1, 1) := by decide +kernel
theorem dX1_afterLetter_12 : decode cX1_afterLetter 12 = .ok (.iload 4, 2) := by decide +kernel
theorem dX1_afterLetter_14 : decode cX1_afterLetter 14 = .ok (.ishr, 1) := by decide +kernel
theorem dX1_afterLetter_15 : decode cX1_afterLetter 15 = .ok (.iconst 1, 1) := by decide +kernel
theorem dX1_afterLetter_16 : decode cX1_afterLetter 16 = .ok (.iand, 1) := by decide +kernel
theorem dX1_afterLetter_17 : decode cX1_afterLetter 17 = .ok (.iconst 1, 1) := by decide +kernel
theorem dX1_afterLetter_18 : decode cX1_afterLetter 18 = .ok (.if_icmp .ne 17, 3) := by decide +kernel
theorem dX1_afterLetter_21 : decode cX1_afterLetter 21 = .ok (.iload_n 3, 1) := by decide +kernel
theorem dX1_afterLetter_22 : decode cX1_afterLetter 22 = .ok (.aload_n 0, 1) := by decide +kernel
theorem dX1_afterLetter_23 : decode cX1_afterLetter 23 = .ok (.getfield 9, 3) := by decide +kernel
theorem dX1_afterLetter_26 : decode cX1_afterLetter 26 = .ok (.iload 4, 2) := by decide +kernel
theorem dX1_afterLetter_28 : decode cX1_afterLetter 28 = .ok (.iconst 4, 1) := by decide +kernel
theorem dX1_afterLetter_29 : decode cX1_afterLetter 29 = .ok (.imul, 1) := by decide +kernel
theorem dX1_afterLetter_30 : decode cX1_afterLetter 30 = .ok (.iload_n 2, 1) := by decide +kernel
theorem dX1_afterLetter_31 : decode cX1_afterLetter 31 = .ok (.iadd, 1) := by decide +kernel
theorem dX1_afterLetter_32 : decode cX1_afterLetter 32 = .ok (.iaload, 1) := by decide +kernel
theorem dX1_afterLetter_33 : decode cX1_afterLetter 33 = .ok (.ior, 1) := by decide +kernel
theorem dX1_afterLetter_34 : decode cX1_afterLetter 34 = .ok (.istore_n 3, 1) := by decide +kernel
theorem dX1_afterLetter_35 : decode cX1_afterLetter 35 = .ok (.iinc 4 1, 3) := by decide +kernel
theorem dX1_afterLetter_38 : decode cX1_afterLetter 38 = .ok (.goto (-33), 3) := by decide +kernel
theorem dX1_afterLetter_41 : decode cX1_afterLetter 41 = .ok (.iload_n 3, 1) := by decide +kernel
theorem dX1_afterLetter_42 : decode cX1_afterLetter 42 = .ok (.ireturn, 1) := by decide +kernel
theorem dX1_descend_0 : decode cX1_descend 0 = .ok (.aload_n 0, 1) := by decide +kernel
theorem dX1_descend_1 : decode cX1_descend 1 = .ok (.iconst 0, 1) := by decide +kernel
theorem dX1_descend_2 : decode cX1_descend 2 = .ok (.putfield 15, 3) := by decide +kernel
theorem dX1_descend_5 : decode cX1_descend 5 = .ok (.iconst 1, 1) := by decide +kernel
theorem dX1_descend_6 : decode cX1_descend 6 = .ok (.aload_n 1, 1) := by decide +kernel
theorem dX1_descend_7 : decode cX1_descend 7 = .ok (.getfield 64, 3) := by decide +kernel
theorem dX1_descend_10 : decode cX1_descend 10 = .ok (.ishl, 1) := by decide +kernel
theorem dX1_descend_11 : decode cX1_descend 11 = .ok (.istore_n 2, 1) := by decide +kernel
theorem dX1_descend_12 : decode cX1_descend 12 = .ok (.aload_n 1, 1) := by decide +kernel
theorem dX1_descend_13 : decode cX1_descend 13 = .ok (.getfield 67, 3) := by decide +kernel
theorem dX1_descend_16 : decode cX1_descend 16 = .ok (.iconst 1, 1) := by decide +kernel
theorem dX1_descend_17 : decode cX1_descend 17 = .ok (.isub, 1) := by decide +kernel
theorem dX1_descend_18 : decode cX1_descend 18 = .ok (.istore_n 3, 1) := by decide +kernel
theorem dX1_descend_19 : decode cX1_descend 19 = .ok (.iload_n 3, 1) := by decide +kernel
theorem dX1_descend_20 : decode cX1_descend 20 = .ok (.ifCond .lt 40, 3) := by decide +kernel
theorem dX1_descend_23 : decode cX1_descend 23 = .ok (.aload_n 0, 1) := by decide +kernel
theorem dX1_descend_24 : decode cX1_descend 24 = .ok (.dup, 1) := by decide +kernel
theorem dX1_descend_25 : decode cX1_descend 25 = .ok (.getfield 15, 3) := by decide +kernel
theorem dX1_descend_28 : decode cX1_descend 28 = .ok (.iload_n 2, 1) := by decide +kernel
theorem dX1_descend_29 : decode cX1_descend 29 = .ok (.aload_n 1, 1) := by decide +kernel
theorem dX1_descend_30 : decode cX1_descend 30 = .ok (.getfield 70, 3) := by decide +kernel
theorem dX1_descend_33 : decode cX1_descend 33 = .ok (.iload_n 3, 1) := by decide +kernel
theorem dX1_descend_34 : decode cX1_descend 34 = .ok (.iaload, 1) := by decide +kernel
theorem dX1_descend_35 : decode cX1_descend 35 = .ok (.invokestatic 73, 3) := by decide +kernel
theorem dX1_descend_38 : decode cX1_descend 38 = .ok (.ior, 1) := by decide +kernel
theorem dX1_descend_39 : decode cX1_descend 39 = .ok (.putfield 15, 3) := by decide +kernel
theorem dX1_descend_42 : decode cX1_descend 42 = .ok (.aload_n 0, 1) := by decide +kernel
theorem dX1_descend_43 : decode cX1_descend 43 = .ok (.iload_n 2, 1) := by decide +kernel
theorem dX1_descend_44 : decode cX1_descend 44 = .ok (.aload_n 1, 1) := by decide +kernel
theorem dX1_descend_45 : decode cX1_descend 45 = .ok (.getfield 70, 3) := by decide +kernel
theorem dX1_descend_48 : decode cX1_descend 48 = .ok (.iload_n 3, 1) := by decide +kernel
theorem dX1_descend_49 : decode cX1_descend 49 = .ok (.iaload, 1) := by decide +kernel
theorem dX1_descend_50 : decode cX1_descend 50 = .ok (.invokevirtual 58, 3) := by decide +kernel
theorem dX1_descend_53 : decode cX1_descend 53 = .ok (.istore_n 2, 1) := by decide +kernel
theorem dX1_descend_54 : decode cX1_descend 54 = .ok (.iinc 3 (-1), 3) := by decide +kernel
theorem dX1_descend_57 : decode cX1_descend 57 = .ok (.goto (-38), 3) := by decide +kernel
theorem dX1_descend_60 : decode cX1_descend 60 = .ok (.aload_n 0, 1) := by decide +kernel
theorem dX1_descend_61 : decode cX1_descend 61 = .ok (.iload_n 2, 1) := by decide +kernel
theorem dX1_descend_62 : decode cX1_descend 62 = .ok (.putfield 76, 3) := by decide +kernel
theorem dX1_descend_65 : decode cX1_descend 65 = .ok (.return_, 1) := by decide +kernel
theorem dX1_headsOf_0 : decode cX1_headsOf 0 = .ok (.iconst 0, 1) := by decide +kernel
theorem dX1_headsOf_1 : decode cX1_headsOf 1 = .ok (.istore_n 2, 1) := by decide +kernel
theorem dX1_headsOf_2 : decode cX1_headsOf 2 = .ok (.iconst 0, 1) := by decide +kernel
theorem dX1_headsOf_3 : decode cX1_headsOf 3 = .ok (.istore_n 3, 1) := by decide +kernel
theorem dX1_headsOf_4 : decode cX1_headsOf 4 = .ok (.iload_n 3, 1) := by decide +kernel
theorem dX1_headsOf_5 : decode cX1_headsOf 5 = .ok (.iconst 3, 1) := by decide +kernel
theorem dX1_headsOf_6 : decode cX1_headsOf 6 = .ok (.if_icmp .ge 28, 3) := by decide +kernel
theorem dX1_headsOf_9 : decode cX1_headsOf 9 = .ok (.iload_n 0, 1) := by decide +kernel
theorem dX1_headsOf_10 : decode cX1_headsOf 10 = .ok (.iload_n 3, 1) := by decide +kernel
theorem dX1_headsOf_11 : decode cX1_headsOf 11 = .ok (.ishr, 1) := by decide +kernel
theorem dX1_headsOf_12 : decode cX1_headsOf 12 = .ok (.iconst 1, 1) := by decide +kernel
theorem dX1_headsOf_13 : decode cX1_headsOf 13 = .ok (.iand, 1) := by decide +kernel
theorem dX1_headsOf_14 : decode cX1_headsOf 14 = .ok (.iconst 1, 1) := by decide +kernel
theorem dX1_headsOf_15 : decode cX1_headsOf 15 = .ok (.if_icmp .ne 13, 3) := by decide +kernel
theorem dX1_headsOf_18 : decode cX1_headsOf 18 = .ok (.iload_n 2, 1) := by decide +kernel
theorem dX1_headsOf_19 : decode cX1_headsOf 19 = .ok (.iconst 1, 1) := by decide +kernel
theorem dX1_headsOf_20 : decode cX1_headsOf 20 = .ok (.iload_n 3, 1) := by decide +kernel
theorem dX1_headsOf_21 : decode cX1_headsOf 21 = .ok (.iconst 4, 1) := by decide +kernel
theorem dX1_headsOf_22 : decode cX1_headsOf 22 = .ok (.imul, 1) := by decide +kernel
theorem dX1_headsOf_23 : decode cX1_headsOf 23 = .ok (.iload_n 1, 1) := by decide +kernel
theorem dX1_headsOf_24 : decode cX1_headsOf 24 = .ok (.iadd, 1) := by decide +kernel
theorem dX1_headsOf_25 : decode cX1_headsOf 25 = .ok (.ishl, 1) := by decide +kernel
theorem dX1_headsOf_26 : decode cX1_headsOf 26 = .ok (.ior, 1) := by decide +kernel
theorem dX1_headsOf_27 : decode cX1_headsOf 27 = .ok (.istore_n 2, 1) := by decide +kernel
theorem dX1_headsOf_28 : decode cX1_headsOf 28 = .ok (.iinc 3 1, 3) := by decide +kernel
theorem dX1_headsOf_31 : decode cX1_headsOf 31 = .ok (.goto (-27), 3) := by decide +kernel
theorem dX1_headsOf_34 : decode cX1_headsOf 34 = .ok (.iload_n 2, 1) := by decide +kernel
theorem dX1_headsOf_35 : decode cX1_headsOf 35 = .ok (.ireturn, 1) := by decide +kernel
theorem dX1_spread_0 : decode cX1_spread 0 = .ok (.aload_n 0, 1) := by decide +kernel
theorem dX1_spread_1 : decode cX1_spread 1 = .ok (.getfield 15, 3) := by decide +kernel
theorem dX1_spread_4 : decode cX1_spread 4 = .ok (.istore_n 2, 1) := by decide +kernel
theorem dX1_spread_5 : decode cX1_spread 5 = .ok (.iconst 0, 1) := by decide +kernel
theorem dX1_spread_6 : decode cX1_spread 6 = .ok (.istore_n 3, 1) := by decide +kernel
theorem dX1_spread_7 : decode cX1_spread 7 = .ok (.iload_n 3, 1) := by decide +kernel
theorem dX1_spread_8 : decode cX1_spread 8 = .ok (.aload_n 1, 1) := by decide +kernel
theorem dX1_spread_9 : decode cX1_spread 9 = .ok (.getfield 30, 3) := by decide +kernel
theorem dX1_spread_12 : decode cX1_spread 12 = .ok (.if_icmp .ge 110, 3) := by decide +kernel
theorem dX1_spread_15 : decode cX1_spread 15 = .ok (.aload_n 1, 1) := by decide +kernel
theorem dX1_spread_16 : decode cX1_spread 16 = .ok (.getfield 44, 3) := by decide +kernel
theorem dX1_spread_19 : decode cX1_spread 19 = .ok (.iload_n 3, 1) := by decide +kernel
theorem dX1_spread_20 : decode cX1_spread 20 = .ok (.iaload, 1) := by decide +kernel
theorem dX1_spread_21 : decode cX1_spread 21 = .ok (.istore 4, 2) := by decide +kernel
theorem dX1_spread_23 : decode cX1_spread 23 = .ok (.aload_n 0, 1) := by decide +kernel
theorem dX1_spread_24 : decode cX1_spread 24 = .ok (.aload_n 1, 1) := by decide +kernel
theorem dX1_spread_25 : decode cX1_spread 25 = .ok (.getfield 35, 3) := by decide +kernel
theorem dX1_spread_28 : decode cX1_spread 28 = .ok (.iload_n 3, 1) := by decide +kernel
theorem dX1_spread_29 : decode cX1_spread 29 = .ok (.iaload, 1) := by decide +kernel
theorem dX1_spread_30 : decode cX1_spread 30 = .ok (.aload_n 1, 1) := by decide +kernel
theorem dX1_spread_31 : decode cX1_spread 31 = .ok (.getfield 38, 3) := by decide +kernel
theorem dX1_spread_34 : decode cX1_spread 34 = .ok (.iload_n 3, 1) := by decide +kernel
theorem dX1_spread_35 : decode cX1_spread 35 = .ok (.iaload, 1) := by decide +kernel
theorem dX1_spread_36 : decode cX1_spread 36 = .ok (.invokevirtual 79, 3) := by decide +kernel
theorem dX1_spread_39 : decode cX1_spread 39 = .ok (.ifCond .eq 77, 3) := by decide +kernel
theorem dX1_spread_42 : decode cX1_spread 42 = .ok (.iload 4, 2) := by decide +kernel
theorem dX1_spread_44 : decode cX1_spread 44 = .ok (.invokestatic 51, 3) := by decide +kernel
theorem dX1_spread_47 : decode cX1_spread 47 = .ok (.ifCond .le 69, 3) := by decide +kernel
theorem dX1_spread_50 : decode cX1_spread 50 = .ok (.iconst 1, 1) := by decide +kernel
theorem dX1_spread_51 : decode cX1_spread 51 = .ok (.aload_n 1, 1) := by decide +kernel
theorem dX1_spread_52 : decode cX1_spread 52 = .ok (.getfield 41, 3) := by decide +kernel
theorem dX1_spread_55 : decode cX1_spread 55 = .ok (.iload_n 3, 1) := by decide +kernel
theorem dX1_spread_56 : decode cX1_spread 56 = .ok (.iaload, 1) := by decide +kernel
theorem dX1_spread_57 : decode cX1_spread 57 = .ok (.ishl, 1) := by decide +kernel
theorem dX1_spread_58 : decode cX1_spread 58 = .ok (.istore 5, 2) := by decide +kernel
theorem dX1_spread_60 : decode cX1_spread 60 = .ok (.aload_n 0, 1) := by decide +kernel
theorem dX1_spread_61 : decode cX1_spread 61 = .ok (.dup, 1) := by decide +kernel
theorem dX1_spread_62 : decode cX1_spread 62 = .ok (.getfield 15, 3) := by decide +kernel
theorem dX1_spread_65 : decode cX1_spread 65 = .ok (.iload 5, 2) := by decide +kernel
theorem dX1_spread_67 : decode cX1_spread 67 = .ok (.iload 4, 2) := by decide +kernel
theorem dX1_spread_69 : decode cX1_spread 69 = .ok (.invokestatic 55, 3) := by decide +kernel
theorem dX1_spread_72 : decode cX1_spread 72 = .ok (.invokestatic 73, 3) := by decide +kernel
theorem dX1_spread_75 : decode cX1_spread 75 = .ok (.ior, 1) := by decide +kernel
theorem dX1_spread_76 : decode cX1_spread 76 = .ok (.putfield 15, 3) := by decide +kernel
theorem dX1_spread_79 : decode cX1_spread 79 = .ok (.iload 4, 2) := by decide +kernel
theorem dX1_spread_81 : decode cX1_spread 81 = .ok (.invokestatic 51, 3) := by decide +kernel
theorem dX1_spread_84 : decode cX1_spread 84 = .ok (.iconst 2, 1) := by decide +kernel
theorem dX1_spread_85 : decode cX1_spread 85 = .ok (.if_icmp .ne 31, 3) := by decide +kernel
theorem dX1_spread_88 : decode cX1_spread 88 = .ok (.aload_n 0, 1) := by decide +kernel
theorem dX1_spread_89 : decode cX1_spread 89 = .ok (.dup, 1) := by decide +kernel
theorem dX1_spread_90 : decode cX1_spread 90 = .ok (.getfield 15, 3) := by decide +kernel
theorem dX1_spread_93 : decode cX1_spread 93 = .ok (.aload_n 0, 1) := by decide +kernel
theorem dX1_spread_94 : decode cX1_spread 94 = .ok (.iload 5, 2) := by decide +kernel
theorem dX1_spread_96 : decode cX1_spread 96 = .ok (.iload 4, 2) := by decide +kernel
theorem dX1_spread_98 : decode cX1_spread 98 = .ok (.invokestatic 55, 3) := by decide +kernel
theorem dX1_spread_101 : decode cX1_spread 101 = .ok (.invokevirtual 58, 3) := by decide +kernel
theorem dX1_spread_104 : decode cX1_spread 104 = .ok (.iload 4, 2) := by decide +kernel
theorem dX1_spread_106 : decode cX1_spread 106 = .ok (.invokestatic 61, 3) := by decide +kernel
theorem dX1_spread_109 : decode cX1_spread 109 = .ok (.invokestatic 73, 3) := by decide +kernel
theorem dX1_spread_112 : decode cX1_spread 112 = .ok (.ior, 1) := by decide +kernel
theorem dX1_spread_113 : decode cX1_spread 113 = .ok (.putfield 15, 3) := by decide +kernel
theorem dX1_spread_116 : decode cX1_spread 116 = .ok (.iinc 3 1, 3) := by decide +kernel
theorem dX1_spread_119 : decode cX1_spread 119 = .ok (.goto (-112), 3) := by decide +kernel
theorem dX1_spread_122 : decode cX1_spread 122 = .ok (.aload_n 0, 1) := by decide +kernel
theorem dX1_spread_123 : decode cX1_spread 123 = .ok (.getfield 15, 3) := by decide +kernel
theorem dX1_spread_126 : decode cX1_spread 126 = .ok (.iload_n 2, 1) := by decide +kernel
theorem dX1_spread_127 : decode cX1_spread 127 = .ok (.if_icmp .eq 7, 3) := by decide +kernel
theorem dX1_spread_130 : decode cX1_spread 130 = .ok (.iconst 1, 1) := by decide +kernel
theorem dX1_spread_131 : decode cX1_spread 131 = .ok (.goto 4, 3) := by decide +kernel
theorem dX1_spread_134 : decode cX1_spread 134 = .ok (.iconst 0, 1) := by decide +kernel
theorem dX1_spread_135 : decode cX1_spread 135 = .ok (.ireturn, 1) := by decide +kernel
theorem dX2_init_0 : decode cX2_init 0 = .ok (.aload_n 0, 1) := by decide +kernel
theorem dX2_init_1 : decode cX2_init 1 = .ok (.invokespecial 3, 3) := by decide +kernel
theorem dX2_init_4 : decode cX2_init 4 = .ok (.aload_n 0, 1) := by decide +kernel
theorem dX2_init_5 : decode cX2_init 5 = .ok (.sipush 200, 3) := by decide +kernel
theorem dX2_init_8 : decode cX2_init 8 = .ok (.newarray .int, 2) := by decide +kernel
theorem dX2_init_10 : decode cX2_init 10 = .ok (.putfield 9, 3) := by decide +kernel
theorem dX2_init_13 : decode cX2_init 13 = .ok (.aload_n 0, 1) := by decide +kernel
theorem dX2_init_14 : decode cX2_init 14 = .ok (.sipush 2600, 3) := by decide +kernel
theorem dX2_init_17 : decode cX2_init 17 = .ok (.newarray .long, 2) := by decide +kernel
theorem dX2_init_19 : decode cX2_init 19 = .ok (.putfield 15, 3) := by decide +kernel
theorem dX2_init_22 : decode cX2_init 22 = .ok (.return_, 1) := by decide +kernel
theorem dX2_begin_0 : decode cX2_begin 0 = .ok (.aload_n 0, 1) := by decide +kernel
theorem dX2_begin_1 : decode cX2_begin 1 = .ok (.aload_n 1, 1) := by decide +kernel
theorem dX2_begin_2 : decode cX2_begin 2 = .ok (.getfield 19, 3) := by decide +kernel
theorem dX2_begin_5 : decode cX2_begin 5 = .ok (.putfield 25, 3) := by decide +kernel
theorem dX2_begin_8 : decode cX2_begin 8 = .ok (.aload_n 0, 1) := by decide +kernel
theorem dX2_begin_9 : decode cX2_begin 9 = .ok (.aload_n 1, 1) := by decide +kernel
theorem dX2_begin_10 : decode cX2_begin 10 = .ok (.getfield 26, 3) := by decide +kernel
theorem dX2_begin_13 : decode cX2_begin 13 = .ok (.putfield 29, 3) := by decide +kernel
theorem dX2_begin_16 : decode cX2_begin 16 = .ok (.aload_n 0, 1) := by decide +kernel
theorem dX2_begin_17 : decode cX2_begin 17 = .ok (.iconst 0, 1) := by decide +kernel
theorem dX2_begin_18 : decode cX2_begin 18 = .ok (.putfield 30, 3) := by decide +kernel
theorem dX2_begin_21 : decode cX2_begin 21 = .ok (.aload_n 0, 1) := by decide +kernel
theorem dX2_begin_22 : decode cX2_begin 22 = .ok (.bipush (-4), 2) := by decide +kernel
theorem dX2_begin_24 : decode cX2_begin 24 = .ok (.putfield 33, 3) := by decide +kernel
theorem dX2_begin_27 : decode cX2_begin 27 = .ok (.aload_n 2, 1) := by decide +kernel
theorem dX2_begin_28 : decode cX2_begin 28 = .ok (.aload_n 0, 1) := by decide +kernel
theorem dX2_begin_29 : decode cX2_begin 29 = .ok (.getfield 15, 3) := by decide +kernel
theorem dX2_begin_32 : decode cX2_begin 32 = .ok (.invokevirtual 36, 3) := by decide +kernel
theorem dX2_begin_35 : decode cX2_begin 35 = .ok (.iconst 0, 1) := by decide +kernel
theorem dX2_begin_36 : decode cX2_begin 36 = .ok (.istore_n 3, 1) := by decide +kernel
theorem dX2_begin_37 : decode cX2_begin 37 = .ok (.iload_n 3, 1) := by decide +kernel
theorem dX2_begin_38 : decode cX2_begin 38 = .ok (.aload_n 0, 1) := by decide +kernel
theorem dX2_begin_39 : decode cX2_begin 39 = .ok (.getfield 25, 3) := by decide +kernel
theorem dX2_begin_42 : decode cX2_begin 42 = .ok (.if_icmp .ge 27, 3) := by decide +kernel
theorem dX2_begin_45 : decode cX2_begin 45 = .ok (.aload_n 0, 1) := by decide +kernel
theorem dX2_begin_46 : decode cX2_begin 46 = .ok (.getfield 9, 3) := by decide +kernel
theorem dX2_begin_49 : decode cX2_begin 49 = .ok (.iload_n 3, 1) := by decide +kernel
theorem dX2_begin_50 : decode cX2_begin 50 = .ok (.aload_n 1, 1) := by decide +kernel
theorem dX2_begin_51 : decode cX2_begin 51 = .ok (.getfield 42, 3) := by decide +kernel
theorem dX2_begin_54 : decode cX2_begin 54 = .ok (.iload_n 3, 1) := by decide +kernel
theorem dX2_begin_55 : decode cX2_begin 55 = .ok (.iaload, 1) := by decide +kernel
theorem dX2_begin_56 : decode cX2_begin 56 = .ok (.iastore, 1) := by decide +kernel
theorem dX2_begin_57 : decode cX2_begin 57 = .ok (.aload_n 0, 1) := by decide +kernel
theorem dX2_begin_58 : decode cX2_begin 58 = .ok (.iload_n 3, 1) := by decide +kernel
theorem dX2_begin_59 : decode cX2_begin 59 = .ok (.aload_n 2, 1) := by decide +kernel
theorem dX2_begin_60 : decode cX2_begin 60 = .ok (.invokevirtual 45, 3) := by decide +kernel
theorem dX2_begin_63 : decode cX2_begin 63 = .ok (.iinc 3 1, 3) := by decide +kernel
theorem dX2_begin_66 : decode cX2_begin 66 = .ok (.goto (-29), 3) := by decide +kernel
theorem dX2_begin_69 : decode cX2_begin 69 = .ok (.aload_n 0, 1) := by decide +kernel
theorem dX2_begin_70 : decode cX2_begin 70 = .ok (.aload_n 0, 1) := by decide +kernel
theorem dX2_begin_71 : decode cX2_begin 71 = .ok (.getfield 15, 3) := by decide +kernel
theorem dX2_begin_74 : decode cX2_begin 74 = .ok (.aload_n 0, 1) := by decide +kernel
theorem dX2_begin_75 : decode cX2_begin 75 = .ok (.getfield 25, 3) := by decide +kernel
theorem dX2_begin_78 : decode cX2_begin 78 = .ok (.bipush 13, 2) := by decide +kernel
theorem dX2_begin_80 : decode cX2_begin 80 = .ok (.imul, 1) := by decide +kernel
theorem dX2_begin_81 : decode cX2_begin 81 = .ok (.aload_n 0, 1) := by decide +kernel
theorem dX2_begin_82 : decode cX2_begin 82 = .ok (.getfield 29, 3) := by decide +kernel
theorem dX2_begin_85 : decode cX2_begin 85 = .ok (.iadd, 1) := by decide +kernel
theorem dX2_begin_86 : decode cX2_begin 86 = .ok (.laload, 1) := by decide +kernel
theorem dX2_begin_87 : decode cX2_begin 87 = .ok (.putfield 49, 3) := by decide +kernel
theorem dX2_begin_90 : decode cX2_begin 90 = .ok (.return_, 1) := by decide +kernel
theorem dX2_fillTail_0 : decode cX2_fillTail 0 = .ok (.iconst 0, 1) := by decide +kernel
theorem dX2_fillTail_1 : decode cX2_fillTail 1 = .ok (.istore_n 3, 1) := by decide +kernel
theorem dX2_fillTail_2 : decode cX2_fillTail 2 = .ok (.iload_n 3, 1) := by decide +kernel
theorem dX2_fillTail_3 : decode cX2_fillTail 3 = .ok (.aload_n 2, 1) := by decide +kernel
theorem dX2_fillTail_4 : decode cX2_fillTail 4 = .ok (.getfield 53, 3) := by decide +kernel
theorem dX2_fillTail_7 : decode cX2_fillTail 7 = .ok (.if_icmp .ge 38, 3) := by decide +kernel
theorem dX2_fillTail_10 : decode cX2_fillTail 10 = .ok (.aload_n 0, 1) := by decide +kernel
theorem dX2_fillTail_11 : decode cX2_fillTail 11 = .ok (.getfield 15, 3) := by decide +kernel
theorem dX2_fillTail_14 : decode cX2_fillTail 14 = .ok (.iload_n 1, 1) := by decide +kernel
theorem dX2_fillTail_15 : decode cX2_fillTail 15 = .ok (.iconst 1, 1) := by decide +kernel
theorem dX2_fillTail_16 : decode cX2_fillTail 16 = .ok (.iadd, 1) := by decide +kernel
theorem dX2_fillTail_17 : decode cX2_fillTail 17 = .ok (.bipush 13, 2) := by decide +kernel
theorem dX2_fillTail_19 : decode cX2_fillTail 19 = .ok (.imul, 1) := by decide +kernel
theorem dX2_fillTail_20 : decode cX2_fillTail 20 = .ok (.iload_n 3, 1) := by decide +kernel
theorem dX2_fillTail_21 : decode cX2_fillTail 21 = .ok (.iadd, 1) := by decide +kernel
theorem dX2_fillTail_22 : decode cX2_fillTail 22 = .ok (.aload_n 2, 1) := by decide +kernel
theorem dX2_fillTail_23 : decode cX2_fillTail 23 = .ok (.iload_n 3, 1) := by decide +kernel
theorem dX2_fillTail_24 : decode cX2_fillTail 24 = .ok (.aload_n 0, 1) := by decide +kernel
theorem dX2_fillTail_25 : decode cX2_fillTail 25 = .ok (.getfield 9, 3) := by decide +kernel
theorem dX2_fillTail_28 : decode cX2_fillTail 28 = .ok (.iload_n 1, 1) := by decide +kernel
theorem dX2_fillTail_29 : decode cX2_fillTail 29 = .ok (.iaload, 1) := by decide +kernel
theorem dX2_fillTail_30 : decode cX2_fillTail 30 = .ok (.aload_n 0, 1) := by decide +kernel
theorem dX2_fillTail_31 : decode cX2_fillTail 31 = .ok (.getfield 15, 3) := by decide +kernel
theorem dX2_fillTail_34 : decode cX2_fillTail 34 = .ok (.iload_n 1, 1) := by decide +kernel
theorem dX2_fillTail_35 : decode cX2_fillTail 35 = .ok (.invokevirtual 56, 3) := by decide +kernel
theorem dX2_fillTail_38 : decode cX2_fillTail 38 = .ok (.lastore, 1) := by decide +kernel
theorem dX2_fillTail_39 : decode cX2_fillTail 39 = .ok (.iinc 3 1, 3) := by decide +kernel
theorem dX2_fillTail_42 : decode cX2_fillTail 42 = .ok (.goto (-40), 3) := by decide +kernel
theorem dX2_fillTail_45 : decode cX2_fillTail 45 = .ok (.return_, 1) := by decide +kernel
theorem dX2_steps_0 : decode cX2_steps 0 = .ok (.aload_n 0, 1) := by decide +kernel
theorem dX2_steps_1 : decode cX2_steps 1 = .ok (.getfield 49, 3) := by decide +kernel
theorem dX2_steps_4 : decode cX2_steps 4 = .ok (.ldc2_w 60, 3) := by decide +kernel
theorem dX2_steps_7 : decode cX2_steps 7 = .ok (.lcmp, 1) := by decide +kernel
theorem dX2_steps_8 : decode cX2_steps 8 = .ok (.ifCond .ge 17, 3) := by decide +kernel
theorem dX2_steps_11 : decode cX2_steps 11 = .ok (.aload_n 0, 1) := by decide +kernel
theorem dX2_steps_12 : decode cX2_steps 12 = .ok (.getfield 30, 3) := by decide +kernel
theorem dX2_steps_15 : decode cX2_steps 15 = .ok (.i2l, 1) := by decide +kernel
theorem dX2_steps_16 : decode cX2_steps 16 = .ok (.aload_n 0, 1) := by decide +kernel
theorem dX2_steps_17 : decode cX2_steps 17 = .ok (.getfield 49, 3) := by decide +kernel
theorem dX2_steps_20 : decode cX2_steps 20 = .ok (.ladd, 1) := by decide +kernel
theorem dX2_steps_21 : decode cX2_steps 21 = .ok (.l2i, 1) := by decide +kernel
theorem dX2_steps_22 : decode cX2_steps 22 = .ok (.goto 5, 3) := by decide +kernel
theorem dX2_steps_25 : decode cX2_steps 25 = .ok (.bipush (-4), 2) := by decide +kernel
theorem dX2_steps_27 : decode cX2_steps 27 = .ok (.ireturn, 1) := by decide +kernel
theorem dX2_ruleAt_0 : decode cX2_ruleAt 0 = .ok (.aload_n 0, 1) := by decide +kernel
theorem dX2_ruleAt_1 : decode cX2_ruleAt 1 = .ok (.getfield 30, 3) := by decide +kernel
theorem dX2_ruleAt_4 : decode cX2_ruleAt 4 = .ok (.istore 4, 2) := by decide +kernel
theorem dX2_ruleAt_6 : decode cX2_ruleAt 6 = .ok (.iload 4, 2) := by decide +kernel
theorem dX2_ruleAt_8 : decode cX2_ruleAt 8 = .ok (.iload_n 1, 1) := by decide +kernel
theorem dX2_ruleAt_9 : decode cX2_ruleAt 9 = .ok (.if_icmp .gt 19, 3) := by decide +kernel
theorem dX2_ruleAt_12 : decode cX2_ruleAt 12 = .ok (.aload_n 0, 1) := by decide +kernel
theorem dX2_ruleAt_13 : decode cX2_ruleAt 13 = .ok (.aload_n 0, 1) := by decide +kernel
theorem dX2_ruleAt_14 : decode cX2_ruleAt 14 = .ok (.aload_n 2, 1) := by decide +kernel
theorem dX2_ruleAt_15 : decode cX2_ruleAt 15 = .ok (.aload_n 3, 1) := by decide +kernel
theorem dX2_ruleAt_16 : decode cX2_ruleAt 16 = .ok (.invokevirtual 62, 3) := by decide +kernel
theorem dX2_ruleAt_19 : decode cX2_ruleAt 19 = .ok (.putfield 33, 3) := by decide +kernel
theorem dX2_ruleAt_22 : decode cX2_ruleAt 22 = .ok (.iinc 4 1, 3) := by decide +kernel
theorem dX2_ruleAt_25 : decode cX2_ruleAt 25 = .ok (.goto (-19), 3) := by decide +kernel
theorem dX2_ruleAt_28 : decode cX2_ruleAt 28 = .ok (.aload_n 0, 1) := by decide +kernel
theorem dX2_ruleAt_29 : decode cX2_ruleAt 29 = .ok (.getfield 33, 3) := by decide +kernel
theorem dX2_ruleAt_32 : decode cX2_ruleAt 32 = .ok (.ireturn, 1) := by decide +kernel
theorem dX2_advance_0 : decode cX2_advance 0 = .ok (.aload_n 0, 1) := by decide +kernel
theorem dX2_advance_1 : decode cX2_advance 1 = .ok (.getfield 25, 3) := by decide +kernel
theorem dX2_advance_4 : decode cX2_advance 4 = .ok (.ifCond .eq 15, 3) := by decide +kernel
theorem dX2_advance_7 : decode cX2_advance 7 = .ok (.aload_n 0, 1) := by decide +kernel
theorem dX2_advance_8 : decode cX2_advance 8 = .ok (.getfield 25, 3) := by decide +kernel
theorem dX2_advance_11 : decode cX2_advance 11 = .ok (.iconst 2, 1) := by decide +kernel
theorem dX2_advance_12 : decode cX2_advance 12 = .ok (.iadd, 1) := by decide +kernel
theorem dX2_advance_13 : decode cX2_advance 13 = .ok (.sipush 200, 3) := by decide +kernel
theorem dX2_advance_16 : decode cX2_advance 16 = .ok (.if_icmp .lt 6, 3) := by decide +kernel
theorem dX2_advance_19 : decode cX2_advance 19 = .ok (.bipush (-4), 2) := by decide +kernel
theorem dX2_advance_21 : decode cX2_advance 21 = .ok (.ireturn, 1) := by decide +kernel
theorem dX2_advance_22 : decode cX2_advance 22 = .ok (.iconst 0, 1) := by decide +kernel
theorem dX2_advance_23 : decode cX2_advance 23 = .ok (.istore_n 3, 1) := by decide +kernel
theorem dX2_advance_24 : decode cX2_advance 24 = .ok (.iload_n 3, 1) := by decide +kernel
theorem dX2_advance_25 : decode cX2_advance 25 = .ok (.aload_n 1, 1) := by decide +kernel
theorem dX2_advance_26 : decode cX2_advance 26 = .ok (.getfield 66, 3) := by decide +kernel
theorem dX2_advance_29 : decode cX2_advance 29 = .ok (.if_icmp .ge 112, 3) := by decide +kernel
theorem dX2_advance_32 : decode cX2_advance 32 = .ok (.aload_n 1, 1) := by decide +kernel
theorem dX2_advance_33 : decode cX2_advance 33 = .ok (.getfield 69, 3) := by decide +kernel
theorem dX2_advance_36 : decode cX2_advance 36 = .ok (.iload_n 3, 1) := by decide +kernel
theorem dX2_advance_37 : decode cX2_advance 37 = .ok (.iaload, 1) := by decide +kernel
theorem dX2_advance_38 : decode cX2_advance 38 = .ok (.aload_n 0, 1) := by decide +kernel
theorem dX2_advance_39 : decode cX2_advance 39 = .ok (.getfield 29, 3) := by decide +kernel
theorem dX2_advance_42 : decode cX2_advance 42 = .ok (.if_icmp .ne 93, 3) := by decide +kernel
theorem dX2_advance_45 : decode cX2_advance 45 = .ok (.aload_n 1, 1) := by decide +kernel
theorem dX2_advance_46 : decode cX2_advance 46 = .ok (.getfield 72, 3) := by decide +kernel
theorem dX2_advance_49 : decode cX2_advance 49 = .ok (.iload_n 3, 1) := by decide +kernel
theorem dX2_advance_50 : decode cX2_advance 50 = .ok (.iaload, 1) := by decide +kernel
theorem dX2_advance_51 : decode cX2_advance 51 = .ok (.aload_n 0, 1) := by decide +kernel
theorem dX2_advance_52 : decode cX2_advance 52 = .ok (.getfield 9, 3) := by decide +kernel
theorem dX2_advance_55 : decode cX2_advance 55 = .ok (.aload_n 0, 1) := by decide +kernel
theorem dX2_advance_56 : decode cX2_advance 56 = .ok (.getfield 25, 3) := by decide +kernel
theorem dX2_advance_59 : decode cX2_advance 59 = .ok (.iconst 1, 1) := by decide +kernel
theorem dX2_advance_60 : decode cX2_advance 60 = .ok (.isub, 1) := by decide +kernel
theorem dX2_advance_61 : decode cX2_advance 61 = .ok (.iaload, 1) := by decide +kernel
theorem dX2_advance_62 : decode cX2_advance 62 = .ok (.if_icmp .ne 73, 3) := by decide +kernel
theorem dX2_advance_65 : decode cX2_advance 65 = .ok (.aload_n 0, 1) := by decide +kernel
theorem dX2_advance_66 : decode cX2_advance 66 = .ok (.aload_n 1, 1) := by decide +kernel
theorem dX2_advance_67 : decode cX2_advance 67 = .ok (.getfield 75, 3) := by decide +kernel
theorem dX2_advance_70 : decode cX2_advance 70 = .ok (.iload_n 3, 1) := by decide +kernel
theorem dX2_advance_71 : decode cX2_advance 71 = .ok (.iaload, 1) := by decide +kernel
theorem dX2_advance_72 : decode cX2_advance 72 = .ok (.aload_n 1, 1) := by decide +kernel
theorem dX2_advance_73 : decode cX2_advance 73 = .ok (.getfield 78, 3) := by decide +kernel
theorem dX2_advance_76 : decode cX2_advance 76 = .ok (.iload_n 3, 1) := by decide +kernel
theorem dX2_advance_77 : decode cX2_advance 77 = .ok (.iaload, 1) := by decide +kernel
theorem dX2_advance_78 : decode cX2_advance 78 = .ok (.aload_n 2, 1) := by decide +kernel
theorem dX2_advance_79 : decode cX2_advance 79 = .ok (.invokevirtual 81, 3) := by decide +kernel
theorem dX2_advance_82 : decode cX2_advance 82 = .ok (.aload_n 0, 1) := by decide +kernel
theorem dX2_advance_83 : decode cX2_advance 83 = .ok (.getfield 49, 3) := by decide +kernel
theorem dX2_advance_86 : decode cX2_advance 86 = .ok (.lconst 1, 1) := by decide +kernel
theorem dX2_advance_87 : decode cX2_advance 87 = .ok (.lsub, 1) := by decide +kernel
theorem dX2_advance_88 : decode cX2_advance 88 = .ok (.lcmp, 1) := by decide +kernel
theorem dX2_advance_89 : decode cX2_advance 89 = .ok (.ifCond .ne 46, 3) := by decide +kernel
theorem dX2_advance_92 : decode cX2_advance 92 = .ok (.aload_n 0, 1) := by decide +kernel
theorem dX2_advance_93 : decode cX2_advance 93 = .ok (.aload_n 1, 1) := by decide +kernel
theorem dX2_advance_94 : decode cX2_advance 94 = .ok (.getfield 78, 3) := by decide +kernel
theorem dX2_advance_97 : decode cX2_advance 97 = .ok (.iload_n 3, 1) := by decide +kernel
theorem dX2_advance_98 : decode cX2_advance 98 = .ok (.iaload, 1) := by decide +kernel
theorem dX2_advance_99 : decode cX2_advance 99 = .ok (.aload_n 2, 1) := by decide +kernel
theorem dX2_advance_100 : decode cX2_advance 100 = .ok (.invokevirtual 85, 3) := by decide +kernel
theorem dX2_advance_103 : decode cX2_advance 103 = .ok (.aload_n 0, 1) := by decide +kernel
theorem dX2_advance_104 : decode cX2_advance 104 = .ok (.aload_n 1, 1) := by decide +kernel
theorem dX2_advance_105 : decode cX2_advance 105 = .ok (.getfield 75, 3) := by decide +kernel
theorem dX2_advance_108 : decode cX2_advance 108 = .ok (.iload_n 3, 1) := by decide +kernel
theorem dX2_advance_109 : decode cX2_advance 109 = .ok (.iaload, 1) := by decide +kernel
theorem dX2_advance_110 : decode cX2_advance 110 = .ok (.putfield 29, 3) := by decide +kernel
theorem dX2_advance_113 : decode cX2_advance 113 = .ok (.aload_n 0, 1) := by decide +kernel
theorem dX2_advance_114 : decode cX2_advance 114 = .ok (.dup, 1) := by decide +kernel
theorem dX2_advance_115 : decode cX2_advance 115 = .ok (.getfield 49, 3) := by decide +kernel
theorem dX2_advance_118 : decode cX2_advance 118 = .ok (.lconst 1, 1) := by decide +kernel
theorem dX2_advance_119 : decode cX2_advance 119 = .ok (.lsub, 1) := by decide +kernel
theorem dX2_advance_120 : decode cX2_advance 120 = .ok (.putfield 49, 3) := by decide +kernel
theorem dX2_advance_123 : decode cX2_advance 123 = .ok (.aload_n 0, 1) := by decide +kernel
theorem dX2_advance_124 : decode cX2_advance 124 = .ok (.dup, 1) := by decide +kernel
theorem dX2_advance_125 : decode cX2_advance 125 = .ok (.getfield 30, 3) := by decide +kernel
theorem dX2_advance_128 : decode cX2_advance 128 = .ok (.iconst 1, 1) := by decide +kernel
theorem dX2_advance_129 : decode cX2_advance 129 = .ok (.iadd, 1) := by decide +kernel
theorem dX2_advance_130 : decode cX2_advance 130 = .ok (.putfield 30, 3) := by decide +kernel
theorem dX2_advance_133 : decode cX2_advance 133 = .ok (.iload_n 3, 1) := by decide +kernel
theorem dX2_advance_134 : decode cX2_advance 134 = .ok (.ireturn, 1) := by decide +kernel
theorem dX2_advance_135 : decode cX2_advance 135 = .ok (.iinc 3 1, 3) := by decide +kernel
theorem dX2_advance_138 : decode cX2_advance 138 = .ok (.goto (-114), 3) := by decide +kernel
theorem dX2_advance_141 : decode cX2_advance 141 = .ok (.bipush (-4), 2) := by decide +kernel
theorem dX2_advance_143 : decode cX2_advance 143 = .ok (.ireturn, 1) := by decide +kernel
theorem dX2_stepsAfter_0 : decode cX2_stepsAfter 0 = .ok (.aload_n 0, 1) := by decide +kernel
theorem dX2_stepsAfter_1 : decode cX2_stepsAfter 1 = .ok (.getfield 25, 3) := by decide +kernel
theorem dX2_stepsAfter_4 : decode cX2_stepsAfter 4 = .ok (.iconst 1, 1) := by decide +kernel
theorem dX2_stepsAfter_5 : decode cX2_stepsAfter 5 = .ok (.isub, 1) := by decide +kernel
theorem dX2_stepsAfter_6 : decode cX2_stepsAfter 6 = .ok (.istore 4, 2) := by decide +kernel
theorem dX2_stepsAfter_8 : decode cX2_stepsAfter 8 = .ok (.iload_n 2, 1) := by decide +kernel
theorem dX2_stepsAfter_9 : decode cX2_stepsAfter 9 = .ok (.invokestatic 88, 3) := by decide +kernel
theorem dX2_stepsAfter_12 : decode cX2_stepsAfter 12 = .ok (.lookupswitch 57 #[(0, 28), (1, 41)], 28) := by decide +kernel
theorem dX2_stepsAfter_40 : decode cX2_stepsAfter 40 = .ok (.aload_n 0, 1) := by decide +kernel
theorem dX2_stepsAfter_41 : decode cX2_stepsAfter 41 = .ok (.getfield 15, 3) := by decide +kernel
theorem dX2_stepsAfter_44 : decode cX2_stepsAfter 44 = .ok (.iload 4, 2) := by decide +kernel
theorem dX2_stepsAfter_46 : decode cX2_stepsAfter 46 = .ok (.bipush 13, 2) := by decide +kernel
theorem dX2_stepsAfter_48 : decode cX2_stepsAfter 48 = .ok (.imul, 1) := by decide +kernel
theorem dX2_stepsAfter_49 : decode cX2_stepsAfter 49 = .ok (.iload_n 1, 1) := by decide +kernel
theorem dX2_stepsAfter_50 : decode cX2_stepsAfter 50 = .ok (.iadd, 1) := by decide +kernel
theorem dX2_stepsAfter_51 : decode cX2_stepsAfter 51 = .ok (.laload, 1) := by decide +kernel
theorem dX2_stepsAfter_52 : decode cX2_stepsAfter 52 = .ok (.lreturn, 1) := by decide +kernel
theorem dX2_stepsAfter_53 : decode cX2_stepsAfter 53 = .ok (.aload_n 3, 1) := by decide +kernel
theorem dX2_stepsAfter_54 : decode cX2_stepsAfter 54 = .ok (.iload_n 1, 1) := by decide +kernel
theorem dX2_stepsAfter_55 : decode cX2_stepsAfter 55 = .ok (.iload_n 2, 1) := by decide +kernel
theorem dX2_stepsAfter_56 : decode cX2_stepsAfter 56 = .ok (.invokestatic 92, 3) := by decide +kernel
theorem dX2_stepsAfter_59 : decode cX2_stepsAfter 59 = .ok (.aload_n 0, 1) := by decide +kernel
theorem dX2_stepsAfter_60 : decode cX2_stepsAfter 60 = .ok (.getfield 15, 3) := by decide +kernel
theorem dX2_stepsAfter_63 : decode cX2_stepsAfter 63 = .ok (.iload 4, 2) := by decide +kernel
theorem dX2_stepsAfter_65 : decode cX2_stepsAfter 65 = .ok (.invokevirtual 56, 3) := by decide +kernel
theorem dX2_stepsAfter_68 : decode cX2_stepsAfter 68 = .ok (.lreturn, 1) := by decide +kernel
theorem dX2_stepsAfter_69 : decode cX2_stepsAfter 69 = .ok (.aload_n 3, 1) := by decide +kernel
theorem dX2_stepsAfter_70 : decode cX2_stepsAfter 70 = .ok (.iload_n 1, 1) := by decide +kernel
theorem dX2_stepsAfter_71 : decode cX2_stepsAfter 71 = .ok (.iload_n 2, 1) := by decide +kernel
theorem dX2_stepsAfter_72 : decode cX2_stepsAfter 72 = .ok (.invokestatic 92, 3) := by decide +kernel
theorem dX2_stepsAfter_75 : decode cX2_stepsAfter 75 = .ok (.iload_n 2, 1) := by decide +kernel
theorem dX2_stepsAfter_76 : decode cX2_stepsAfter 76 = .ok (.invokestatic 95, 3) := by decide +kernel
theorem dX2_stepsAfter_79 : decode cX2_stepsAfter 79 = .ok (.aload_n 0, 1) := by decide +kernel
theorem dX2_stepsAfter_80 : decode cX2_stepsAfter 80 = .ok (.getfield 15, 3) := by decide +kernel
theorem dX2_stepsAfter_83 : decode cX2_stepsAfter 83 = .ok (.iload 4, 2) := by decide +kernel
theorem dX2_stepsAfter_85 : decode cX2_stepsAfter 85 = .ok (.invokevirtual 98, 3) := by decide +kernel
theorem dX2_stepsAfter_88 : decode cX2_stepsAfter 88 = .ok (.lreturn, 1) := by decide +kernel
theorem dX2_replaceTop_0 : decode cX2_replaceTop 0 = .ok (.aload_n 0, 1) := by decide +kernel
theorem dX2_replaceTop_1 : decode cX2_replaceTop 1 = .ok (.dup, 1) := by decide +kernel
theorem dX2_replaceTop_2 : decode cX2_replaceTop 2 = .ok (.getfield 25, 3) := by decide +kernel
theorem dX2_replaceTop_5 : decode cX2_replaceTop 5 = .ok (.iconst 1, 1) := by decide +kernel
theorem dX2_replaceTop_6 : decode cX2_replaceTop 6 = .ok (.isub, 1) := by decide +kernel
theorem dX2_replaceTop_7 : decode cX2_replaceTop 7 = .ok (.putfield 25, 3) := by decide +kernel
theorem dX2_replaceTop_10 : decode cX2_replaceTop 10 = .ok (.iload_n 1, 1) := by decide +kernel
theorem dX2_replaceTop_11 : decode cX2_replaceTop 11 = .ok (.invokestatic 88, 3) := by decide +kernel
theorem dX2_replaceTop_14 : decode cX2_replaceTop 14 = .ok (.iconst 2, 1) := by decide +kernel
theorem dX2_replaceTop_15 : decode cX2_replaceTop 15 = .ok (.if_icmp .ne 35, 3) := by decide +kernel
theorem dX2_replaceTop_18 : decode cX2_replaceTop 18 = .ok (.aload_n 0, 1) := by decide +kernel
theorem dX2_replaceTop_19 : decode cX2_replaceTop 19 = .ok (.getfield 9, 3) := by decide +kernel
theorem dX2_replaceTop_22 : decode cX2_replaceTop 22 = .ok (.aload_n 0, 1) := by decide +kernel
theorem dX2_replaceTop_23 : decode cX2_replaceTop 23 = .ok (.getfield 25, 3) := by decide +kernel
theorem dX2_replaceTop_26 : decode cX2_replaceTop 26 = .ok (.iload_n 1, 1) := by decide +kernel
theorem dX2_replaceTop_27 : decode cX2_replaceTop 27 = .ok (.invokestatic 95, 3) := by decide +kernel
theorem dX2_replaceTop_30 : decode cX2_replaceTop 30 = .ok (.iastore, 1) := by decide +kernel
theorem dX2_replaceTop_31 : decode cX2_replaceTop 31 = .ok (.aload_n 0, 1) := by decide +kernel
theorem dX2_replaceTop_32 : decode cX2_replaceTop 32 = .ok (.aload_n 0, 1) := by decide +kernel
theorem dX2_replaceTop_33 : decode cX2_replaceTop 33 = .ok (.getfield 25, 3) := by decide +kernel
theorem dX2_replaceTop_36 : decode cX2_replaceTop 36 = .ok (.aload_n 2, 1) := by decide +kernel
theorem dX2_replaceTop_37 : decode cX2_replaceTop 37 = .ok (.invokevirtual 45, 3) := by decide +kernel
theorem dX2_replaceTop_40 : decode cX2_replaceTop 40 = .ok (.aload_n 0, 1) := by decide +kernel
theorem dX2_replaceTop_41 : decode cX2_replaceTop 41 = .ok (.dup, 1) := by decide +kernel
theorem dX2_replaceTop_42 : decode cX2_replaceTop 42 = .ok (.getfield 25, 3) := by decide +kernel
theorem dX2_replaceTop_45 : decode cX2_replaceTop 45 = .ok (.iconst 1, 1) := by decide +kernel
theorem dX2_replaceTop_46 : decode cX2_replaceTop 46 = .ok (.iadd, 1) := by decide +kernel
theorem dX2_replaceTop_47 : decode cX2_replaceTop 47 = .ok (.putfield 25, 3) := by decide +kernel
theorem dX2_replaceTop_50 : decode cX2_replaceTop 50 = .ok (.iload_n 1, 1) := by decide +kernel
theorem dX2_replaceTop_51 : decode cX2_replaceTop 51 = .ok (.invokestatic 88, 3) := by decide +kernel
theorem dX2_replaceTop_54 : decode cX2_replaceTop 54 = .ok (.ifCond .le 26, 3) := by decide +kernel
theorem dX2_replaceTop_57 : decode cX2_replaceTop 57 = .ok (.aload_n 0, 1) := by decide +kernel
theorem dX2_replaceTop_58 : decode cX2_replaceTop 58 = .ok (.getfield 9, 3) := by decide +kernel
theorem dX2_replaceTop_61 : decode cX2_replaceTop 61 = .ok (.aload_n 0, 1) := by decide +kernel
theorem dX2_replaceTop_62 : decode cX2_replaceTop 62 = .ok (.getfield 25, 3) := by decide +kernel
theorem dX2_replaceTop_65 : decode cX2_replaceTop 65 = .ok (.iload_n 1, 1) := by decide +kernel
theorem dX2_replaceTop_66 : decode cX2_replaceTop 66 = .ok (.invokestatic 92, 3) := by decide +kernel
theorem dX2_replaceTop_69 : decode cX2_replaceTop 69 = .ok (.iastore, 1) := by decide +kernel
theorem dX2_replaceTop_70 : decode cX2_replaceTop 70 = .ok (.aload_n 0, 1) := by decide +kernel
theorem dX2_replaceTop_71 : decode cX2_replaceTop 71 = .ok (.dup, 1) := by decide +kernel
theorem dX2_replaceTop_72 : decode cX2_replaceTop 72 = .ok (.getfield 25, 3) := by decide +kernel
theorem dX2_replaceTop_75 : decode cX2_replaceTop 75 = .ok (.iconst 1, 1) := by decide +kernel
theorem dX2_replaceTop_76 : decode cX2_replaceTop 76 = .ok (.iadd, 1) := by decide +kernel
theorem dX2_replaceTop_77 : decode cX2_replaceTop 77 = .ok (.putfield 25, 3) := by decide +kernel
theorem dX2_replaceTop_80 : decode cX2_replaceTop 80 = .ok (.return_, 1) := by decide +kernel
theorem dX3_init_0 : decode cX3_init 0 = .ok (.aload_n 0, 1) := by decide +kernel
theorem dX3_init_1 : decode cX3_init 1 = .ok (.invokespecial 3, 3) := by decide +kernel
theorem dX3_init_4 : decode cX3_init 4 = .ok (.aload_n 0, 1) := by decide +kernel
theorem dX3_init_5 : decode cX3_init 5 = .ok (.sipush 200, 3) := by decide +kernel
theorem dX3_init_8 : decode cX3_init 8 = .ok (.newarray .char, 2) := by decide +kernel
theorem dX3_init_10 : decode cX3_init 10 = .ok (.putfield 9, 3) := by decide +kernel
theorem dX3_init_13 : decode cX3_init 13 = .ok (.aload_n 0, 1) := by decide +kernel
theorem dX3_init_14 : decode cX3_init 14 = .ok (.bipush 6, 2) := by decide +kernel
theorem dX3_init_16 : decode cX3_init 16 = .ok (.newarray .int, 2) := by decide +kernel
theorem dX3_init_18 : decode cX3_init 18 = .ok (.putfield 15, 3) := by decide +kernel
theorem dX3_init_21 : decode cX3_init 21 = .ok (.return_, 1) := by decide +kernel
theorem dX3_append_0 : decode cX3_append 0 = .ok (.aload_n 0, 1) := by decide +kernel
theorem dX3_append_1 : decode cX3_append 1 = .ok (.getfield 19, 3) := by decide +kernel
theorem dX3_append_4 : decode cX3_append 4 = .ok (.sipush 200, 3) := by decide +kernel
theorem dX3_append_7 : decode cX3_append 7 = .ok (.if_icmp .lt 5, 3) := by decide +kernel
theorem dX3_append_10 : decode cX3_append 10 = .ok (.iconst 0, 1) := by decide +kernel
theorem dX3_append_11 : decode cX3_append 11 = .ok (.ireturn, 1) := by decide +kernel
theorem dX3_append_12 : decode cX3_append 12 = .ok (.aload_n 0, 1) := by decide +kernel
theorem dX3_append_13 : decode cX3_append 13 = .ok (.getfield 9, 3) := by decide +kernel
theorem dX3_append_16 : decode cX3_append 16 = .ok (.aload_n 0, 1) := by decide +kernel
theorem dX3_append_17 : decode cX3_append 17 = .ok (.getfield 19, 3) := by decide +kernel
theorem dX3_append_20 : decode cX3_append 20 = .ok (.iload_n 1, 1) := by decide +kernel
theorem dX3_append_21 : decode cX3_append 21 = .ok (.castore, 1) := by decide +kernel
theorem dX3_append_22 : decode cX3_append 22 = .ok (.aload_n 0, 1) := by decide +kernel
theorem dX3_append_23 : decode cX3_append 23 = .ok (.dup, 1) := by decide +kernel
theorem dX3_append_24 : decode cX3_append 24 = .ok (.getfield 19, 3) := by decide +kernel
theorem dX3_append_27 : decode cX3_append 27 = .ok (.iconst 1, 1) := by decide +kernel
theorem dX3_append_28 : decode cX3_append 28 = .ok (.iadd, 1) := by decide +kernel
theorem dX3_append_29 : decode cX3_append 29 = .ok (.putfield 19, 3) := by decide +kernel
theorem dX3_append_32 : decode cX3_append 32 = .ok (.iconst 1, 1) := by decide +kernel
theorem dX3_append_33 : decode cX3_append 33 = .ok (.ireturn, 1) := by decide +kernel
theorem dX3_clear_0 : decode cX3_clear 0 = .ok (.aload_n 0, 1) := by decide +kernel
theorem dX3_clear_1 : decode cX3_clear 1 = .ok (.iconst 0, 1) := by decide +kernel
theorem dX3_clear_2 : decode cX3_clear 2 = .ok (.putfield 19, 3) := by decide +kernel
theorem dX3_clear_5 : decode cX3_clear 5 = .ok (.return_, 1) := by decide +kernel
theorem dX3_readInto_0 : decode cX3_readInto 0 = .ok (.aload_n 1, 1) := by decide +kernel
theorem dX3_readInto_1 : decode cX3_readInto 1 = .ok (.invokevirtual 23, 3) := by decide +kernel
theorem dX3_readInto_4 : decode cX3_readInto 4 = .ok (.aload_n 0, 1) := by decide +kernel
theorem dX3_readInto_5 : decode cX3_readInto 5 = .ok (.iconst 0, 1) := by decide +kernel
theorem dX3_readInto_6 : decode cX3_readInto 6 = .ok (.putfield 28, 3) := by decide +kernel
theorem dX3_readInto_9 : decode cX3_readInto 9 = .ok (.iconst 0, 1) := by decide +kernel
theorem dX3_readInto_10 : decode cX3_readInto 10 = .ok (.istore_n 2, 1) := by decide +kernel
theorem dX3_readInto_11 : decode cX3_readInto 11 = .ok (.iload_n 2, 1) := by decide +kernel
theorem dX3_readInto_12 : decode cX3_readInto 12 = .ok (.sipush 200, 3) := by decide +kernel
theorem dX3_readInto_15 : decode cX3_readInto 15 = .ok (.if_icmp .ge 44, 3) := by decide +kernel
theorem dX3_readInto_18 : decode cX3_readInto 18 = .ok (.aload_n 0, 1) := by decide +kernel
theorem dX3_readInto_19 : decode cX3_readInto 19 = .ok (.getfield 28, 3) := by decide +kernel
theorem dX3_readInto_22 : decode cX3_readInto 22 = .ok (.aload_n 0, 1) := by decide +kernel
theorem dX3_readInto_23 : decode cX3_readInto 23 = .ok (.getfield 19, 3) := by decide +kernel
theorem dX3_readInto_26 : decode cX3_readInto 26 = .ok (.if_icmp .ge 33, 3) := by decide +kernel
theorem dX3_readInto_29 : decode cX3_readInto 29 = .ok (.aload_n 0, 1) := by decide +kernel
theorem dX3_readInto_30 : decode cX3_readInto 30 = .ok (.getfield 28, 3) := by decide +kernel
theorem dX3_readInto_33 : decode cX3_readInto 33 = .ok (.istore_n 3, 1) := by decide +kernel
theorem dX3_readInto_34 : decode cX3_readInto 34 = .ok (.aload_n 0, 1) := by decide +kernel
theorem dX3_readInto_35 : decode cX3_readInto 35 = .ok (.aload_n 1, 1) := by decide +kernel
theorem dX3_readInto_36 : decode cX3_readInto 36 = .ok (.iload_n 3, 1) := by decide +kernel
theorem dX3_readInto_37 : decode cX3_readInto 37 = .ok (.ifCond .ne 7, 3) := by decide +kernel
theorem dX3_readInto_40 : decode cX3_readInto 40 = .ok (.iconst 1, 1) := by decide +kernel
theorem dX3_readInto_41 : decode cX3_readInto 41 = .ok (.goto 4, 3) := by decide +kernel
theorem dX3_readInto_44 : decode cX3_readInto 44 = .ok (.iconst 0, 1) := by decide +kernel
theorem dX3_readInto_45 : decode cX3_readInto 45 = .ok (.invokevirtual 31, 3) := by decide +kernel
theorem dX3_readInto_48 : decode cX3_readInto 48 = .ok (.ifCond .ne 5, 3) := by decide +kernel
theorem dX3_readInto_51 : decode cX3_readInto 51 = .ok (.iload_n 3, 1) := by decide +kernel
theorem dX3_readInto_52 : decode cX3_readInto 52 = .ok (.ireturn, 1) := by decide +kernel
theorem dX3_readInto_53 : decode cX3_readInto 53 = .ok (.iinc 2 1, 3) := by decide +kernel
theorem dX3_readInto_56 : decode cX3_readInto 56 = .ok (.goto (-45), 3) := by decide +kernel
theorem dX3_readInto_59 : decode cX3_readInto 59 = .ok (.bipush (-4), 2) := by decide +kernel
theorem dX3_readInto_61 : decode cX3_readInto 61 = .ok (.ireturn, 1) := by decide +kernel
theorem dX3_readItem_0 : decode cX3_readItem 0 = .ok (.aload_n 0, 1) := by decide +kernel
theorem dX3_readItem_1 : decode cX3_readItem 1 = .ok (.getfield 9, 3) := by decide +kernel
theorem dX3_readItem_4 : decode cX3_readItem 4 = .ok (.aload_n 0, 1) := by decide +kernel
theorem dX3_readItem_5 : decode cX3_readItem 5 = .ok (.getfield 28, 3) := by decide +kernel
theorem dX3_readItem_8 : decode cX3_readItem 8 = .ok (.caload, 1) := by decide +kernel
theorem dX3_readItem_9 : decode cX3_readItem 9 = .ok (.istore_n 3, 1) := by decide +kernel
theorem dX3_readItem_10 : decode cX3_readItem 10 = .ok (.aload_n 0, 1) := by decide +kernel
theorem dX3_readItem_11 : decode cX3_readItem 11 = .ok (.dup, 1) := by decide +kernel
theorem dX3_readItem_12 : decode cX3_readItem 12 = .ok (.getfield 28, 3) := by decide +kernel
theorem dX3_readItem_15 : decode cX3_readItem 15 = .ok (.iconst 1, 1) := by decide +kernel
theorem dX3_readItem_16 : decode cX3_readItem 16 = .ok (.iadd, 1) := by decide +kernel
theorem dX3_readItem_17 : decode cX3_readItem 17 = .ok (.putfield 28, 3) := by decide +kernel
theorem dX3_readItem_20 : decode cX3_readItem 20 = .ok (.iload_n 3, 1) := by decide +kernel
theorem dX3_readItem_21 : decode cX3_readItem 21 = .ok (.lookupswitch 93 #[(99, 81), (109, 87), (110, 51), (114, 69), (116, 75)], 51) := by decide +kernel
theorem dX3_readItem_72 : decode cX3_readItem 72 = .ok (.iload_n 2, 1) := by decide +kernel
theorem dX3_readItem_73 : decode cX3_readItem 73 = .ok (.ifCond .eq 15, 3) := by decide +kernel
theorem dX3_readItem_76 : decode cX3_readItem 76 = .ok (.aload_n 0, 1) := by decide +kernel
theorem dX3_readItem_77 : decode cX3_readItem 77 = .ok (.aload_n 1, 1) := by decide +kernel
theorem dX3_readItem_78 : decode cX3_readItem 78 = .ok (.invokevirtual 35, 3) := by decide +kernel
theorem dX3_readItem_81 : decode cX3_readItem 81 = .ok (.ifCond .eq 7, 3) := by decide +kernel
theorem dX3_readItem_84 : decode cX3_readItem 84 = .ok (.iconst 1, 1) := by decide +kernel
theorem dX3_readItem_85 : decode cX3_readItem 85 = .ok (.goto 4, 3) := by decide +kernel
theorem dX3_readItem_88 : decode cX3_readItem 88 = .ok (.iconst 0, 1) := by decide +kernel
theorem dX3_readItem_89 : decode cX3_readItem 89 = .ok (.ireturn, 1) := by decide +kernel
theorem dX3_readItem_90 : decode cX3_readItem 90 = .ok (.aload_n 0, 1) := by decide +kernel
theorem dX3_readItem_91 : decode cX3_readItem 91 = .ok (.aload_n 1, 1) := by decide +kernel
theorem dX3_readItem_92 : decode cX3_readItem 92 = .ok (.invokevirtual 39, 3) := by decide +kernel
theorem dX3_readItem_95 : decode cX3_readItem 95 = .ok (.ireturn, 1) := by decide +kernel
theorem dX3_readItem_96 : decode cX3_readItem 96 = .ok (.aload_n 0, 1) := by decide +kernel
theorem dX3_readItem_97 : decode cX3_readItem 97 = .ok (.aload_n 1, 1) := by decide +kernel
theorem dX3_readItem_98 : decode cX3_readItem 98 = .ok (.invokevirtual 42, 3) := by decide +kernel
theorem dX3_readItem_101 : decode cX3_readItem 101 = .ok (.ireturn, 1) := by decide +kernel
theorem dX3_readItem_102 : decode cX3_readItem 102 = .ok (.aload_n 0, 1) := by decide +kernel
theorem dX3_readItem_103 : decode cX3_readItem 103 = .ok (.aload_n 1, 1) := by decide +kernel
theorem dX3_readItem_104 : decode cX3_readItem 104 = .ok (.invokevirtual 45, 3) := by decide +kernel
theorem dX3_readItem_107 : decode cX3_readItem 107 = .ok (.ireturn, 1) := by decide +kernel
theorem dX3_readItem_108 : decode cX3_readItem 108 = .ok (.aload_n 0, 1) := by decide +kernel
theorem dX3_readItem_109 : decode cX3_readItem 109 = .ok (.aload_n 1, 1) := by decide +kernel
theorem dX3_readItem_110 : decode cX3_readItem 110 = .ok (.invokevirtual 48, 3) := by decide +kernel
theorem dX3_readItem_113 : decode cX3_readItem 113 = .ok (.ireturn, 1) := by decide +kernel
theorem dX3_readItem_114 : decode cX3_readItem 114 = .ok (.iconst 0, 1) := by decide +kernel
theorem dX3_readItem_115 : decode cX3_readItem 115 = .ok (.ireturn, 1) := by decide +kernel
theorem dX3_readStates_0 : decode cX3_readStates 0 = .ok (.aload_n 0, 1) := by decide +kernel
theorem dX3_readStates_1 : decode cX3_readStates 1 = .ok (.iconst 4, 1) := by decide +kernel
theorem dX3_readStates_2 : decode cX3_readStates 2 = .ok (.invokevirtual 51, 3) := by decide +kernel
theorem dX3_readStates_5 : decode cX3_readStates 5 = .ok (.istore_n 2, 1) := by decide +kernel
theorem dX3_readStates_6 : decode cX3_readStates 6 = .ok (.iload_n 2, 1) := by decide +kernel
theorem dX3_readStates_7 : decode cX3_readStates 7 = .ok (.iconst 1, 1) := by decide +kernel
theorem dX3_readStates_8 : decode cX3_readStates 8 = .ok (.if_icmp .lt 12, 3) := by decide +kernel
theorem dX3_readStates_11 : decode cX3_readStates 11 = .ok (.aload_n 0, 1) := by decide +kernel
theorem dX3_readStates_12 : decode cX3_readStates 12 = .ok (.bipush 59, 2) := by decide +kernel
theorem dX3_readStates_14 : decode cX3_readStates 14 = .ok (.invokevirtual 55, 3) := by decide +kernel
theorem dX3_readStates_17 : decode cX3_readStates 17 = .ok (.ifCond .ne 5, 3) := by decide +kernel
theorem dX3_readStates_20 : decode cX3_readStates 20 = .ok (.iconst 0, 1) := by decide +kernel
theorem dX3_readStates_21 : decode cX3_readStates 21 = .ok (.ireturn, 1) := by decide +kernel
theorem dX3_readStates_22 : decode cX3_readStates 22 = .ok (.aload_n 1, 1) := by decide +kernel
theorem dX3_readStates_23 : decode cX3_readStates 23 = .ok (.iload_n 2, 1) := by decide +kernel
theorem dX3_readStates_24 : decode cX3_readStates 24 = .ok (.putfield 59, 3) := by decide +kernel
theorem dX3_readStates_27 : decode cX3_readStates 27 = .ok (.iconst 1, 1) := by decide +kernel
theorem dX3_readStates_28 : decode cX3_readStates 28 = .ok (.ireturn, 1) := by decide +kernel
theorem dX3_readRule_0 : decode cX3_readRule 0 = .ok (.aload_n 0, 1) := by decide +kernel
theorem dX3_readRule_1 : decode cX3_readRule 1 = .ok (.aload_n 1, 1) := by decide +kernel
theorem dX3_readRule_2 : decode cX3_readRule 2 = .ok (.getfield 59, 3) := by decide +kernel
theorem dX3_readRule_5 : decode cX3_readRule 5 = .ok (.invokevirtual 51, 3) := by decide +kernel
theorem dX3_readRule_8 : decode cX3_readRule 8 = .ok (.istore_n 2, 1) := by decide +kernel
theorem dX3_readRule_9 : decode cX3_readRule 9 = .ok (.iload_n 2, 1) := by decide +kernel
theorem dX3_readRule_10 : decode cX3_readRule 10 = .ok (.ifCond .lt 12, 3) := by decide +kernel
theorem dX3_readRule_13 : decode cX3_readRule 13 = .ok (.aload_n 0, 1) := by decide +kernel
theorem dX3_readRule_14 : decode cX3_readRule 14 = .ok (.bipush 44, 2) := by decide +kernel
theorem dX3_readRule_16 : decode cX3_readRule 16 = .ok (.invokevirtual 55, 3) := by decide +kernel
theorem dX3_readRule_19 : decode cX3_readRule 19 = .ok (.ifCond .ne 5, 3) := by decide +kernel
theorem dX3_readRule_22 : decode cX3_readRule 22 = .ok (.iconst 0, 1) := by decide +kernel
theorem dX3_readRule_23 : decode cX3_readRule 23 = .ok (.ireturn, 1) := by decide +kernel
theorem dX3_readRule_24 : decode cX3_readRule 24 = .ok (.aload_n 0, 1) := by decide +kernel
theorem dX3_readRule_25 : decode cX3_readRule 25 = .ok (.invokevirtual 62, 3) := by decide +kernel
theorem dX3_readRule_28 : decode cX3_readRule 28 = .ok (.istore_n 3, 1) := by decide +kernel
theorem dX3_readRule_29 : decode cX3_readRule 29 = .ok (.iload_n 3, 1) := by decide +kernel
theorem dX3_readRule_30 : decode cX3_readRule 30 = .ok (.ifCond .lt 12, 3) := by decide +kernel
theorem dX3_readRule_33 : decode cX3_readRule 33 = .ok (.aload_n 0, 1) := by decide +kernel
theorem dX3_readRule_34 : decode cX3_readRule 34 = .ok (.bipush 44, 2) := by decide +kernel
theorem dX3_readRule_36 : decode cX3_readRule 36 = .ok (.invokevirtual 55, 3) := by decide +kernel
theorem dX3_readRule_39 : decode cX3_readRule 39 = .ok (.ifCond .ne 5, 3) := by decide +kernel
theorem dX3_readRule_42 : decode cX3_readRule 42 = .ok (.iconst 0, 1) := by decide +kernel
theorem dX3_readRule_43 : decode cX3_readRule 43 = .ok (.ireturn, 1) := by decide +kernel
theorem dX3_readRule_44 : decode cX3_readRule 44 = .ok (.aload_n 0, 1) := by decide +kernel
theorem dX3_readRule_45 : decode cX3_readRule 45 = .ok (.aload_n 1, 1) := by decide +kernel
theorem dX3_readRule_46 : decode cX3_readRule 46 = .ok (.getfield 59, 3) := by decide +kernel
theorem dX3_readRule_49 : decode cX3_readRule 49 = .ok (.invokevirtual 51, 3) := by decide +kernel
theorem dX3_readRule_52 : decode cX3_readRule 52 = .ok (.istore 4, 2) := by decide +kernel
theorem dX3_readRule_54 : decode cX3_readRule 54 = .ok (.iload 4, 2) := by decide +kernel
theorem dX3_readRule_56 : decode cX3_readRule 56 = .ok (.ifCond .lt 12, 3) := by decide +kernel
theorem dX3_readRule_59 : decode cX3_readRule 59 = .ok (.aload_n 0, 1) := by decide +kernel
theorem dX3_readRule_60 : decode cX3_readRule 60 = .ok (.bipush 44, 2) := by decide +kernel
theorem dX3_readRule_62 : decode cX3_readRule 62 = .ok (.invokevirtual 55, 3) := by decide +kernel
theorem dX3_readRule_65 : decode cX3_readRule 65 = .ok (.ifCond .ne 5, 3) := by decide +kernel
theorem dX3_readRule_68 : decode cX3_readRule 68 = .ok (.iconst 0, 1) := by decide +kernel
theorem dX3_readRule_69 : decode cX3_readRule 69 = .ok (.ireturn, 1) := by decide +kernel
theorem dX3_readRule_70 : decode cX3_readRule 70 = .ok (.aload_n 0, 1) := by decide +kernel
theorem dX3_readRule_71 : decode cX3_readRule 71 = .ok (.aload_n 0, 1) := by decide +kernel
theorem dX3_readRule_72 : decode cX3_readRule 72 = .ok (.iconst 2, 1) := by decide +kernel
theorem dX3_readRule_73 : decode cX3_readRule 73 = .ok (.invokevirtual 66, 3) := by decide +kernel
theorem dX3_readRule_76 : decode cX3_readRule 76 = .ok (.invokevirtual 69, 3) := by decide +kernel
theorem dX3_readRule_79 : decode cX3_readRule 79 = .ok (.istore 5, 2) := by decide +kernel
theorem dX3_readRule_81 : decode cX3_readRule 81 = .ok (.aload_n 0, 1) := by decide +kernel
theorem dX3_readRule_82 : decode cX3_readRule 82 = .ok (.bipush 44, 2) := by decide +kernel
theorem dX3_readRule_84 : decode cX3_readRule 84 = .ok (.invokevirtual 55, 3) := by decide +kernel
theorem dX3_readRule_87 : decode cX3_readRule 87 = .ok (.ifCond .ne 5, 3) := by decide +kernel
theorem dX3_readRule_90 : decode cX3_readRule 90 = .ok (.iconst 0, 1) := by decide +kernel
theorem dX3_readRule_91 : decode cX3_readRule 91 = .ok (.ireturn, 1) := by decide +kernel
theorem dX3_readRule_92 : decode cX3_readRule 92 = .ok (.aload_n 0, 1) := by decide +kernel
theorem dX3_readRule_93 : decode cX3_readRule 93 = .ok (.bipush 10, 2) := by decide +kernel
theorem dX3_readRule_95 : decode cX3_readRule 95 = .ok (.invokevirtual 51, 3) := by decide +kernel
theorem dX3_readRule_98 : decode cX3_readRule 98 = .ok (.istore 6, 2) := by decide +kernel
theorem dX3_readRule_100 : decode cX3_readRule 100 = .ok (.iload 6, 2) := by decide +kernel
theorem dX3_readRule_102 : decode cX3_readRule 102 = .ok (.ifCond .lt 31, 3) := by decide +kernel
theorem dX3_readRule_105 : decode cX3_readRule 105 = .ok (.aload_n 0, 1) := by decide +kernel
theorem dX3_readRule_106 : decode cX3_readRule 106 = .ok (.bipush 59, 2) := by decide +kernel
theorem dX3_readRule_108 : decode cX3_readRule 108 = .ok (.invokevirtual 55, 3) := by decide +kernel
theorem dX3_readRule_111 : decode cX3_readRule 111 = .ok (.ifCond .eq 22, 3) := by decide +kernel
theorem dX3_readRule_114 : decode cX3_readRule 114 = .ok (.aload_n 1, 1) := by decide +kernel
theorem dX3_readRule_115 : decode cX3_readRule 115 = .ok (.iload_n 2, 1) := by decide +kernel
theorem dX3_readRule_116 : decode cX3_readRule 116 = .ok (.iload_n 3, 1) := by decide +kernel
theorem dX3_readRule_117 : decode cX3_readRule 117 = .ok (.iload 4, 2) := by decide +kernel
theorem dX3_readRule_119 : decode cX3_readRule 119 = .ok (.iload 5, 2) := by decide +kernel
theorem dX3_readRule_121 : decode cX3_readRule 121 = .ok (.iload 6, 2) := by decide +kernel
theorem dX3_readRule_123 : decode cX3_readRule 123 = .ok (.invokevirtual 72, 3) := by decide +kernel
theorem dX3_readRule_126 : decode cX3_readRule 126 = .ok (.ifCond .eq 7, 3) := by decide +kernel
theorem dX3_readRule_129 : decode cX3_readRule 129 = .ok (.iconst 1, 1) := by decide +kernel
theorem dX3_readRule_130 : decode cX3_readRule 130 = .ok (.goto 4, 3) := by decide +kernel
theorem dX3_readRule_133 : decode cX3_readRule 133 = .ok (.iconst 0, 1) := by decide +kernel
theorem dX3_readRule_134 : decode cX3_readRule 134 = .ok (.ireturn, 1) := by decide +kernel
theorem dX3_readTarget_0 : decode cX3_readTarget 0 = .ok (.aload_n 0, 1) := by decide +kernel
theorem dX3_readTarget_1 : decode cX3_readTarget 1 = .ok (.aload_n 1, 1) := by decide +kernel
theorem dX3_readTarget_2 : decode cX3_readTarget 2 = .ok (.getfield 59, 3) := by decide +kernel
theorem dX3_readTarget_5 : decode cX3_readTarget 5 = .ok (.invokevirtual 51, 3) := by decide +kernel
theorem dX3_readTarget_8 : decode cX3_readTarget 8 = .ok (.istore_n 2, 1) := by decide +kernel
theorem dX3_readTarget_9 : decode cX3_readTarget 9 = .ok (.iload_n 2, 1) := by decide +kernel
theorem dX3_readTarget_10 : decode cX3_readTarget 10 = .ok (.ifCond .lt 12, 3) := by decide +kernel
theorem dX3_readTarget_13 : decode cX3_readTarget 13 = .ok (.aload_n 0, 1) := by decide +kernel
theorem dX3_readTarget_14 : decode cX3_readTarget 14 = .ok (.bipush 44, 2) := by decide +kernel
theorem dX3_readTarget_16 : decode cX3_readTarget 16 = .ok (.invokevirtual 55, 3) := by decide +kernel
theorem dX3_readTarget_19 : decode cX3_readTarget 19 = .ok (.ifCond .ne 5, 3) := by decide +kernel
theorem dX3_readTarget_22 : decode cX3_readTarget 22 = .ok (.iconst 0, 1) := by decide +kernel
theorem dX3_readTarget_23 : decode cX3_readTarget 23 = .ok (.ireturn, 1) := by decide +kernel
theorem dX3_readTarget_24 : decode cX3_readTarget 24 = .ok (.aload_n 0, 1) := by decide +kernel
theorem dX3_readTarget_25 : decode cX3_readTarget 25 = .ok (.iconst 3, 1) := by decide +kernel
theorem dX3_readTarget_26 : decode cX3_readTarget 26 = .ok (.invokevirtual 66, 3) := by decide +kernel
theorem dX3_readTarget_29 : decode cX3_readTarget 29 = .ok (.istore_n 3, 1) := by decide +kernel
theorem dX3_readTarget_30 : decode cX3_readTarget 30 = .ok (.aload_n 0, 1) := by decide +kernel
theorem dX3_readTarget_31 : decode cX3_readTarget 31 = .ok (.bipush 46, 2) := by decide +kernel
theorem dX3_readTarget_33 : decode cX3_readTarget 33 = .ok (.invokevirtual 55, 3) := by decide +kernel
theorem dX3_readTarget_36 : decode cX3_readTarget 36 = .ok (.istore 4, 2) := by decide +kernel
theorem dX3_readTarget_38 : decode cX3_readTarget 38 = .ok (.aload_n 0, 1) := by decide +kernel
theorem dX3_readTarget_39 : decode cX3_readTarget 39 = .ok (.bipush 59, 2) := by decide +kernel
theorem dX3_readTarget_41 : decode cX3_readTarget 41 = .ok (.invokevirtual 55, 3) := by decide +kernel
theorem dX3_readTarget_44 : decode cX3_readTarget 44 = .ok (.ifCond .eq 22, 3) := by decide +kernel
theorem dX3_readTarget_47 : decode cX3_readTarget 47 = .ok (.aload_n 1, 1) := by decide +kernel
theorem dX3_readTarget_48 : decode cX3_readTarget 48 = .ok (.iload_n 2, 1) := by decide +kernel
theorem dX3_readTarget_49 : decode cX3_readTarget 49 = .ok (.aload_n 0, 1) := by decide +kernel
theorem dX3_readTarget_50 : decode cX3_readTarget 50 = .ok (.getfield 15, 3) := by decide +kernel
theorem dX3_readTarget_53 : decode cX3_readTarget 53 = .ok (.iload_n 3, 1) := by decide +kernel
theorem dX3_readTarget_54 : decode cX3_readTarget 54 = .ok (.iload 4, 2) := by decide +kernel
theorem dX3_readTarget_56 : decode cX3_readTarget 56 = .ok (.invokevirtual 76, 3) := by decide +kernel
theorem dX3_readTarget_59 : decode cX3_readTarget 59 = .ok (.ifCond .eq 7, 3) := by decide +kernel
theorem dX3_readTarget_62 : decode cX3_readTarget 62 = .ok (.iconst 1, 1) := by decide +kernel
theorem dX3_readTarget_63 : decode cX3_readTarget 63 = .ok (.goto 4, 3) := by decide +kernel
theorem dX3_readTarget_66 : decode cX3_readTarget 66 = .ok (.iconst 0, 1) := by decide +kernel
theorem dX3_readTarget_67 : decode cX3_readTarget 67 = .ok (.ireturn, 1) := by decide +kernel
theorem dX3_readConfiguration_0 : decode cX3_readConfiguration 0 = .ok (.aload_n 0, 1) := by decide +kernel
theorem dX3_readConfiguration_1 : decode cX3_readConfiguration 1 = .ok (.aload_n 1, 1) := by decide +kernel
theorem dX3_readConfiguration_2 : decode cX3_readConfiguration 2 = .ok (.getfield 59, 3) := by decide +kernel
theorem dX3_readConfiguration_5 : decode cX3_readConfiguration 5 = .ok (.invokevirtual 51, 3) := by decide +kernel
theorem dX3_readConfiguration_8 : decode cX3_readConfiguration 8 = .ok (.istore_n 2, 1) := by decide +kernel
theorem dX3_readConfiguration_9 : decode cX3_readConfiguration 9 = .ok (.iload_n 2, 1) := by decide +kernel
theorem dX3_readConfiguration_10 : decode cX3_readConfiguration 10 = .ok (.ifCond .lt 12, 3) := by decide +kernel
theorem dX3_readConfiguration_13 : decode cX3_readConfiguration 13 = .ok (.aload_n 0, 1) := by decide +kernel
theorem dX3_readConfiguration_14 : decode cX3_readConfiguration 14 = .ok (.bipush 44, 2) := by decide +kernel
theorem dX3_readConfiguration_16 : decode cX3_readConfiguration 16 = .ok (.invokevirtual 55, 3) := by decide +kernel
theorem dX3_readConfiguration_19 : decode cX3_readConfiguration 19 = .ok (.ifCond .ne 5, 3) := by decide +kernel
theorem dX3_readConfiguration_22 : decode cX3_readConfiguration 22 = .ok (.iconst 0, 1) := by decide +kernel
theorem dX3_readConfiguration_23 : decode cX3_readConfiguration 23 = .ok (.ireturn, 1) := by decide +kernel
theorem dX3_readConfiguration_24 : decode cX3_readConfiguration 24 = .ok (.aload_n 0, 1) := by decide +kernel
theorem dX3_readConfiguration_25 : decode cX3_readConfiguration 25 = .ok (.bipush 6, 2) := by decide +kernel
theorem dX3_readConfiguration_27 : decode cX3_readConfiguration 27 = .ok (.invokevirtual 66, 3) := by decide +kernel
theorem dX3_readConfiguration_30 : decode cX3_readConfiguration 30 = .ok (.istore_n 3, 1) := by decide +kernel
theorem dX3_readConfiguration_31 : decode cX3_readConfiguration 31 = .ok (.aload_n 0, 1) := by decide +kernel
theorem dX3_readConfiguration_32 : decode cX3_readConfiguration 32 = .ok (.bipush 59, 2) := by decide +kernel
theorem dX3_readConfiguration_34 : decode cX3_readConfiguration 34 = .ok (.invokevirtual 55, 3) := by decide +kernel
theorem dX3_readConfiguration_37 : decode cX3_readConfiguration 37 = .ok (.ifCond .ne 5, 3) := by decide +kernel
theorem dX3_readConfiguration_40 : decode cX3_readConfiguration 40 = .ok (.iconst 0, 1) := by decide +kernel
theorem dX3_readConfiguration_41 : decode cX3_readConfiguration 41 = .ok (.ireturn, 1) := by decide +kernel
theorem dX3_readConfiguration_42 : decode cX3_readConfiguration 42 = .ok (.aload_n 1, 1) := by decide +kernel
theorem dX3_readConfiguration_43 : decode cX3_readConfiguration 43 = .ok (.iload_n 2, 1) := by decide +kernel
theorem dX3_readConfiguration_44 : decode cX3_readConfiguration 44 = .ok (.putfield 80, 3) := by decide +kernel
theorem dX3_readConfiguration_47 : decode cX3_readConfiguration 47 = .ok (.aload_n 1, 1) := by decide +kernel
theorem dX3_readConfiguration_48 : decode cX3_readConfiguration 48 = .ok (.iconst 0, 1) := by decide +kernel
theorem dX3_readConfiguration_49 : decode cX3_readConfiguration 49 = .ok (.putfield 83, 3) := by decide +kernel
theorem dX3_readConfiguration_52 : decode cX3_readConfiguration 52 = .ok (.iload_n 3, 1) := by decide +kernel
theorem dX3_readConfiguration_53 : decode cX3_readConfiguration 53 = .ok (.iconst 1, 1) := by decide +kernel
theorem dX3_readConfiguration_54 : decode cX3_readConfiguration 54 = .ok (.isub, 1) := by decide +kernel
theorem dX3_readConfiguration_55 : decode cX3_readConfiguration 55 = .ok (.istore 4, 2) := by decide +kernel
theorem dX3_readConfiguration_57 : decode cX3_readConfiguration 57 = .ok (.iload 4, 2) := by decide +kernel
theorem dX3_readConfiguration_59 : decode cX3_readConfiguration 59 = .ok (.ifCond .lt 20, 3) := by decide +kernel
theorem dX3_readConfiguration_62 : decode cX3_readConfiguration 62 = .ok (.aload_n 1, 1) := by decide +kernel
theorem dX3_readConfiguration_63 : decode cX3_readConfiguration 63 = .ok (.aload_n 0, 1) := by decide +kernel
theorem dX3_readConfiguration_64 : decode cX3_readConfiguration 64 = .ok (.getfield 15, 3) := by decide +kernel
theorem dX3_readConfiguration_67 : decode cX3_readConfiguration 67 = .ok (.iload 4, 2) := by decide +kernel
theorem dX3_readConfiguration_69 : decode cX3_readConfiguration 69 = .ok (.iaload, 1) := by decide +kernel
theorem dX3_readConfiguration_70 : decode cX3_readConfiguration 70 = .ok (.invokevirtual 86, 3) := by decide +kernel
theorem dX3_readConfiguration_73 : decode cX3_readConfiguration 73 = .ok (.iinc 4 (-1), 3) := by decide +kernel
theorem dX3_readConfiguration_76 : decode cX3_readConfiguration 76 = .ok (.goto (-19), 3) := by decide +kernel
theorem dX3_readConfiguration_79 : decode cX3_readConfiguration 79 = .ok (.iconst 1, 1) := by decide +kernel
theorem dX3_readConfiguration_80 : decode cX3_readConfiguration 80 = .ok (.ireturn, 1) := by decide +kernel
theorem dX3_readMode_0 : decode cX3_readMode 0 = .ok (.aload_n 0, 1) := by decide +kernel
theorem dX3_readMode_1 : decode cX3_readMode 1 = .ok (.iconst 3, 1) := by decide +kernel
theorem dX3_readMode_2 : decode cX3_readMode 2 = .ok (.invokevirtual 51, 3) := by decide +kernel
theorem dX3_readMode_5 : decode cX3_readMode 5 = .ok (.istore_n 2, 1) := by decide +kernel
theorem dX3_readMode_6 : decode cX3_readMode 6 = .ok (.iload_n 2, 1) := by decide +kernel
theorem dX3_readMode_7 : decode cX3_readMode 7 = .ok (.ifCond .lt 12, 3) := by decide +kernel
theorem dX3_readMode_10 : decode cX3_readMode 10 = .ok (.aload_n 0, 1) := by decide +kernel
theorem dX3_readMode_11 : decode cX3_readMode 11 = .ok (.bipush 59, 2) := by decide +kernel
theorem dX3_readMode_13 : decode cX3_readMode 13 = .ok (.invokevirtual 55, 3) := by decide +kernel
theorem dX3_readMode_16 : decode cX3_readMode 16 = .ok (.ifCond .ne 5, 3) := by decide +kernel
theorem dX3_readMode_19 : decode cX3_readMode 19 = .ok (.iconst 0, 1) := by decide +kernel
theorem dX3_readMode_20 : decode cX3_readMode 20 = .ok (.ireturn, 1) := by decide +kernel
theorem dX3_readMode_21 : decode cX3_readMode 21 = .ok (.aload_n 1, 1) := by decide +kernel
theorem dX3_readMode_22 : decode cX3_readMode 22 = .ok (.iload_n 2, 1) := by decide +kernel
theorem dX3_readMode_23 : decode cX3_readMode 23 = .ok (.putfield 90, 3) := by decide +kernel
theorem dX3_readMode_26 : decode cX3_readMode 26 = .ok (.iconst 1, 1) := by decide +kernel
theorem dX3_readMode_27 : decode cX3_readMode 27 = .ok (.ireturn, 1) := by decide +kernel
theorem dX3_readSign_0 : decode cX3_readSign 0 = .ok (.aload_n 0, 1) := by decide +kernel
theorem dX3_readSign_1 : decode cX3_readSign 1 = .ok (.getfield 28, 3) := by decide +kernel
theorem dX3_readSign_4 : decode cX3_readSign 4 = .ok (.aload_n 0, 1) := by decide +kernel
theorem dX3_readSign_5 : decode cX3_readSign 5 = .ok (.getfield 19, 3) := by decide +kernel
theorem dX3_readSign_8 : decode cX3_readSign 8 = .ok (.if_icmp .ge 16, 3) := by decide +kernel
theorem dX3_readSign_11 : decode cX3_readSign 11 = .ok (.aload_n 0, 1) := by decide +kernel
theorem dX3_readSign_12 : decode cX3_readSign 12 = .ok (.getfield 9, 3) := by decide +kernel
theorem dX3_readSign_15 : decode cX3_readSign 15 = .ok (.aload_n 0, 1) := by decide +kernel
theorem dX3_readSign_16 : decode cX3_readSign 16 = .ok (.getfield 28, 3) := by decide +kernel
theorem dX3_readSign_19 : decode cX3_readSign 19 = .ok (.caload, 1) := by decide +kernel
theorem dX3_readSign_20 : decode cX3_readSign 20 = .ok (.iload_n 1, 1) := by decide +kernel
theorem dX3_readSign_21 : decode cX3_readSign 21 = .ok (.if_icmp .eq 5, 3) := by decide +kernel
theorem dX3_readSign_24 : decode cX3_readSign 24 = .ok (.iconst 0, 1) := by decide +kernel
theorem dX3_readSign_25 : decode cX3_readSign 25 = .ok (.ireturn, 1) := by decide +kernel
theorem dX3_readSign_26 : decode cX3_readSign 26 = .ok (.aload_n 0, 1) := by decide +kernel
theorem dX3_readSign_27 : decode cX3_readSign 27 = .ok (.dup, 1) := by decide +kernel
theorem dX3_readSign_28 : decode cX3_readSign 28 = .ok (.getfield 28, 3) := by decide +kernel
theorem dX3_readSign_31 : decode cX3_readSign 31 = .ok (.iconst 1, 1) := by decide +kernel
theorem dX3_readSign_32 : decode cX3_readSign 32 = .ok (.iadd, 1) := by decide +kernel
theorem dX3_readSign_33 : decode cX3_readSign 33 = .ok (.putfield 28, 3) := by decide +kernel
theorem dX3_readSign_36 : decode cX3_readSign 36 = .ok (.iconst 1, 1) := by decide +kernel
theorem dX3_readSign_37 : decode cX3_readSign 37 = .ok (.ireturn, 1) := by decide +kernel
theorem dX3_readDigit_0 : decode cX3_readDigit 0 = .ok (.aload_n 0, 1) := by decide +kernel
theorem dX3_readDigit_1 : decode cX3_readDigit 1 = .ok (.getfield 28, 3) := by decide +kernel
theorem dX3_readDigit_4 : decode cX3_readDigit 4 = .ok (.aload_n 0, 1) := by decide +kernel
theorem dX3_readDigit_5 : decode cX3_readDigit 5 = .ok (.getfield 19, 3) := by decide +kernel
theorem dX3_readDigit_8 : decode cX3_readDigit 8 = .ok (.if_icmp .ge 33, 3) := by decide +kernel
theorem dX3_readDigit_11 : decode cX3_readDigit 11 = .ok (.aload_n 0, 1) := by decide +kernel
theorem dX3_readDigit_12 : decode cX3_readDigit 12 = .ok (.getfield 9, 3) := by decide +kernel
theorem dX3_readDigit_15 : decode cX3_readDigit 15 = .ok (.aload_n 0, 1) := by decide +kernel
theorem dX3_readDigit_16 : decode cX3_readDigit 16 = .ok (.getfield 28, 3) := by decide +kernel
theorem dX3_readDigit_19 : decode cX3_readDigit 19 = .ok (.caload, 1) := by decide +kernel
theorem dX3_readDigit_20 : decode cX3_readDigit 20 = .ok (.bipush 48, 2) := by decide +kernel
theorem dX3_readDigit_22 : decode cX3_readDigit 22 = .ok (.if_icmp .lt 19, 3) := by decide +kernel
theorem dX3_readDigit_25 : decode cX3_readDigit 25 = .ok (.aload_n 0, 1) := by decide +kernel
theorem dX3_readDigit_26 : decode cX3_readDigit 26 = .ok (.getfield 9, 3) := by decide +kernel
theorem dX3_readDigit_29 : decode cX3_readDigit 29 = .ok (.aload_n 0, 1) := by decide +kernel
theorem dX3_readDigit_30 : decode cX3_readDigit 30 = .ok (.getfield 28, 3) := by decide +kernel
theorem dX3_readDigit_33 : decode cX3_readDigit 33 = .ok (.caload, 1) := by decide +kernel
theorem dX3_readDigit_34 : decode cX3_readDigit 34 = .ok (.bipush 48, 2) := by decide +kernel
theorem dX3_readDigit_36 : decode cX3_readDigit 36 = .ok (.isub, 1) := by decide +kernel
theorem dX3_readDigit_37 : decode cX3_readDigit 37 = .ok (.iload_n 1, 1) := by decide +kernel
theorem dX3_readDigit_38 : decode cX3_readDigit 38 = .ok (.if_icmp .lt 5, 3) := by decide +kernel
theorem dX3_readDigit_41 : decode cX3_readDigit 41 = .ok (.iconst (-1), 1) := by decide +kernel
theorem dX3_readDigit_42 : decode cX3_readDigit 42 = .ok (.ireturn, 1) := by decide +kernel
theorem dX3_readDigit_43 : decode cX3_readDigit 43 = .ok (.aload_n 0, 1) := by decide +kernel
theorem dX3_readDigit_44 : decode cX3_readDigit 44 = .ok (.getfield 9, 3) := by decide +kernel
theorem dX3_readDigit_47 : decode cX3_readDigit 47 = .ok (.aload_n 0, 1) := by decide +kernel
theorem dX3_readDigit_48 : decode cX3_readDigit 48 = .ok (.getfield 28, 3) := by decide +kernel
theorem dX3_readDigit_51 : decode cX3_readDigit 51 = .ok (.caload, 1) := by decide +kernel
theorem dX3_readDigit_52 : decode cX3_readDigit 52 = .ok (.bipush 48, 2) := by decide +kernel
theorem dX3_readDigit_54 : decode cX3_readDigit 54 = .ok (.isub, 1) := by decide +kernel
theorem dX3_readDigit_55 : decode cX3_readDigit 55 = .ok (.istore_n 2, 1) := by decide +kernel
theorem dX3_readDigit_56 : decode cX3_readDigit 56 = .ok (.aload_n 0, 1) := by decide +kernel
theorem dX3_readDigit_57 : decode cX3_readDigit 57 = .ok (.dup, 1) := by decide +kernel
theorem dX3_readDigit_58 : decode cX3_readDigit 58 = .ok (.getfield 28, 3) := by decide +kernel
theorem dX3_readDigit_61 : decode cX3_readDigit 61 = .ok (.iconst 1, 1) := by decide +kernel
theorem dX3_readDigit_62 : decode cX3_readDigit 62 = .ok (.iadd, 1) := by decide +kernel
theorem dX3_readDigit_63 : decode cX3_readDigit 63 = .ok (.putfield 28, 3) := by decide +kernel
theorem dX3_readDigit_66 : decode cX3_readDigit 66 = .ok (.iload_n 2, 1) := by decide +kernel
theorem dX3_readDigit_67 : decode cX3_readDigit 67 = .ok (.ireturn, 1) := by decide +kernel
theorem dX3_readLetter_0 : decode cX3_readLetter 0 = .ok (.aload_n 0, 1) := by decide +kernel
theorem dX3_readLetter_1 : decode cX3_readLetter 1 = .ok (.getfield 28, 3) := by decide +kernel
theorem dX3_readLetter_4 : decode cX3_readLetter 4 = .ok (.aload_n 0, 1) := by decide +kernel
theorem dX3_readLetter_5 : decode cX3_readLetter 5 = .ok (.getfield 19, 3) := by decide +kernel
theorem dX3_readLetter_8 : decode cX3_readLetter 8 = .ok (.if_icmp .ge 33, 3) := by decide +kernel
theorem dX3_readLetter_11 : decode cX3_readLetter 11 = .ok (.aload_n 0, 1) := by decide +kernel
theorem dX3_readLetter_12 : decode cX3_readLetter 12 = .ok (.getfield 9, 3) := by decide +kernel
theorem dX3_readLetter_15 : decode cX3_readLetter 15 = .ok (.aload_n 0, 1) := by decide +kernel
theorem dX3_readLetter_16 : decode cX3_readLetter 16 = .ok (.getfield 28, 3) := by decide +kernel
theorem dX3_readLetter_19 : decode cX3_readLetter 19 = .ok (.caload, 1) := by decide +kernel
theorem dX3_readLetter_20 : decode cX3_readLetter 20 = .ok (.bipush 97, 2) := by decide +kernel
theorem dX3_readLetter_22 : decode cX3_readLetter 22 = .ok (.if_icmp .lt 19, 3) := by decide +kernel
theorem dX3_readLetter_25 : decode cX3_readLetter 25 = .ok (.aload_n 0, 1) := by decide +kernel
theorem dX3_readLetter_26 : decode cX3_readLetter 26 = .ok (.getfield 9, 3) := by decide +kernel
theorem dX3_readLetter_29 : decode cX3_readLetter 29 = .ok (.aload_n 0, 1) := by decide +kernel
theorem dX3_readLetter_30 : decode cX3_readLetter 30 = .ok (.getfield 28, 3) := by decide +kernel
theorem dX3_readLetter_33 : decode cX3_readLetter 33 = .ok (.caload, 1) := by decide +kernel
theorem dX3_readLetter_34 : decode cX3_readLetter 34 = .ok (.bipush 97, 2) := by decide +kernel
theorem dX3_readLetter_36 : decode cX3_readLetter 36 = .ok (.isub, 1) := by decide +kernel
theorem dX3_readLetter_37 : decode cX3_readLetter 37 = .ok (.iconst 4, 1) := by decide +kernel
theorem dX3_readLetter_38 : decode cX3_readLetter 38 = .ok (.if_icmp .lt 5, 3) := by decide +kernel
theorem dX3_readLetter_41 : decode cX3_readLetter 41 = .ok (.iconst (-1), 1) := by decide +kernel
theorem dX3_readLetter_42 : decode cX3_readLetter 42 = .ok (.ireturn, 1) := by decide +kernel
theorem dX3_readLetter_43 : decode cX3_readLetter 43 = .ok (.aload_n 0, 1) := by decide +kernel
theorem dX3_readLetter_44 : decode cX3_readLetter 44 = .ok (.getfield 9, 3) := by decide +kernel
theorem dX3_readLetter_47 : decode cX3_readLetter 47 = .ok (.aload_n 0, 1) := by decide +kernel
theorem dX3_readLetter_48 : decode cX3_readLetter 48 = .ok (.getfield 28, 3) := by decide +kernel
theorem dX3_readLetter_51 : decode cX3_readLetter 51 = .ok (.caload, 1) := by decide +kernel
theorem dX3_readLetter_52 : decode cX3_readLetter 52 = .ok (.bipush 97, 2) := by decide +kernel
theorem dX3_readLetter_54 : decode cX3_readLetter 54 = .ok (.isub, 1) := by decide +kernel
theorem dX3_readLetter_55 : decode cX3_readLetter 55 = .ok (.istore_n 1, 1) := by decide +kernel
theorem dX3_readLetter_56 : decode cX3_readLetter 56 = .ok (.aload_n 0, 1) := by decide +kernel
theorem dX3_readLetter_57 : decode cX3_readLetter 57 = .ok (.dup, 1) := by decide +kernel
theorem dX3_readLetter_58 : decode cX3_readLetter 58 = .ok (.getfield 28, 3) := by decide +kernel
theorem dX3_readLetter_61 : decode cX3_readLetter 61 = .ok (.iconst 1, 1) := by decide +kernel
theorem dX3_readLetter_62 : decode cX3_readLetter 62 = .ok (.iadd, 1) := by decide +kernel
theorem dX3_readLetter_63 : decode cX3_readLetter 63 = .ok (.putfield 28, 3) := by decide +kernel
theorem dX3_readLetter_66 : decode cX3_readLetter 66 = .ok (.iload_n 1, 1) := by decide +kernel
theorem dX3_readLetter_67 : decode cX3_readLetter 67 = .ok (.ireturn, 1) := by decide +kernel
theorem dX3_readWord_0 : decode cX3_readWord 0 = .ok (.iconst 0, 1) := by decide +kernel
theorem dX3_readWord_1 : decode cX3_readWord 1 = .ok (.istore_n 2, 1) := by decide +kernel
theorem dX3_readWord_2 : decode cX3_readWord 2 = .ok (.iconst 0, 1) := by decide +kernel
theorem dX3_readWord_3 : decode cX3_readWord 3 = .ok (.istore_n 3, 1) := by decide +kernel
theorem dX3_readWord_4 : decode cX3_readWord 4 = .ok (.iload_n 3, 1) := by decide +kernel
theorem dX3_readWord_5 : decode cX3_readWord 5 = .ok (.iload_n 1, 1) := by decide +kernel
theorem dX3_readWord_6 : decode cX3_readWord 6 = .ok (.if_icmp .ge 40, 3) := by decide +kernel
theorem dX3_readWord_9 : decode cX3_readWord 9 = .ok (.iload_n 3, 1) := by decide +kernel
theorem dX3_readWord_10 : decode cX3_readWord 10 = .ok (.bipush 6, 2) := by decide +kernel
theorem dX3_readWord_12 : decode cX3_readWord 12 = .ok (.if_icmp .ge 34, 3) := by decide +kernel
theorem dX3_readWord_15 : decode cX3_readWord 15 = .ok (.aload_n 0, 1) := by decide +kernel
theorem dX3_readWord_16 : decode cX3_readWord 16 = .ok (.invokevirtual 62, 3) := by decide +kernel
theorem dX3_readWord_19 : decode cX3_readWord 19 = .ok (.istore 4, 2) := by decide +kernel
theorem dX3_readWord_21 : decode cX3_readWord 21 = .ok (.iload 4, 2) := by decide +kernel
theorem dX3_readWord_23 : decode cX3_readWord 23 = .ok (.ifCond .ge 6, 3) := by decide +kernel
theorem dX3_readWord_26 : decode cX3_readWord 26 = .ok (.goto 20, 3) := by decide +kernel
theorem dX3_readWord_29 : decode cX3_readWord 29 = .ok (.aload_n 0, 1) := by decide +kernel
theorem dX3_readWord_30 : decode cX3_readWord 30 = .ok (.getfield 15, 3) := by decide +kernel
theorem dX3_readWord_33 : decode cX3_readWord 33 = .ok (.iload_n 3, 1) := by decide +kernel
theorem dX3_readWord_34 : decode cX3_readWord 34 = .ok (.iload 4, 2) := by decide +kernel
theorem dX3_readWord_36 : decode cX3_readWord 36 = .ok (.iastore, 1) := by decide +kernel
theorem dX3_readWord_37 : decode cX3_readWord 37 = .ok (.iinc 2 1, 3) := by decide +kernel
theorem dX3_readWord_40 : decode cX3_readWord 40 = .ok (.iinc 3 1, 3) := by decide +kernel
theorem dX3_readWord_43 : decode cX3_readWord 43 = .ok (.goto (-39), 3) := by decide +kernel
theorem dX3_readWord_46 : decode cX3_readWord 46 = .ok (.iload_n 2, 1) := by decide +kernel
theorem dX3_readWord_47 : decode cX3_readWord 47 = .ok (.ireturn, 1) := by decide +kernel
theorem dX3_wordFrom_0 : decode cX3_wordFrom 0 = .ok (.iload_n 1, 1) := by decide +kernel
theorem dX3_wordFrom_1 : decode cX3_wordFrom 1 = .ok (.ifCond .ne 5, 3) := by decide +kernel
theorem dX3_wordFrom_4 : decode cX3_wordFrom 4 = .ok (.iconst 0, 1) := by decide +kernel
theorem dX3_wordFrom_5 : decode cX3_wordFrom 5 = .ok (.ireturn, 1) := by decide +kernel
theorem dX3_wordFrom_6 : decode cX3_wordFrom 6 = .ok (.iload_n 1, 1) := by decide +kernel
theorem dX3_wordFrom_7 : decode cX3_wordFrom 7 = .ok (.iconst 1, 1) := by decide +kernel
theorem dX3_wordFrom_8 : decode cX3_wordFrom 8 = .ok (.if_icmp .ne 14, 3) := by decide +kernel
theorem dX3_wordFrom_11 : decode cX3_wordFrom 11 = .ok (.iconst 1, 1) := by decide +kernel
theorem dX3_wordFrom_12 : decode cX3_wordFrom 12 = .ok (.aload_n 0, 1) := by decide +kernel
theorem dX3_wordFrom_13 : decode cX3_wordFrom 13 = .ok (.getfield 15, 3) := by decide +kernel
theorem dX3_wordFrom_16 : decode cX3_wordFrom 16 = .ok (.iconst 0, 1) := by decide +kernel
theorem dX3_wordFrom_17 : decode cX3_wordFrom 17 = .ok (.iaload, 1) := by decide +kernel
theorem dX3_wordFrom_18 : decode cX3_wordFrom 18 = .ok (.iadd, 1) := by decide +kernel
theorem dX3_wordFrom_19 : decode cX3_wordFrom 19 = .ok (.goto 18, 3) := by decide +kernel
theorem dX3_wordFrom_22 : decode cX3_wordFrom 22 = .ok (.aload_n 0, 1) := by decide +kernel
theorem dX3_wordFrom_23 : decode cX3_wordFrom 23 = .ok (.getfield 15, 3) := by decide +kernel
theorem dX3_wordFrom_26 : decode cX3_wordFrom 26 = .ok (.iconst 0, 1) := by decide +kernel
theorem dX3_wordFrom_27 : decode cX3_wordFrom 27 = .ok (.iaload, 1) := by decide +kernel
theorem dX3_wordFrom_28 : decode cX3_wordFrom 28 = .ok (.aload_n 0, 1) := by decide +kernel
theorem dX3_wordFrom_29 : decode cX3_wordFrom 29 = .ok (.getfield 15, 3) := by decide +kernel
theorem dX3_wordFrom_32 : decode cX3_wordFrom 32 = .ok (.iconst 1, 1) := by decide +kernel
theorem dX3_wordFrom_33 : decode cX3_wordFrom 33 = .ok (.iaload, 1) := by decide +kernel
theorem dX3_wordFrom_34 : decode cX3_wordFrom 34 = .ok (.invokestatic 93, 3) := by decide +kernel
theorem dX3_wordFrom_37 : decode cX3_wordFrom 37 = .ok (.ireturn, 1) := by decide +kernel
theorem dX4_init_0 : decode cX4_init 0 = .ok (.aload_n 0, 1) := by decide +kernel
theorem dX4_init_1 : decode cX4_init 1 = .ok (.invokespecial 3, 3) := by decide +kernel
theorem dX4_init_4 : decode cX4_init 4 = .ok (.aload_n 0, 1) := by decide +kernel
theorem dX4_init_5 : decode cX4_init 5 = .ok (.bipush 10, 2) := by decide +kernel
theorem dX4_init_7 : decode cX4_init 7 = .ok (.newarray .int, 2) := by decide +kernel
theorem dX4_init_9 : decode cX4_init 9 = .ok (.putfield 9, 3) := by decide +kernel
theorem dX4_init_12 : decode cX4_init 12 = .ok (.aload_n 0, 1) := by decide +kernel
theorem dX4_init_13 : decode cX4_init 13 = .ok (.bipush 10, 2) := by decide +kernel
theorem dX4_init_15 : decode cX4_init 15 = .ok (.newarray .int, 2) := by decide +kernel
theorem dX4_init_17 : decode cX4_init 17 = .ok (.putfield 15, 3) := by decide +kernel
theorem dX4_init_20 : decode cX4_init 20 = .ok (.aload_n 0, 1) := by decide +kernel
theorem dX4_init_21 : decode cX4_init 21 = .ok (.bipush 10, 2) := by decide +kernel
theorem dX4_init_23 : decode cX4_init 23 = .ok (.newarray .int, 2) := by decide +kernel
theorem dX4_init_25 : decode cX4_init 25 = .ok (.putfield 18, 3) := by decide +kernel
theorem dX4_init_28 : decode cX4_init 28 = .ok (.aload_n 0, 1) := by decide +kernel
theorem dX4_init_29 : decode cX4_init 29 = .ok (.bipush 10, 2) := by decide +kernel
theorem dX4_init_31 : decode cX4_init 31 = .ok (.newarray .int, 2) := by decide +kernel
theorem dX4_init_33 : decode cX4_init 33 = .ok (.putfield 21, 3) := by decide +kernel
theorem dX4_init_36 : decode cX4_init 36 = .ok (.aload_n 0, 1) := by decide +kernel
theorem dX4_init_37 : decode cX4_init 37 = .ok (.bipush 10, 2) := by decide +kernel
theorem dX4_init_39 : decode cX4_init 39 = .ok (.newarray .int, 2) := by decide +kernel
theorem dX4_init_41 : decode cX4_init 41 = .ok (.putfield 24, 3) := by decide +kernel
theorem dX4_init_44 : decode cX4_init 44 = .ok (.aload_n 0, 1) := by decide +kernel
theorem dX4_init_45 : decode cX4_init 45 = .ok (.iconst 4, 1) := by decide +kernel
theorem dX4_init_46 : decode cX4_init 46 = .ok (.newarray .int, 2) := by decide +kernel
theorem dX4_init_48 : decode cX4_init 48 = .ok (.putfield 27, 3) := by decide +kernel
theorem dX4_init_51 : decode cX4_init 51 = .ok (.aload_n 0, 1) := by decide +kernel
theorem dX4_init_52 : decode cX4_init 52 = .ok (.iconst 4, 1) := by decide +kernel
theorem dX4_init_53 : decode cX4_init 53 = .ok (.newarray .int, 2) := by decide +kernel
theorem dX4_init_55 : decode cX4_init 55 = .ok (.putfield 30, 3) := by decide +kernel
theorem dX4_init_58 : decode cX4_init 58 = .ok (.aload_n 0, 1) := by decide +kernel
theorem dX4_init_59 : decode cX4_init 59 = .ok (.iconst 4, 1) := by decide +kernel
theorem dX4_init_60 : decode cX4_init 60 = .ok (.newarray .boolean, 2) := by decide +kernel
theorem dX4_init_62 : decode cX4_init 62 = .ok (.putfield 33, 3) := by decide +kernel
theorem dX4_init_65 : decode cX4_init 65 = .ok (.aload_n 0, 1) := by decide +kernel
theorem dX4_init_66 : decode cX4_init 66 = .ok (.bipush 12, 2) := by decide +kernel
theorem dX4_init_68 : decode cX4_init 68 = .ok (.newarray .int, 2) := by decide +kernel
theorem dX4_init_70 : decode cX4_init 70 = .ok (.putfield 37, 3) := by decide +kernel
theorem dX4_init_73 : decode cX4_init 73 = .ok (.aload_n 0, 1) := by decide +kernel
theorem dX4_init_74 : decode cX4_init 74 = .ok (.bipush 12, 2) := by decide +kernel
theorem dX4_init_76 : decode cX4_init 76 = .ok (.newarray .int, 2) := by decide +kernel
theorem dX4_init_78 : decode cX4_init 78 = .ok (.putfield 40, 3) := by decide +kernel
theorem dX4_init_81 : decode cX4_init 81 = .ok (.return_, 1) := by decide +kernel
theorem dX4_clear_0 : decode cX4_clear 0 = .ok (.aload_n 0, 1) := by decide +kernel
theorem dX4_clear_1 : decode cX4_clear 1 = .ok (.iconst 2, 1) := by decide +kernel
theorem dX4_clear_2 : decode cX4_clear 2 = .ok (.putfield 43, 3) := by decide +kernel
theorem dX4_clear_5 : decode cX4_clear 5 = .ok (.aload_n 0, 1) := by decide +kernel
theorem dX4_clear_6 : decode cX4_clear 6 = .ok (.iconst 0, 1) := by decide +kernel
theorem dX4_clear_7 : decode cX4_clear 7 = .ok (.putfield 47, 3) := by decide +kernel
theorem dX4_clear_10 : decode cX4_clear 10 = .ok (.aload_n 0, 1) := by decide +kernel
theorem dX4_clear_11 : decode cX4_clear 11 = .ok (.iconst 0, 1) := by decide +kernel
theorem dX4_clear_12 : decode cX4_clear 12 = .ok (.putfield 50, 3) := by decide +kernel
theorem dX4_clear_15 : decode cX4_clear 15 = .ok (.aload_n 0, 1) := by decide +kernel
theorem dX4_clear_16 : decode cX4_clear 16 = .ok (.iconst 0, 1) := by decide +kernel
theorem dX4_clear_17 : decode cX4_clear 17 = .ok (.putfield 53, 3) := by decide +kernel
theorem dX4_clear_20 : decode cX4_clear 20 = .ok (.aload_n 0, 1) := by decide +kernel
theorem dX4_clear_21 : decode cX4_clear 21 = .ok (.iconst 0, 1) := by decide +kernel
theorem dX4_clear_22 : decode cX4_clear 22 = .ok (.putfield 56, 3) := by decide +kernel
theorem dX4_clear_25 : decode cX4_clear 25 = .ok (.aload_n 0, 1) := by decide +kernel
theorem dX4_clear_26 : decode cX4_clear 26 = .ok (.iconst 0, 1) := by decide +kernel
theorem dX4_clear_27 : decode cX4_clear 27 = .ok (.putfield 59, 3) := by decide +kernel
theorem dX4_clear_30 : decode cX4_clear 30 = .ok (.return_, 1) := by decide +kernel
theorem dX4_copyFrom_0 : decode cX4_copyFrom 0 = .ok (.aload_n 0, 1) := by decide +kernel
theorem dX4_copyFrom_1 : decode cX4_copyFrom 1 = .ok (.aload_n 1, 1) := by decide +kernel
theorem dX4_copyFrom_2 : decode cX4_copyFrom 2 = .ok (.getfield 43, 3) := by decide +kernel
theorem dX4_copyFrom_5 : decode cX4_copyFrom 5 = .ok (.putfield 43, 3) := by decide +kernel
theorem dX4_copyFrom_8 : decode cX4_copyFrom 8 = .ok (.aload_n 0, 1) := by decide +kernel
theorem dX4_copyFrom_9 : decode cX4_copyFrom 9 = .ok (.aload_n 1, 1) := by decide +kernel
theorem dX4_copyFrom_10 : decode cX4_copyFrom 10 = .ok (.getfield 47, 3) := by decide +kernel
theorem dX4_copyFrom_13 : decode cX4_copyFrom 13 = .ok (.putfield 47, 3) := by decide +kernel
theorem dX4_copyFrom_16 : decode cX4_copyFrom 16 = .ok (.aload_n 1, 1) := by decide +kernel
theorem dX4_copyFrom_17 : decode cX4_copyFrom 17 = .ok (.getfield 9, 3) := by decide +kernel
theorem dX4_copyFrom_20 : decode cX4_copyFrom 20 = .ok (.iconst 0, 1) := by decide +kernel
theorem dX4_copyFrom_21 : decode cX4_copyFrom 21 = .ok (.aload_n 0, 1) := by decide +kernel
theorem dX4_copyFrom_22 : decode cX4_copyFrom 22 = .ok (.getfield 9, 3) := by decide +kernel
theorem dX4_copyFrom_25 : decode cX4_copyFrom 25 = .ok (.iconst 0, 1) := by decide +kernel
theorem dX4_copyFrom_26 : decode cX4_copyFrom 26 = .ok (.bipush 10, 2) := by decide +kernel
theorem dX4_copyFrom_28 : decode cX4_copyFrom 28 = .ok (.invokestatic 62, 3) := by decide +kernel
theorem dX4_copyFrom_31 : decode cX4_copyFrom 31 = .ok (.aload_n 1, 1) := by decide +kernel
theorem dX4_copyFrom_32 : decode cX4_copyFrom 32 = .ok (.getfield 15, 3) := by decide +kernel
theorem dX4_copyFrom_35 : decode cX4_copyFrom 35 = .ok (.iconst 0, 1) := by decide +kernel
theorem dX4_copyFrom_36 : decode cX4_copyFrom 36 = .ok (.aload_n 0, 1) := by decide +kernel
theorem dX4_copyFrom_37 : decode cX4_copyFrom 37 = .ok (.getfield 15, 3) := by decide +kernel
theorem dX4_copyFrom_40 : decode cX4_copyFrom 40 = .ok (.iconst 0, 1) := by decide +kernel
theorem dX4_copyFrom_41 : decode cX4_copyFrom 41 = .ok (.bipush 10, 2) := by decide +kernel
theorem dX4_copyFrom_43 : decode cX4_copyFrom 43 = .ok (.invokestatic 62, 3) := by decide +kernel
theorem dX4_copyFrom_46 : decode cX4_copyFrom 46 = .ok (.aload_n 1, 1) := by decide +kernel
theorem dX4_copyFrom_47 : decode cX4_copyFrom 47 = .ok (.getfield 18, 3) := by decide +kernel
theorem dX4_copyFrom_50 : decode cX4_copyFrom 50 = .ok (.iconst 0, 1) := by decide +kernel
theorem dX4_copyFrom_51 : decode cX4_copyFrom 51 = .ok (.aload_n 0, 1) := by decide +kernel
theorem dX4_copyFrom_52 : decode cX4_copyFrom 52 = .ok (.getfield 18, 3) := by decide +kernel
theorem dX4_copyFrom_55 : decode cX4_copyFrom 55 = .ok (.iconst 0, 1) := by decide +kernel
theorem dX4_copyFrom_56 : decode cX4_copyFrom 56 = .ok (.bipush 10, 2) := by decide +kernel
theorem dX4_copyFrom_58 : decode cX4_copyFrom 58 = .ok (.invokestatic 62, 3) := by decide +kernel
theorem dX4_copyFrom_61 : decode cX4_copyFrom 61 = .ok (.aload_n 1, 1) := by decide +kernel
theorem dX4_copyFrom_62 : decode cX4_copyFrom 62 = .ok (.getfield 21, 3) := by decide +kernel
theorem dX4_copyFrom_65 : decode cX4_copyFrom 65 = .ok (.iconst 0, 1) := by decide +kernel
theorem dX4_copyFrom_66 : decode cX4_copyFrom 66 = .ok (.aload_n 0, 1) := by decide +kernel
theorem dX4_copyFrom_67 : decode cX4_copyFrom 67 = .ok (.getfield 21, 3) := by decide +kernel
theorem dX4_copyFrom_70 : decode cX4_copyFrom 70 = .ok (.iconst 0, 1) := by decide +kernel
theorem dX4_copyFrom_71 : decode cX4_copyFrom 71 = .ok (.bipush 10, 2) := by decide +kernel
theorem dX4_copyFrom_73 : decode cX4_copyFrom 73 = .ok (.invokestatic 62, 3) := by decide +kernel
theorem dX4_copyFrom_76 : decode cX4_copyFrom 76 = .ok (.aload_n 1, 1) := by decide +kernel
theorem dX4_copyFrom_77 : decode cX4_copyFrom 77 = .ok (.getfield 24, 3) := by decide +kernel
theorem dX4_copyFrom_80 : decode cX4_copyFrom 80 = .ok (.iconst 0, 1) := by decide +kernel
theorem dX4_copyFrom_81 : decode cX4_copyFrom 81 = .ok (.aload_n 0, 1) := by decide +kernel
theorem dX4_copyFrom_82 : decode cX4_copyFrom 82 = .ok (.getfield 24, 3) := by decide +kernel
theorem dX4_copyFrom_85 : decode cX4_copyFrom 85 = .ok (.iconst 0, 1) := by decide +kernel
theorem dX4_copyFrom_86 : decode cX4_copyFrom 86 = .ok (.bipush 10, 2) := by decide +kernel
theorem dX4_copyFrom_88 : decode cX4_copyFrom 88 = .ok (.invokestatic 62, 3) := by decide +kernel
theorem dX4_copyFrom_91 : decode cX4_copyFrom 91 = .ok (.aload_n 0, 1) := by decide +kernel
theorem dX4_copyFrom_92 : decode cX4_copyFrom 92 = .ok (.aload_n 1, 1) := by decide +kernel
theorem dX4_copyFrom_93 : decode cX4_copyFrom 93 = .ok (.getfield 50, 3) := by decide +kernel
theorem dX4_copyFrom_96 : decode cX4_copyFrom 96 = .ok (.putfield 50, 3) := by decide +kernel
theorem dX4_copyFrom_99 : decode cX4_copyFrom 99 = .ok (.iconst 0, 1) := by decide +kernel
theorem dX4_copyFrom_100 : decode cX4_copyFrom 100 = .ok (.istore_n 2, 1) := by decide +kernel
theorem dX4_copyFrom_101 : decode cX4_copyFrom 101 = .ok (.iload_n 2, 1) := by decide +kernel
theorem dX4_copyFrom_102 : decode cX4_copyFrom 102 = .ok (.iconst 4, 1) := by decide +kernel
theorem dX4_copyFrom_103 : decode cX4_copyFrom 103 = .ok (.if_icmp .ge 45, 3) := by decide +kernel
theorem dX4_copyFrom_106 : decode cX4_copyFrom 106 = .ok (.aload_n 0, 1) := by decide +kernel
theorem dX4_copyFrom_107 : decode cX4_copyFrom 107 = .ok (.getfield 27, 3) := by decide +kernel
theorem dX4_copyFrom_110 : decode cX4_copyFrom 110 = .ok (.iload_n 2, 1) := by decide +kernel
theorem dX4_copyFrom_111 : decode cX4_copyFrom 111 = .ok (.aload_n 1, 1) := by decide +kernel
theorem dX4_copyFrom_112 : decode cX4_copyFrom 112 = .ok (.getfield 27, 3) := by decide +kernel
theorem dX4_copyFrom_115 : decode cX4_copyFrom 115 = .ok (.iload_n 2, 1) := by decide +kernel
theorem dX4_copyFrom_116 : decode cX4_copyFrom 116 = .ok (.iaload, 1) := by decide +kernel
theorem dX4_copyFrom_117 : decode cX4_copyFrom 117 = .ok (.iastore, 1) := by decide +kernel
theorem dX4_copyFrom_118 : decode cX4_copyFrom 118 = .ok (.aload_n 0, 1) := by decide +kernel
theorem dX4_copyFrom_119 : decode cX4_copyFrom 119 = .ok (.getfield 30, 3) := by decide +kernel
theorem dX4_copyFrom_122 : decode cX4_copyFrom 122 = .ok (.iload_n 2, 1) := by decide +kernel
theorem dX4_copyFrom_123 : decode cX4_copyFrom 123 = .ok (.aload_n 1, 1) := by decide +kernel
theorem dX4_copyFrom_124 : decode cX4_copyFrom 124 = .ok (.getfield 30, 3) := by decide +kernel
theorem dX4_copyFrom_127 : decode cX4_copyFrom 127 = .ok (.iload_n 2, 1) := by decide +kernel
theorem dX4_copyFrom_128 : decode cX4_copyFrom 128 = .ok (.iaload, 1) := by decide +kernel
theorem dX4_copyFrom_129 : decode cX4_copyFrom 129 = .ok (.iastore, 1) := by decide +kernel
theorem dX4_copyFrom_130 : decode cX4_copyFrom 130 = .ok (.aload_n 0, 1) := by decide +kernel
theorem dX4_copyFrom_131 : decode cX4_copyFrom 131 = .ok (.getfield 33, 3) := by decide +kernel
theorem dX4_copyFrom_134 : decode cX4_copyFrom 134 = .ok (.iload_n 2, 1) := by decide +kernel
theorem dX4_copyFrom_135 : decode cX4_copyFrom 135 = .ok (.aload_n 1, 1) := by decide +kernel
theorem dX4_copyFrom_136 : decode cX4_copyFrom 136 = .ok (.getfield 33, 3) := by decide +kernel
theorem dX4_copyFrom_139 : decode cX4_copyFrom 139 = .ok (.iload_n 2, 1) := by decide +kernel
theorem dX4_copyFrom_140 : decode cX4_copyFrom 140 = .ok (.baload, 1) := by decide +kernel
theorem dX4_copyFrom_141 : decode cX4_copyFrom 141 = .ok (.bastore, 1) := by decide +kernel
theorem dX4_copyFrom_142 : decode cX4_copyFrom 142 = .ok (.iinc 2 1, 3) := by decide +kernel
theorem dX4_copyFrom_145 : decode cX4_copyFrom 145 = .ok (.goto (-44), 3) := by decide +kernel
theorem dX4_copyFrom_148 : decode cX4_copyFrom 148 = .ok (.aload_n 1, 1) := by decide +kernel
theorem dX4_copyFrom_149 : decode cX4_copyFrom 149 = .ok (.getfield 37, 3) := by decide +kernel
theorem dX4_copyFrom_152 : decode cX4_copyFrom 152 = .ok (.iconst 0, 1) := by decide +kernel
theorem dX4_copyFrom_153 : decode cX4_copyFrom 153 = .ok (.aload_n 0, 1) := by decide +kernel
theorem dX4_copyFrom_154 : decode cX4_copyFrom 154 = .ok (.getfield 37, 3) := by decide +kernel
theorem dX4_copyFrom_157 : decode cX4_copyFrom 157 = .ok (.iconst 0, 1) := by decide +kernel
theorem dX4_copyFrom_158 : decode cX4_copyFrom 158 = .ok (.bipush 12, 2) := by decide +kernel
theorem dX4_copyFrom_160 : decode cX4_copyFrom 160 = .ok (.invokestatic 62, 3) := by decide +kernel
theorem dX4_copyFrom_163 : decode cX4_copyFrom 163 = .ok (.aload_n 0, 1) := by decide +kernel
theorem dX4_copyFrom_164 : decode cX4_copyFrom 164 = .ok (.aload_n 1, 1) := by decide +kernel
theorem dX4_copyFrom_165 : decode cX4_copyFrom 165 = .ok (.getfield 53, 3) := by decide +kernel
theorem dX4_copyFrom_168 : decode cX4_copyFrom 168 = .ok (.putfield 53, 3) := by decide +kernel
theorem dX4_copyFrom_171 : decode cX4_copyFrom 171 = .ok (.aload_n 0, 1) := by decide +kernel
theorem dX4_copyFrom_172 : decode cX4_copyFrom 172 = .ok (.aload_n 1, 1) := by decide +kernel
theorem dX4_copyFrom_173 : decode cX4_copyFrom 173 = .ok (.getfield 56, 3) := by decide +kernel
theorem dX4_copyFrom_176 : decode cX4_copyFrom 176 = .ok (.putfield 56, 3) := by decide +kernel
theorem dX4_copyFrom_179 : decode cX4_copyFrom 179 = .ok (.aload_n 0, 1) := by decide +kernel
theorem dX4_copyFrom_180 : decode cX4_copyFrom 180 = .ok (.aload_n 1, 1) := by decide +kernel
theorem dX4_copyFrom_181 : decode cX4_copyFrom 181 = .ok (.getfield 59, 3) := by decide +kernel
theorem dX4_copyFrom_184 : decode cX4_copyFrom 184 = .ok (.putfield 59, 3) := by decide +kernel
theorem dX4_copyFrom_187 : decode cX4_copyFrom 187 = .ok (.aload_n 1, 1) := by decide +kernel
theorem dX4_copyFrom_188 : decode cX4_copyFrom 188 = .ok (.getfield 40, 3) := by decide +kernel
theorem dX4_copyFrom_191 : decode cX4_copyFrom 191 = .ok (.iconst 0, 1) := by decide +kernel
theorem dX4_copyFrom_192 : decode cX4_copyFrom 192 = .ok (.aload_n 0, 1) := by decide +kernel
theorem dX4_copyFrom_193 : decode cX4_copyFrom 193 = .ok (.getfield 40, 3) := by decide +kernel
theorem dX4_copyFrom_196 : decode cX4_copyFrom 196 = .ok (.iconst 0, 1) := by decide +kernel
theorem dX4_copyFrom_197 : decode cX4_copyFrom 197 = .ok (.bipush 12, 2) := by decide +kernel
theorem dX4_copyFrom_199 : decode cX4_copyFrom 199 = .ok (.invokestatic 62, 3) := by decide +kernel
theorem dX4_copyFrom_202 : decode cX4_copyFrom 202 = .ok (.return_, 1) := by decide +kernel
theorem dX4_addRule_0 : decode cX4_addRule 0 = .ok (.aload_n 0, 1) := by decide +kernel
theorem dX4_addRule_1 : decode cX4_addRule 1 = .ok (.getfield 47, 3) := by decide +kernel
theorem dX4_addRule_4 : decode cX4_addRule 4 = .ok (.bipush 10, 2) := by decide +kernel
theorem dX4_addRule_6 : decode cX4_addRule 6 = .ok (.if_icmp .lt 5, 3) := by decide +kernel
theorem dX4_addRule_9 : decode cX4_addRule 9 = .ok (.iconst 0, 1) := by decide +kernel
theorem dX4_addRule_10 : decode cX4_addRule 10 = .ok (.ireturn, 1) := by decide +kernel
theorem dX4_addRule_11 : decode cX4_addRule 11 = .ok (.aload_n 0, 1) := by decide +kernel
theorem dX4_addRule_12 : decode cX4_addRule 12 = .ok (.getfield 9, 3) := by decide +kernel
theorem dX4_addRule_15 : decode cX4_addRule 15 = .ok (.aload_n 0, 1) := by decide +kernel
theorem dX4_addRule_16 : decode cX4_addRule 16 = .ok (.getfield 47, 3) := by decide +kernel
theorem dX4_addRule_19 : decode cX4_addRule 19 = .ok (.iload_n 1, 1) := by decide +kernel
theorem dX4_addRule_20 : decode cX4_addRule 20 = .ok (.iastore, 1) := by decide +kernel
theorem dX4_addRule_21 : decode cX4_addRule 21 = .ok (.aload_n 0, 1) := by decide +kernel
theorem dX4_addRule_22 : decode cX4_addRule 22 = .ok (.getfield 15, 3) := by decide +kernel
theorem dX4_addRule_25 : decode cX4_addRule 25 = .ok (.aload_n 0, 1) := by decide +kernel
theorem dX4_addRule_26 : decode cX4_addRule 26 = .ok (.getfield 47, 3) := by decide +kernel
theorem dX4_addRule_29 : decode cX4_addRule 29 = .ok (.iload_n 2, 1) := by decide +kernel
theorem dX4_addRule_30 : decode cX4_addRule 30 = .ok (.iastore, 1) := by decide +kernel
theorem dX4_addRule_31 : decode cX4_addRule 31 = .ok (.aload_n 0, 1) := by decide +kernel
theorem dX4_addRule_32 : decode cX4_addRule 32 = .ok (.getfield 18, 3) := by decide +kernel
theorem dX4_addRule_35 : decode cX4_addRule 35 = .ok (.aload_n 0, 1) := by decide +kernel
theorem dX4_addRule_36 : decode cX4_addRule 36 = .ok (.getfield 47, 3) := by decide +kernel
theorem dX4_addRule_39 : decode cX4_addRule 39 = .ok (.iload_n 3, 1) := by decide +kernel
theorem dX4_addRule_40 : decode cX4_addRule 40 = .ok (.iastore, 1) := by decide +kernel
theorem dX4_addRule_41 : decode cX4_addRule 41 = .ok (.aload_n 0, 1) := by decide +kernel
theorem dX4_addRule_42 : decode cX4_addRule 42 = .ok (.getfield 21, 3) := by decide +kernel
theorem dX4_addRule_45 : decode cX4_addRule 45 = .ok (.aload_n 0, 1) := by decide +kernel
theorem dX4_addRule_46 : decode cX4_addRule 46 = .ok (.getfield 47, 3) := by decide +kernel
theorem dX4_addRule_49 : decode cX4_addRule 49 = .ok (.iload 4, 2) := by decide +kernel
theorem dX4_addRule_51 : decode cX4_addRule 51 = .ok (.iastore, 1) := by decide +kernel
theorem dX4_addRule_52 : decode cX4_addRule 52 = .ok (.aload_n 0, 1) := by decide +kernel
theorem dX4_addRule_53 : decode cX4_addRule 53 = .ok (.getfield 24, 3) := by decide +kernel
theorem dX4_addRule_56 : decode cX4_addRule 56 = .ok (.aload_n 0, 1) := by decide +kernel
theorem dX4_addRule_57 : decode cX4_addRule 57 = .ok (.getfield 47, 3) := by decide +kernel
theorem dX4_addRule_60 : decode cX4_addRule 60 = .ok (.iload 5, 2) := by decide +kernel
theorem dX4_addRule_62 : decode cX4_addRule 62 = .ok (.iastore, 1) := by decide +kernel
theorem dX4_addRule_63 : decode cX4_addRule 63 = .ok (.aload_n 0, 1) := by decide +kernel
theorem dX4_addRule_64 : decode cX4_addRule 64 = .ok (.dup, 1) := by decide +kernel
theorem dX4_addRule_65 : decode cX4_addRule 65 = .ok (.getfield 47, 3) := by decide +kernel
theorem dX4_addRule_68 : decode cX4_addRule 68 = .ok (.iconst 1, 1) := by decide +kernel
theorem dX4_addRule_69 : decode cX4_addRule 69 = .ok (.iadd, 1) := by decide +kernel
theorem dX4_addRule_70 : decode cX4_addRule 70 = .ok (.putfield 47, 3) := by decide +kernel
theorem dX4_addRule_73 : decode cX4_addRule 73 = .ok (.iconst 1, 1) := by decide +kernel
theorem dX4_addRule_74 : decode cX4_addRule 74 = .ok (.ireturn, 1) := by decide +kernel
theorem dX4_removeRule_0 : decode cX4_removeRule 0 = .ok (.iload_n 1, 1) := by decide +kernel
theorem dX4_removeRule_1 : decode cX4_removeRule 1 = .ok (.istore_n 2, 1) := by decide +kernel
theorem dX4_removeRule_2 : decode cX4_removeRule 2 = .ok (.iload_n 2, 1) := by decide +kernel
theorem dX4_removeRule_3 : decode cX4_removeRule 3 = .ok (.iconst 1, 1) := by decide +kernel
theorem dX4_removeRule_4 : decode cX4_removeRule 4 = .ok (.iadd, 1) := by decide +kernel
theorem dX4_removeRule_5 : decode cX4_removeRule 5 = .ok (.aload_n 0, 1) := by decide +kernel
theorem dX4_removeRule_6 : decode cX4_removeRule 6 = .ok (.getfield 47, 3) := by decide +kernel
theorem dX4_removeRule_9 : decode cX4_removeRule 9 = .ok (.if_icmp .ge 79, 3) := by decide +kernel
theorem dX4_removeRule_12 : decode cX4_removeRule 12 = .ok (.aload_n 0, 1) := by decide +kernel
theorem dX4_removeRule_13 : decode cX4_removeRule 13 = .ok (.getfield 9, 3) := by decide +kernel
theorem dX4_removeRule_16 : decode cX4_removeRule 16 = .ok (.iload_n 2, 1) := by decide +kernel
theorem dX4_removeRule_17 : decode cX4_removeRule 17 = .ok (.aload_n 0, 1) := by decide +kernel
theorem dX4_removeRule_18 : decode cX4_removeRule 18 = .ok (.getfield 9, 3) := by decide +kernel
theorem dX4_removeRule_21 : decode cX4_removeRule 21 = .ok (.iload_n 2, 1) := by decide +kernel
theorem dX4_removeRule_22 : decode cX4_removeRule 22 = .ok (.iconst 1, 1) := by decide +kernel
theorem dX4_removeRule_23 : decode cX4_removeRule 23 = .ok (.iadd, 1) := by decide +kernel
theorem dX4_removeRule_24 : decode cX4_removeRule 24 = .ok (.iaload, 1) := by decide +kernel
theorem dX4_removeRule_25 : decode cX4_removeRule 25 = .ok (.iastore, 1) := by decide +kernel
theorem dX4_removeRule_26 : decode cX4_removeRule 26 = .ok (.aload_n 0, 1) := by decide +kernel
theorem dX4_removeRule_27 : decode cX4_removeRule 27 = .ok (.getfield 15, 3) := by decide +kernel
theorem dX4_removeRule_30 : decode cX4_removeRule 30 = .ok (.iload_n 2, 1) := by decide +kernel
theorem dX4_removeRule_31 : decode cX4_removeRule 31 = .ok (.aload_n 0, 1) := by decide +kernel
theorem dX4_removeRule_32 : decode cX4_removeRule 32 = .ok (.getfield 15, 3) := by decide +kernel
theorem dX4_removeRule_35 : decode cX4_removeRule 35 = .ok (.iload_n 2, 1) := by decide +kernel
theorem dX4_removeRule_36 : decode cX4_removeRule 36 = .ok (.iconst 1, 1) := by decide +kernel
theorem dX4_removeRule_37 : decode cX4_removeRule 37 = .ok (.iadd, 1) := by decide +kernel
theorem dX4_removeRule_38 : decode cX4_removeRule 38 = .ok (.iaload, 1) := by decide +kernel
theorem dX4_removeRule_39 : decode cX4_removeRule 39 = .ok (.iastore, 1) := by decide +kernel
theorem dX4_removeRule_40 : decode cX4_removeRule 40 = .ok (.aload_n 0, 1) := by decide +kernel
theorem dX4_removeRule_41 : decode cX4_removeRule 41 = .ok (.getfield 18, 3) := by decide +kernel
theorem dX4_removeRule_44 : decode cX4_removeRule 44 = .ok (.iload_n 2, 1) := by decide +kernel
theorem dX4_removeRule_45 : decode cX4_removeRule 45 = .ok (.aload_n 0, 1) := by decide +kernel
theorem dX4_removeRule_46 : decode cX4_removeRule 46 = .ok (.getfield 18, 3) := by decide +kernel
theorem dX4_removeRule_49 : decode cX4_removeRule 49 = .ok (.iload_n 2, 1) := by decide +kernel
theorem dX4_removeRule_50 : decode cX4_removeRule 50 = .ok (.iconst 1, 1) := by decide +kernel
theorem dX4_removeRule_51 : decode cX4_removeRule 51 = .ok (.iadd, 1) := by decide +kernel
theorem dX4_removeRule_52 : decode cX4_removeRule 52 = .ok (.iaload, 1) := by decide +kernel
theorem dX4_removeRule_53 : decode cX4_removeRule 53 = .ok (.iastore, 1) := by decide +kernel
theorem dX4_removeRule_54 : decode cX4_removeRule 54 = .ok (.aload_n 0, 1) := by decide +kernel
theorem dX4_removeRule_55 : decode cX4_removeRule 55 = .ok (.getfield 21, 3) := by decide +kernel
theorem dX4_removeRule_58 : decode cX4_removeRule 58 = .ok (.iload_n 2, 1) := by decide +kernel
theorem dX4_removeRule_59 : decode cX4_removeRule 59 = .ok (.aload_n 0, 1) := by decide +kernel
theorem dX4_removeRule_60 : decode cX4_removeRule 60 = .ok (.getfield 21, 3) := by decide +kernel
theorem dX4_removeRule_63 : decode cX4_removeRule 63 = .ok (.iload_n 2, 1) := by decide +kernel
theorem dX4_removeRule_64 : decode cX4_removeRule 64 = .ok (.iconst 1, 1) := by decide +kernel
theorem dX4_removeRule_65 : decode cX4_removeRule 65 = .ok (.iadd, 1) := by decide +kernel
theorem dX4_removeRule_66 : decode cX4_removeRule 66 = .ok (.iaload, 1) := by decide +kernel
theorem dX4_removeRule_67 : decode cX4_removeRule 67 = .ok (.iastore, 1) := by decide +kernel
theorem dX4_removeRule_68 : decode cX4_removeRule 68 = .ok (.aload_n 0, 1) := by decide +kernel
theorem dX4_removeRule_69 : decode cX4_removeRule 69 = .ok (.getfield 24, 3) := by decide +kernel
theorem dX4_removeRule_72 : decode cX4_removeRule 72 = .ok (.iload_n 2, 1) := by decide +kernel
theorem dX4_removeRule_73 : decode cX4_removeRule 73 = .ok (.aload_n 0, 1) := by decide +kernel
theorem dX4_removeRule_74 : decode cX4_removeRule 74 = .ok (.getfield 24, 3) := by decide +kernel
theorem dX4_removeRule_77 : decode cX4_removeRule 77 = .ok (.iload_n 2, 1) := by decide +kernel
theorem dX4_removeRule_78 : decode cX4_removeRule 78 = .ok (.iconst 1, 1) := by decide +kernel
theorem dX4_removeRule_79 : decode cX4_removeRule 79 = .ok (.iadd, 1) := by decide +kernel
theorem dX4_removeRule_80 : decode cX4_removeRule 80 = .ok (.iaload, 1) := by decide +kernel
theorem dX4_removeRule_81 : decode cX4_removeRule 81 = .ok (.iastore, 1) := by decide +kernel
theorem dX4_removeRule_82 : decode cX4_removeRule 82 = .ok (.iinc 2 1, 3) := by decide +kernel
theorem dX4_removeRule_85 : decode cX4_removeRule 85 = .ok (.goto (-83), 3) := by decide +kernel
theorem dX4_removeRule_88 : decode cX4_removeRule 88 = .ok (.aload_n 0, 1) := by decide +kernel
theorem dX4_removeRule_89 : decode cX4_removeRule 89 = .ok (.dup, 1) := by decide +kernel
theorem dX4_removeRule_90 : decode cX4_removeRule 90 = .ok (.getfield 47, 3) := by decide +kernel
theorem dX4_removeRule_93 : decode cX4_removeRule 93 = .ok (.iconst 1, 1) := by decide +kernel
theorem dX4_removeRule_94 : decode cX4_removeRule 94 = .ok (.isub, 1) := by decide +kernel
theorem dX4_removeRule_95 : decode cX4_removeRule 95 = .ok (.putfield 47, 3) := by decide +kernel
theorem dX4_removeRule_98 : decode cX4_removeRule 98 = .ok (.return_, 1) := by decide +kernel
theorem dX4_addTarget_0 : decode cX4_addTarget 0 = .ok (.aload_n 0, 1) := by decide +kernel
theorem dX4_addTarget_1 : decode cX4_addTarget 1 = .ok (.getfield 50, 3) := by decide +kernel
theorem dX4_addTarget_4 : decode cX4_addTarget 4 = .ok (.iconst 4, 1) := by decide +kernel
theorem dX4_addTarget_5 : decode cX4_addTarget 5 = .ok (.if_icmp .ge 8, 3) := by decide +kernel
theorem dX4_addTarget_8 : decode cX4_addTarget 8 = .ok (.iload_n 3, 1) := by decide +kernel
theorem dX4_addTarget_9 : decode cX4_addTarget 9 = .ok (.iconst 3, 1) := by decide +kernel
theorem dX4_addTarget_10 : decode cX4_addTarget 10 = .ok (.if_icmp .le 5, 3) := by decide +kernel
theorem dX4_addTarget_13 : decode cX4_addTarget 13 = .ok (.iconst 0, 1) := by decide +kernel
theorem dX4_addTarget_14 : decode cX4_addTarget 14 = .ok (.ireturn, 1) := by decide +kernel
theorem dX4_addTarget_15 : decode cX4_addTarget 15 = .ok (.aload_n 0, 1) := by decide +kernel
theorem dX4_addTarget_16 : decode cX4_addTarget 16 = .ok (.getfield 27, 3) := by decide +kernel
theorem dX4_addTarget_19 : decode cX4_addTarget 19 = .ok (.aload_n 0, 1) := by decide +kernel
theorem dX4_addTarget_20 : decode cX4_addTarget 20 = .ok (.getfield 50, 3) := by decide +kernel
theorem dX4_addTarget_23 : decode cX4_addTarget 23 = .ok (.iload_n 1, 1) := by decide +kernel
theorem dX4_addTarget_24 : decode cX4_addTarget 24 = .ok (.iastore, 1) := by decide +kernel
theorem dX4_addTarget_25 : decode cX4_addTarget 25 = .ok (.aload_n 0, 1) := by decide +kernel
theorem dX4_addTarget_26 : decode cX4_addTarget 26 = .ok (.getfield 30, 3) := by decide +kernel
theorem dX4_addTarget_29 : decode cX4_addTarget 29 = .ok (.aload_n 0, 1) := by decide +kernel
theorem dX4_addTarget_30 : decode cX4_addTarget 30 = .ok (.getfield 50, 3) := by decide +kernel
theorem dX4_addTarget_33 : decode cX4_addTarget 33 = .ok (.iload_n 3, 1) := by decide +kernel
theorem dX4_addTarget_34 : decode cX4_addTarget 34 = .ok (.iastore, 1) := by decide +kernel
theorem dX4_addTarget_35 : decode cX4_addTarget 35 = .ok (.aload_n 0, 1) := by decide +kernel
theorem dX4_addTarget_36 : decode cX4_addTarget 36 = .ok (.getfield 33, 3) := by decide +kernel
theorem dX4_addTarget_39 : decode cX4_addTarget 39 = .ok (.aload_n 0, 1) := by decide +kernel
theorem dX4_addTarget_40 : decode cX4_addTarget 40 = .ok (.getfield 50, 3) := by decide +kernel
theorem dX4_addTarget_43 : decode cX4_addTarget 43 = .ok (.iload 4, 2) := by decide +kernel
theorem dX4_addTarget_45 : decode cX4_addTarget 45 = .ok (.bastore, 1) := by decide +kernel
theorem dX4_addTarget_46 : decode cX4_addTarget 46 = .ok (.iconst 0, 1) := by decide +kernel
theorem dX4_addTarget_47 : decode cX4_addTarget 47 = .ok (.istore 5, 2) := by decide +kernel
theorem dX4_addTarget_49 : decode cX4_addTarget 49 = .ok (.iload 5, 2) := by decide +kernel
theorem dX4_addTarget_51 : decode cX4_addTarget 51 = .ok (.iload_n 3, 1) := by decide +kernel
theorem dX4_addTarget_52 : decode cX4_addTarget 52 = .ok (.if_icmp .ge 27, 3) := by decide +kernel
theorem dX4_addTarget_55 : decode cX4_addTarget 55 = .ok (.aload_n 0, 1) := by decide +kernel
theorem dX4_addTarget_56 : decode cX4_addTarget 56 = .ok (.getfield 37, 3) := by decide +kernel
theorem dX4_addTarget_59 : decode cX4_addTarget 59 = .ok (.aload_n 0, 1) := by decide +kernel
theorem dX4_addTarget_60 : decode cX4_addTarget 60 = .ok (.getfield 50, 3) := by decide +kernel
theorem dX4_addTarget_63 : decode cX4_addTarget 63 = .ok (.iconst 3, 1) := by decide +kernel
theorem dX4_addTarget_64 : decode cX4_addTarget 64 = .ok (.imul, 1) := by decide +kernel
theorem dX4_addTarget_65 : decode cX4_addTarget 65 = .ok (.iload 5, 2) := by decide +kernel
theorem dX4_addTarget_67 : decode cX4_addTarget 67 = .ok (.iadd, 1) := by decide +kernel
theorem dX4_addTarget_68 : decode cX4_addTarget 68 = .ok (.aload_n 2, 1) := by decide +kernel
theorem dX4_addTarget_69 : decode cX4_addTarget 69 = .ok (.iload 5, 2) := by decide +kernel
theorem dX4_addTarget_71 : decode cX4_addTarget 71 = .ok (.iaload, 1) := by decide +kernel
theorem dX4_addTarget_72 : decode cX4_addTarget 72 = .ok (.iastore, 1) := by decide +kernel
theorem dX4_addTarget_73 : decode cX4_addTarget 73 = .ok (.iinc 5 1, 3) := by decide +kernel
theorem dX4_addTarget_76 : decode cX4_addTarget 76 = .ok (.goto (-27), 3) := by decide +kernel
theorem dX4_addTarget_79 : decode cX4_addTarget 79 = .ok (.aload_n 0, 1) := by decide +kernel
theorem dX4_addTarget_80 : decode cX4_addTarget 80 = .ok (.dup, 1) := by decide +kernel
theorem dX4_addTarget_81 : decode cX4_addTarget 81 = .ok (.getfield 50, 3) := by decide +kernel
theorem dX4_addTarget_84 : decode cX4_addTarget 84 = .ok (.iconst 1, 1) := by decide +kernel
theorem dX4_addTarget_85 : decode cX4_addTarget 85 = .ok (.iadd, 1) := by decide +kernel
theorem dX4_addTarget_86 : decode cX4_addTarget 86 = .ok (.putfield 50, 3) := by decide +kernel
theorem dX4_addTarget_89 : decode cX4_addTarget 89 = .ok (.iconst 1, 1) := by decide +kernel
theorem dX4_addTarget_90 : decode cX4_addTarget 90 = .ok (.ireturn, 1) := by decide +kernel
theorem dX4_putLetter_0 : decode cX4_putLetter 0 = .ok (.aload_n 0, 1) := by decide +kernel
theorem dX4_putLetter_1 : decode cX4_putLetter 1 = .ok (.getfield 59, 3) := by decide +kernel
theorem dX4_putLetter_4 : decode cX4_putLetter 4 = .ok (.bipush 12, 2) := by decide +kernel
theorem dX4_putLetter_6 : decode cX4_putLetter 6 = .ok (.if_icmp .ge 23, 3) := by decide +kernel
theorem dX4_putLetter_9 : decode cX4_putLetter 9 = .ok (.aload_n 0, 1) := by decide +kernel
theorem dX4_putLetter_10 : decode cX4_putLetter 10 = .ok (.getfield 40, 3) := by decide +kernel
theorem dX4_putLetter_13 : decode cX4_putLetter 13 = .ok (.aload_n 0, 1) := by decide +kernel
theorem dX4_putLetter_14 : decode cX4_putLetter 14 = .ok (.getfield 59, 3) := by decide +kernel
theorem dX4_putLetter_17 : decode cX4_putLetter 17 = .ok (.iload_n 1, 1) := by decide +kernel
theorem dX4_putLetter_18 : decode cX4_putLetter 18 = .ok (.iastore, 1) := by decide +kernel
theorem dX4_putLetter_19 : decode cX4_putLetter 19 = .ok (.aload_n 0, 1) := by decide +kernel
theorem dX4_putLetter_20 : decode cX4_putLetter 20 = .ok (.dup, 1) := by decide +kernel
theorem dX4_putLetter_21 : decode cX4_putLetter 21 = .ok (.getfield 59, 3) := by decide +kernel
theorem dX4_putLetter_24 : decode cX4_putLetter 24 = .ok (.iconst 1, 1) := by decide +kernel
theorem dX4_putLetter_25 : decode cX4_putLetter 25 = .ok (.iadd, 1) := by decide +kernel
theorem dX4_putLetter_26 : decode cX4_putLetter 26 = .ok (.putfield 59, 3) := by decide +kernel
theorem dX4_putLetter_29 : decode cX4_putLetter 29 = .ok (.return_, 1) := by decide +kernel
theorem dX4_takeLetter_0 : decode cX4_takeLetter 0 = .ok (.aload_n 0, 1) := by decide +kernel
theorem dX4_takeLetter_1 : decode cX4_takeLetter 1 = .ok (.getfield 59, 3) := by decide +kernel
theorem dX4_takeLetter_4 : decode cX4_takeLetter 4 = .ok (.ifCond .ne 6, 3) := by decide +kernel
theorem dX4_takeLetter_7 : decode cX4_takeLetter 7 = .ok (.bipush (-4), 2) := by decide +kernel
theorem dX4_takeLetter_9 : decode cX4_takeLetter 9 = .ok (.ireturn, 1) := by decide +kernel
theorem dX4_takeLetter_10 : decode cX4_takeLetter 10 = .ok (.aload_n 0, 1) := by decide +kernel
theorem dX4_takeLetter_11 : decode cX4_takeLetter 11 = .ok (.dup, 1) := by decide +kernel
theorem dX4_takeLetter_12 : decode cX4_takeLetter 12 = .ok (.getfield 59, 3) := by decide +kernel
theorem dX4_takeLetter_15 : decode cX4_takeLetter 15 = .ok (.iconst 1, 1) := by decide +kernel
theorem dX4_takeLetter_16 : decode cX4_takeLetter 16 = .ok (.isub, 1) := by decide +kernel
theorem dX4_takeLetter_17 : decode cX4_takeLetter 17 = .ok (.putfield 59, 3) := by decide +kernel
theorem dX4_takeLetter_20 : decode cX4_takeLetter 20 = .ok (.aload_n 0, 1) := by decide +kernel
theorem dX4_takeLetter_21 : decode cX4_takeLetter 21 = .ok (.getfield 40, 3) := by decide +kernel
theorem dX4_takeLetter_24 : decode cX4_takeLetter 24 = .ok (.aload_n 0, 1) := by decide +kernel
theorem dX4_takeLetter_25 : decode cX4_takeLetter 25 = .ok (.getfield 59, 3) := by decide +kernel
theorem dX4_takeLetter_28 : decode cX4_takeLetter 28 = .ok (.iaload, 1) := by decide +kernel
theorem dX4_takeLetter_29 : decode cX4_takeLetter 29 = .ok (.ireturn, 1) := by decide +kernel
theorem dX4_rulesFor_0 : decode cX4_rulesFor 0 = .ok (.iconst 0, 1) := by decide +kernel
theorem dX4_rulesFor_1 : decode cX4_rulesFor 1 = .ok (.istore_n 3, 1) := by decide +kernel
theorem dX4_rulesFor_2 : decode cX4_rulesFor 2 = .ok (.iconst 0, 1) := by decide +kernel
theorem dX4_rulesFor_3 : decode cX4_rulesFor 3 = .ok (.istore 4, 2) := by decide +kernel
theorem dX4_rulesFor_5 : decode cX4_rulesFor 5 = .ok (.iload 4, 2) := by decide +kernel
theorem dX4_rulesFor_7 : decode cX4_rulesFor 7 = .ok (.aload_n 0, 1) := by decide +kernel
theorem dX4_rulesFor_8 : decode cX4_rulesFor 8 = .ok (.getfield 47, 3) := by decide +kernel
theorem dX4_rulesFor_11 : decode cX4_rulesFor 11 = .ok (.if_icmp .ge 34, 3) := by decide +kernel
theorem dX4_rulesFor_14 : decode cX4_rulesFor 14 = .ok (.aload_n 0, 1) := by decide +kernel
theorem dX4_rulesFor_15 : decode cX4_rulesFor 15 = .ok (.getfield 9, 3) := by decide +kernel
theorem dX4_rulesFor_18 : decode cX4_rulesFor 18 = .ok (.iload 4, 2) := by decide +kernel
theorem dX4_rulesFor_20 : decode cX4_rulesFor 20 = .ok (.iaload, 1) := by decide +kernel
theorem dX4_rulesFor_21 : decode cX4_rulesFor 21 = .ok (.iload_n 1, 1) := by decide +kernel
theorem dX4_rulesFor_22 : decode cX4_rulesFor 22 = .ok (.if_icmp .ne 17, 3) := by decide +kernel
theorem dX4_rulesFor_25 : decode cX4_rulesFor 25 = .ok (.aload_n 0, 1) := by decide +kernel
theorem dX4_rulesFor_26 : decode cX4_rulesFor 26 = .ok (.getfield 15, 3) := by decide +kernel
theorem dX4_rulesFor_29 : decode cX4_rulesFor 29 = .ok (.iload 4, 2) := by decide +kernel
theorem dX4_rulesFor_31 : decode cX4_rulesFor 31 = .ok (.iaload, 1) := by decide +kernel
theorem dX4_rulesFor_32 : decode cX4_rulesFor 32 = .ok (.iload_n 2, 1) := by decide +kernel
theorem dX4_rulesFor_33 : decode cX4_rulesFor 33 = .ok (.if_icmp .ne 6, 3) := by decide +kernel
theorem dX4_rulesFor_36 : decode cX4_rulesFor 36 = .ok (.iinc 3 1, 3) := by decide +kernel
theorem dX4_rulesFor_39 : decode cX4_rulesFor 39 = .ok (.iinc 4 1, 3) := by decide +kernel
theorem dX4_rulesFor_42 : decode cX4_rulesFor 42 = .ok (.goto (-37), 3) := by decide +kernel
theorem dX4_rulesFor_45 : decode cX4_rulesFor 45 = .ok (.iload_n 3, 1) := by decide +kernel
theorem dX4_rulesFor_46 : decode cX4_rulesFor 46 = .ok (.ireturn, 1) := by decide +kernel
theorem dX4_applies_0 : decode cX4_applies 0 = .ok (.aload_n 0, 1) := by decide +kernel
theorem dX4_applies_1 : decode cX4_applies 1 = .ok (.getfield 59, 3) := by decide +kernel
theorem dX4_applies_4 : decode cX4_applies 4 = .ok (.ifCond .le 40, 3) := by decide +kernel
theorem dX4_applies_7 : decode cX4_applies 7 = .ok (.aload_n 0, 1) := by decide +kernel
theorem dX4_applies_8 : decode cX4_applies 8 = .ok (.getfield 9, 3) := by decide +kernel
theorem dX4_applies_11 : decode cX4_applies 11 = .ok (.iload_n 1, 1) := by decide +kernel
theorem dX4_applies_12 : decode cX4_applies 12 = .ok (.iaload, 1) := by decide +kernel
theorem dX4_applies_13 : decode cX4_applies 13 = .ok (.aload_n 0, 1) := by decide +kernel
theorem dX4_applies_14 : decode cX4_applies 14 = .ok (.getfield 56, 3) := by decide +kernel
theorem dX4_applies_17 : decode cX4_applies 17 = .ok (.if_icmp .ne 27, 3) := by decide +kernel
theorem dX4_applies_20 : decode cX4_applies 20 = .ok (.aload_n 0, 1) := by decide +kernel
theorem dX4_applies_21 : decode cX4_applies 21 = .ok (.getfield 15, 3) := by decide +kernel
theorem dX4_applies_24 : decode cX4_applies 24 = .ok (.iload_n 1, 1) := by decide +kernel
theorem dX4_applies_25 : decode cX4_applies 25 = .ok (.iaload, 1) := by decide +kernel
theorem dX4_applies_26 : decode cX4_applies 26 = .ok (.aload_n 0, 1) := by decide +kernel
theorem dX4_applies_27 : decode cX4_applies 27 = .ok (.getfield 40, 3) := by decide +kernel
theorem dX4_applies_30 : decode cX4_applies 30 = .ok (.aload_n 0, 1) := by decide +kernel
theorem dX4_applies_31 : decode cX4_applies 31 = .ok (.getfield 59, 3) := by decide +kernel
theorem dX4_applies_34 : decode cX4_applies 34 = .ok (.iconst 1, 1) := by decide +kernel
theorem dX4_applies_35 : decode cX4_applies 35 = .ok (.isub, 1) := by decide +kernel
theorem dX4_applies_36 : decode cX4_applies 36 = .ok (.iaload, 1) := by decide +kernel
theorem dX4_applies_37 : decode cX4_applies 37 = .ok (.if_icmp .ne 7, 3) := by decide +kernel
theorem dX4_applies_40 : decode cX4_applies 40 = .ok (.iconst 1, 1) := by decide +kernel
theorem dX4_applies_41 : decode cX4_applies 41 = .ok (.goto 4, 3) := by decide +kernel
theorem dX4_applies_44 : decode cX4_applies 44 = .ok (.iconst 0, 1) := by decide +kernel
theorem dX4_applies_45 : decode cX4_applies 45 = .ok (.ireturn, 1) := by decide +kernel
theorem dX4_heightAfter_0 : decode cX4_heightAfter 0 = .ok (.aload_n 0, 1) := by decide +kernel
theorem dX4_heightAfter_1 : decode cX4_heightAfter 1 = .ok (.getfield 59, 3) := by decide +kernel
theorem dX4_heightAfter_4 : decode cX4_heightAfter 4 = .ok (.iconst 1, 1) := by decide +kernel
theorem dX4_heightAfter_5 : decode cX4_heightAfter 5 = .ok (.isub, 1) := by decide +kernel
theorem dX4_heightAfter_6 : decode cX4_heightAfter 6 = .ok (.aload_n 0, 1) := by decide +kernel
theorem dX4_heightAfter_7 : decode cX4_heightAfter 7 = .ok (.getfield 21, 3) := by decide +kernel
theorem dX4_heightAfter_10 : decode cX4_heightAfter 10 = .ok (.iload_n 1, 1) := by decide +kernel
theorem dX4_heightAfter_11 : decode cX4_heightAfter 11 = .ok (.iaload, 1) := by decide +kernel
theorem dX4_heightAfter_12 : decode cX4_heightAfter 12 = .ok (.invokestatic 68, 3) := by decide +kernel
theorem dX4_heightAfter_15 : decode cX4_heightAfter 15 = .ok (.iadd, 1) := by decide +kernel
theorem dX4_heightAfter_16 : decode cX4_heightAfter 16 = .ok (.ireturn, 1) := by decide +kernel
theorem dX4_apply_0 : decode cX4_apply 0 = .ok (.aload_n 0, 1) := by decide +kernel
theorem dX4_apply_1 : decode cX4_apply 1 = .ok (.invokevirtual 72, 3) := by decide +kernel
theorem dX4_apply_4 : decode cX4_apply 4 = .ok (.pop, 1) := by decide +kernel
theorem dX4_apply_5 : decode cX4_apply 5 = .ok (.aload_n 0, 1) := by decide +kernel
theorem dX4_apply_6 : decode cX4_apply 6 = .ok (.getfield 21, 3) := by decide +kernel
theorem dX4_apply_9 : decode cX4_apply 9 = .ok (.iload_n 1, 1) := by decide +kernel
theorem dX4_apply_10 : decode cX4_apply 10 = .ok (.iaload, 1) := by decide +kernel
theorem dX4_apply_11 : decode cX4_apply 11 = .ok (.istore_n 2, 1) := by decide +kernel
theorem dX4_apply_12 : decode cX4_apply 12 = .ok (.iload_n 2, 1) := by decide +kernel
theorem dX4_apply_13 : decode cX4_apply 13 = .ok (.invokestatic 68, 3) := by decide +kernel
theorem dX4_apply_16 : decode cX4_apply 16 = .ok (.iconst 2, 1) := by decide +kernel
theorem dX4_apply_17 : decode cX4_apply 17 = .ok (.if_icmp .ne 11, 3) := by decide +kernel
theorem dX4_apply_20 : decode cX4_apply 20 = .ok (.aload_n 0, 1) := by decide +kernel
theorem dX4_apply_21 : decode cX4_apply 21 = .ok (.iload_n 2, 1) := by decide +kernel
theorem dX4_apply_22 : decode cX4_apply 22 = .ok (.invokestatic 76, 3) := by decide +kernel
theorem dX4_apply_25 : decode cX4_apply 25 = .ok (.invokevirtual 79, 3) := by decide +kernel
theorem dX4_apply_28 : decode cX4_apply 28 = .ok (.iload_n 2, 1) := by decide +kernel
theorem dX4_apply_29 : decode cX4_apply 29 = .ok (.invokestatic 68, 3) := by decide +kernel
theorem dX4_apply_32 : decode cX4_apply 32 = .ok (.ifCond .le 11, 3) := by decide +kernel
theorem dX4_apply_35 : decode cX4_apply 35 = .ok (.aload_n 0, 1) := by decide +kernel
theorem dX4_apply_36 : decode cX4_apply 36 = .ok (.iload_n 2, 1) := by decide +kernel
theorem dX4_apply_37 : decode cX4_apply 37 = .ok (.invokestatic 83, 3) := by decide +kernel
theorem dX4_apply_40 : decode cX4_apply 40 = .ok (.invokevirtual 79, 3) := by decide +kernel
theorem dX4_apply_43 : decode cX4_apply 43 = .ok (.aload_n 0, 1) := by decide +kernel
theorem dX4_apply_44 : decode cX4_apply 44 = .ok (.aload_n 0, 1) := by decide +kernel
theorem dX4_apply_45 : decode cX4_apply 45 = .ok (.getfield 18, 3) := by decide +kernel
theorem dX4_apply_48 : decode cX4_apply 48 = .ok (.iload_n 1, 1) := by decide +kernel
theorem dX4_apply_49 : decode cX4_apply 49 = .ok (.iaload, 1) := by decide +kernel
theorem dX4_apply_50 : decode cX4_apply 50 = .ok (.putfield 56, 3) := by decide +kernel
theorem dX4_apply_53 : decode cX4_apply 53 = .ok (.return_, 1) := by decide +kernel
theorem dX4_choose_0 : decode cX4_choose 0 = .ok (.aload_n 0, 1) := by decide +kernel
theorem dX4_choose_1 : decode cX4_choose 1 = .ok (.getfield 59, 3) := by decide +kernel
theorem dX4_choose_4 : decode cX4_choose 4 = .ok (.ifCond .le 25, 3) := by decide +kernel
theorem dX4_choose_7 : decode cX4_choose 7 = .ok (.aload_n 0, 1) := by decide +kernel
theorem dX4_choose_8 : decode cX4_choose 8 = .ok (.aload_n 0, 1) := by decide +kernel
theorem dX4_choose_9 : decode cX4_choose 9 = .ok (.getfield 56, 3) := by decide +kernel
theorem dX4_choose_12 : decode cX4_choose 12 = .ok (.aload_n 0, 1) := by decide +kernel
theorem dX4_choose_13 : decode cX4_choose 13 = .ok (.getfield 40, 3) := by decide +kernel
theorem dX4_choose_16 : decode cX4_choose 16 = .ok (.aload_n 0, 1) := by decide +kernel
theorem dX4_choose_17 : decode cX4_choose 17 = .ok (.getfield 59, 3) := by decide +kernel
theorem dX4_choose_20 : decode cX4_choose 20 = .ok (.iconst 1, 1) := by decide +kernel
theorem dX4_choose_21 : decode cX4_choose 21 = .ok (.isub, 1) := by decide +kernel
theorem dX4_choose_22 : decode cX4_choose 22 = .ok (.iaload, 1) := by decide +kernel
theorem dX4_choose_23 : decode cX4_choose 23 = .ok (.invokevirtual 86, 3) := by decide +kernel
theorem dX4_choose_26 : decode cX4_choose 26 = .ok (.goto 4, 3) := by decide +kernel
theorem dX4_choose_29 : decode cX4_choose 29 = .ok (.iconst 0, 1) := by decide +kernel
theorem dX4_choose_30 : decode cX4_choose 30 = .ok (.istore_n 2, 1) := by decide +kernel
theorem dX4_choose_31 : decode cX4_choose 31 = .ok (.iload_n 2, 1) := by decide +kernel
theorem dX4_choose_32 : decode cX4_choose 32 = .ok (.ifCond .ne 5, 3) := by decide +kernel
theorem dX4_choose_35 : decode cX4_choose 35 = .ok (.iconst (-1), 1) := by decide +kernel
theorem dX4_choose_36 : decode cX4_choose 36 = .ok (.ireturn, 1) := by decide +kernel
theorem dX4_choose_37 : decode cX4_choose 37 = .ok (.iload_n 1, 1) := by decide +kernel
theorem dX4_choose_38 : decode cX4_choose 38 = .ok (.iload_n 2, 1) := by decide +kernel
theorem dX4_choose_39 : decode cX4_choose 39 = .ok (.irem, 1) := by decide +kernel
theorem dX4_choose_40 : decode cX4_choose 40 = .ok (.istore_n 3, 1) := by decide +kernel
theorem dX4_choose_41 : decode cX4_choose 41 = .ok (.iconst 0, 1) := by decide +kernel
theorem dX4_choose_42 : decode cX4_choose 42 = .ok (.istore 4, 2) := by decide +kernel
theorem dX4_choose_44 : decode cX4_choose 44 = .ok (.iload 4, 2) := by decide +kernel
theorem dX4_choose_46 : decode cX4_choose 46 = .ok (.aload_n 0, 1) := by decide +kernel
theorem dX4_choose_47 : decode cX4_choose 47 = .ok (.getfield 47, 3) := by decide +kernel
theorem dX4_choose_50 : decode cX4_choose 50 = .ok (.if_icmp .ge 28, 3) := by decide +kernel
theorem dX4_choose_53 : decode cX4_choose 53 = .ok (.aload_n 0, 1) := by decide +kernel
theorem dX4_choose_54 : decode cX4_choose 54 = .ok (.iload 4, 2) := by decide +kernel
theorem dX4_choose_56 : decode cX4_choose 56 = .ok (.invokevirtual 90, 3) := by decide +kernel
theorem dX4_choose_59 : decode cX4_choose 59 = .ok (.ifCond .eq 13, 3) := by decide +kernel
theorem dX4_choose_62 : decode cX4_choose 62 = .ok (.iload_n 3, 1) := by decide +kernel
theorem dX4_choose_63 : decode cX4_choose 63 = .ok (.ifCond .ne 6, 3) := by decide +kernel
theorem dX4_choose_66 : decode cX4_choose 66 = .ok (.iload 4, 2) := by decide +kernel
theorem dX4_choose_68 : decode cX4_choose 68 = .ok (.ireturn, 1) := by decide +kernel
theorem dX4_choose_69 : decode cX4_choose 69 = .ok (.iinc 3 (-1), 3) := by decide +kernel
theorem dX4_choose_72 : decode cX4_choose 72 = .ok (.iinc 4 1, 3) := by decide +kernel
theorem dX4_choose_75 : decode cX4_choose 75 = .ok (.goto (-31), 3) := by decide +kernel
theorem dX4_choose_78 : decode cX4_choose 78 = .ok (.iconst (-1), 1) := by decide +kernel
theorem dX4_choose_79 : decode cX4_choose 79 = .ok (.ireturn, 1) := by decide +kernel
theorem dX5_init_0 : decode cX5_init 0 = .ok (.aload_n 0, 1) := by decide +kernel
theorem dX5_init_1 : decode cX5_init 1 = .ok (.invokespecial 3, 3) := by decide +kernel
theorem dX5_init_4 : decode cX5_init 4 = .ok (.aload_n 0, 1) := by decide +kernel
theorem dX5_init_5 : decode cX5_init 5 = .ok (.new 9, 3) := by decide +kernel
theorem dX5_init_8 : decode cX5_init 8 = .ok (.dup, 1) := by decide +kernel
theorem dX5_init_9 : decode cX5_init 9 = .ok (.invokespecial 11, 3) := by decide +kernel
theorem dX5_init_12 : decode cX5_init 12 = .ok (.putfield 12, 3) := by decide +kernel
theorem dX5_init_15 : decode cX5_init 15 = .ok (.aload_n 0, 1) := by decide +kernel
theorem dX5_init_16 : decode cX5_init 16 = .ok (.new 16, 3) := by decide +kernel
theorem dX5_init_19 : decode cX5_init 19 = .ok (.dup, 1) := by decide +kernel
theorem dX5_init_20 : decode cX5_init 20 = .ok (.invokespecial 18, 3) := by decide +kernel
theorem dX5_init_23 : decode cX5_init 23 = .ok (.putfield 19, 3) := by decide +kernel
theorem dX5_init_26 : decode cX5_init 26 = .ok (.aload_n 0, 1) := by decide +kernel
theorem dX5_init_27 : decode cX5_init 27 = .ok (.new 16, 3) := by decide +kernel
theorem dX5_init_30 : decode cX5_init 30 = .ok (.dup, 1) := by decide +kernel
theorem dX5_init_31 : decode cX5_init 31 = .ok (.invokespecial 18, 3) := by decide +kernel
theorem dX5_init_34 : decode cX5_init 34 = .ok (.putfield 23, 3) := by decide +kernel
theorem dX5_init_37 : decode cX5_init 37 = .ok (.aload_n 0, 1) := by decide +kernel
theorem dX5_init_38 : decode cX5_init 38 = .ok (.bipush 8, 2) := by decide +kernel
theorem dX5_init_40 : decode cX5_init 40 = .ok (.anewarray 16, 3) := by decide +kernel
theorem dX5_init_43 : decode cX5_init 43 = .ok (.putfield 26, 3) := by decide +kernel
theorem dX5_init_46 : decode cX5_init 46 = .ok (.aload_n 0, 1) := by decide +kernel
theorem dX5_init_47 : decode cX5_init 47 = .ok (.iconst 2, 1) := by decide +kernel
theorem dX5_init_48 : decode cX5_init 48 = .ok (.anewarray 16, 3) := by decide +kernel
theorem dX5_init_51 : decode cX5_init 51 = .ok (.putfield 30, 3) := by decide +kernel
theorem dX5_init_54 : decode cX5_init 54 = .ok (.aload_n 0, 1) := by decide +kernel
theorem dX5_init_55 : decode cX5_init 55 = .ok (.new 33, 3) := by decide +kernel
theorem dX5_init_58 : decode cX5_init 58 = .ok (.dup, 1) := by decide +kernel
theorem dX5_init_59 : decode cX5_init 59 = .ok (.invokespecial 35, 3) := by decide +kernel
theorem dX5_init_62 : decode cX5_init 62 = .ok (.putfield 36, 3) := by decide +kernel
theorem dX5_init_65 : decode cX5_init 65 = .ok (.aload_n 0, 1) := by decide +kernel
theorem dX5_init_66 : decode cX5_init 66 = .ok (.new 33, 3) := by decide +kernel
theorem dX5_init_69 : decode cX5_init 69 = .ok (.dup, 1) := by decide +kernel
theorem dX5_init_70 : decode cX5_init 70 = .ok (.invokespecial 35, 3) := by decide +kernel
theorem dX5_init_73 : decode cX5_init 73 = .ok (.putfield 40, 3) := by decide +kernel
theorem dX5_init_76 : decode cX5_init 76 = .ok (.aload_n 0, 1) := by decide +kernel
theorem dX5_init_77 : decode cX5_init 77 = .ok (.new 33, 3) := by decide +kernel
theorem dX5_init_80 : decode cX5_init 80 = .ok (.dup, 1) := by decide +kernel
theorem dX5_init_81 : decode cX5_init 81 = .ok (.invokespecial 35, 3) := by decide +kernel
theorem dX5_init_84 : decode cX5_init 84 = .ok (.putfield 43, 3) := by decide +kernel
theorem dX5_init_87 : decode cX5_init 87 = .ok (.aload_n 0, 1) := by decide +kernel
theorem dX5_init_88 : decode cX5_init 88 = .ok (.new 46, 3) := by decide +kernel
theorem dX5_init_91 : decode cX5_init 91 = .ok (.dup, 1) := by decide +kernel
theorem dX5_init_92 : decode cX5_init 92 = .ok (.invokespecial 48, 3) := by decide +kernel
theorem dX5_init_95 : decode cX5_init 95 = .ok (.putfield 49, 3) := by decide +kernel
theorem dX5_init_98 : decode cX5_init 98 = .ok (.aload_n 0, 1) := by decide +kernel
theorem dX5_init_99 : decode cX5_init 99 = .ok (.new 53, 3) := by decide +kernel
theorem dX5_init_102 : decode cX5_init 102 = .ok (.dup, 1) := by decide +kernel
theorem dX5_init_103 : decode cX5_init 103 = .ok (.invokespecial 55, 3) := by decide +kernel
theorem dX5_init_106 : decode cX5_init 106 = .ok (.putfield 56, 3) := by decide +kernel
theorem dX5_init_109 : decode cX5_init 109 = .ok (.iconst 0, 1) := by decide +kernel
theorem dX5_init_110 : decode cX5_init 110 = .ok (.istore_n 1, 1) := by decide +kernel
theorem dX5_init_111 : decode cX5_init 111 = .ok (.iload_n 1, 1) := by decide +kernel
theorem dX5_init_112 : decode cX5_init 112 = .ok (.bipush 8, 2) := by decide +kernel
theorem dX5_init_114 : decode cX5_init 114 = .ok (.if_icmp .ge 22, 3) := by decide +kernel
theorem dX5_init_117 : decode cX5_init 117 = .ok (.aload_n 0, 1) := by decide +kernel
theorem dX5_init_118 : decode cX5_init 118 = .ok (.getfield 26, 3) := by decide +kernel
theorem dX5_init_121 : decode cX5_init 121 = .ok (.iload_n 1, 1) := by decide +kernel
theorem dX5_init_122 : decode cX5_init 122 = .ok (.new 16, 3) := by decide +kernel
theorem dX5_init_125 : decode cX5_init 125 = .ok (.dup, 1) := by decide +kernel
theorem dX5_init_126 : decode cX5_init 126 = .ok (.invokespecial 18, 3) := by decide +kernel
theorem dX5_init_129 : decode cX5_init 129 = .ok (.aastore, 1) := by decide +kernel
theorem dX5_init_130 : decode cX5_init 130 = .ok (.iinc 1 1, 3) := by decide +kernel
theorem dX5_init_133 : decode cX5_init 133 = .ok (.goto (-22), 3) := by decide +kernel
theorem dX5_init_136 : decode cX5_init 136 = .ok (.iconst 0, 1) := by decide +kernel
theorem dX5_init_137 : decode cX5_init 137 = .ok (.istore_n 1, 1) := by decide +kernel
theorem dX5_init_138 : decode cX5_init 138 = .ok (.iload_n 1, 1) := by decide +kernel
theorem dX5_init_139 : decode cX5_init 139 = .ok (.iconst 2, 1) := by decide +kernel
theorem dX5_init_140 : decode cX5_init 140 = .ok (.if_icmp .ge 22, 3) := by decide +kernel
theorem dX5_init_143 : decode cX5_init 143 = .ok (.aload_n 0, 1) := by decide +kernel
theorem dX5_init_144 : decode cX5_init 144 = .ok (.getfield 30, 3) := by decide +kernel
theorem dX5_init_147 : decode cX5_init 147 = .ok (.iload_n 1, 1) := by decide +kernel
theorem dX5_init_148 : decode cX5_init 148 = .ok (.new 16, 3) := by decide +kernel
theorem dX5_init_151 : decode cX5_init 151 = .ok (.dup, 1) := by decide +kernel
theorem dX5_init_152 : decode cX5_init 152 = .ok (.invokespecial 18, 3) := by decide +kernel
theorem dX5_init_155 : decode cX5_init 155 = .ok (.aastore, 1) := by decide +kernel
theorem dX5_init_156 : decode cX5_init 156 = .ok (.iinc 1 1, 3) := by decide +kernel
theorem dX5_init_159 : decode cX5_init 159 = .ok (.goto (-21), 3) := by decide +kernel
theorem dX5_init_162 : decode cX5_init 162 = .ok (.iconst 0, 1) := by decide +kernel
theorem dX5_init_163 : decode cX5_init 163 = .ok (.istore_n 1, 1) := by decide +kernel
theorem dX5_init_164 : decode cX5_init 164 = .ok (.iload_n 1, 1) := by decide +kernel
theorem dX5_init_165 : decode cX5_init 165 = .ok (.ldc 60, 2) := by decide +kernel
theorem dX5_init_167 : decode cX5_init 167 = .ok (.invokevirtual 62, 3) := by decide +kernel
theorem dX5_init_170 : decode cX5_init 170 = .ok (.if_icmp .ge 23, 3) := by decide +kernel
theorem dX5_init_173 : decode cX5_init 173 = .ok (.aload_n 0, 1) := by decide +kernel
theorem dX5_init_174 : decode cX5_init 174 = .ok (.getfield 12, 3) := by decide +kernel
theorem dX5_init_177 : decode cX5_init 177 = .ok (.ldc 60, 2) := by decide +kernel
theorem dX5_init_179 : decode cX5_init 179 = .ok (.iload_n 1, 1) := by decide +kernel
theorem dX5_init_180 : decode cX5_init 180 = .ok (.invokevirtual 68, 3) := by decide +kernel
theorem dX5_init_183 : decode cX5_init 183 = .ok (.invokevirtual 72, 3) := by decide +kernel
theorem dX5_init_186 : decode cX5_init 186 = .ok (.pop, 1) := by decide +kernel
theorem dX5_init_187 : decode cX5_init 187 = .ok (.iinc 1 1, 3) := by decide +kernel
theorem dX5_init_190 : decode cX5_init 190 = .ok (.goto (-26), 3) := by decide +kernel
theorem dX5_init_193 : decode cX5_init 193 = .ok (.aload_n 0, 1) := by decide +kernel
theorem dX5_init_194 : decode cX5_init 194 = .ok (.getfield 12, 3) := by decide +kernel
theorem dX5_init_197 : decode cX5_init 197 = .ok (.aload_n 0, 1) := by decide +kernel
theorem dX5_init_198 : decode cX5_init 198 = .ok (.getfield 19, 3) := by decide +kernel
theorem dX5_init_201 : decode cX5_init 201 = .ok (.invokevirtual 76, 3) := by decide +kernel
theorem dX5_init_204 : decode cX5_init 204 = .ok (.pop, 1) := by decide +kernel
theorem dX5_init_205 : decode cX5_init 205 = .ok (.aload_n 0, 1) := by decide +kernel
theorem dX5_init_206 : decode cX5_init 206 = .ok (.getfield 12, 3) := by decide +kernel
theorem dX5_init_209 : decode cX5_init 209 = .ok (.invokevirtual 80, 3) := by decide +kernel
theorem dX5_init_212 : decode cX5_init 212 = .ok (.return_, 1) := by decide +kernel
theorem dX5_write_0 : decode cX5_write 0 = .ok (.iload_n 1, 1) := by decide +kernel
theorem dX5_write_1 : decode cX5_write 1 = .ok (.bipush 32, 2) := by decide +kernel
theorem dX5_write_3 : decode cX5_write 3 = .ok (.if_icmp .lt 9, 3) := by decide +kernel
theorem dX5_write_6 : decode cX5_write 6 = .ok (.iload_n 1, 1) := by decide +kernel
theorem dX5_write_7 : decode cX5_write 7 = .ok (.bipush 126, 2) := by decide +kernel
theorem dX5_write_9 : decode cX5_write 9 = .ok (.if_icmp .le 5, 3) := by decide +kernel
theorem dX5_write_12 : decode cX5_write 12 = .ok (.iconst (-1), 1) := by decide +kernel
theorem dX5_write_13 : decode cX5_write 13 = .ok (.ireturn, 1) := by decide +kernel
theorem dX5_write_14 : decode cX5_write 14 = .ok (.aload_n 0, 1) := by decide +kernel
theorem dX5_write_15 : decode cX5_write 15 = .ok (.getfield 12, 3) := by decide +kernel
theorem dX5_write_18 : decode cX5_write 18 = .ok (.iload_n 1, 1) := by decide +kernel
theorem dX5_write_19 : decode cX5_write 19 = .ok (.i2c, 1) := by decide +kernel
theorem dX5_write_20 : decode cX5_write 20 = .ok (.invokevirtual 72, 3) := by decide +kernel
theorem dX5_write_23 : decode cX5_write 23 = .ok (.ifCond .eq 13, 3) := by decide +kernel
theorem dX5_write_26 : decode cX5_write 26 = .ok (.aload_n 0, 1) := by decide +kernel
theorem dX5_write_27 : decode cX5_write 27 = .ok (.getfield 12, 3) := by decide +kernel
theorem dX5_write_30 : decode cX5_write 30 = .ok (.getfield 83, 3) := by decide +kernel
theorem dX5_write_33 : decode cX5_write 33 = .ok (.goto 5, 3) := by decide +kernel
theorem dX5_write_36 : decode cX5_write 36 = .ok (.bipush (-3), 2) := by decide +kernel
theorem dX5_write_38 : decode cX5_write 38 = .ok (.ireturn, 1) := by decide +kernel
theorem dX5_wipe_0 : decode cX5_wipe 0 = .ok (.aload_n 0, 1) := by decide +kernel
theorem dX5_wipe_1 : decode cX5_wipe 1 = .ok (.getfield 12, 3) := by decide +kernel
theorem dX5_wipe_4 : decode cX5_wipe 4 = .ok (.getfield 83, 3) := by decide +kernel
theorem dX5_wipe_7 : decode cX5_wipe 7 = .ok (.istore_n 1, 1) := by decide +kernel
theorem dX5_wipe_8 : decode cX5_wipe 8 = .ok (.aload_n 0, 1) := by decide +kernel
theorem dX5_wipe_9 : decode cX5_wipe 9 = .ok (.getfield 12, 3) := by decide +kernel
theorem dX5_wipe_12 : decode cX5_wipe 12 = .ok (.invokevirtual 80, 3) := by decide +kernel
theorem dX5_wipe_15 : decode cX5_wipe 15 = .ok (.iload_n 1, 1) := by decide +kernel
theorem dX5_wipe_16 : decode cX5_wipe 16 = .ok (.ireturn, 1) := by decide +kernel
theorem dX5_fault_0 : decode cX5_fault 0 = .ok (.aload_n 0, 1) := by decide +kernel
theorem dX5_fault_1 : decode cX5_fault 1 = .ok (.getfield 12, 3) := by decide +kernel
theorem dX5_fault_4 : decode cX5_fault 4 = .ok (.aload_n 0, 1) := by decide +kernel
theorem dX5_fault_5 : decode cX5_fault 5 = .ok (.getfield 23, 3) := by decide +kernel
theorem dX5_fault_8 : decode cX5_fault 8 = .ok (.invokevirtual 76, 3) := by decide +kernel
theorem dX5_fault_11 : decode cX5_fault 11 = .ok (.ireturn, 1) := by decide +kernel
theorem dX5_lay_0 : decode cX5_lay 0 = .ok (.aload_n 0, 1) := by decide +kernel
theorem dX5_lay_1 : decode cX5_lay 1 = .ok (.getfield 12, 3) := by decide +kernel
theorem dX5_lay_4 : decode cX5_lay 4 = .ok (.aload_n 0, 1) := by decide +kernel
theorem dX5_lay_5 : decode cX5_lay 5 = .ok (.getfield 23, 3) := by decide +kernel
theorem dX5_lay_8 : decode cX5_lay 8 = .ok (.invokevirtual 76, 3) := by decide +kernel
theorem dX5_lay_11 : decode cX5_lay 11 = .ok (.bipush (-4), 2) := by decide +kernel
theorem dX5_lay_13 : decode cX5_lay 13 = .ok (.if_icmp .ne 13, 3) := by decide +kernel
theorem dX5_lay_16 : decode cX5_lay 16 = .ok (.aload_n 0, 1) := by decide +kernel
theorem dX5_lay_17 : decode cX5_lay 17 = .ok (.getfield 23, 3) := by decide +kernel
theorem dX5_lay_20 : decode cX5_lay 20 = .ok (.getfield 86, 3) := by decide +kernel
theorem dX5_lay_23 : decode cX5_lay 23 = .ok (.ifCond .ne 6, 3) := by decide +kernel
theorem dX5_lay_26 : decode cX5_lay 26 = .ok (.bipush (-2), 2) := by decide +kernel
theorem dX5_lay_28 : decode cX5_lay 28 = .ok (.ireturn, 1) := by decide +kernel
theorem dX5_lay_29 : decode cX5_lay 29 = .ok (.aload_n 0, 1) := by decide +kernel
theorem dX5_lay_30 : decode cX5_lay 30 = .ok (.getfield 19, 3) := by decide +kernel
theorem dX5_lay_33 : decode cX5_lay 33 = .ok (.aload_n 0, 1) := by decide +kernel
theorem dX5_lay_34 : decode cX5_lay 34 = .ok (.getfield 23, 3) := by decide +kernel
theorem dX5_lay_37 : decode cX5_lay 37 = .ok (.invokevirtual 89, 3) := by decide +kernel
theorem dX5_lay_40 : decode cX5_lay 40 = .ok (.aload_n 0, 1) := by decide +kernel
theorem dX5_lay_41 : decode cX5_lay 41 = .ok (.iconst 0, 1) := by decide +kernel
theorem dX5_lay_42 : decode cX5_lay 42 = .ok (.putfield 93, 3) := by decide +kernel
theorem dX5_lay_45 : decode cX5_lay 45 = .ok (.aload_n 0, 1) := by decide +kernel
theorem dX5_lay_46 : decode cX5_lay 46 = .ok (.iconst 0, 1) := by decide +kernel
theorem dX5_lay_47 : decode cX5_lay 47 = .ok (.putfield 96, 3) := by decide +kernel
theorem dX5_lay_50 : decode cX5_lay 50 = .ok (.aload_n 0, 1) := by decide +kernel
theorem dX5_lay_51 : decode cX5_lay 51 = .ok (.invokevirtual 99, 3) := by decide +kernel
theorem dX5_lay_54 : decode cX5_lay 54 = .ok (.aload_n 0, 1) := by decide +kernel
theorem dX5_lay_55 : decode cX5_lay 55 = .ok (.getfield 19, 3) := by decide +kernel
theorem dX5_lay_58 : decode cX5_lay 58 = .ok (.getfield 86, 3) := by decide +kernel
theorem dX5_lay_61 : decode cX5_lay 61 = .ok (.ireturn, 1) := by decide +kernel
theorem dX5_rule_0 : decode cX5_rule 0 = .ok (.aload_n 0, 1) := by decide +kernel
theorem dX5_rule_1 : decode cX5_rule 1 = .ok (.iload_n 1, 1) := by decide +kernel
theorem dX5_rule_2 : decode cX5_rule 2 = .ok (.invokevirtual 102, 3) := by decide +kernel
theorem dX5_rule_5 : decode cX5_rule 5 = .ok (.ifCond .ne 5, 3) := by decide +kernel
theorem dX5_rule_8 : decode cX5_rule 8 = .ok (.iconst (-1), 1) := by decide +kernel
theorem dX5_rule_9 : decode cX5_rule 9 = .ok (.ireturn, 1) := by decide +kernel
theorem dX5_rule_10 : decode cX5_rule 10 = .ok (.iload_n 2, 1) := by decide +kernel
theorem dX5_rule_11 : decode cX5_rule 11 = .ok (.tableswitch 120 0 6 #[41, 51, 61, 71, 84, 97, 110], 41) := by decide +kernel
theorem dX5_rule_52 : decode cX5_rule 52 = .ok (.aload_n 0, 1) := by decide +kernel
theorem dX5_rule_53 : decode cX5_rule 53 = .ok (.getfield 19, 3) := by decide +kernel
theorem dX5_rule_56 : decode cX5_rule 56 = .ok (.getfield 106, 3) := by decide +kernel
theorem dX5_rule_59 : decode cX5_rule 59 = .ok (.iload_n 1, 1) := by decide +kernel
theorem dX5_rule_60 : decode cX5_rule 60 = .ok (.iaload, 1) := by decide +kernel
theorem dX5_rule_61 : decode cX5_rule 61 = .ok (.ireturn, 1) := by decide +kernel
theorem dX5_rule_62 : decode cX5_rule 62 = .ok (.aload_n 0, 1) := by decide +kernel
theorem dX5_rule_63 : decode cX5_rule 63 = .ok (.getfield 19, 3) := by decide +kernel
theorem dX5_rule_66 : decode cX5_rule 66 = .ok (.getfield 110, 3) := by decide +kernel
theorem dX5_rule_69 : decode cX5_rule 69 = .ok (.iload_n 1, 1) := by decide +kernel
theorem dX5_rule_70 : decode cX5_rule 70 = .ok (.iaload, 1) := by decide +kernel
theorem dX5_rule_71 : decode cX5_rule 71 = .ok (.ireturn, 1) := by decide +kernel
theorem dX5_rule_72 : decode cX5_rule 72 = .ok (.aload_n 0, 1) := by decide +kernel
theorem dX5_rule_73 : decode cX5_rule 73 = .ok (.getfield 19, 3) := by decide +kernel
theorem dX5_rule_76 : decode cX5_rule 76 = .ok (.getfield 113, 3) := by decide +kernel
theorem dX5_rule_79 : decode cX5_rule 79 = .ok (.iload_n 1, 1) := by decide +kernel
theorem dX5_rule_80 : decode cX5_rule 80 = .ok (.iaload, 1) := by decide +kernel
theorem dX5_rule_81 : decode cX5_rule 81 = .ok (.ireturn, 1) := by decide +kernel
theorem dX5_rule_82 : decode cX5_rule 82 = .ok (.aload_n 0, 1) := by decide +kernel
theorem dX5_rule_83 : decode cX5_rule 83 = .ok (.getfield 19, 3) := by decide +kernel
theorem dX5_rule_86 : decode cX5_rule 86 = .ok (.getfield 116, 3) := by decide +kernel
theorem dX5_rule_89 : decode cX5_rule 89 = .ok (.iload_n 1, 1) := by decide +kernel
theorem dX5_rule_90 : decode cX5_rule 90 = .ok (.iaload, 1) := by decide +kernel
theorem dX5_rule_91 : decode cX5_rule 91 = .ok (.invokestatic 119, 3) := by decide +kernel
theorem dX5_rule_94 : decode cX5_rule 94 = .ok (.ireturn, 1) := by decide +kernel
theorem dX5_rule_95 : decode cX5_rule 95 = .ok (.aload_n 0, 1) := by decide +kernel
theorem dX5_rule_96 : decode cX5_rule 96 = .ok (.getfield 19, 3) := by decide +kernel
theorem dX5_rule_99 : decode cX5_rule 99 = .ok (.getfield 116, 3) := by decide +kernel
theorem dX5_rule_102 : decode cX5_rule 102 = .ok (.iload_n 1, 1) := by decide +kernel
theorem dX5_rule_103 : decode cX5_rule 103 = .ok (.iaload, 1) := by decide +kernel
theorem dX5_rule_104 : decode cX5_rule 104 = .ok (.invokestatic 123, 3) := by decide +kernel
theorem dX5_rule_107 : decode cX5_rule 107 = .ok (.ireturn, 1) := by decide +kernel
theorem dX5_rule_108 : decode cX5_rule 108 = .ok (.aload_n 0, 1) := by decide +kernel
theorem dX5_rule_109 : decode cX5_rule 109 = .ok (.getfield 19, 3) := by decide +kernel
theorem dX5_rule_112 : decode cX5_rule 112 = .ok (.getfield 116, 3) := by decide +kernel
theorem dX5_rule_115 : decode cX5_rule 115 = .ok (.iload_n 1, 1) := by decide +kernel
theorem dX5_rule_116 : decode cX5_rule 116 = .ok (.iaload, 1) := by decide +kernel
theorem dX5_rule_117 : decode cX5_rule 117 = .ok (.invokestatic 126, 3) := by decide +kernel
theorem dX5_rule_120 : decode cX5_rule 120 = .ok (.ireturn, 1) := by decide +kernel
theorem dX5_rule_121 : decode cX5_rule 121 = .ok (.aload_n 0, 1) := by decide +kernel
theorem dX5_rule_122 : decode cX5_rule 122 = .ok (.getfield 19, 3) := by decide +kernel
theorem dX5_rule_125 : decode cX5_rule 125 = .ok (.getfield 129, 3) := by decide +kernel
theorem dX5_rule_128 : decode cX5_rule 128 = .ok (.iload_n 1, 1) := by decide +kernel
theorem dX5_rule_129 : decode cX5_rule 129 = .ok (.iaload, 1) := by decide +kernel
theorem dX5_rule_130 : decode cX5_rule 130 = .ok (.ireturn, 1) := by decide +kernel
theorem dX5_rule_131 : decode cX5_rule 131 = .ok (.iconst (-1), 1) := by decide +kernel
theorem dX5_rule_132 : decode cX5_rule 132 = .ok (.ireturn, 1) := by decide +kernel
theorem dX5_target_0 : decode cX5_target 0 = .ok (.iload_n 1, 1) := by decide +kernel
theorem dX5_target_1 : decode cX5_target 1 = .ok (.ifCond .lt 23, 3) := by decide +kernel
theorem dX5_target_4 : decode cX5_target 4 = .ok (.iload_n 1, 1) := by decide +kernel
theorem dX5_target_5 : decode cX5_target 5 = .ok (.aload_n 0, 1) := by decide +kernel
theorem dX5_target_6 : decode cX5_target 6 = .ok (.getfield 19, 3) := by decide +kernel
theorem dX5_target_9 : decode cX5_target 9 = .ok (.getfield 132, 3) := by decide +kernel
theorem dX5_target_12 : decode cX5_target 12 = .ok (.if_icmp .ge 12, 3) := by decide +kernel
theorem dX5_target_15 : decode cX5_target 15 = .ok (.iload_n 2, 1) := by decide +kernel
theorem dX5_target_16 : decode cX5_target 16 = .ok (.ifCond .lt 8, 3) := by decide +kernel
theorem dX5_target_19 : decode cX5_target 19 = .ok (.iload_n 2, 1) := by decide +kernel
theorem dX5_target_20 : decode cX5_target 20 = .ok (.iconst 5, 1) := by decide +kernel
theorem dX5_target_21 : decode cX5_target 21 = .ok (.if_icmp .le 5, 3) := by decide +kernel
theorem dX5_target_24 : decode cX5_target 24 = .ok (.iconst (-1), 1) := by decide +kernel
theorem dX5_target_25 : decode cX5_target 25 = .ok (.ireturn, 1) := by decide +kernel
theorem dX5_target_26 : decode cX5_target 26 = .ok (.iload_n 2, 1) := by decide +kernel
theorem dX5_target_27 : decode cX5_target 27 = .ok (.tableswitch 63 0 2 #[25, 35, 45], 25) := by decide +kernel
theorem dX5_target_52 : decode cX5_target 52 = .ok (.aload_n 0, 1) := by decide +kernel
theorem dX5_target_53 : decode cX5_target 53 = .ok (.getfield 19, 3) := by decide +kernel
theorem dX5_target_56 : decode cX5_target 56 = .ok (.getfield 135, 3) := by decide +kernel
theorem dX5_target_59 : decode cX5_target 59 = .ok (.iload_n 1, 1) := by decide +kernel
theorem dX5_target_60 : decode cX5_target 60 = .ok (.iaload, 1) := by decide +kernel
theorem dX5_target_61 : decode cX5_target 61 = .ok (.ireturn, 1) := by decide +kernel
theorem dX5_target_62 : decode cX5_target 62 = .ok (.aload_n 0, 1) := by decide +kernel
theorem dX5_target_63 : decode cX5_target 63 = .ok (.getfield 19, 3) := by decide +kernel
theorem dX5_target_66 : decode cX5_target 66 = .ok (.getfield 138, 3) := by decide +kernel
theorem dX5_target_69 : decode cX5_target 69 = .ok (.iload_n 1, 1) := by decide +kernel
theorem dX5_target_70 : decode cX5_target 70 = .ok (.iaload, 1) := by decide +kernel
theorem dX5_target_71 : decode cX5_target 71 = .ok (.ireturn, 1) := by decide +kernel
theorem dX5_target_72 : decode cX5_target 72 = .ok (.aload_n 0, 1) := by decide +kernel
theorem dX5_target_73 : decode cX5_target 73 = .ok (.getfield 19, 3) := by decide +kernel
theorem dX5_target_76 : decode cX5_target 76 = .ok (.getfield 141, 3) := by decide +kernel
theorem dX5_target_79 : decode cX5_target 79 = .ok (.iload_n 1, 1) := by decide +kernel
theorem dX5_target_80 : decode cX5_target 80 = .ok (.baload, 1) := by decide +kernel
theorem dX5_target_81 : decode cX5_target 81 = .ok (.ifCond .eq 7, 3) := by decide +kernel
theorem dX5_target_84 : decode cX5_target 84 = .ok (.iconst 1, 1) := by decide +kernel
theorem dX5_target_85 : decode cX5_target 85 = .ok (.goto 4, 3) := by decide +kernel
theorem dX5_target_88 : decode cX5_target 88 = .ok (.iconst 0, 1) := by decide +kernel
theorem dX5_target_89 : decode cX5_target 89 = .ok (.ireturn, 1) := by decide +kernel
theorem dX5_target_90 : decode cX5_target 90 = .ok (.iload_n 2, 1) := by decide +kernel
theorem dX5_target_91 : decode cX5_target 91 = .ok (.iconst 3, 1) := by decide +kernel
theorem dX5_target_92 : decode cX5_target 92 = .ok (.isub, 1) := by decide +kernel
theorem dX5_target_93 : decode cX5_target 93 = .ok (.aload_n 0, 1) := by decide +kernel
theorem dX5_target_94 : decode cX5_target 94 = .ok (.getfield 19, 3) := by decide +kernel
theorem dX5_target_97 : decode cX5_target 97 = .ok (.getfield 138, 3) := by decide +kernel
theorem dX5_target_100 : decode cX5_target 100 = .ok (.iload_n 1, 1) := by decide +kernel
theorem dX5_target_101 : decode cX5_target 101 = .ok (.iaload, 1) := by decide +kernel
theorem dX5_target_102 : decode cX5_target 102 = .ok (.if_icmp .ge 21, 3) := by decide +kernel
theorem dX5_target_105 : decode cX5_target 105 = .ok (.aload_n 0, 1) := by decide +kernel
theorem dX5_target_106 : decode cX5_target 106 = .ok (.getfield 19, 3) := by decide +kernel
theorem dX5_target_109 : decode cX5_target 109 = .ok (.getfield 145, 3) := by decide +kernel
theorem dX5_target_112 : decode cX5_target 112 = .ok (.iload_n 1, 1) := by decide +kernel
theorem dX5_target_113 : decode cX5_target 113 = .ok (.iconst 3, 1) := by decide +kernel
theorem dX5_target_114 : decode cX5_target 114 = .ok (.imul, 1) := by decide +kernel
theorem dX5_target_115 : decode cX5_target 115 = .ok (.iload_n 2, 1) := by decide +kernel
theorem dX5_target_116 : decode cX5_target 116 = .ok (.iadd, 1) := by decide +kernel
theorem dX5_target_117 : decode cX5_target 117 = .ok (.iconst 3, 1) := by decide +kernel
theorem dX5_target_118 : decode cX5_target 118 = .ok (.isub, 1) := by decide +kernel
theorem dX5_target_119 : decode cX5_target 119 = .ok (.iaload, 1) := by decide +kernel
theorem dX5_target_120 : decode cX5_target 120 = .ok (.goto 5, 3) := by decide +kernel
theorem dX5_target_123 : decode cX5_target 123 = .ok (.bipush (-4), 2) := by decide +kernel
theorem dX5_target_125 : decode cX5_target 125 = .ok (.ireturn, 1) := by decide +kernel
theorem dX5_stack_0 : decode cX5_stack 0 = .ok (.iload_n 1, 1) := by decide +kernel
theorem dX5_stack_1 : decode cX5_stack 1 = .ok (.bipush (-2), 2) := by decide +kernel
theorem dX5_stack_3 : decode cX5_stack 3 = .ok (.if_icmp .ge 5, 3) := by decide +kernel
theorem dX5_stack_6 : decode cX5_stack 6 = .ok (.iconst (-1), 1) := by decide +kernel
theorem dX5_stack_7 : decode cX5_stack 7 = .ok (.ireturn, 1) := by decide +kernel
theorem dX5_stack_8 : decode cX5_stack 8 = .ok (.iload_n 1, 1) := by decide +kernel
theorem dX5_stack_9 : decode cX5_stack 9 = .ok (.bipush (-2), 2) := by decide +kernel
theorem dX5_stack_11 : decode cX5_stack 11 = .ok (.if_icmp .ne 11, 3) := by decide +kernel
theorem dX5_stack_14 : decode cX5_stack 14 = .ok (.aload_n 0, 1) := by decide +kernel
theorem dX5_stack_15 : decode cX5_stack 15 = .ok (.getfield 19, 3) := by decide +kernel
theorem dX5_stack_18 : decode cX5_stack 18 = .ok (.getfield 148, 3) := by decide +kernel
theorem dX5_stack_21 : decode cX5_stack 21 = .ok (.ireturn, 1) := by decide +kernel
theorem dX5_stack_22 : decode cX5_stack 22 = .ok (.iload_n 1, 1) := by decide +kernel
theorem dX5_stack_23 : decode cX5_stack 23 = .ok (.iconst (-1), 1) := by decide +kernel
theorem dX5_stack_24 : decode cX5_stack 24 = .ok (.if_icmp .ne 11, 3) := by decide +kernel
theorem dX5_stack_27 : decode cX5_stack 27 = .ok (.aload_n 0, 1) := by decide +kernel
theorem dX5_stack_28 : decode cX5_stack 28 = .ok (.getfield 19, 3) := by decide +kernel
theorem dX5_stack_31 : decode cX5_stack 31 = .ok (.getfield 151, 3) := by decide +kernel
theorem dX5_stack_34 : decode cX5_stack 34 = .ok (.ireturn, 1) := by decide +kernel
theorem dX5_stack_35 : decode cX5_stack 35 = .ok (.iload_n 1, 1) := by decide +kernel
theorem dX5_stack_36 : decode cX5_stack 36 = .ok (.aload_n 0, 1) := by decide +kernel
theorem dX5_stack_37 : decode cX5_stack 37 = .ok (.getfield 19, 3) := by decide +kernel
theorem dX5_stack_40 : decode cX5_stack 40 = .ok (.getfield 151, 3) := by decide +kernel
theorem dX5_stack_43 : decode cX5_stack 43 = .ok (.if_icmp .ge 25, 3) := by decide +kernel
theorem dX5_stack_46 : decode cX5_stack 46 = .ok (.aload_n 0, 1) := by decide +kernel
theorem dX5_stack_47 : decode cX5_stack 47 = .ok (.getfield 19, 3) := by decide +kernel
theorem dX5_stack_50 : decode cX5_stack 50 = .ok (.getfield 154, 3) := by decide +kernel
theorem dX5_stack_53 : decode cX5_stack 53 = .ok (.aload_n 0, 1) := by decide +kernel
theorem dX5_stack_54 : decode cX5_stack 54 = .ok (.getfield 19, 3) := by decide +kernel
theorem dX5_stack_57 : decode cX5_stack 57 = .ok (.getfield 151, 3) := by decide +kernel
theorem dX5_stack_60 : decode cX5_stack 60 = .ok (.iconst 1, 1) := by decide +kernel
theorem dX5_stack_61 : decode cX5_stack 61 = .ok (.isub, 1) := by decide +kernel
theorem dX5_stack_62 : decode cX5_stack 62 = .ok (.iload_n 1, 1) := by decide +kernel
theorem dX5_stack_63 : decode cX5_stack 63 = .ok (.isub, 1) := by decide +kernel
theorem dX5_stack_64 : decode cX5_stack 64 = .ok (.iaload, 1) := by decide +kernel
theorem dX5_stack_65 : decode cX5_stack 65 = .ok (.goto 5, 3) := by decide +kernel
theorem dX5_stack_68 : decode cX5_stack 68 = .ok (.bipush (-4), 2) := by decide +kernel
theorem dX5_stack_70 : decode cX5_stack 70 = .ok (.ireturn, 1) := by decide +kernel
theorem dX5_push_0 : decode cX5_push 0 = .ok (.iload_n 1, 1) := by decide +kernel
theorem dX5_push_1 : decode cX5_push 1 = .ok (.invokestatic 157, 3) := by decide +kernel
theorem dX5_push_4 : decode cX5_push 4 = .ok (.ifCond .ne 5, 3) := by decide +kernel
theorem dX5_push_7 : decode cX5_push 7 = .ok (.iconst (-1), 1) := by decide +kernel
theorem dX5_push_8 : decode cX5_push 8 = .ok (.ireturn, 1) := by decide +kernel
theorem dX5_push_9 : decode cX5_push 9 = .ok (.aload_n 0, 1) := by decide +kernel
theorem dX5_push_10 : decode cX5_push 10 = .ok (.getfield 19, 3) := by decide +kernel
theorem dX5_push_13 : decode cX5_push 13 = .ok (.getfield 151, 3) := by decide +kernel
theorem dX5_push_16 : decode cX5_push 16 = .ok (.bipush 12, 2) := by decide +kernel
theorem dX5_push_18 : decode cX5_push 18 = .ok (.if_icmp .lt 6, 3) := by decide +kernel
theorem dX5_push_21 : decode cX5_push 21 = .ok (.bipush (-3), 2) := by decide +kernel
theorem dX5_push_23 : decode cX5_push 23 = .ok (.ireturn, 1) := by decide +kernel
theorem dX5_push_24 : decode cX5_push 24 = .ok (.aload_n 0, 1) := by decide +kernel
theorem dX5_push_25 : decode cX5_push 25 = .ok (.invokevirtual 160, 3) := by decide +kernel
theorem dX5_push_28 : decode cX5_push 28 = .ok (.aload_n 0, 1) := by decide +kernel
theorem dX5_push_29 : decode cX5_push 29 = .ok (.getfield 19, 3) := by decide +kernel
theorem dX5_push_32 : decode cX5_push 32 = .ok (.iload_n 1, 1) := by decide +kernel
theorem dX5_push_33 : decode cX5_push 33 = .ok (.invokevirtual 163, 3) := by decide +kernel
theorem dX5_push_36 : decode cX5_push 36 = .ok (.aload_n 0, 1) := by decide +kernel
theorem dX5_push_37 : decode cX5_push 37 = .ok (.getfield 19, 3) := by decide +kernel
theorem dX5_push_40 : decode cX5_push 40 = .ok (.getfield 151, 3) := by decide +kernel
theorem dX5_push_43 : decode cX5_push 43 = .ok (.ireturn, 1) := by decide +kernel
theorem dX5_pop_0 : decode cX5_pop 0 = .ok (.aload_n 0, 1) := by decide +kernel
theorem dX5_pop_1 : decode cX5_pop 1 = .ok (.getfield 19, 3) := by decide +kernel
theorem dX5_pop_4 : decode cX5_pop 4 = .ok (.getfield 151, 3) := by decide +kernel
theorem dX5_pop_7 : decode cX5_pop 7 = .ok (.ifCond .ne 6, 3) := by decide +kernel
theorem dX5_pop_10 : decode cX5_pop 10 = .ok (.bipush (-2), 2) := by decide +kernel
theorem dX5_pop_12 : decode cX5_pop 12 = .ok (.ireturn, 1) := by decide +kernel
theorem dX5_pop_13 : decode cX5_pop 13 = .ok (.aload_n 0, 1) := by decide +kernel
theorem dX5_pop_14 : decode cX5_pop 14 = .ok (.invokevirtual 160, 3) := by decide +kernel
theorem dX5_pop_17 : decode cX5_pop 17 = .ok (.aload_n 0, 1) := by decide +kernel
theorem dX5_pop_18 : decode cX5_pop 18 = .ok (.getfield 19, 3) := by decide +kernel
theorem dX5_pop_21 : decode cX5_pop 21 = .ok (.invokevirtual 167, 3) := by decide +kernel
theorem dX5_pop_24 : decode cX5_pop 24 = .ok (.ireturn, 1) := by decide +kernel
theorem dX5_step_0 : decode cX5_step 0 = .ok (.aload_n 0, 1) := by decide +kernel
theorem dX5_step_1 : decode cX5_step 1 = .ok (.iload_n 1, 1) := by decide +kernel
theorem dX5_step_2 : decode cX5_step 2 = .ok (.invokevirtual 102, 3) := by decide +kernel
theorem dX5_step_5 : decode cX5_step 5 = .ok (.ifCond .ne 5, 3) := by decide +kernel
theorem dX5_step_8 : decode cX5_step 8 = .ok (.iconst (-1), 1) := by decide +kernel
theorem dX5_step_9 : decode cX5_step 9 = .ok (.ireturn, 1) := by decide +kernel
theorem dX5_step_10 : decode cX5_step 10 = .ok (.aload_n 0, 1) := by decide +kernel
theorem dX5_step_11 : decode cX5_step 11 = .ok (.getfield 19, 3) := by decide +kernel
theorem dX5_step_14 : decode cX5_step 14 = .ok (.iload_n 1, 1) := by decide +kernel
theorem dX5_step_15 : decode cX5_step 15 = .ok (.invokevirtual 170, 3) := by decide +kernel
theorem dX5_step_18 : decode cX5_step 18 = .ok (.ifCond .ne 6, 3) := by decide +kernel
theorem dX5_step_21 : decode cX5_step 21 = .ok (.bipush (-2), 2) := by decide +kernel
theorem dX5_step_23 : decode cX5_step 23 = .ok (.ireturn, 1) := by decide +kernel
theorem dX5_step_24 : decode cX5_step 24 = .ok (.aload_n 0, 1) := by decide +kernel
theorem dX5_step_25 : decode cX5_step 25 = .ok (.getfield 19, 3) := by decide +kernel
theorem dX5_step_28 : decode cX5_step 28 = .ok (.iload_n 1, 1) := by decide +kernel
theorem dX5_step_29 : decode cX5_step 29 = .ok (.invokevirtual 173, 3) := by decide +kernel
theorem dX5_step_32 : decode cX5_step 32 = .ok (.bipush 12, 2) := by decide +kernel
theorem dX5_step_34 : decode cX5_step 34 = .ok (.if_icmp .le 6, 3) := by decide +kernel
theorem dX5_step_37 : decode cX5_step 37 = .ok (.bipush (-3), 2) := by decide +kernel
theorem dX5_step_39 : decode cX5_step 39 = .ok (.ireturn, 1) := by decide +kernel
theorem dX5_step_40 : decode cX5_step 40 = .ok (.aload_n 0, 1) := by decide +kernel
theorem dX5_step_41 : decode cX5_step 41 = .ok (.invokevirtual 160, 3) := by decide +kernel
theorem dX5_step_44 : decode cX5_step 44 = .ok (.aload_n 0, 1) := by decide +kernel
theorem dX5_step_45 : decode cX5_step 45 = .ok (.getfield 19, 3) := by decide +kernel
theorem dX5_step_48 : decode cX5_step 48 = .ok (.iload_n 1, 1) := by decide +kernel
theorem dX5_step_49 : decode cX5_step 49 = .ok (.invokevirtual 176, 3) := by decide +kernel
theorem dX5_step_52 : decode cX5_step 52 = .ok (.aload_n 0, 1) := by decide +kernel
theorem dX5_step_53 : decode cX5_step 53 = .ok (.getfield 19, 3) := by decide +kernel
theorem dX5_step_56 : decode cX5_step 56 = .ok (.getfield 151, 3) := by decide +kernel
theorem dX5_step_59 : decode cX5_step 59 = .ok (.ireturn, 1) := by decide +kernel
theorem dX5_go_0 : decode cX5_go 0 = .ok (.aload_n 0, 1) := by decide +kernel
theorem dX5_go_1 : decode cX5_go 1 = .ok (.iload_n 1, 1) := by decide +kernel
theorem dX5_go_2 : decode cX5_go 2 = .ok (.invokevirtual 179, 3) := by decide +kernel
theorem dX5_go_5 : decode cX5_go 5 = .ok (.ifCond .ne 5, 3) := by decide +kernel
theorem dX5_go_8 : decode cX5_go 8 = .ok (.iconst (-1), 1) := by decide +kernel
theorem dX5_go_9 : decode cX5_go 9 = .ok (.ireturn, 1) := by decide +kernel
theorem dX5_go_10 : decode cX5_go 10 = .ok (.aload_n 0, 1) := by decide +kernel
theorem dX5_go_11 : decode cX5_go 11 = .ok (.getfield 19, 3) := by decide +kernel
theorem dX5_go_14 : decode cX5_go 14 = .ok (.getfield 148, 3) := by decide +kernel
theorem dX5_go_17 : decode cX5_go 17 = .ok (.istore_n 2, 1) := by decide +kernel
theorem dX5_go_18 : decode cX5_go 18 = .ok (.iload_n 1, 1) := by decide +kernel
theorem dX5_go_19 : decode cX5_go 19 = .ok (.iload_n 2, 1) := by decide +kernel
theorem dX5_go_20 : decode cX5_go 20 = .ok (.if_icmp .ne 6, 3) := by decide +kernel
theorem dX5_go_23 : decode cX5_go 23 = .ok (.bipush (-2), 2) := by decide +kernel
theorem dX5_go_25 : decode cX5_go 25 = .ok (.ireturn, 1) := by decide +kernel
theorem dX5_go_26 : decode cX5_go 26 = .ok (.aload_n 0, 1) := by decide +kernel
theorem dX5_go_27 : decode cX5_go 27 = .ok (.invokevirtual 160, 3) := by decide +kernel
theorem dX5_go_30 : decode cX5_go 30 = .ok (.aload_n 0, 1) := by decide +kernel
theorem dX5_go_31 : decode cX5_go 31 = .ok (.getfield 19, 3) := by decide +kernel
theorem dX5_go_34 : decode cX5_go 34 = .ok (.iload_n 1, 1) := by decide +kernel
theorem dX5_go_35 : decode cX5_go 35 = .ok (.putfield 148, 3) := by decide +kernel
theorem dX5_go_38 : decode cX5_go 38 = .ok (.iload_n 2, 1) := by decide +kernel
theorem dX5_go_39 : decode cX5_go 39 = .ok (.ireturn, 1) := by decide +kernel
theorem dX5_enter_0 : decode cX5_enter 0 = .ok (.aload_n 0, 1) := by decide +kernel
theorem dX5_enter_1 : decode cX5_enter 1 = .ok (.iload_n 1, 1) := by decide +kernel
theorem dX5_enter_2 : decode cX5_enter 2 = .ok (.invokevirtual 179, 3) := by decide +kernel
theorem dX5_enter_5 : decode cX5_enter 5 = .ok (.ifCond .eq 38, 3) := by decide +kernel
theorem dX5_enter_8 : decode cX5_enter 8 = .ok (.iload_n 2, 1) := by decide +kernel
theorem dX5_enter_9 : decode cX5_enter 9 = .ok (.invokestatic 157, 3) := by decide +kernel
theorem dX5_enter_12 : decode cX5_enter 12 = .ok (.ifCond .eq 31, 3) := by decide +kernel
theorem dX5_enter_15 : decode cX5_enter 15 = .ok (.aload_n 0, 1) := by decide +kernel
theorem dX5_enter_16 : decode cX5_enter 16 = .ok (.iload_n 3, 1) := by decide +kernel
theorem dX5_enter_17 : decode cX5_enter 17 = .ok (.invokevirtual 179, 3) := by decide +kernel
theorem dX5_enter_20 : decode cX5_enter 20 = .ok (.ifCond .eq 23, 3) := by decide +kernel
theorem dX5_enter_23 : decode cX5_enter 23 = .ok (.iload 4, 2) := by decide +kernel
theorem dX5_enter_25 : decode cX5_enter 25 = .ok (.ifCond .lt 18, 3) := by decide +kernel
theorem dX5_enter_28 : decode cX5_enter 28 = .ok (.iload 4, 2) := by decide +kernel
theorem dX5_enter_30 : decode cX5_enter 30 = .ok (.bipush 21, 2) := by decide +kernel
theorem dX5_enter_32 : decode cX5_enter 32 = .ok (.if_icmp .ge 11, 3) := by decide +kernel
theorem dX5_enter_35 : decode cX5_enter 35 = .ok (.iload 5, 2) := by decide +kernel
theorem dX5_enter_37 : decode cX5_enter 37 = .ok (.invokestatic 182, 3) := by decide +kernel
theorem dX5_enter_40 : decode cX5_enter 40 = .ok (.ifCond .ne 5, 3) := by decide +kernel
theorem dX5_enter_43 : decode cX5_enter 43 = .ok (.iconst (-1), 1) := by decide +kernel
theorem dX5_enter_44 : decode cX5_enter 44 = .ok (.ireturn, 1) := by decide +kernel
theorem dX5_enter_45 : decode cX5_enter 45 = .ok (.aload_n 0, 1) := by decide +kernel
theorem dX5_enter_46 : decode cX5_enter 46 = .ok (.getfield 19, 3) := by decide +kernel
theorem dX5_enter_49 : decode cX5_enter 49 = .ok (.getfield 86, 3) := by decide +kernel
theorem dX5_enter_52 : decode cX5_enter 52 = .ok (.bipush 10, 2) := by decide +kernel
theorem dX5_enter_54 : decode cX5_enter 54 = .ok (.if_icmp .lt 6, 3) := by decide +kernel
theorem dX5_enter_57 : decode cX5_enter 57 = .ok (.bipush (-3), 2) := by decide +kernel
theorem dX5_enter_59 : decode cX5_enter 59 = .ok (.ireturn, 1) := by decide +kernel
theorem dX5_enter_60 : decode cX5_enter 60 = .ok (.aload_n 0, 1) := by decide +kernel
theorem dX5_enter_61 : decode cX5_enter 61 = .ok (.invokevirtual 160, 3) := by decide +kernel
theorem dX5_enter_64 : decode cX5_enter 64 = .ok (.aload_n 0, 1) := by decide +kernel
theorem dX5_enter_65 : decode cX5_enter 65 = .ok (.getfield 19, 3) := by decide +kernel
theorem dX5_enter_68 : decode cX5_enter 68 = .ok (.iload_n 1, 1) := by decide +kernel
theorem dX5_enter_69 : decode cX5_enter 69 = .ok (.iload_n 2, 1) := by decide +kernel
theorem dX5_enter_70 : decode cX5_enter 70 = .ok (.iload_n 3, 1) := by decide +kernel
theorem dX5_enter_71 : decode cX5_enter 71 = .ok (.iload 4, 2) := by decide +kernel
theorem dX5_enter_73 : decode cX5_enter 73 = .ok (.iload 5, 2) := by decide +kernel
theorem dX5_enter_75 : decode cX5_enter 75 = .ok (.invokevirtual 185, 3) := by decide +kernel
theorem dX5_enter_78 : decode cX5_enter 78 = .ok (.pop, 1) := by decide +kernel
theorem dX5_enter_79 : decode cX5_enter 79 = .ok (.aload_n 0, 1) := by decide +kernel
theorem dX5_enter_80 : decode cX5_enter 80 = .ok (.invokevirtual 99, 3) := by decide +kernel
theorem dX5_enter_83 : decode cX5_enter 83 = .ok (.aload_n 0, 1) := by decide +kernel
theorem dX5_enter_84 : decode cX5_enter 84 = .ok (.getfield 19, 3) := by decide +kernel
theorem dX5_enter_87 : decode cX5_enter 87 = .ok (.getfield 86, 3) := by decide +kernel
theorem dX5_enter_90 : decode cX5_enter 90 = .ok (.iconst 1, 1) := by decide +kernel
theorem dX5_enter_91 : decode cX5_enter 91 = .ok (.isub, 1) := by decide +kernel
theorem dX5_enter_92 : decode cX5_enter 92 = .ok (.ireturn, 1) := by decide +kernel
theorem dX5_drop_0 : decode cX5_drop 0 = .ok (.aload_n 0, 1) := by decide +kernel
theorem dX5_drop_1 : decode cX5_drop 1 = .ok (.iload_n 1, 1) := by decide +kernel
theorem dX5_drop_2 : decode cX5_drop 2 = .ok (.invokevirtual 102, 3) := by decide +kernel
theorem dX5_drop_5 : decode cX5_drop 5 = .ok (.ifCond .ne 5, 3) := by decide +kernel
theorem dX5_drop_8 : decode cX5_drop 8 = .ok (.iconst (-1), 1) := by decide +kernel
theorem dX5_drop_9 : decode cX5_drop 9 = .ok (.ireturn, 1) := by decide +kernel
theorem dX5_drop_10 : decode cX5_drop 10 = .ok (.aload_n 0, 1) := by decide +kernel
theorem dX5_drop_11 : decode cX5_drop 11 = .ok (.getfield 19, 3) := by decide +kernel
theorem dX5_drop_14 : decode cX5_drop 14 = .ok (.getfield 86, 3) := by decide +kernel
theorem dX5_drop_17 : decode cX5_drop 17 = .ok (.iconst 1, 1) := by decide +kernel
theorem dX5_drop_18 : decode cX5_drop 18 = .ok (.if_icmp .ne 6, 3) := by decide +kernel
theorem dX5_drop_21 : decode cX5_drop 21 = .ok (.bipush (-2), 2) := by decide +kernel
theorem dX5_drop_23 : decode cX5_drop 23 = .ok (.ireturn, 1) := by decide +kernel
theorem dX5_drop_24 : decode cX5_drop 24 = .ok (.aload_n 0, 1) := by decide +kernel
theorem dX5_drop_25 : decode cX5_drop 25 = .ok (.invokevirtual 160, 3) := by decide +kernel
theorem dX5_drop_28 : decode cX5_drop 28 = .ok (.aload_n 0, 1) := by decide +kernel
theorem dX5_drop_29 : decode cX5_drop 29 = .ok (.getfield 19, 3) := by decide +kernel
theorem dX5_drop_32 : decode cX5_drop 32 = .ok (.iload_n 1, 1) := by decide +kernel
theorem dX5_drop_33 : decode cX5_drop 33 = .ok (.invokevirtual 189, 3) := by decide +kernel
theorem dX5_drop_36 : decode cX5_drop 36 = .ok (.aload_n 0, 1) := by decide +kernel
theorem dX5_drop_37 : decode cX5_drop 37 = .ok (.invokevirtual 99, 3) := by decide +kernel
theorem dX5_drop_40 : decode cX5_drop 40 = .ok (.aload_n 0, 1) := by decide +kernel
theorem dX5_drop_41 : decode cX5_drop 41 = .ok (.getfield 19, 3) := by decide +kernel
theorem dX5_drop_44 : decode cX5_drop 44 = .ok (.getfield 86, 3) := by decide +kernel
theorem dX5_drop_47 : decode cX5_drop 47 = .ok (.ireturn, 1) := by decide +kernel
theorem dX5_weigh_0 : decode cX5_weigh 0 = .ok (.aload_n 0, 1) := by decide +kernel
theorem dX5_weigh_1 : decode cX5_weigh 1 = .ok (.iload_n 1, 1) := by decide +kernel
theorem dX5_weigh_2 : decode cX5_weigh 2 = .ok (.invokevirtual 102, 3) := by decide +kernel
theorem dX5_weigh_5 : decode cX5_weigh 5 = .ok (.ifCond .eq 10, 3) := by decide +kernel
theorem dX5_weigh_8 : decode cX5_weigh 8 = .ok (.iload_n 2, 1) := by decide +kernel
theorem dX5_weigh_9 : decode cX5_weigh 9 = .ok (.invokestatic 182, 3) := by decide +kernel
theorem dX5_weigh_12 : decode cX5_weigh 12 = .ok (.ifCond .ne 5, 3) := by decide +kernel
theorem dX5_weigh_15 : decode cX5_weigh 15 = .ok (.iconst (-1), 1) := by decide +kernel
theorem dX5_weigh_16 : decode cX5_weigh 16 = .ok (.ireturn, 1) := by decide +kernel
theorem dX5_weigh_17 : decode cX5_weigh 17 = .ok (.aload_n 0, 1) := by decide +kernel
theorem dX5_weigh_18 : decode cX5_weigh 18 = .ok (.getfield 19, 3) := by decide +kernel
theorem dX5_weigh_21 : decode cX5_weigh 21 = .ok (.getfield 129, 3) := by decide +kernel
theorem dX5_weigh_24 : decode cX5_weigh 24 = .ok (.iload_n 1, 1) := by decide +kernel
theorem dX5_weigh_25 : decode cX5_weigh 25 = .ok (.iaload, 1) := by decide +kernel
theorem dX5_weigh_26 : decode cX5_weigh 26 = .ok (.istore_n 3, 1) := by decide +kernel
theorem dX5_weigh_27 : decode cX5_weigh 27 = .ok (.iload_n 2, 1) := by decide +kernel
theorem dX5_weigh_28 : decode cX5_weigh 28 = .ok (.iload_n 3, 1) := by decide +kernel
theorem dX5_weigh_29 : decode cX5_weigh 29 = .ok (.if_icmp .ne 6, 3) := by decide +kernel
theorem dX5_weigh_32 : decode cX5_weigh 32 = .ok (.bipush (-2), 2) := by decide +kernel
theorem dX5_weigh_34 : decode cX5_weigh 34 = .ok (.ireturn, 1) := by decide +kernel
theorem dX5_weigh_35 : decode cX5_weigh 35 = .ok (.aload_n 0, 1) := by decide +kernel
theorem dX5_weigh_36 : decode cX5_weigh 36 = .ok (.invokevirtual 160, 3) := by decide +kernel
theorem dX5_weigh_39 : decode cX5_weigh 39 = .ok (.aload_n 0, 1) := by decide +kernel
theorem dX5_weigh_40 : decode cX5_weigh 40 = .ok (.getfield 19, 3) := by decide +kernel
theorem dX5_weigh_43 : decode cX5_weigh 43 = .ok (.getfield 129, 3) := by decide +kernel
theorem dX5_weigh_46 : decode cX5_weigh 46 = .ok (.iload_n 1, 1) := by decide +kernel
theorem dX5_weigh_47 : decode cX5_weigh 47 = .ok (.iload_n 2, 1) := by decide +kernel
theorem dX5_weigh_48 : decode cX5_weigh 48 = .ok (.iastore, 1) := by decide +kernel
theorem dX5_weigh_49 : decode cX5_weigh 49 = .ok (.aload_n 0, 1) := by decide +kernel
theorem dX5_weigh_50 : decode cX5_weigh 50 = .ok (.invokevirtual 99, 3) := by decide +kernel
theorem dX5_weigh_53 : decode cX5_weigh 53 = .ok (.iload_n 3, 1) := by decide +kernel
theorem dX5_weigh_54 : decode cX5_weigh 54 = .ok (.ireturn, 1) := by decide +kernel
theorem dX5_mode_0 : decode cX5_mode 0 = .ok (.iload_n 1, 1) := by decide +kernel
theorem dX5_mode_1 : decode cX5_mode 1 = .ok (.ifCond .lt 8, 3) := by decide +kernel
theorem dX5_mode_4 : decode cX5_mode 4 = .ok (.iload_n 1, 1) := by decide +kernel
theorem dX5_mode_5 : decode cX5_mode 5 = .ok (.iconst 3, 1) := by decide +kernel
theorem dX5_mode_6 : decode cX5_mode 6 = .ok (.if_icmp .lt 5, 3) := by decide +kernel
theorem dX5_mode_9 : decode cX5_mode 9 = .ok (.iconst (-1), 1) := by decide +kernel
theorem dX5_mode_10 : decode cX5_mode 10 = .ok (.ireturn, 1) := by decide +kernel
theorem dX5_mode_11 : decode cX5_mode 11 = .ok (.aload_n 0, 1) := by decide +kernel
theorem dX5_mode_12 : decode cX5_mode 12 = .ok (.getfield 19, 3) := by decide +kernel
theorem dX5_mode_15 : decode cX5_mode 15 = .ok (.getfield 192, 3) := by decide +kernel
theorem dX5_mode_18 : decode cX5_mode 18 = .ok (.istore_n 2, 1) := by decide +kernel
theorem dX5_mode_19 : decode cX5_mode 19 = .ok (.iload_n 1, 1) := by decide +kernel
theorem dX5_mode_20 : decode cX5_mode 20 = .ok (.iload_n 2, 1) := by decide +kernel
theorem dX5_mode_21 : decode cX5_mode 21 = .ok (.if_icmp .ne 6, 3) := by decide +kernel
theorem dX5_mode_24 : decode cX5_mode 24 = .ok (.bipush (-2), 2) := by decide +kernel
theorem dX5_mode_26 : decode cX5_mode 26 = .ok (.ireturn, 1) := by decide +kernel
theorem dX5_mode_27 : decode cX5_mode 27 = .ok (.aload_n 0, 1) := by decide +kernel
theorem dX5_mode_28 : decode cX5_mode 28 = .ok (.invokevirtual 160, 3) := by decide +kernel
theorem dX5_mode_31 : decode cX5_mode 31 = .ok (.aload_n 0, 1) := by decide +kernel
theorem dX5_mode_32 : decode cX5_mode 32 = .ok (.getfield 19, 3) := by decide +kernel
theorem dX5_mode_35 : decode cX5_mode 35 = .ok (.iload_n 1, 1) := by decide +kernel
theorem dX5_mode_36 : decode cX5_mode 36 = .ok (.putfield 192, 3) := by decide +kernel
theorem dX5_mode_39 : decode cX5_mode 39 = .ok (.aload_n 0, 1) := by decide +kernel
theorem dX5_mode_40 : decode cX5_mode 40 = .ok (.invokevirtual 99, 3) := by decide +kernel
theorem dX5_mode_43 : decode cX5_mode 43 = .ok (.iload_n 2, 1) := by decide +kernel
theorem dX5_mode_44 : decode cX5_mode 44 = .ok (.ireturn, 1) := by decide +kernel
theorem dX5_undo_0 : decode cX5_undo 0 = .ok (.aload_n 0, 1) := by decide +kernel
theorem dX5_undo_1 : decode cX5_undo 1 = .ok (.getfield 93, 3) := by decide +kernel
theorem dX5_undo_4 : decode cX5_undo 4 = .ok (.ifCond .ne 6, 3) := by decide +kernel
theorem dX5_undo_7 : decode cX5_undo 7 = .ok (.bipush (-2), 2) := by decide +kernel
theorem dX5_undo_9 : decode cX5_undo 9 = .ok (.ireturn, 1) := by decide +kernel
theorem dX5_undo_10 : decode cX5_undo 10 = .ok (.aload_n 0, 1) := by decide +kernel
theorem dX5_undo_11 : decode cX5_undo 11 = .ok (.aload_n 0, 1) := by decide +kernel
theorem dX5_undo_12 : decode cX5_undo 12 = .ok (.getfield 195, 3) := by decide +kernel
theorem dX5_undo_15 : decode cX5_undo 15 = .ok (.bipush 8, 2) := by decide +kernel
theorem dX5_undo_17 : decode cX5_undo 17 = .ok (.iadd, 1) := by decide +kernel
theorem dX5_undo_18 : decode cX5_undo 18 = .ok (.iconst 1, 1) := by decide +kernel
theorem dX5_undo_19 : decode cX5_undo 19 = .ok (.isub, 1) := by decide +kernel
theorem dX5_undo_20 : decode cX5_undo 20 = .ok (.bipush 8, 2) := by decide +kernel
theorem dX5_undo_22 : decode cX5_undo 22 = .ok (.irem, 1) := by decide +kernel
theorem dX5_undo_23 : decode cX5_undo 23 = .ok (.putfield 195, 3) := by decide +kernel
theorem dX5_undo_26 : decode cX5_undo 26 = .ok (.aload_n 0, 1) := by decide +kernel
theorem dX5_undo_27 : decode cX5_undo 27 = .ok (.dup, 1) := by decide +kernel
theorem dX5_undo_28 : decode cX5_undo 28 = .ok (.getfield 93, 3) := by decide +kernel
theorem dX5_undo_31 : decode cX5_undo 31 = .ok (.iconst 1, 1) := by decide +kernel
theorem dX5_undo_32 : decode cX5_undo 32 = .ok (.isub, 1) := by decide +kernel
theorem dX5_undo_33 : decode cX5_undo 33 = .ok (.putfield 93, 3) := by decide +kernel
theorem dX5_undo_36 : decode cX5_undo 36 = .ok (.aload_n 0, 1) := by decide +kernel
theorem dX5_undo_37 : decode cX5_undo 37 = .ok (.getfield 19, 3) := by decide +kernel
theorem dX5_undo_40 : decode cX5_undo 40 = .ok (.aload_n 0, 1) := by decide +kernel
theorem dX5_undo_41 : decode cX5_undo 41 = .ok (.getfield 26, 3) := by decide +kernel
theorem dX5_undo_44 : decode cX5_undo 44 = .ok (.aload_n 0, 1) := by decide +kernel
theorem dX5_undo_45 : decode cX5_undo 45 = .ok (.getfield 195, 3) := by decide +kernel
theorem dX5_undo_48 : decode cX5_undo 48 = .ok (.aaload, 1) := by decide +kernel
theorem dX5_undo_49 : decode cX5_undo 49 = .ok (.invokevirtual 89, 3) := by decide +kernel
theorem dX5_undo_52 : decode cX5_undo 52 = .ok (.aload_n 0, 1) := by decide +kernel
theorem dX5_undo_53 : decode cX5_undo 53 = .ok (.invokevirtual 99, 3) := by decide +kernel
theorem dX5_undo_56 : decode cX5_undo 56 = .ok (.aload_n 0, 1) := by decide +kernel
theorem dX5_undo_57 : decode cX5_undo 57 = .ok (.getfield 93, 3) := by decide +kernel
theorem dX5_undo_60 : decode cX5_undo 60 = .ok (.ireturn, 1) := by decide +kernel
theorem dX5_price_0 : decode cX5_price 0 = .ok (.aload_n 0, 1) := by decide +kernel
theorem dX5_price_1 : decode cX5_price 1 = .ok (.invokevirtual 198, 3) := by decide +kernel
theorem dX5_price_4 : decode cX5_price 4 = .ok (.aload_n 0, 1) := by decide +kernel
theorem dX5_price_5 : decode cX5_price 5 = .ok (.getfield 36, 3) := by decide +kernel
theorem dX5_price_8 : decode cX5_price 8 = .ok (.aload_n 0, 1) := by decide +kernel
theorem dX5_price_9 : decode cX5_price 9 = .ok (.getfield 19, 3) := by decide +kernel
theorem dX5_price_12 : decode cX5_price 12 = .ok (.invokevirtual 201, 3) := by decide +kernel
theorem dX5_price_15 : decode cX5_price 15 = .ok (.ireturn, 1) := by decide +kernel
theorem dX5_run_0 : decode cX5_run 0 = .ok (.iload_n 1, 1) := by decide +kernel
theorem dX5_run_1 : decode cX5_run 1 = .ok (.iconst (-1), 1) := by decide +kernel
theorem dX5_run_2 : decode cX5_run 2 = .ok (.if_icmp .ge 5, 3) := by decide +kernel
theorem dX5_run_5 : decode cX5_run 5 = .ok (.iconst (-1), 1) := by decide +kernel
theorem dX5_run_6 : decode cX5_run 6 = .ok (.ireturn, 1) := by decide +kernel
theorem dX5_run_7 : decode cX5_run 7 = .ok (.aload_n 0, 1) := by decide +kernel
theorem dX5_run_8 : decode cX5_run 8 = .ok (.invokevirtual 204, 3) := by decide +kernel
theorem dX5_run_11 : decode cX5_run 11 = .ok (.aload_n 0, 1) := by decide +kernel
theorem dX5_run_12 : decode cX5_run 12 = .ok (.getfield 49, 3) := by decide +kernel
theorem dX5_run_15 : decode cX5_run 15 = .ok (.invokevirtual 207, 3) := by decide +kernel
theorem dX5_run_18 : decode cX5_run 18 = .ok (.istore_n 2, 1) := by decide +kernel
theorem dX5_run_19 : decode cX5_run 19 = .ok (.iload_n 2, 1) := by decide +kernel
theorem dX5_run_20 : decode cX5_run 20 = .ok (.bipush (-4), 2) := by decide +kernel
theorem dX5_run_22 : decode cX5_run 22 = .ok (.if_icmp .eq 8, 3) := by decide +kernel
theorem dX5_run_25 : decode cX5_run 25 = .ok (.iload_n 1, 1) := by decide +kernel
theorem dX5_run_26 : decode cX5_run 26 = .ok (.iload_n 2, 1) := by decide +kernel
theorem dX5_run_27 : decode cX5_run 27 = .ok (.if_icmp .lt 6, 3) := by decide +kernel
theorem dX5_run_30 : decode cX5_run 30 = .ok (.bipush (-4), 2) := by decide +kernel
theorem dX5_run_32 : decode cX5_run 32 = .ok (.ireturn, 1) := by decide +kernel
theorem dX5_run_33 : decode cX5_run 33 = .ok (.iload_n 1, 1) := by decide +kernel
theorem dX5_run_34 : decode cX5_run 34 = .ok (.iconst (-1), 1) := by decide +kernel
theorem dX5_run_35 : decode cX5_run 35 = .ok (.if_icmp .ne 5, 3) := by decide +kernel
theorem dX5_run_38 : decode cX5_run 38 = .ok (.iload_n 2, 1) := by decide +kernel
theorem dX5_run_39 : decode cX5_run 39 = .ok (.ireturn, 1) := by decide +kernel
theorem dX5_run_40 : decode cX5_run 40 = .ok (.iload_n 1, 1) := by decide +kernel
theorem dX5_run_41 : decode cX5_run 41 = .ok (.iconst 1, 1) := by decide +kernel
theorem dX5_run_42 : decode cX5_run 42 = .ok (.iadd, 1) := by decide +kernel
theorem dX5_run_43 : decode cX5_run 43 = .ok (.aload_n 0, 1) := by decide +kernel
theorem dX5_run_44 : decode cX5_run 44 = .ok (.getfield 49, 3) := by decide +kernel
theorem dX5_run_47 : decode cX5_run 47 = .ok (.getfield 210, 3) := by decide +kernel
theorem dX5_run_50 : decode cX5_run 50 = .ok (.if_icmp .ge 18, 3) := by decide +kernel
theorem dX5_run_53 : decode cX5_run 53 = .ok (.aload_n 0, 1) := by decide +kernel
theorem dX5_run_54 : decode cX5_run 54 = .ok (.getfield 49, 3) := by decide +kernel
theorem dX5_run_57 : decode cX5_run 57 = .ok (.aload_n 0, 1) := by decide +kernel
theorem dX5_run_58 : decode cX5_run 58 = .ok (.getfield 19, 3) := by decide +kernel
theorem dX5_run_61 : decode cX5_run 61 = .ok (.aload_n 0, 1) := by decide +kernel
theorem dX5_run_62 : decode cX5_run 62 = .ok (.getfield 40, 3) := by decide +kernel
theorem dX5_run_65 : decode cX5_run 65 = .ok (.invokevirtual 213, 3) := by decide +kernel
theorem dX5_run_68 : decode cX5_run 68 = .ok (.aload_n 0, 1) := by decide +kernel
theorem dX5_run_69 : decode cX5_run 69 = .ok (.getfield 49, 3) := by decide +kernel
theorem dX5_run_72 : decode cX5_run 72 = .ok (.iload_n 1, 1) := by decide +kernel
theorem dX5_run_73 : decode cX5_run 73 = .ok (.aload_n 0, 1) := by decide +kernel
theorem dX5_run_74 : decode cX5_run 74 = .ok (.getfield 19, 3) := by decide +kernel
theorem dX5_run_77 : decode cX5_run 77 = .ok (.aload_n 0, 1) := by decide +kernel
theorem dX5_run_78 : decode cX5_run 78 = .ok (.getfield 40, 3) := by decide +kernel
theorem dX5_run_81 : decode cX5_run 81 = .ok (.invokevirtual 217, 3) := by decide +kernel
theorem dX5_run_84 : decode cX5_run 84 = .ok (.ireturn, 1) := by decide +kernel
theorem dX5_heads_0 : decode cX5_heads 0 = .ok (.aload_n 0, 1) := by decide +kernel
theorem dX5_heads_1 : decode cX5_heads 1 = .ok (.iload_n 1, 1) := by decide +kernel
theorem dX5_heads_2 : decode cX5_heads 2 = .ok (.invokevirtual 179, 3) := by decide +kernel
theorem dX5_heads_5 : decode cX5_heads 5 = .ok (.ifCond .eq 10, 3) := by decide +kernel
theorem dX5_heads_8 : decode cX5_heads 8 = .ok (.iload_n 2, 1) := by decide +kernel
theorem dX5_heads_9 : decode cX5_heads 9 = .ok (.invokestatic 157, 3) := by decide +kernel
theorem dX5_heads_12 : decode cX5_heads 12 = .ok (.ifCond .ne 5, 3) := by decide +kernel
theorem dX5_heads_15 : decode cX5_heads 15 = .ok (.iconst (-1), 1) := by decide +kernel
theorem dX5_heads_16 : decode cX5_heads 16 = .ok (.ireturn, 1) := by decide +kernel
theorem dX5_heads_17 : decode cX5_heads 17 = .ok (.aload_n 0, 1) := by decide +kernel
theorem dX5_heads_18 : decode cX5_heads 18 = .ok (.getfield 56, 3) := by decide +kernel
theorem dX5_heads_21 : decode cX5_heads 21 = .ok (.aload_n 0, 1) := by decide +kernel
theorem dX5_heads_22 : decode cX5_heads 22 = .ok (.getfield 19, 3) := by decide +kernel
theorem dX5_heads_25 : decode cX5_heads 25 = .ok (.invokevirtual 221, 3) := by decide +kernel
theorem dX5_heads_28 : decode cX5_heads 28 = .ok (.aload_n 0, 1) := by decide +kernel
theorem dX5_heads_29 : decode cX5_heads 29 = .ok (.getfield 56, 3) := by decide +kernel
theorem dX5_heads_32 : decode cX5_heads 32 = .ok (.iload_n 1, 1) := by decide +kernel
theorem dX5_heads_33 : decode cX5_heads 33 = .ok (.iload_n 2, 1) := by decide +kernel
theorem dX5_heads_34 : decode cX5_heads 34 = .ok (.invokevirtual 224, 3) := by decide +kernel
theorem dX5_heads_37 : decode cX5_heads 37 = .ok (.ifCond .eq 7, 3) := by decide +kernel
theorem dX5_heads_40 : decode cX5_heads 40 = .ok (.iconst 1, 1) := by decide +kernel
theorem dX5_heads_41 : decode cX5_heads 41 = .ok (.goto 4, 3) := by decide +kernel
theorem dX5_heads_44 : decode cX5_heads 44 = .ok (.iconst 0, 1) := by decide +kernel
theorem dX5_heads_45 : decode cX5_heads 45 = .ok (.ireturn, 1) := by decide +kernel
theorem dX5_empty_0 : decode cX5_empty 0 = .ok (.aload_n 0, 1) := by decide +kernel
theorem dX5_empty_1 : decode cX5_empty 1 = .ok (.iload_n 1, 1) := by decide +kernel
theorem dX5_empty_2 : decode cX5_empty 2 = .ok (.invokevirtual 179, 3) := by decide +kernel
theorem dX5_empty_5 : decode cX5_empty 5 = .ok (.ifCond .ne 5, 3) := by decide +kernel
theorem dX5_empty_8 : decode cX5_empty 8 = .ok (.iconst (-1), 1) := by decide +kernel
theorem dX5_empty_9 : decode cX5_empty 9 = .ok (.ireturn, 1) := by decide +kernel
theorem dX5_empty_10 : decode cX5_empty 10 = .ok (.aload_n 0, 1) := by decide +kernel
theorem dX5_empty_11 : decode cX5_empty 11 = .ok (.getfield 56, 3) := by decide +kernel
theorem dX5_empty_14 : decode cX5_empty 14 = .ok (.aload_n 0, 1) := by decide +kernel
theorem dX5_empty_15 : decode cX5_empty 15 = .ok (.getfield 19, 3) := by decide +kernel
theorem dX5_empty_18 : decode cX5_empty 18 = .ok (.invokevirtual 221, 3) := by decide +kernel
theorem dX5_empty_21 : decode cX5_empty 21 = .ok (.aload_n 0, 1) := by decide +kernel
theorem dX5_empty_22 : decode cX5_empty 22 = .ok (.getfield 56, 3) := by decide +kernel
theorem dX5_empty_25 : decode cX5_empty 25 = .ok (.getfield 228, 3) := by decide +kernel
theorem dX5_empty_28 : decode cX5_empty 28 = .ok (.iload_n 1, 1) := by decide +kernel
theorem dX5_empty_29 : decode cX5_empty 29 = .ok (.ishr, 1) := by decide +kernel
theorem dX5_empty_30 : decode cX5_empty 30 = .ok (.iconst 1, 1) := by decide +kernel
theorem dX5_empty_31 : decode cX5_empty 31 = .ok (.iand, 1) := by decide +kernel
theorem dX5_empty_32 : decode cX5_empty 32 = .ok (.ireturn, 1) := by decide +kernel
theorem dX5_stuck_0 : decode cX5_stuck 0 = .ok (.aload_n 0, 1) := by decide +kernel
theorem dX5_stuck_1 : decode cX5_stuck 1 = .ok (.getfield 56, 3) := by decide +kernel
theorem dX5_stuck_4 : decode cX5_stuck 4 = .ok (.aload_n 0, 1) := by decide +kernel
theorem dX5_stuck_5 : decode cX5_stuck 5 = .ok (.getfield 19, 3) := by decide +kernel
theorem dX5_stuck_8 : decode cX5_stuck 8 = .ok (.invokevirtual 221, 3) := by decide +kernel
theorem dX5_stuck_11 : decode cX5_stuck 11 = .ok (.aload_n 0, 1) := by decide +kernel
theorem dX5_stuck_12 : decode cX5_stuck 12 = .ok (.getfield 56, 3) := by decide +kernel
theorem dX5_stuck_15 : decode cX5_stuck 15 = .ok (.getfield 228, 3) := by decide +kernel
theorem dX5_stuck_18 : decode cX5_stuck 18 = .ok (.invokestatic 231, 3) := by decide +kernel
theorem dX5_stuck_21 : decode cX5_stuck 21 = .ok (.istore_n 1, 1) := by decide +kernel
theorem dX5_stuck_22 : decode cX5_stuck 22 = .ok (.iconst 0, 1) := by decide +kernel
theorem dX5_stuck_23 : decode cX5_stuck 23 = .ok (.istore_n 2, 1) := by decide +kernel
theorem dX5_stuck_24 : decode cX5_stuck 24 = .ok (.iload_n 2, 1) := by decide +kernel
theorem dX5_stuck_25 : decode cX5_stuck 25 = .ok (.aload_n 0, 1) := by decide +kernel
theorem dX5_stuck_26 : decode cX5_stuck 26 = .ok (.getfield 19, 3) := by decide +kernel
theorem dX5_stuck_29 : decode cX5_stuck 29 = .ok (.getfield 236, 3) := by decide +kernel
theorem dX5_stuck_32 : decode cX5_stuck 32 = .ok (.if_icmp .ge 49, 3) := by decide +kernel
theorem dX5_stuck_35 : decode cX5_stuck 35 = .ok (.iconst 0, 1) := by decide +kernel
theorem dX5_stuck_36 : decode cX5_stuck 36 = .ok (.istore_n 3, 1) := by decide +kernel
theorem dX5_stuck_37 : decode cX5_stuck 37 = .ok (.iload_n 3, 1) := by decide +kernel
theorem dX5_stuck_38 : decode cX5_stuck 38 = .ok (.iconst 4, 1) := by decide +kernel
theorem dX5_stuck_39 : decode cX5_stuck 39 = .ok (.if_icmp .ge 36, 3) := by decide +kernel
theorem dX5_stuck_42 : decode cX5_stuck 42 = .ok (.aload_n 0, 1) := by decide +kernel
theorem dX5_stuck_43 : decode cX5_stuck 43 = .ok (.getfield 56, 3) := by decide +kernel
theorem dX5_stuck_46 : decode cX5_stuck 46 = .ok (.iload_n 2, 1) := by decide +kernel
theorem dX5_stuck_47 : decode cX5_stuck 47 = .ok (.iload_n 3, 1) := by decide +kernel
theorem dX5_stuck_48 : decode cX5_stuck 48 = .ok (.invokevirtual 224, 3) := by decide +kernel
theorem dX5_stuck_51 : decode cX5_stuck 51 = .ok (.ifCond .eq 18, 3) := by decide +kernel
theorem dX5_stuck_54 : decode cX5_stuck 54 = .ok (.aload_n 0, 1) := by decide +kernel
theorem dX5_stuck_55 : decode cX5_stuck 55 = .ok (.getfield 19, 3) := by decide +kernel
theorem dX5_stuck_58 : decode cX5_stuck 58 = .ok (.iload_n 2, 1) := by decide +kernel
theorem dX5_stuck_59 : decode cX5_stuck 59 = .ok (.iload_n 3, 1) := by decide +kernel
theorem dX5_stuck_60 : decode cX5_stuck 60 = .ok (.invokevirtual 239, 3) := by decide +kernel
theorem dX5_stuck_63 : decode cX5_stuck 63 = .ok (.ifCond .ne 6, 3) := by decide +kernel
theorem dX5_stuck_66 : decode cX5_stuck 66 = .ok (.iinc 1 1, 3) := by decide +kernel
theorem dX5_stuck_69 : decode cX5_stuck 69 = .ok (.iinc 3 1, 3) := by decide +kernel
theorem dX5_stuck_72 : decode cX5_stuck 72 = .ok (.goto (-35), 3) := by decide +kernel
theorem dX5_stuck_75 : decode cX5_stuck 75 = .ok (.iinc 2 1, 3) := by decide +kernel
theorem dX5_stuck_78 : decode cX5_stuck 78 = .ok (.goto (-54), 3) := by decide +kernel
theorem dX5_stuck_81 : decode cX5_stuck 81 = .ok (.iload_n 1, 1) := by decide +kernel
theorem dX5_stuck_82 : decode cX5_stuck 82 = .ok (.ireturn, 1) := by decide +kernel
theorem dX5_edge_0 : decode cX5_edge 0 = .ok (.aload_n 0, 1) := by decide +kernel
theorem dX5_edge_1 : decode cX5_edge 1 = .ok (.invokevirtual 198, 3) := by decide +kernel
theorem dX5_edge_4 : decode cX5_edge 4 = .ok (.aload_n 0, 1) := by decide +kernel
theorem dX5_edge_5 : decode cX5_edge 5 = .ok (.getfield 36, 3) := by decide +kernel
theorem dX5_edge_8 : decode cX5_edge 8 = .ok (.iload_n 1, 1) := by decide +kernel
theorem dX5_edge_9 : decode cX5_edge 9 = .ok (.invokevirtual 243, 3) := by decide +kernel
theorem dX5_edge_12 : decode cX5_edge 12 = .ok (.ifCond .eq 21, 3) := by decide +kernel
theorem dX5_edge_15 : decode cX5_edge 15 = .ok (.iload_n 2, 1) := by decide +kernel
theorem dX5_edge_16 : decode cX5_edge 16 = .ok (.invokestatic 157, 3) := by decide +kernel
theorem dX5_edge_19 : decode cX5_edge 19 = .ok (.ifCond .eq 14, 3) := by decide +kernel
theorem dX5_edge_22 : decode cX5_edge 22 = .ok (.aload_n 0, 1) := by decide +kernel
theorem dX5_edge_23 : decode cX5_edge 23 = .ok (.getfield 36, 3) := by decide +kernel
theorem dX5_edge_26 : decode cX5_edge 26 = .ok (.iload_n 3, 1) := by decide +kernel
theorem dX5_edge_27 : decode cX5_edge 27 = .ok (.invokevirtual 243, 3) := by decide +kernel
theorem dX5_edge_30 : decode cX5_edge 30 = .ok (.ifCond .ne 5, 3) := by decide +kernel
theorem dX5_edge_33 : decode cX5_edge 33 = .ok (.iconst (-1), 1) := by decide +kernel
theorem dX5_edge_34 : decode cX5_edge 34 = .ok (.ireturn, 1) := by decide +kernel
theorem dX5_edge_35 : decode cX5_edge 35 = .ok (.aload_n 0, 1) := by decide +kernel
theorem dX5_edge_36 : decode cX5_edge 36 = .ok (.getfield 36, 3) := by decide +kernel
theorem dX5_edge_39 : decode cX5_edge 39 = .ok (.getfield 246, 3) := by decide +kernel
theorem dX5_edge_42 : decode cX5_edge 42 = .ok (.iload_n 1, 1) := by decide +kernel
theorem dX5_edge_43 : decode cX5_edge 43 = .ok (.iload_n 2, 1) := by decide +kernel
theorem dX5_edge_44 : decode cX5_edge 44 = .ok (.iload_n 3, 1) := by decide +kernel
theorem dX5_edge_45 : decode cX5_edge 45 = .ok (.invokestatic 250, 3) := by decide +kernel
theorem dX5_edge_48 : decode cX5_edge 48 = .ok (.laload, 1) := by decide +kernel
theorem dX5_edge_49 : decode cX5_edge 49 = .ok (.lstore 4, 2) := by decide +kernel
theorem dX5_edge_51 : decode cX5_edge 51 = .ok (.lload 4, 2) := by decide +kernel
theorem dX5_edge_53 : decode cX5_edge 53 = .ok (.ldc2_w 254, 3) := by decide +kernel
theorem dX5_edge_56 : decode cX5_edge 56 = .ok (.lcmp, 1) := by decide +kernel
theorem dX5_edge_57 : decode cX5_edge 57 = .ok (.ifCond .ge 9, 3) := by decide +kernel
theorem dX5_edge_60 : decode cX5_edge 60 = .ok (.lload 4, 2) := by decide +kernel
theorem dX5_edge_62 : decode cX5_edge 62 = .ok (.l2i, 1) := by decide +kernel
theorem dX5_edge_63 : decode cX5_edge 63 = .ok (.goto 5, 3) := by decide +kernel
theorem dX5_edge_66 : decode cX5_edge 66 = .ok (.bipush (-4), 2) := by decide +kernel
theorem dX5_edge_68 : decode cX5_edge 68 = .ok (.ireturn, 1) := by decide +kernel
theorem dX5_automaton_0 : decode cX5_automaton 0 = .ok (.aload_n 0, 1) := by decide +kernel
theorem dX5_automaton_1 : decode cX5_automaton 1 = .ok (.invokevirtual 198, 3) := by decide +kernel
theorem dX5_automaton_4 : decode cX5_automaton 4 = .ok (.iload_n 1, 1) := by decide +kernel
theorem dX5_automaton_5 : decode cX5_automaton 5 = .ok (.tableswitch 63 0 3 #[31, 39, 47, 55], 31) := by decide +kernel
theorem dX5_automaton_36 : decode cX5_automaton 36 = .ok (.aload_n 0, 1) := by decide +kernel
theorem dX5_automaton_37 : decode cX5_automaton 37 = .ok (.getfield 36, 3) := by decide +kernel
theorem dX5_automaton_40 : decode cX5_automaton 40 = .ok (.getfield 256, 3) := by decide +kernel
theorem dX5_automaton_43 : decode cX5_automaton 43 = .ok (.ireturn, 1) := by decide +kernel
theorem dX5_automaton_44 : decode cX5_automaton 44 = .ok (.aload_n 0, 1) := by decide +kernel
theorem dX5_automaton_45 : decode cX5_automaton 45 = .ok (.getfield 36, 3) := by decide +kernel
theorem dX5_automaton_48 : decode cX5_automaton 48 = .ok (.getfield 259, 3) := by decide +kernel
theorem dX5_automaton_51 : decode cX5_automaton 51 = .ok (.ireturn, 1) := by decide +kernel
theorem dX5_automaton_52 : decode cX5_automaton 52 = .ok (.aload_n 0, 1) := by decide +kernel
theorem dX5_automaton_53 : decode cX5_automaton 53 = .ok (.getfield 36, 3) := by decide +kernel
theorem dX5_automaton_56 : decode cX5_automaton 56 = .ok (.getfield 262, 3) := by decide +kernel
theorem dX5_automaton_59 : decode cX5_automaton 59 = .ok (.ireturn, 1) := by decide +kernel
theorem dX5_automaton_60 : decode cX5_automaton 60 = .ok (.aload_n 0, 1) := by decide +kernel
theorem dX5_automaton_61 : decode cX5_automaton 61 = .ok (.getfield 36, 3) := by decide +kernel
theorem dX5_automaton_64 : decode cX5_automaton 64 = .ok (.getfield 265, 3) := by decide +kernel
theorem dX5_automaton_67 : decode cX5_automaton 67 = .ok (.ireturn, 1) := by decide +kernel
theorem dX5_automaton_68 : decode cX5_automaton 68 = .ok (.iconst (-1), 1) := by decide +kernel
theorem dX5_automaton_69 : decode cX5_automaton 69 = .ok (.ireturn, 1) := by decide +kernel
theorem dX5_needed_0 : decode cX5_needed 0 = .ok (.aload_n 0, 1) := by decide +kernel
theorem dX5_needed_1 : decode cX5_needed 1 = .ok (.invokevirtual 268, 3) := by decide +kernel
theorem dX5_needed_4 : decode cX5_needed 4 = .ok (.bipush (-4), 2) := by decide +kernel
theorem dX5_needed_6 : decode cX5_needed 6 = .ok (.if_icmp .ne 5, 3) := by decide +kernel
theorem dX5_needed_9 : decode cX5_needed 9 = .ok (.iconst 0, 1) := by decide +kernel
theorem dX5_needed_10 : decode cX5_needed 10 = .ok (.ireturn, 1) := by decide +kernel
theorem dX5_needed_11 : decode cX5_needed 11 = .ok (.iconst 0, 1) := by decide +kernel
theorem dX5_needed_12 : decode cX5_needed 12 = .ok (.istore_n 1, 1) := by decide +kernel
theorem dX5_needed_13 : decode cX5_needed 13 = .ok (.iconst 0, 1) := by decide +kernel
theorem dX5_needed_14 : decode cX5_needed 14 = .ok (.istore_n 2, 1) := by decide +kernel
theorem dX5_needed_15 : decode cX5_needed 15 = .ok (.iload_n 2, 1) := by decide +kernel
theorem dX5_needed_16 : decode cX5_needed 16 = .ok (.aload_n 0, 1) := by decide +kernel
theorem dX5_needed_17 : decode cX5_needed 17 = .ok (.getfield 19, 3) := by decide +kernel
theorem dX5_needed_20 : decode cX5_needed 20 = .ok (.getfield 86, 3) := by decide +kernel
theorem dX5_needed_23 : decode cX5_needed 23 = .ok (.if_icmp .ge 45, 3) := by decide +kernel
theorem dX5_needed_26 : decode cX5_needed 26 = .ok (.aload_n 0, 1) := by decide +kernel
theorem dX5_needed_27 : decode cX5_needed 27 = .ok (.getfield 43, 3) := by decide +kernel
theorem dX5_needed_30 : decode cX5_needed 30 = .ok (.aload_n 0, 1) := by decide +kernel
theorem dX5_needed_31 : decode cX5_needed 31 = .ok (.getfield 19, 3) := by decide +kernel
theorem dX5_needed_34 : decode cX5_needed 34 = .ok (.iconst 2, 1) := by decide +kernel
theorem dX5_needed_35 : decode cX5_needed 35 = .ok (.iload_n 2, 1) := by decide +kernel
theorem dX5_needed_36 : decode cX5_needed 36 = .ok (.iconst (-1), 1) := by decide +kernel
theorem dX5_needed_37 : decode cX5_needed 37 = .ok (.invokevirtual 271, 3) := by decide +kernel
theorem dX5_needed_40 : decode cX5_needed 40 = .ok (.aload_n 0, 1) := by decide +kernel
theorem dX5_needed_41 : decode cX5_needed 41 = .ok (.getfield 43, 3) := by decide +kernel
theorem dX5_needed_44 : decode cX5_needed 44 = .ok (.aload_n 0, 1) := by decide +kernel
theorem dX5_needed_45 : decode cX5_needed 45 = .ok (.getfield 19, 3) := by decide +kernel
theorem dX5_needed_48 : decode cX5_needed 48 = .ok (.invokevirtual 201, 3) := by decide +kernel
theorem dX5_needed_51 : decode cX5_needed 51 = .ok (.bipush (-4), 2) := by decide +kernel
theorem dX5_needed_53 : decode cX5_needed 53 = .ok (.if_icmp .ne 9, 3) := by decide +kernel
theorem dX5_needed_56 : decode cX5_needed 56 = .ok (.iload_n 1, 1) := by decide +kernel
theorem dX5_needed_57 : decode cX5_needed 57 = .ok (.iconst 1, 1) := by decide +kernel
theorem dX5_needed_58 : decode cX5_needed 58 = .ok (.iload_n 2, 1) := by decide +kernel
theorem dX5_needed_59 : decode cX5_needed 59 = .ok (.ishl, 1) := by decide +kernel
theorem dX5_needed_60 : decode cX5_needed 60 = .ok (.ior, 1) := by decide +kernel
theorem dX5_needed_61 : decode cX5_needed 61 = .ok (.istore_n 1, 1) := by decide +kernel
theorem dX5_needed_62 : decode cX5_needed 62 = .ok (.iinc 2 1, 3) := by decide +kernel
theorem dX5_needed_65 : decode cX5_needed 65 = .ok (.goto (-50), 3) := by decide +kernel
theorem dX5_needed_68 : decode cX5_needed 68 = .ok (.iload_n 1, 1) := by decide +kernel
theorem dX5_needed_69 : decode cX5_needed 69 = .ok (.ireturn, 1) := by decide +kernel
theorem dX5_dear_0 : decode cX5_dear 0 = .ok (.aload_n 0, 1) := by decide +kernel
theorem dX5_dear_1 : decode cX5_dear 1 = .ok (.iload_n 1, 1) := by decide +kernel
theorem dX5_dear_2 : decode cX5_dear 2 = .ok (.invokevirtual 102, 3) := by decide +kernel
theorem dX5_dear_5 : decode cX5_dear 5 = .ok (.ifCond .ne 5, 3) := by decide +kernel
theorem dX5_dear_8 : decode cX5_dear 8 = .ok (.iconst (-1), 1) := by decide +kernel
theorem dX5_dear_9 : decode cX5_dear 9 = .ok (.ireturn, 1) := by decide +kernel
theorem dX5_dear_10 : decode cX5_dear 10 = .ok (.aload_n 0, 1) := by decide +kernel
theorem dX5_dear_11 : decode cX5_dear 11 = .ok (.invokevirtual 268, 3) := by decide +kernel
theorem dX5_dear_14 : decode cX5_dear 14 = .ok (.istore_n 2, 1) := by decide +kernel
theorem dX5_dear_15 : decode cX5_dear 15 = .ok (.iload_n 2, 1) := by decide +kernel
theorem dX5_dear_16 : decode cX5_dear 16 = .ok (.bipush (-4), 2) := by decide +kernel
theorem dX5_dear_18 : decode cX5_dear 18 = .ok (.if_icmp .ne 6, 3) := by decide +kernel
theorem dX5_dear_21 : decode cX5_dear 21 = .ok (.bipush (-4), 2) := by decide +kernel
theorem dX5_dear_23 : decode cX5_dear 23 = .ok (.ireturn, 1) := by decide +kernel
theorem dX5_dear_24 : decode cX5_dear 24 = .ok (.aload_n 0, 1) := by decide +kernel
theorem dX5_dear_25 : decode cX5_dear 25 = .ok (.iload_n 1, 1) := by decide +kernel
theorem dX5_dear_26 : decode cX5_dear 26 = .ok (.bipush 9, 2) := by decide +kernel
theorem dX5_dear_28 : decode cX5_dear 28 = .ok (.invokevirtual 275, 3) := by decide +kernel
theorem dX5_dear_31 : decode cX5_dear 31 = .ok (.iload_n 2, 1) := by decide +kernel
theorem dX5_dear_32 : decode cX5_dear 32 = .ok (.if_icmp .ne 6, 3) := by decide +kernel
theorem dX5_dear_35 : decode cX5_dear 35 = .ok (.bipush 9, 2) := by decide +kernel
theorem dX5_dear_37 : decode cX5_dear 37 = .ok (.ireturn, 1) := by decide +kernel
theorem dX5_dear_38 : decode cX5_dear 38 = .ok (.aload_n 0, 1) := by decide +kernel
theorem dX5_dear_39 : decode cX5_dear 39 = .ok (.getfield 19, 3) := by decide +kernel
theorem dX5_dear_42 : decode cX5_dear 42 = .ok (.getfield 129, 3) := by decide +kernel
theorem dX5_dear_45 : decode cX5_dear 45 = .ok (.iload_n 1, 1) := by decide +kernel
theorem dX5_dear_46 : decode cX5_dear 46 = .ok (.iaload, 1) := by decide +kernel
theorem dX5_dear_47 : decode cX5_dear 47 = .ok (.iconst 1, 1) := by decide +kernel
theorem dX5_dear_48 : decode cX5_dear 48 = .ok (.iadd, 1) := by decide +kernel
theorem dX5_dear_49 : decode cX5_dear 49 = .ok (.istore_n 3, 1) := by decide +kernel
theorem dX5_dear_50 : decode cX5_dear 50 = .ok (.iload_n 3, 1) := by decide +kernel
theorem dX5_dear_51 : decode cX5_dear 51 = .ok (.bipush 9, 2) := by decide +kernel
theorem dX5_dear_53 : decode cX5_dear 53 = .ok (.if_icmp .ge 23, 3) := by decide +kernel
theorem dX5_dear_56 : decode cX5_dear 56 = .ok (.aload_n 0, 1) := by decide +kernel
theorem dX5_dear_57 : decode cX5_dear 57 = .ok (.iload_n 1, 1) := by decide +kernel
theorem dX5_dear_58 : decode cX5_dear 58 = .ok (.iload_n 3, 1) := by decide +kernel
theorem dX5_dear_59 : decode cX5_dear 59 = .ok (.invokevirtual 275, 3) := by decide +kernel
theorem dX5_dear_62 : decode cX5_dear 62 = .ok (.iload_n 2, 1) := by decide +kernel
theorem dX5_dear_63 : decode cX5_dear 63 = .ok (.if_icmp .eq 7, 3) := by decide +kernel
theorem dX5_dear_66 : decode cX5_dear 66 = .ok (.iload_n 3, 1) := by decide +kernel
theorem dX5_dear_67 : decode cX5_dear 67 = .ok (.iconst 1, 1) := by decide +kernel
theorem dX5_dear_68 : decode cX5_dear 68 = .ok (.isub, 1) := by decide +kernel
theorem dX5_dear_69 : decode cX5_dear 69 = .ok (.ireturn, 1) := by decide +kernel
theorem dX5_dear_70 : decode cX5_dear 70 = .ok (.iinc 3 1, 3) := by decide +kernel
theorem dX5_dear_73 : decode cX5_dear 73 = .ok (.goto (-23), 3) := by decide +kernel
theorem dX5_dear_76 : decode cX5_dear 76 = .ok (.bipush 8, 2) := by decide +kernel
theorem dX5_dear_78 : decode cX5_dear 78 = .ok (.ireturn, 1) := by decide +kernel
theorem dX5_walk_0 : decode cX5_walk 0 = .ok (.iload_n 1, 1) := by decide +kernel
theorem dX5_walk_1 : decode cX5_walk 1 = .ok (.ifCond .lt 30, 3) := by decide +kernel
theorem dX5_walk_4 : decode cX5_walk 4 = .ok (.iload_n 1, 1) := by decide +kernel
theorem dX5_walk_5 : decode cX5_walk 5 = .ok (.sipush 9999, 3) := by decide +kernel
theorem dX5_walk_8 : decode cX5_walk 8 = .ok (.if_icmp .gt 23, 3) := by decide +kernel
theorem dX5_walk_11 : decode cX5_walk 11 = .ok (.iload_n 2, 1) := by decide +kernel
theorem dX5_walk_12 : decode cX5_walk 12 = .ok (.iconst 1, 1) := by decide +kernel
theorem dX5_walk_13 : decode cX5_walk 13 = .ok (.if_icmp .lt 18, 3) := by decide +kernel
theorem dX5_walk_16 : decode cX5_walk 16 = .ok (.iload_n 2, 1) := by decide +kernel
theorem dX5_walk_17 : decode cX5_walk 17 = .ok (.bipush 60, 2) := by decide +kernel
theorem dX5_walk_19 : decode cX5_walk 19 = .ok (.if_icmp .gt 12, 3) := by decide +kernel
theorem dX5_walk_22 : decode cX5_walk 22 = .ok (.iload_n 3, 1) := by decide +kernel
theorem dX5_walk_23 : decode cX5_walk 23 = .ok (.ifCond .lt 8, 3) := by decide +kernel
theorem dX5_walk_26 : decode cX5_walk 26 = .ok (.iload_n 3, 1) := by decide +kernel
theorem dX5_walk_27 : decode cX5_walk 27 = .ok (.iconst 2, 1) := by decide +kernel
theorem dX5_walk_28 : decode cX5_walk 28 = .ok (.if_icmp .le 5, 3) := by decide +kernel
theorem dX5_walk_31 : decode cX5_walk 31 = .ok (.iconst (-1), 1) := by decide +kernel
theorem dX5_walk_32 : decode cX5_walk 32 = .ok (.ireturn, 1) := by decide +kernel
theorem dX5_walk_33 : decode cX5_walk 33 = .ok (.aload_n 0, 1) := by decide +kernel
theorem dX5_walk_34 : decode cX5_walk 34 = .ok (.getfield 23, 3) := by decide +kernel
theorem dX5_walk_37 : decode cX5_walk 37 = .ok (.aload_n 0, 1) := by decide +kernel
theorem dX5_walk_38 : decode cX5_walk 38 = .ok (.getfield 19, 3) := by decide +kernel
theorem dX5_walk_41 : decode cX5_walk 41 = .ok (.invokevirtual 89, 3) := by decide +kernel
theorem dX5_walk_44 : decode cX5_walk 44 = .ok (.iconst 0, 1) := by decide +kernel
theorem dX5_walk_45 : decode cX5_walk 45 = .ok (.istore 4, 2) := by decide +kernel
theorem dX5_walk_47 : decode cX5_walk 47 = .ok (.iconst 0, 1) := by decide +kernel
theorem dX5_walk_48 : decode cX5_walk 48 = .ok (.istore 5, 2) := by decide +kernel
theorem dX5_walk_50 : decode cX5_walk 50 = .ok (.iload 5, 2) := by decide +kernel
theorem dX5_walk_52 : decode cX5_walk 52 = .ok (.iload_n 2, 1) := by decide +kernel
theorem dX5_walk_53 : decode cX5_walk 53 = .ok (.if_icmp .ge 59, 3) := by decide +kernel
theorem dX5_walk_56 : decode cX5_walk 56 = .ok (.aload_n 0, 1) := by decide +kernel
theorem dX5_walk_57 : decode cX5_walk 57 = .ok (.getfield 23, 3) := by decide +kernel
theorem dX5_walk_60 : decode cX5_walk 60 = .ok (.iload_n 1, 1) := by decide +kernel
theorem dX5_walk_61 : decode cX5_walk 61 = .ok (.iload 5, 2) := by decide +kernel
theorem dX5_walk_63 : decode cX5_walk 63 = .ok (.invokestatic 278, 3) := by decide +kernel
theorem dX5_walk_66 : decode cX5_walk 66 = .ok (.invokevirtual 281, 3) := by decide +kernel
theorem dX5_walk_69 : decode cX5_walk 69 = .ok (.istore 6, 2) := by decide +kernel
theorem dX5_walk_71 : decode cX5_walk 71 = .ok (.iload 6, 2) := by decide +kernel
theorem dX5_walk_73 : decode cX5_walk 73 = .ok (.iconst (-1), 1) := by decide +kernel
theorem dX5_walk_74 : decode cX5_walk 74 = .ok (.if_icmp .eq 38, 3) := by decide +kernel
theorem dX5_walk_77 : decode cX5_walk 77 = .ok (.aload_n 0, 1) := by decide +kernel
theorem dX5_walk_78 : decode cX5_walk 78 = .ok (.getfield 23, 3) := by decide +kernel
theorem dX5_walk_81 : decode cX5_walk 81 = .ok (.iload 6, 2) := by decide +kernel
theorem dX5_walk_83 : decode cX5_walk 83 = .ok (.invokevirtual 173, 3) := by decide +kernel
theorem dX5_walk_86 : decode cX5_walk 86 = .ok (.bipush 12, 2) := by decide +kernel
theorem dX5_walk_88 : decode cX5_walk 88 = .ok (.if_icmp .le 6, 3) := by decide +kernel
theorem dX5_walk_91 : decode cX5_walk 91 = .ok (.goto 21, 3) := by decide +kernel
theorem dX5_walk_94 : decode cX5_walk 94 = .ok (.aload_n 0, 1) := by decide +kernel
theorem dX5_walk_95 : decode cX5_walk 95 = .ok (.getfield 23, 3) := by decide +kernel
theorem dX5_walk_98 : decode cX5_walk 98 = .ok (.iload 6, 2) := by decide +kernel
theorem dX5_walk_100 : decode cX5_walk 100 = .ok (.invokevirtual 176, 3) := by decide +kernel
theorem dX5_walk_103 : decode cX5_walk 103 = .ok (.iinc 4 1, 3) := by decide +kernel
theorem dX5_walk_106 : decode cX5_walk 106 = .ok (.iinc 5 1, 3) := by decide +kernel
theorem dX5_walk_109 : decode cX5_walk 109 = .ok (.goto (-59), 3) := by decide +kernel
theorem dX5_walk_112 : decode cX5_walk 112 = .ok (.iload_n 3, 1) := by decide +kernel
theorem dX5_walk_113 : decode cX5_walk 113 = .ok (.ifCond .ne 6, 3) := by decide +kernel
theorem dX5_walk_116 : decode cX5_walk 116 = .ok (.iload 4, 2) := by decide +kernel
theorem dX5_walk_118 : decode cX5_walk 118 = .ok (.ireturn, 1) := by decide +kernel
theorem dX5_walk_119 : decode cX5_walk 119 = .ok (.iload_n 3, 1) := by decide +kernel
theorem dX5_walk_120 : decode cX5_walk 120 = .ok (.iconst 1, 1) := by decide +kernel
theorem dX5_walk_121 : decode cX5_walk 121 = .ok (.if_icmp .ne 13, 3) := by decide +kernel
theorem dX5_walk_124 : decode cX5_walk 124 = .ok (.aload_n 0, 1) := by decide +kernel
theorem dX5_walk_125 : decode cX5_walk 125 = .ok (.getfield 23, 3) := by decide +kernel
theorem dX5_walk_128 : decode cX5_walk 128 = .ok (.getfield 151, 3) := by decide +kernel
theorem dX5_walk_131 : decode cX5_walk 131 = .ok (.goto 10, 3) := by decide +kernel
theorem dX5_walk_134 : decode cX5_walk 134 = .ok (.aload_n 0, 1) := by decide +kernel
theorem dX5_walk_135 : decode cX5_walk 135 = .ok (.getfield 23, 3) := by decide +kernel
theorem dX5_walk_138 : decode cX5_walk 138 = .ok (.getfield 148, 3) := by decide +kernel
theorem dX5_walk_141 : decode cX5_walk 141 = .ok (.ireturn, 1) := by decide +kernel
theorem dX5_keep_0 : decode cX5_keep 0 = .ok (.aload_n 0, 1) := by decide +kernel
theorem dX5_keep_1 : decode cX5_keep 1 = .ok (.getfield 96, 3) := by decide +kernel
theorem dX5_keep_4 : decode cX5_keep 4 = .ok (.iconst 2, 1) := by decide +kernel
theorem dX5_keep_5 : decode cX5_keep 5 = .ok (.if_icmp .lt 6, 3) := by decide +kernel
theorem dX5_keep_8 : decode cX5_keep 8 = .ok (.bipush (-3), 2) := by decide +kernel
theorem dX5_keep_10 : decode cX5_keep 10 = .ok (.ireturn, 1) := by decide +kernel
theorem dX5_keep_11 : decode cX5_keep 11 = .ok (.aload_n 0, 1) := by decide +kernel
theorem dX5_keep_12 : decode cX5_keep 12 = .ok (.getfield 30, 3) := by decide +kernel
theorem dX5_keep_15 : decode cX5_keep 15 = .ok (.aload_n 0, 1) := by decide +kernel
theorem dX5_keep_16 : decode cX5_keep 16 = .ok (.getfield 96, 3) := by decide +kernel
theorem dX5_keep_19 : decode cX5_keep 19 = .ok (.aaload, 1) := by decide +kernel
theorem dX5_keep_20 : decode cX5_keep 20 = .ok (.aload_n 0, 1) := by decide +kernel
theorem dX5_keep_21 : decode cX5_keep 21 = .ok (.getfield 19, 3) := by decide +kernel
theorem dX5_keep_24 : decode cX5_keep 24 = .ok (.invokevirtual 89, 3) := by decide +kernel
theorem dX5_keep_27 : decode cX5_keep 27 = .ok (.aload_n 0, 1) := by decide +kernel
theorem dX5_keep_28 : decode cX5_keep 28 = .ok (.dup, 1) := by decide +kernel
theorem dX5_keep_29 : decode cX5_keep 29 = .ok (.getfield 96, 3) := by decide +kernel
theorem dX5_keep_32 : decode cX5_keep 32 = .ok (.iconst 1, 1) := by decide +kernel
theorem dX5_keep_33 : decode cX5_keep 33 = .ok (.iadd, 1) := by decide +kernel
theorem dX5_keep_34 : decode cX5_keep 34 = .ok (.putfield 96, 3) := by decide +kernel
theorem dX5_keep_37 : decode cX5_keep 37 = .ok (.aload_n 0, 1) := by decide +kernel
theorem dX5_keep_38 : decode cX5_keep 38 = .ok (.getfield 96, 3) := by decide +kernel
theorem dX5_keep_41 : decode cX5_keep 41 = .ok (.ireturn, 1) := by decide +kernel
theorem dX5_back_0 : decode cX5_back 0 = .ok (.aload_n 0, 1) := by decide +kernel
theorem dX5_back_1 : decode cX5_back 1 = .ok (.getfield 96, 3) := by decide +kernel
theorem dX5_back_4 : decode cX5_back 4 = .ok (.ifCond .ne 6, 3) := by decide +kernel
theorem dX5_back_7 : decode cX5_back 7 = .ok (.bipush (-2), 2) := by decide +kernel
theorem dX5_back_9 : decode cX5_back 9 = .ok (.ireturn, 1) := by decide +kernel
theorem dX5_back_10 : decode cX5_back 10 = .ok (.aload_n 0, 1) := by decide +kernel
theorem dX5_back_11 : decode cX5_back 11 = .ok (.dup, 1) := by decide +kernel
theorem dX5_back_12 : decode cX5_back 12 = .ok (.getfield 96, 3) := by decide +kernel
theorem dX5_back_15 : decode cX5_back 15 = .ok (.iconst 1, 1) := by decide +kernel
theorem dX5_back_16 : decode cX5_back 16 = .ok (.isub, 1) := by decide +kernel
theorem dX5_back_17 : decode cX5_back 17 = .ok (.putfield 96, 3) := by decide +kernel
theorem dX5_back_20 : decode cX5_back 20 = .ok (.aload_n 0, 1) := by decide +kernel
theorem dX5_back_21 : decode cX5_back 21 = .ok (.getfield 19, 3) := by decide +kernel
theorem dX5_back_24 : decode cX5_back 24 = .ok (.aload_n 0, 1) := by decide +kernel
theorem dX5_back_25 : decode cX5_back 25 = .ok (.getfield 30, 3) := by decide +kernel
theorem dX5_back_28 : decode cX5_back 28 = .ok (.aload_n 0, 1) := by decide +kernel
theorem dX5_back_29 : decode cX5_back 29 = .ok (.getfield 96, 3) := by decide +kernel
theorem dX5_back_32 : decode cX5_back 32 = .ok (.aaload, 1) := by decide +kernel
theorem dX5_back_33 : decode cX5_back 33 = .ok (.invokevirtual 89, 3) := by decide +kernel
theorem dX5_back_36 : decode cX5_back 36 = .ok (.aload_n 0, 1) := by decide +kernel
theorem dX5_back_37 : decode cX5_back 37 = .ok (.iconst 0, 1) := by decide +kernel
theorem dX5_back_38 : decode cX5_back 38 = .ok (.putfield 93, 3) := by decide +kernel
theorem dX5_back_41 : decode cX5_back 41 = .ok (.aload_n 0, 1) := by decide +kernel
theorem dX5_back_42 : decode cX5_back 42 = .ok (.invokevirtual 99, 3) := by decide +kernel
theorem dX5_back_45 : decode cX5_back 45 = .ok (.aload_n 0, 1) := by decide +kernel
theorem dX5_back_46 : decode cX5_back 46 = .ok (.getfield 96, 3) := by decide +kernel
theorem dX5_back_49 : decode cX5_back 49 = .ok (.ireturn, 1) := by decide +kernel
theorem dX5_count_0 : decode cX5_count 0 = .ok (.iload_n 1, 1) := by decide +kernel
theorem dX5_count_1 : decode cX5_count 1 = .ok (.tableswitch 93 0 6 #[43, 51, 59, 67, 75, 80, 85], 43) := by decide +kernel
theorem dX5_count_44 : decode cX5_count 44 = .ok (.aload_n 0, 1) := by decide +kernel
theorem dX5_count_45 : decode cX5_count 45 = .ok (.getfield 19, 3) := by decide +kernel
theorem dX5_count_48 : decode cX5_count 48 = .ok (.getfield 236, 3) := by decide +kernel
theorem dX5_count_51 : decode cX5_count 51 = .ok (.ireturn, 1) := by decide +kernel
theorem dX5_count_52 : decode cX5_count 52 = .ok (.aload_n 0, 1) := by decide +kernel
theorem dX5_count_53 : decode cX5_count 53 = .ok (.getfield 19, 3) := by decide +kernel
theorem dX5_count_56 : decode cX5_count 56 = .ok (.getfield 86, 3) := by decide +kernel
theorem dX5_count_59 : decode cX5_count 59 = .ok (.ireturn, 1) := by decide +kernel
theorem dX5_count_60 : decode cX5_count 60 = .ok (.aload_n 0, 1) := by decide +kernel
theorem dX5_count_61 : decode cX5_count 61 = .ok (.getfield 19, 3) := by decide +kernel
theorem dX5_count_64 : decode cX5_count 64 = .ok (.getfield 132, 3) := by decide +kernel
theorem dX5_count_67 : decode cX5_count 67 = .ok (.ireturn, 1) := by decide +kernel
theorem dX5_count_68 : decode cX5_count 68 = .ok (.aload_n 0, 1) := by decide +kernel
theorem dX5_count_69 : decode cX5_count 69 = .ok (.getfield 19, 3) := by decide +kernel
theorem dX5_count_72 : decode cX5_count 72 = .ok (.getfield 192, 3) := by decide +kernel
theorem dX5_count_75 : decode cX5_count 75 = .ok (.ireturn, 1) := by decide +kernel
theorem dX5_count_76 : decode cX5_count 76 = .ok (.aload_n 0, 1) := by decide +kernel
theorem dX5_count_77 : decode cX5_count 77 = .ok (.getfield 93, 3) := by decide +kernel
theorem dX5_count_80 : decode cX5_count 80 = .ok (.ireturn, 1) := by decide +kernel
theorem dX5_count_81 : decode cX5_count 81 = .ok (.aload_n 0, 1) := by decide +kernel
theorem dX5_count_82 : decode cX5_count 82 = .ok (.getfield 96, 3) := by decide +kernel
theorem dX5_count_85 : decode cX5_count 85 = .ok (.ireturn, 1) := by decide +kernel
theorem dX5_count_86 : decode cX5_count 86 = .ok (.aload_n 0, 1) := by decide +kernel
theorem dX5_count_87 : decode cX5_count 87 = .ok (.getfield 12, 3) := by decide +kernel
theorem dX5_count_90 : decode cX5_count 90 = .ok (.getfield 83, 3) := by decide +kernel
theorem dX5_count_93 : decode cX5_count 93 = .ok (.ireturn, 1) := by decide +kernel
theorem dX5_count_94 : decode cX5_count 94 = .ok (.iconst (-1), 1) := by decide +kernel
theorem dX5_count_95 : decode cX5_count 95 = .ok (.ireturn, 1) := by decide +kernel
theorem dX5_isState_0 : decode cX5_isState 0 = .ok (.iload_n 1, 1) := by decide +kernel
theorem dX5_isState_1 : decode cX5_isState 1 = .ok (.ifCond .lt 18, 3) := by decide +kernel
theorem dX5_isState_4 : decode cX5_isState 4 = .ok (.iload_n 1, 1) := by decide +kernel
theorem dX5_isState_5 : decode cX5_isState 5 = .ok (.aload_n 0, 1) := by decide +kernel
theorem dX5_isState_6 : decode cX5_isState 6 = .ok (.getfield 19, 3) := by decide +kernel
theorem dX5_isState_9 : decode cX5_isState 9 = .ok (.getfield 236, 3) := by decide +kernel
theorem dX5_isState_12 : decode cX5_isState 12 = .ok (.if_icmp .ge 7, 3) := by decide +kernel
theorem dX5_isState_15 : decode cX5_isState 15 = .ok (.iconst 1, 1) := by decide +kernel
theorem dX5_isState_16 : decode cX5_isState 16 = .ok (.goto 4, 3) := by decide +kernel
theorem dX5_isState_19 : decode cX5_isState 19 = .ok (.iconst 0, 1) := by decide +kernel
theorem dX5_isState_20 : decode cX5_isState 20 = .ok (.ireturn, 1) := by decide +kernel
theorem dX5_isRule_0 : decode cX5_isRule 0 = .ok (.iload_n 1, 1) := by decide +kernel
theorem dX5_isRule_1 : decode cX5_isRule 1 = .ok (.ifCond .lt 18, 3) := by decide +kernel
theorem dX5_isRule_4 : decode cX5_isRule 4 = .ok (.iload_n 1, 1) := by decide +kernel
theorem dX5_isRule_5 : decode cX5_isRule 5 = .ok (.aload_n 0, 1) := by decide +kernel
theorem dX5_isRule_6 : decode cX5_isRule 6 = .ok (.getfield 19, 3) := by decide +kernel
theorem dX5_isRule_9 : decode cX5_isRule 9 = .ok (.getfield 86, 3) := by decide +kernel
theorem dX5_isRule_12 : decode cX5_isRule 12 = .ok (.if_icmp .ge 7, 3) := by decide +kernel
theorem dX5_isRule_15 : decode cX5_isRule 15 = .ok (.iconst 1, 1) := by decide +kernel
theorem dX5_isRule_16 : decode cX5_isRule 16 = .ok (.goto 4, 3) := by decide +kernel
theorem dX5_isRule_19 : decode cX5_isRule 19 = .ok (.iconst 0, 1) := by decide +kernel
theorem dX5_isRule_20 : decode cX5_isRule 20 = .ok (.ireturn, 1) := by decide +kernel
theorem dX5_isLetter_0 : decode cX5_isLetter 0 = .ok (.iload_n 0, 1) := by decide +kernel
theorem dX5_isLetter_1 : decode cX5_isLetter 1 = .ok (.ifCond .lt 12, 3) := by decide +kernel
theorem dX5_isLetter_4 : decode cX5_isLetter 4 = .ok (.iload_n 0, 1) := by decide +kernel
theorem dX5_isLetter_5 : decode cX5_isLetter 5 = .ok (.iconst 4, 1) := by decide +kernel
theorem dX5_isLetter_6 : decode cX5_isLetter 6 = .ok (.if_icmp .ge 7, 3) := by decide +kernel
theorem dX5_isLetter_9 : decode cX5_isLetter 9 = .ok (.iconst 1, 1) := by decide +kernel
theorem dX5_isLetter_10 : decode cX5_isLetter 10 = .ok (.goto 4, 3) := by decide +kernel
theorem dX5_isLetter_13 : decode cX5_isLetter 13 = .ok (.iconst 0, 1) := by decide +kernel
theorem dX5_isLetter_14 : decode cX5_isLetter 14 = .ok (.ireturn, 1) := by decide +kernel
theorem dX5_isCost_0 : decode cX5_isCost 0 = .ok (.iload_n 0, 1) := by decide +kernel
theorem dX5_isCost_1 : decode cX5_isCost 1 = .ok (.ifCond .lt 13, 3) := by decide +kernel
theorem dX5_isCost_4 : decode cX5_isCost 4 = .ok (.iload_n 0, 1) := by decide +kernel
theorem dX5_isCost_5 : decode cX5_isCost 5 = .ok (.bipush 9, 2) := by decide +kernel
theorem dX5_isCost_7 : decode cX5_isCost 7 = .ok (.if_icmp .gt 7, 3) := by decide +kernel
theorem dX5_isCost_10 : decode cX5_isCost 10 = .ok (.iconst 1, 1) := by decide +kernel
theorem dX5_isCost_11 : decode cX5_isCost 11 = .ok (.goto 4, 3) := by decide +kernel
theorem dX5_isCost_14 : decode cX5_isCost 14 = .ok (.iconst 0, 1) := by decide +kernel
theorem dX5_isCost_15 : decode cX5_isCost 15 = .ok (.ireturn, 1) := by decide +kernel
theorem dX5_remember_0 : decode cX5_remember 0 = .ok (.aload_n 0, 1) := by decide +kernel
theorem dX5_remember_1 : decode cX5_remember 1 = .ok (.getfield 26, 3) := by decide +kernel
theorem dX5_remember_4 : decode cX5_remember 4 = .ok (.aload_n 0, 1) := by decide +kernel
theorem dX5_remember_5 : decode cX5_remember 5 = .ok (.getfield 195, 3) := by decide +kernel
theorem dX5_remember_8 : decode cX5_remember 8 = .ok (.aaload, 1) := by decide +kernel
theorem dX5_remember_9 : decode cX5_remember 9 = .ok (.aload_n 0, 1) := by decide +kernel
theorem dX5_remember_10 : decode cX5_remember 10 = .ok (.getfield 19, 3) := by decide +kernel
theorem dX5_remember_13 : decode cX5_remember 13 = .ok (.invokevirtual 89, 3) := by decide +kernel
theorem dX5_remember_16 : decode cX5_remember 16 = .ok (.aload_n 0, 1) := by decide +kernel
theorem dX5_remember_17 : decode cX5_remember 17 = .ok (.aload_n 0, 1) := by decide +kernel
theorem dX5_remember_18 : decode cX5_remember 18 = .ok (.getfield 195, 3) := by decide +kernel
theorem dX5_remember_21 : decode cX5_remember 21 = .ok (.iconst 1, 1) := by decide +kernel
theorem dX5_remember_22 : decode cX5_remember 22 = .ok (.iadd, 1) := by decide +kernel
theorem dX5_remember_23 : decode cX5_remember 23 = .ok (.bipush 8, 2) := by decide +kernel
theorem dX5_remember_25 : decode cX5_remember 25 = .ok (.irem, 1) := by decide +kernel
theorem dX5_remember_26 : decode cX5_remember 26 = .ok (.putfield 195, 3) := by decide +kernel
theorem dX5_remember_29 : decode cX5_remember 29 = .ok (.aload_n 0, 1) := by decide +kernel
theorem dX5_remember_30 : decode cX5_remember 30 = .ok (.getfield 93, 3) := by decide +kernel
theorem dX5_remember_33 : decode cX5_remember 33 = .ok (.bipush 8, 2) := by decide +kernel
theorem dX5_remember_35 : decode cX5_remember 35 = .ok (.if_icmp .ge 13, 3) := by decide +kernel
theorem dX5_remember_38 : decode cX5_remember 38 = .ok (.aload_n 0, 1) := by decide +kernel
theorem dX5_remember_39 : decode cX5_remember 39 = .ok (.dup, 1) := by decide +kernel
theorem dX5_remember_40 : decode cX5_remember 40 = .ok (.getfield 93, 3) := by decide +kernel
theorem dX5_remember_43 : decode cX5_remember 43 = .ok (.iconst 1, 1) := by decide +kernel
theorem dX5_remember_44 : decode cX5_remember 44 = .ok (.iadd, 1) := by decide +kernel
theorem dX5_remember_45 : decode cX5_remember 45 = .ok (.putfield 93, 3) := by decide +kernel
theorem dX5_remember_48 : decode cX5_remember 48 = .ok (.aload_n 0, 1) := by decide +kernel
theorem dX5_remember_49 : decode cX5_remember 49 = .ok (.iconst 0, 1) := by decide +kernel
theorem dX5_remember_50 : decode cX5_remember 50 = .ok (.putfield 284, 3) := by decide +kernel
theorem dX5_remember_53 : decode cX5_remember 53 = .ok (.return_, 1) := by decide +kernel
theorem dX5_noteNewRules_0 : decode cX5_noteNewRules 0 = .ok (.aload_n 0, 1) := by decide +kernel
theorem dX5_noteNewRules_1 : decode cX5_noteNewRules 1 = .ok (.iconst 0, 1) := by decide +kernel
theorem dX5_noteNewRules_2 : decode cX5_noteNewRules 2 = .ok (.putfield 288, 3) := by decide +kernel
theorem dX5_noteNewRules_5 : decode cX5_noteNewRules 5 = .ok (.aload_n 0, 1) := by decide +kernel
theorem dX5_noteNewRules_6 : decode cX5_noteNewRules 6 = .ok (.iconst 0, 1) := by decide +kernel
theorem dX5_noteNewRules_7 : decode cX5_noteNewRules 7 = .ok (.putfield 291, 3) := by decide +kernel
theorem dX5_noteNewRules_10 : decode cX5_noteNewRules 10 = .ok (.aload_n 0, 1) := by decide +kernel
theorem dX5_noteNewRules_11 : decode cX5_noteNewRules 11 = .ok (.iconst 0, 1) := by decide +kernel
theorem dX5_noteNewRules_12 : decode cX5_noteNewRules 12 = .ok (.putfield 284, 3) := by decide +kernel
theorem dX5_noteNewRules_15 : decode cX5_noteNewRules 15 = .ok (.return_, 1) := by decide +kernel
theorem dX5_renewNet_0 : decode cX5_renewNet 0 = .ok (.aload_n 0, 1) := by decide +kernel
theorem dX5_renewNet_1 : decode cX5_renewNet 1 = .ok (.getfield 288, 3) := by decide +kernel
theorem dX5_renewNet_4 : decode cX5_renewNet 4 = .ok (.ifCond .ne 28, 3) := by decide +kernel
theorem dX5_renewNet_7 : decode cX5_renewNet 7 = .ok (.aload_n 0, 1) := by decide +kernel
theorem dX5_renewNet_8 : decode cX5_renewNet 8 = .ok (.getfield 36, 3) := by decide +kernel
theorem dX5_renewNet_11 : decode cX5_renewNet 11 = .ok (.aload_n 0, 1) := by decide +kernel
theorem dX5_renewNet_12 : decode cX5_renewNet 12 = .ok (.getfield 19, 3) := by decide +kernel
theorem dX5_renewNet_15 : decode cX5_renewNet 15 = .ok (.aload_n 0, 1) := by decide +kernel
theorem dX5_renewNet_16 : decode cX5_renewNet 16 = .ok (.getfield 19, 3) := by decide +kernel
theorem dX5_renewNet_19 : decode cX5_renewNet 19 = .ok (.getfield 192, 3) := by decide +kernel
theorem dX5_renewNet_22 : decode cX5_renewNet 22 = .ok (.iconst (-1), 1) := by decide +kernel
theorem dX5_renewNet_23 : decode cX5_renewNet 23 = .ok (.iconst 0, 1) := by decide +kernel
theorem dX5_renewNet_24 : decode cX5_renewNet 24 = .ok (.invokevirtual 271, 3) := by decide +kernel
theorem dX5_renewNet_27 : decode cX5_renewNet 27 = .ok (.aload_n 0, 1) := by decide +kernel
theorem dX5_renewNet_28 : decode cX5_renewNet 28 = .ok (.iconst 1, 1) := by decide +kernel
theorem dX5_renewNet_29 : decode cX5_renewNet 29 = .ok (.putfield 288, 3) := by decide +kernel
theorem dX5_renewNet_32 : decode cX5_renewNet 32 = .ok (.return_, 1) := by decide +kernel
theorem dX5_renewRoute_0 : decode cX5_renewRoute 0 = .ok (.aload_n 0, 1) := by decide +kernel
theorem dX5_renewRoute_1 : decode cX5_renewRoute 1 = .ok (.getfield 291, 3) := by decide +kernel
theorem dX5_renewRoute_4 : decode cX5_renewRoute 4 = .ok (.ifCond .ne 22, 3) := by decide +kernel
theorem dX5_renewRoute_7 : decode cX5_renewRoute 7 = .ok (.aload_n 0, 1) := by decide +kernel
theorem dX5_renewRoute_8 : decode cX5_renewRoute 8 = .ok (.getfield 40, 3) := by decide +kernel
theorem dX5_renewRoute_11 : decode cX5_renewRoute 11 = .ok (.aload_n 0, 1) := by decide +kernel
theorem dX5_renewRoute_12 : decode cX5_renewRoute 12 = .ok (.getfield 19, 3) := by decide +kernel
theorem dX5_renewRoute_15 : decode cX5_renewRoute 15 = .ok (.iconst 1, 1) := by decide +kernel
theorem dX5_renewRoute_16 : decode cX5_renewRoute 16 = .ok (.iconst (-1), 1) := by decide +kernel
theorem dX5_renewRoute_17 : decode cX5_renewRoute 17 = .ok (.iconst 0, 1) := by decide +kernel
theorem dX5_renewRoute_18 : decode cX5_renewRoute 18 = .ok (.invokevirtual 271, 3) := by decide +kernel
theorem dX5_renewRoute_21 : decode cX5_renewRoute 21 = .ok (.aload_n 0, 1) := by decide +kernel
theorem dX5_renewRoute_22 : decode cX5_renewRoute 22 = .ok (.iconst 1, 1) := by decide +kernel
theorem dX5_renewRoute_23 : decode cX5_renewRoute 23 = .ok (.putfield 291, 3) := by decide +kernel
theorem dX5_renewRoute_26 : decode cX5_renewRoute 26 = .ok (.aload_n 0, 1) := by decide +kernel
theorem dX5_renewRoute_27 : decode cX5_renewRoute 27 = .ok (.getfield 284, 3) := by decide +kernel
theorem dX5_renewRoute_30 : decode cX5_renewRoute 30 = .ok (.ifCond .ne 23, 3) := by decide +kernel
theorem dX5_renewRoute_33 : decode cX5_renewRoute 33 = .ok (.aload_n 0, 1) := by decide +kernel
theorem dX5_renewRoute_34 : decode cX5_renewRoute 34 = .ok (.getfield 49, 3) := by decide +kernel
theorem dX5_renewRoute_37 : decode cX5_renewRoute 37 = .ok (.aload_n 0, 1) := by decide +kernel
theorem dX5_renewRoute_38 : decode cX5_renewRoute 38 = .ok (.getfield 19, 3) := by decide +kernel
theorem dX5_renewRoute_41 : decode cX5_renewRoute 41 = .ok (.aload_n 0, 1) := by decide +kernel
theorem dX5_renewRoute_42 : decode cX5_renewRoute 42 = .ok (.getfield 40, 3) := by decide +kernel
theorem dX5_renewRoute_45 : decode cX5_renewRoute 45 = .ok (.invokevirtual 213, 3) := by decide +kernel
theorem dX5_renewRoute_48 : decode cX5_renewRoute 48 = .ok (.aload_n 0, 1) := by decide +kernel
theorem dX5_renewRoute_49 : decode cX5_renewRoute 49 = .ok (.iconst 1, 1) := by decide +kernel
theorem dX5_renewRoute_50 : decode cX5_renewRoute 50 = .ok (.putfield 284, 3) := by decide +kernel
theorem dX5_renewRoute_53 : decode cX5_renewRoute 53 = .ok (.return_, 1) := by decide +kernel
theorem dX5_priceWith_0 : decode cX5_priceWith 0 = .ok (.aload_n 0, 1) := by decide +kernel
theorem dX5_priceWith_1 : decode cX5_priceWith 1 = .ok (.getfield 43, 3) := by decide +kernel
theorem dX5_priceWith_4 : decode cX5_priceWith 4 = .ok (.aload_n 0, 1) := by decide +kernel
theorem dX5_priceWith_5 : decode cX5_priceWith 5 = .ok (.getfield 19, 3) := by decide +kernel
theorem dX5_priceWith_8 : decode cX5_priceWith 8 = .ok (.aload_n 0, 1) := by decide +kernel
theorem dX5_priceWith_9 : decode cX5_priceWith 9 = .ok (.getfield 19, 3) := by decide +kernel
theorem dX5_priceWith_12 : decode cX5_priceWith 12 = .ok (.getfield 192, 3) := by decide +kernel
theorem dX5_priceWith_15 : decode cX5_priceWith 15 = .ok (.iload_n 1, 1) := by decide +kernel
theorem dX5_priceWith_16 : decode cX5_priceWith 16 = .ok (.iload_n 2, 1) := by decide +kernel
theorem dX5_priceWith_17 : decode cX5_priceWith 17 = .ok (.invokevirtual 271, 3) := by decide +kernel
theorem dX5_priceWith_20 : decode cX5_priceWith 20 = .ok (.aload_n 0, 1) := by decide +kernel
theorem dX5_priceWith_21 : decode cX5_priceWith 21 = .ok (.getfield 43, 3) := by decide +kernel
theorem dX5_priceWith_24 : decode cX5_priceWith 24 = .ok (.aload_n 0, 1) := by decide +kernel
theorem dX5_priceWith_25 : decode cX5_priceWith 25 = .ok (.getfield 19, 3) := by decide +kernel
theorem dX5_priceWith_28 : decode cX5_priceWith 28 = .ok (.invokevirtual 201, 3) := by decide +kernel
theorem dX5_priceWith_31 : decode cX5_priceWith 31 = .ok (.ireturn, 1) := by decide +kernel
theorem dX5_drawn_0 : decode cX5_drawn 0 = .ok (.ldc2_w 294, 3) := by decide +kernel
theorem dX5_drawn_3 : decode cX5_drawn 3 = .ok (.iload_n 0, 1) := by decide +kernel
theorem dX5_drawn_4 : decode cX5_drawn 4 = .ok (.i2l, 1) := by decide +kernel
theorem dX5_drawn_5 : decode cX5_drawn 5 = .ok (.lmul, 1) := by decide +kernel
theorem dX5_drawn_6 : decode cX5_drawn 6 = .ok (.ldc2_w 296, 3) := by decide +kernel
theorem dX5_drawn_9 : decode cX5_drawn 9 = .ok (.iload_n 1, 1) := by decide +kernel
theorem dX5_drawn_10 : decode cX5_drawn 10 = .ok (.i2l, 1) := by decide +kernel
theorem dX5_drawn_11 : decode cX5_drawn 11 = .ok (.lmul, 1) := by decide +kernel
theorem dX5_drawn_12 : decode cX5_drawn 12 = .ok (.ladd, 1) := by decide +kernel
theorem dX5_drawn_13 : decode cX5_drawn 13 = .ok (.lconst 1, 1) := by decide +kernel
theorem dX5_drawn_14 : decode cX5_drawn 14 = .ok (.ladd, 1) := by decide +kernel
theorem dX5_drawn_15 : decode cX5_drawn 15 = .ok (.lstore_n 2, 1) := by decide +kernel
theorem dX5_drawn_16 : decode cX5_drawn 16 = .ok (.lload_n 2, 1) := by decide +kernel
theorem dX5_drawn_17 : decode cX5_drawn 17 = .ok (.lload_n 2, 1) := by decide +kernel
theorem dX5_drawn_18 : decode cX5_drawn 18 = .ok (.lmul, 1) := by decide +kernel
theorem dX5_drawn_19 : decode cX5_drawn 19 = .ok (.ldc2_w 298, 3) := by decide +kernel
theorem dX5_drawn_22 : decode cX5_drawn 22 = .ok (.lrem, 1) := by decide +kernel
theorem dX5_drawn_23 : decode cX5_drawn 23 = .ok (.l2i, 1) := by decide +kernel
theorem dX5_drawn_24 : decode cX5_drawn 24 = .ok (.iconst 4, 1) := by decide +kernel
theorem dX5_drawn_25 : decode cX5_drawn 25 = .ok (.idiv, 1) := by decide +kernel
theorem dX5_drawn_26 : decode cX5_drawn 26 = .ok (.ireturn, 1) := by decide +kernel
theorem dX5_wordOf_0 : decode cX5_wordOf 0 = .ok (.iconst 5, 1) := by decide +kernel
theorem dX5_wordOf_1 : decode cX5_wordOf 1 = .ok (.iconst 4, 1) := by decide +kernel
theorem dX5_wordOf_2 : decode cX5_wordOf 2 = .ok (.iload_n 0, 1) := by decide +kernel
theorem dX5_wordOf_3 : decode cX5_wordOf 3 = .ok (.imul, 1) := by decide +kernel
theorem dX5_wordOf_4 : decode cX5_wordOf 4 = .ok (.iadd, 1) := by decide +kernel
theorem dX5_wordOf_5 : decode cX5_wordOf 5 = .ok (.iload_n 1, 1) := by decide +kernel
theorem dX5_wordOf_6 : decode cX5_wordOf 6 = .ok (.iadd, 1) := by decide +kernel
theorem dX5_wordOf_7 : decode cX5_wordOf 7 = .ok (.ireturn, 1) := by decide +kernel
theorem dX5_lettersIn_0 : decode cX5_lettersIn 0 = .ok (.iload_n 0, 1) := by decide +kernel
theorem dX5_lettersIn_1 : decode cX5_lettersIn 1 = .ok (.ifCond .ne 5, 3) := by decide +kernel
theorem dX5_lettersIn_4 : decode cX5_lettersIn 4 = .ok (.iconst 0, 1) := by decide +kernel
theorem dX5_lettersIn_5 : decode cX5_lettersIn 5 = .ok (.ireturn, 1) := by decide +kernel
theorem dX5_lettersIn_6 : decode cX5_lettersIn 6 = .ok (.iload_n 0, 1) := by decide +kernel
theorem dX5_lettersIn_7 : decode cX5_lettersIn 7 = .ok (.iconst 4, 1) := by decide +kernel
theorem dX5_lettersIn_8 : decode cX5_lettersIn 8 = .ok (.if_icmp .gt 7, 3) := by decide +kernel
theorem dX5_lettersIn_11 : decode cX5_lettersIn 11 = .ok (.iconst 1, 1) := by decide +kernel
theorem dX5_lettersIn_12 : decode cX5_lettersIn 12 = .ok (.goto 4, 3) := by decide +kernel
theorem dX5_lettersIn_15 : decode cX5_lettersIn 15 = .ok (.iconst 2, 1) := by decide +kernel
theorem dX5_lettersIn_16 : decode cX5_lettersIn 16 = .ok (.ireturn, 1) := by decide +kernel
theorem dX5_firstLetter_0 : decode cX5_firstLetter 0 = .ok (.iload_n 0, 1) := by decide +kernel
theorem dX5_firstLetter_1 : decode cX5_firstLetter 1 = .ok (.ifCond .ne 6, 3) := by decide +kernel
theorem dX5_firstLetter_4 : decode cX5_firstLetter 4 = .ok (.bipush (-4), 2) := by decide +kernel
theorem dX5_firstLetter_6 : decode cX5_firstLetter 6 = .ok (.ireturn, 1) := by decide +kernel
theorem dX5_firstLetter_7 : decode cX5_firstLetter 7 = .ok (.iload_n 0, 1) := by decide +kernel
theorem dX5_firstLetter_8 : decode cX5_firstLetter 8 = .ok (.iconst 4, 1) := by decide +kernel
theorem dX5_firstLetter_9 : decode cX5_firstLetter 9 = .ok (.if_icmp .gt 9, 3) := by decide +kernel
theorem dX5_firstLetter_12 : decode cX5_firstLetter 12 = .ok (.iload_n 0, 1) := by decide +kernel
theorem dX5_firstLetter_13 : decode cX5_firstLetter 13 = .ok (.iconst 1, 1) := by decide +kernel
theorem dX5_firstLetter_14 : decode cX5_firstLetter 14 = .ok (.isub, 1) := by decide +kernel
theorem dX5_firstLetter_15 : decode cX5_firstLetter 15 = .ok (.goto 10, 3) := by decide +kernel
theorem dX5_firstLetter_18 : decode cX5_firstLetter 18 = .ok (.iload_n 0, 1) := by decide +kernel
theorem dX5_firstLetter_19 : decode cX5_firstLetter 19 = .ok (.iconst 1, 1) := by decide +kernel
theorem dX5_firstLetter_20 : decode cX5_firstLetter 20 = .ok (.isub, 1) := by decide +kernel
theorem dX5_firstLetter_21 : decode cX5_firstLetter 21 = .ok (.iconst 4, 1) := by decide +kernel
theorem dX5_firstLetter_22 : decode cX5_firstLetter 22 = .ok (.isub, 1) := by decide +kernel
theorem dX5_firstLetter_23 : decode cX5_firstLetter 23 = .ok (.iconst 4, 1) := by decide +kernel
theorem dX5_firstLetter_24 : decode cX5_firstLetter 24 = .ok (.idiv, 1) := by decide +kernel
theorem dX5_firstLetter_25 : decode cX5_firstLetter 25 = .ok (.ireturn, 1) := by decide +kernel
theorem dX5_secondLetter_0 : decode cX5_secondLetter 0 = .ok (.iload_n 0, 1) := by decide +kernel
theorem dX5_secondLetter_1 : decode cX5_secondLetter 1 = .ok (.iconst 4, 1) := by decide +kernel
theorem dX5_secondLetter_2 : decode cX5_secondLetter 2 = .ok (.if_icmp .gt 8, 3) := by decide +kernel
theorem dX5_secondLetter_5 : decode cX5_secondLetter 5 = .ok (.bipush (-4), 2) := by decide +kernel
theorem dX5_secondLetter_7 : decode cX5_secondLetter 7 = .ok (.goto 10, 3) := by decide +kernel
theorem dX5_secondLetter_10 : decode cX5_secondLetter 10 = .ok (.iload_n 0, 1) := by decide +kernel
theorem dX5_secondLetter_11 : decode cX5_secondLetter 11 = .ok (.iconst 1, 1) := by decide +kernel
theorem dX5_secondLetter_12 : decode cX5_secondLetter 12 = .ok (.isub, 1) := by decide +kernel
theorem dX5_secondLetter_13 : decode cX5_secondLetter 13 = .ok (.iconst 4, 1) := by decide +kernel
theorem dX5_secondLetter_14 : decode cX5_secondLetter 14 = .ok (.isub, 1) := by decide +kernel
theorem dX5_secondLetter_15 : decode cX5_secondLetter 15 = .ok (.iconst 4, 1) := by decide +kernel
theorem dX5_secondLetter_16 : decode cX5_secondLetter 16 = .ok (.irem, 1) := by decide +kernel
theorem dX5_secondLetter_17 : decode cX5_secondLetter 17 = .ok (.ireturn, 1) := by decide +kernel
theorem dX5_edgeAt_0 : decode cX5_edgeAt 0 = .ok (.iload_n 0, 1) := by decide +kernel
theorem dX5_edgeAt_1 : decode cX5_edgeAt 1 = .ok (.iconst 4, 1) := by decide +kernel
theorem dX5_edgeAt_2 : decode cX5_edgeAt 2 = .ok (.imul, 1) := by decide +kernel
theorem dX5_edgeAt_3 : decode cX5_edgeAt 3 = .ok (.iload_n 1, 1) := by decide +kernel
theorem dX5_edgeAt_4 : decode cX5_edgeAt 4 = .ok (.iadd, 1) := by decide +kernel
theorem dX5_edgeAt_5 : decode cX5_edgeAt 5 = .ok (.bipush 13, 2) := by decide +kernel
theorem dX5_edgeAt_7 : decode cX5_edgeAt 7 = .ok (.imul, 1) := by decide +kernel
theorem dX5_edgeAt_8 : decode cX5_edgeAt 8 = .ok (.iload_n 2, 1) := by decide +kernel
theorem dX5_edgeAt_9 : decode cX5_edgeAt 9 = .ok (.iadd, 1) := by decide +kernel
theorem dX5_edgeAt_10 : decode cX5_edgeAt 10 = .ok (.ireturn, 1) := by decide +kernel
theorem dX6_init_0 : decode cX6_init 0 = .ok (.aload_n 0, 1) := by decide +kernel
theorem dX6_init_1 : decode cX6_init 1 = .ok (.invokespecial 1, 3) := by decide +kernel
theorem dX6_init_4 : decode cX6_init 4 = .ok (.aload_n 0, 1) := by decide +kernel
theorem dX6_init_5 : decode cX6_init 5 = .ok (.iconst 2, 1) := by decide +kernel
theorem dX6_init_6 : decode cX6_init 6 = .ok (.putfield 7, 3) := by decide +kernel
theorem dX6_init_9 : decode cX6_init 9 = .ok (.aload_n 0, 1) := by decide +kernel
theorem dX6_init_10 : decode cX6_init 10 = .ok (.bipush 7, 2) := by decide +kernel
theorem dX6_init_12 : decode cX6_init 12 = .ok (.putfield 13, 3) := by decide +kernel
theorem dX6_init_15 : decode cX6_init 15 = .ok (.aload_n 0, 1) := by decide +kernel
theorem dX6_init_16 : decode cX6_init 16 = .ok (.bipush 70, 2) := by decide +kernel
theorem dX6_init_18 : decode cX6_init 18 = .ok (.newarray .int, 2) := by decide +kernel
theorem dX6_init_20 : decode cX6_init 20 = .ok (.dup, 1) := by decide +kernel
theorem dX6_init_21 : decode cX6_init 21 = .ok (.iconst 0, 1) := by decide +kernel
theorem dX6_init_22 : decode cX6_init 22 = .ok (.iconst 0, 1) := by decide +kernel
theorem dX6_init_23 : decode cX6_init 23 = .ok (.iastore, 1) := by decide +kernel
theorem dX6_init_24 : decode cX6_init 24 = .ok (.dup, 1) := by decide +kernel
theorem dX6_init_25 : decode cX6_init 25 = .ok (.iconst 1, 1) := by decide +kernel
theorem dX6_init_26 : decode cX6_init 26 = .ok (.iconst 0, 1) := by decide +kernel
theorem dX6_init_27 : decode cX6_init 27 = .ok (.iastore, 1) := by decide +kernel
theorem dX6_init_28 : decode cX6_init 28 = .ok (.dup, 1) := by decide +kernel
theorem dX6_init_29 : decode cX6_init 29 = .ok (.iconst 2, 1) := by decide +kernel
theorem dX6_init_30 : decode cX6_init 30 = .ok (.iconst 0, 1) := by decide +kernel
theorem dX6_init_31 : decode cX6_init 31 = .ok (.iastore, 1) := by decide +kernel
theorem dX6_init_32 : decode cX6_init 32 = .ok (.dup, 1) := by decide +kernel
theorem dX6_init_33 : decode cX6_init 33 = .ok (.iconst 3, 1) := by decide +kernel
theorem dX6_init_34 : decode cX6_init 34 = .ok (.iconst 2, 1) := by decide +kernel
theorem dX6_init_35 : decode cX6_init 35 = .ok (.iastore, 1) := by decide +kernel
theorem dX6_init_36 : decode cX6_init 36 = .ok (.dup, 1) := by decide +kernel
theorem dX6_init_37 : decode cX6_init 37 = .ok (.iconst 4, 1) := by decide +kernel
theorem dX6_init_38 : decode cX6_init 38 = .ok (.iconst 1, 1) := by decide +kernel
theorem dX6_init_39 : decode cX6_init 39 = .ok (.iastore, 1) := by decide +kernel
theorem dX6_init_40 : decode cX6_init 40 = .ok (.dup, 1) := by decide +kernel
theorem dX6_init_41 : decode cX6_init 41 = .ok (.iconst 5, 1) := by decide +kernel
theorem dX6_init_42 : decode cX6_init 42 = .ok (.iconst 0, 1) := by decide +kernel
theorem dX6_init_43 : decode cX6_init 43 = .ok (.iastore, 1) := by decide +kernel
theorem dX6_init_44 : decode cX6_init 44 = .ok (.dup, 1) := by decide +kernel
theorem dX6_init_45 : decode cX6_init 45 = .ok (.bipush 6, 2) := by decide +kernel
theorem dX6_init_47 : decode cX6_init 47 = .ok (.iconst 2, 1) := by decide +kernel
theorem dX6_init_48 : decode cX6_init 48 = .ok (.iastore, 1) := by decide +kernel
theorem dX6_init_49 : decode cX6_init 49 = .ok (.dup, 1) := by decide +kernel
theorem dX6_init_50 : decode cX6_init 50 = .ok (.bipush 7, 2) := by decide +kernel
theorem dX6_init_52 : decode cX6_init 52 = .ok (.iconst 0, 1) := by decide +kernel
theorem dX6_init_53 : decode cX6_init 53 = .ok (.iastore, 1) := by decide +kernel
theorem dX6_init_54 : decode cX6_init 54 = .ok (.dup, 1) := by decide +kernel
theorem dX6_init_55 : decode cX6_init 55 = .ok (.bipush 8, 2) := by decide +kernel
theorem dX6_init_57 : decode cX6_init 57 = .ok (.iconst 1, 1) := by decide +kernel
theorem dX6_init_58 : decode cX6_init 58 = .ok (.iastore, 1) := by decide +kernel
theorem dX6_init_59 : decode cX6_init 59 = .ok (.dup, 1) := by decide +kernel
theorem dX6_init_60 : decode cX6_init 60 = .ok (.bipush 9, 2) := by decide +kernel
theorem dX6_init_62 : decode cX6_init 62 = .ok (.iconst 1, 1) := by decide +kernel
theorem dX6_init_63 : decode cX6_init 63 = .ok (.iastore, 1) := by decide +kernel
theorem dX6_init_64 : decode cX6_init 64 = .ok (.dup, 1) := by decide +kernel
theorem dX6_init_65 : decode cX6_init 65 = .ok (.bipush 10, 2) := by decide +kernel
theorem dX6_init_67 : decode cX6_init 67 = .ok (.iconst 0, 1) := by decide +kernel
theorem dX6_init_68 : decode cX6_init 68 = .ok (.iastore, 1) := by decide +kernel
theorem dX6_init_69 : decode cX6_init 69 = .ok (.dup, 1) := by decide +kernel
theorem dX6_init_70 : decode cX6_init 70 = .ok (.bipush 11, 2) := by decide +kernel
theorem dX6_init_72 : decode cX6_init 72 = .ok (.bipush (-4), 2) := by decide +kernel
theorem dX6_init_74 : decode cX6_init 74 = .ok (.iastore, 1) := by decide +kernel
theorem dX6_init_75 : decode cX6_init 75 = .ok (.dup, 1) := by decide +kernel
theorem dX6_init_76 : decode cX6_init 76 = .ok (.bipush 12, 2) := by decide +kernel
theorem dX6_init_78 : decode cX6_init 78 = .ok (.bipush (-4), 2) := by decide +kernel
theorem dX6_init_80 : decode cX6_init 80 = .ok (.iastore, 1) := by decide +kernel
theorem dX6_init_81 : decode cX6_init 81 = .ok (.dup, 1) := by decide +kernel
theorem dX6_init_82 : decode cX6_init 82 = .ok (.bipush 13, 2) := by decide +kernel
theorem dX6_init_84 : decode cX6_init 84 = .ok (.iconst 1, 1) := by decide +kernel
theorem dX6_init_85 : decode cX6_init 85 = .ok (.iastore, 1) := by decide +kernel
theorem dX6_init_86 : decode cX6_init 86 = .ok (.dup, 1) := by decide +kernel
theorem dX6_init_87 : decode cX6_init 87 = .ok (.bipush 14, 2) := by decide +kernel
theorem dX6_init_89 : decode cX6_init 89 = .ok (.iconst 1, 1) := by decide +kernel
theorem dX6_init_90 : decode cX6_init 90 = .ok (.iastore, 1) := by decide +kernel
theorem dX6_init_91 : decode cX6_init 91 = .ok (.dup, 1) := by decide +kernel
theorem dX6_init_92 : decode cX6_init 92 = .ok (.bipush 15, 2) := by decide +kernel
theorem dX6_init_94 : decode cX6_init 94 = .ok (.iconst 0, 1) := by decide +kernel
theorem dX6_init_95 : decode cX6_init 95 = .ok (.iastore, 1) := by decide +kernel
theorem dX6_init_96 : decode cX6_init 96 = .ok (.dup, 1) := by decide +kernel
theorem dX6_init_97 : decode cX6_init 97 = .ok (.bipush 16, 2) := by decide +kernel
theorem dX6_init_99 : decode cX6_init 99 = .ok (.iconst 1, 1) := by decide +kernel
theorem dX6_init_100 : decode cX6_init 100 = .ok (.iastore, 1) := by decide +kernel
theorem dX6_init_101 : decode cX6_init 101 = .ok (.dup, 1) := by decide +kernel
theorem dX6_init_102 : decode cX6_init 102 = .ok (.bipush 17, 2) := by decide +kernel
theorem dX6_init_104 : decode cX6_init 104 = .ok (.iconst 0, 1) := by decide +kernel
theorem dX6_init_105 : decode cX6_init 105 = .ok (.iastore, 1) := by decide +kernel
theorem dX6_init_106 : decode cX6_init 106 = .ok (.dup, 1) := by decide +kernel
theorem dX6_init_107 : decode cX6_init 107 = .ok (.bipush 18, 2) := by decide +kernel
theorem dX6_init_109 : decode cX6_init 109 = .ok (.bipush (-4), 2) := by decide +kernel
theorem dX6_init_111 : decode cX6_init 111 = .ok (.iastore, 1) := by decide +kernel
theorem dX6_init_112 : decode cX6_init 112 = .ok (.dup, 1) := by decide +kernel
theorem dX6_init_113 : decode cX6_init 113 = .ok (.bipush 19, 2) := by decide +kernel
theorem dX6_init_115 : decode cX6_init 115 = .ok (.bipush (-4), 2) := by decide +kernel
theorem dX6_init_117 : decode cX6_init 117 = .ok (.iastore, 1) := by decide +kernel
theorem dX6_init_118 : decode cX6_init 118 = .ok (.dup, 1) := by decide +kernel
theorem dX6_init_119 : decode cX6_init 119 = .ok (.bipush 20, 2) := by decide +kernel
theorem dX6_init_121 : decode cX6_init 121 = .ok (.iconst 3, 1) := by decide +kernel
theorem dX6_init_122 : decode cX6_init 122 = .ok (.iastore, 1) := by decide +kernel
theorem dX6_init_123 : decode cX6_init 123 = .ok (.dup, 1) := by decide +kernel
theorem dX6_init_124 : decode cX6_init 124 = .ok (.bipush 21, 2) := by decide +kernel
theorem dX6_init_126 : decode cX6_init 126 = .ok (.iconst 1, 1) := by decide +kernel
theorem dX6_init_127 : decode cX6_init 127 = .ok (.iastore, 1) := by decide +kernel
theorem dX6_init_128 : decode cX6_init 128 = .ok (.dup, 1) := by decide +kernel
theorem dX6_init_129 : decode cX6_init 129 = .ok (.bipush 22, 2) := by decide +kernel
theorem dX6_init_131 : decode cX6_init 131 = .ok (.iconst 1, 1) := by decide +kernel
theorem dX6_init_132 : decode cX6_init 132 = .ok (.iastore, 1) := by decide +kernel
theorem dX6_init_133 : decode cX6_init 133 = .ok (.dup, 1) := by decide +kernel
theorem dX6_init_134 : decode cX6_init 134 = .ok (.bipush 23, 2) := by decide +kernel
theorem dX6_init_136 : decode cX6_init 136 = .ok (.iconst 0, 1) := by decide +kernel
theorem dX6_init_137 : decode cX6_init 137 = .ok (.iastore, 1) := by decide +kernel
theorem dX6_init_138 : decode cX6_init 138 = .ok (.dup, 1) := by decide +kernel
theorem dX6_init_139 : decode cX6_init 139 = .ok (.bipush 24, 2) := by decide +kernel
theorem dX6_init_141 : decode cX6_init 141 = .ok (.iconst 1, 1) := by decide +kernel
theorem dX6_init_142 : decode cX6_init 142 = .ok (.iastore, 1) := by decide +kernel
theorem dX6_init_143 : decode cX6_init 143 = .ok (.dup, 1) := by decide +kernel
theorem dX6_init_144 : decode cX6_init 144 = .ok (.bipush 25, 2) := by decide +kernel
theorem dX6_init_146 : decode cX6_init 146 = .ok (.iconst 1, 1) := by decide +kernel
theorem dX6_init_147 : decode cX6_init 147 = .ok (.iastore, 1) := by decide +kernel
theorem dX6_init_148 : decode cX6_init 148 = .ok (.dup, 1) := by decide +kernel
theorem dX6_init_149 : decode cX6_init 149 = .ok (.bipush 26, 2) := by decide +kernel
theorem dX6_init_151 : decode cX6_init 151 = .ok (.bipush (-4), 2) := by decide +kernel
theorem dX6_init_153 : decode cX6_init 153 = .ok (.iastore, 1) := by decide +kernel
theorem dX6_init_154 : decode cX6_init 154 = .ok (.dup, 1) := by decide +kernel
theorem dX6_init_155 : decode cX6_init 155 = .ok (.bipush 27, 2) := by decide +kernel
theorem dX6_init_157 : decode cX6_init 157 = .ok (.iconst 0, 1) := by decide +kernel
theorem dX6_init_158 : decode cX6_init 158 = .ok (.iastore, 1) := by decide +kernel
theorem dX6_init_159 : decode cX6_init 159 = .ok (.dup, 1) := by decide +kernel
theorem dX6_init_160 : decode cX6_init 160 = .ok (.bipush 28, 2) := by decide +kernel
theorem dX6_init_162 : decode cX6_init 162 = .ok (.iconst 1, 1) := by decide +kernel
theorem dX6_init_163 : decode cX6_init 163 = .ok (.iastore, 1) := by decide +kernel
theorem dX6_init_164 : decode cX6_init 164 = .ok (.dup, 1) := by decide +kernel
theorem dX6_init_165 : decode cX6_init 165 = .ok (.bipush 29, 2) := by decide +kernel
theorem dX6_init_167 : decode cX6_init 167 = .ok (.iconst 0, 1) := by decide +kernel
theorem dX6_init_168 : decode cX6_init 168 = .ok (.iastore, 1) := by decide +kernel
theorem dX6_init_169 : decode cX6_init 169 = .ok (.dup, 1) := by decide +kernel
theorem dX6_init_170 : decode cX6_init 170 = .ok (.bipush 30, 2) := by decide +kernel
theorem dX6_init_172 : decode cX6_init 172 = .ok (.iconst 0, 1) := by decide +kernel
theorem dX6_init_173 : decode cX6_init 173 = .ok (.iastore, 1) := by decide +kernel
theorem dX6_init_174 : decode cX6_init 174 = .ok (.dup, 1) := by decide +kernel
theorem dX6_init_175 : decode cX6_init 175 = .ok (.bipush 31, 2) := by decide +kernel
theorem dX6_init_177 : decode cX6_init 177 = .ok (.iconst 1, 1) := by decide +kernel
theorem dX6_init_178 : decode cX6_init 178 = .ok (.iastore, 1) := by decide +kernel
theorem dX6_init_179 : decode cX6_init 179 = .ok (.dup, 1) := by decide +kernel
theorem dX6_init_180 : decode cX6_init 180 = .ok (.bipush 32, 2) := by decide +kernel
theorem dX6_init_182 : decode cX6_init 182 = .ok (.iconst 2, 1) := by decide +kernel
theorem dX6_init_183 : decode cX6_init 183 = .ok (.iastore, 1) := by decide +kernel
theorem dX6_init_184 : decode cX6_init 184 = .ok (.dup, 1) := by decide +kernel
theorem dX6_init_185 : decode cX6_init 185 = .ok (.bipush 33, 2) := by decide +kernel
theorem dX6_init_187 : decode cX6_init 187 = .ok (.bipush (-4), 2) := by decide +kernel
theorem dX6_init_189 : decode cX6_init 189 = .ok (.iastore, 1) := by decide +kernel
theorem dX6_init_190 : decode cX6_init 190 = .ok (.dup, 1) := by decide +kernel
theorem dX6_init_191 : decode cX6_init 191 = .ok (.bipush 34, 2) := by decide +kernel
theorem dX6_init_193 : decode cX6_init 193 = .ok (.iconst 5, 1) := by decide +kernel
theorem dX6_init_194 : decode cX6_init 194 = .ok (.iastore, 1) := by decide +kernel
theorem dX6_init_195 : decode cX6_init 195 = .ok (.dup, 1) := by decide +kernel
theorem dX6_init_196 : decode cX6_init 196 = .ok (.bipush 35, 2) := by decide +kernel
theorem dX6_init_198 : decode cX6_init 198 = .ok (.iconst 0, 1) := by decide +kernel
theorem dX6_init_199 : decode cX6_init 199 = .ok (.iastore, 1) := by decide +kernel
theorem dX6_init_200 : decode cX6_init 200 = .ok (.dup, 1) := by decide +kernel
theorem dX6_init_201 : decode cX6_init 201 = .ok (.bipush 36, 2) := by decide +kernel
theorem dX6_init_203 : decode cX6_init 203 = .ok (.iconst 2, 1) := by decide +kernel
theorem dX6_init_204 : decode cX6_init 204 = .ok (.iastore, 1) := by decide +kernel
theorem dX6_init_205 : decode cX6_init 205 = .ok (.dup, 1) := by decide +kernel
theorem dX6_init_206 : decode cX6_init 206 = .ok (.bipush 37, 2) := by decide +kernel
theorem dX6_init_208 : decode cX6_init 208 = .ok (.iconst 0, 1) := by decide +kernel
theorem dX6_init_209 : decode cX6_init 209 = .ok (.iastore, 1) := by decide +kernel
theorem dX6_init_210 : decode cX6_init 210 = .ok (.dup, 1) := by decide +kernel
theorem dX6_init_211 : decode cX6_init 211 = .ok (.bipush 38, 2) := by decide +kernel
theorem dX6_init_213 : decode cX6_init 213 = .ok (.iconst 2, 1) := by decide +kernel
theorem dX6_init_214 : decode cX6_init 214 = .ok (.iastore, 1) := by decide +kernel
theorem dX6_init_215 : decode cX6_init 215 = .ok (.dup, 1) := by decide +kernel
theorem dX6_init_216 : decode cX6_init 216 = .ok (.bipush 39, 2) := by decide +kernel
theorem dX6_init_218 : decode cX6_init 218 = .ok (.iconst 2, 1) := by decide +kernel
theorem dX6_init_219 : decode cX6_init 219 = .ok (.iastore, 1) := by decide +kernel
theorem dX6_init_220 : decode cX6_init 220 = .ok (.dup, 1) := by decide +kernel
theorem dX6_init_221 : decode cX6_init 221 = .ok (.bipush 40, 2) := by decide +kernel
theorem dX6_init_223 : decode cX6_init 223 = .ok (.iconst 2, 1) := by decide +kernel
theorem dX6_init_224 : decode cX6_init 224 = .ok (.iastore, 1) := by decide +kernel
theorem dX6_init_225 : decode cX6_init 225 = .ok (.dup, 1) := by decide +kernel
theorem dX6_init_226 : decode cX6_init 226 = .ok (.bipush 41, 2) := by decide +kernel
theorem dX6_init_228 : decode cX6_init 228 = .ok (.iconst 1, 1) := by decide +kernel
theorem dX6_init_229 : decode cX6_init 229 = .ok (.iastore, 1) := by decide +kernel
theorem dX6_init_230 : decode cX6_init 230 = .ok (.dup, 1) := by decide +kernel
theorem dX6_init_231 : decode cX6_init 231 = .ok (.bipush 42, 2) := by decide +kernel
theorem dX6_init_233 : decode cX6_init 233 = .ok (.iconst 0, 1) := by decide +kernel
theorem dX6_init_234 : decode cX6_init 234 = .ok (.iastore, 1) := by decide +kernel
theorem dX6_init_235 : decode cX6_init 235 = .ok (.dup, 1) := by decide +kernel
theorem dX6_init_236 : decode cX6_init 236 = .ok (.bipush 43, 2) := by decide +kernel
theorem dX6_init_238 : decode cX6_init 238 = .ok (.iconst 2, 1) := by decide +kernel
theorem dX6_init_239 : decode cX6_init 239 = .ok (.iastore, 1) := by decide +kernel
theorem dX6_init_240 : decode cX6_init 240 = .ok (.dup, 1) := by decide +kernel
theorem dX6_init_241 : decode cX6_init 241 = .ok (.bipush 44, 2) := by decide +kernel
theorem dX6_init_243 : decode cX6_init 243 = .ok (.iconst 1, 1) := by decide +kernel
theorem dX6_init_244 : decode cX6_init 244 = .ok (.iastore, 1) := by decide +kernel
theorem dX6_init_245 : decode cX6_init 245 = .ok (.dup, 1) := by decide +kernel
theorem dX6_init_246 : decode cX6_init 246 = .ok (.bipush 45, 2) := by decide +kernel
theorem dX6_init_248 : decode cX6_init 248 = .ok (.iconst 0, 1) := by decide +kernel
theorem dX6_init_249 : decode cX6_init 249 = .ok (.iastore, 1) := by decide +kernel
theorem dX6_init_250 : decode cX6_init 250 = .ok (.dup, 1) := by decide +kernel
theorem dX6_init_251 : decode cX6_init 251 = .ok (.bipush 46, 2) := by decide +kernel
theorem dX6_init_253 : decode cX6_init 253 = .ok (.bipush (-4), 2) := by decide +kernel
theorem dX6_init_255 : decode cX6_init 255 = .ok (.iastore, 1) := by decide +kernel
theorem dX6_init_256 : decode cX6_init 256 = .ok (.dup, 1) := by decide +kernel
theorem dX6_init_257 : decode cX6_init 257 = .ok (.bipush 47, 2) := by decide +kernel
theorem dX6_init_259 : decode cX6_init 259 = .ok (.bipush (-4), 2) := by decide +kernel
theorem dX6_init_261 : decode cX6_init 261 = .ok (.iastore, 1) := by decide +kernel
theorem dX6_init_262 : decode cX6_init 262 = .ok (.dup, 1) := by decide +kernel
theorem dX6_init_263 : decode cX6_init 263 = .ok (.bipush 48, 2) := by decide +kernel
theorem dX6_init_265 : decode cX6_init 265 = .ok (.iconst 4, 1) := by decide +kernel
theorem dX6_init_266 : decode cX6_init 266 = .ok (.iastore, 1) := by decide +kernel
theorem dX6_init_267 : decode cX6_init 267 = .ok (.dup, 1) := by decide +kernel
theorem dX6_init_268 : decode cX6_init 268 = .ok (.bipush 49, 2) := by decide +kernel
theorem dX6_init_270 : decode cX6_init 270 = .ok (.iconst 0, 1) := by decide +kernel
theorem dX6_init_271 : decode cX6_init 271 = .ok (.iastore, 1) := by decide +kernel
theorem dX6_init_272 : decode cX6_init 272 = .ok (.dup, 1) := by decide +kernel
theorem dX6_init_273 : decode cX6_init 273 = .ok (.bipush 50, 2) := by decide +kernel
theorem dX6_init_275 : decode cX6_init 275 = .ok (.iconst 0, 1) := by decide +kernel
theorem dX6_init_276 : decode cX6_init 276 = .ok (.iastore, 1) := by decide +kernel
theorem dX6_init_277 : decode cX6_init 277 = .ok (.dup, 1) := by decide +kernel
theorem dX6_init_278 : decode cX6_init 278 = .ok (.bipush 51, 2) := by decide +kernel
theorem dX6_init_280 : decode cX6_init 280 = .ok (.iconst 0, 1) := by decide +kernel
theorem dX6_init_281 : decode cX6_init 281 = .ok (.iastore, 1) := by decide +kernel
theorem dX6_init_282 : decode cX6_init 282 = .ok (.dup, 1) := by decide +kernel
theorem dX6_init_283 : decode cX6_init 283 = .ok (.bipush 52, 2) := by decide +kernel
theorem dX6_init_285 : decode cX6_init 285 = .ok (.iconst 0, 1) := by decide +kernel
theorem dX6_init_286 : decode cX6_init 286 = .ok (.iastore, 1) := by decide +kernel
theorem dX6_init_287 : decode cX6_init 287 = .ok (.dup, 1) := by decide +kernel
theorem dX6_init_288 : decode cX6_init 288 = .ok (.bipush 53, 2) := by decide +kernel
theorem dX6_init_290 : decode cX6_init 290 = .ok (.iconst 0, 1) := by decide +kernel
theorem dX6_init_291 : decode cX6_init 291 = .ok (.iastore, 1) := by decide +kernel
theorem dX6_init_292 : decode cX6_init 292 = .ok (.dup, 1) := by decide +kernel
theorem dX6_init_293 : decode cX6_init 293 = .ok (.bipush 54, 2) := by decide +kernel
theorem dX6_init_295 : decode cX6_init 295 = .ok (.iconst 0, 1) := by decide +kernel
theorem dX6_init_296 : decode cX6_init 296 = .ok (.iastore, 1) := by decide +kernel
theorem dX6_init_297 : decode cX6_init 297 = .ok (.dup, 1) := by decide +kernel
theorem dX6_init_298 : decode cX6_init 298 = .ok (.bipush 55, 2) := by decide +kernel
theorem dX6_init_300 : decode cX6_init 300 = .ok (.iconst 0, 1) := by decide +kernel
theorem dX6_init_301 : decode cX6_init 301 = .ok (.iastore, 1) := by decide +kernel
theorem dX6_init_302 : decode cX6_init 302 = .ok (.dup, 1) := by decide +kernel
theorem dX6_init_303 : decode cX6_init 303 = .ok (.bipush 56, 2) := by decide +kernel
theorem dX6_init_305 : decode cX6_init 305 = .ok (.iconst 0, 1) := by decide +kernel
theorem dX6_init_306 : decode cX6_init 306 = .ok (.iastore, 1) := by decide +kernel
theorem dX6_init_307 : decode cX6_init 307 = .ok (.dup, 1) := by decide +kernel
theorem dX6_init_308 : decode cX6_init 308 = .ok (.bipush 57, 2) := by decide +kernel
theorem dX6_init_310 : decode cX6_init 310 = .ok (.iconst 0, 1) := by decide +kernel
theorem dX6_init_311 : decode cX6_init 311 = .ok (.iastore, 1) := by decide +kernel
theorem dX6_init_312 : decode cX6_init 312 = .ok (.dup, 1) := by decide +kernel
theorem dX6_init_313 : decode cX6_init 313 = .ok (.bipush 58, 2) := by decide +kernel
theorem dX6_init_315 : decode cX6_init 315 = .ok (.iconst 0, 1) := by decide +kernel
theorem dX6_init_316 : decode cX6_init 316 = .ok (.iastore, 1) := by decide +kernel
theorem dX6_init_317 : decode cX6_init 317 = .ok (.dup, 1) := by decide +kernel
theorem dX6_init_318 : decode cX6_init 318 = .ok (.bipush 59, 2) := by decide +kernel
theorem dX6_init_320 : decode cX6_init 320 = .ok (.iconst 0, 1) := by decide +kernel
theorem dX6_init_321 : decode cX6_init 321 = .ok (.iastore, 1) := by decide +kernel
theorem dX6_init_322 : decode cX6_init 322 = .ok (.dup, 1) := by decide +kernel
theorem dX6_init_323 : decode cX6_init 323 = .ok (.bipush 60, 2) := by decide +kernel
theorem dX6_init_325 : decode cX6_init 325 = .ok (.iconst 0, 1) := by decide +kernel
theorem dX6_init_326 : decode cX6_init 326 = .ok (.iastore, 1) := by decide +kernel
theorem dX6_init_327 : decode cX6_init 327 = .ok (.dup, 1) := by decide +kernel
theorem dX6_init_328 : decode cX6_init 328 = .ok (.bipush 61, 2) := by decide +kernel
theorem dX6_init_330 : decode cX6_init 330 = .ok (.iconst 0, 1) := by decide +kernel
theorem dX6_init_331 : decode cX6_init 331 = .ok (.iastore, 1) := by decide +kernel
theorem dX6_init_332 : decode cX6_init 332 = .ok (.dup, 1) := by decide +kernel
theorem dX6_init_333 : decode cX6_init 333 = .ok (.bipush 62, 2) := by decide +kernel
theorem dX6_init_335 : decode cX6_init 335 = .ok (.iconst 0, 1) := by decide +kernel
theorem dX6_init_336 : decode cX6_init 336 = .ok (.iastore, 1) := by decide +kernel
theorem dX6_init_337 : decode cX6_init 337 = .ok (.dup, 1) := by decide +kernel
theorem dX6_init_338 : decode cX6_init 338 = .ok (.bipush 63, 2) := by decide +kernel
theorem dX6_init_340 : decode cX6_init 340 = .ok (.iconst 0, 1) := by decide +kernel
theorem dX6_init_341 : decode cX6_init 341 = .ok (.iastore, 1) := by decide +kernel
theorem dX6_init_342 : decode cX6_init 342 = .ok (.dup, 1) := by decide +kernel
theorem dX6_init_343 : decode cX6_init 343 = .ok (.bipush 64, 2) := by decide +kernel
theorem dX6_init_345 : decode cX6_init 345 = .ok (.iconst 0, 1) := by decide +kernel
theorem dX6_init_346 : decode cX6_init 346 = .ok (.iastore, 1) := by decide +kernel
theorem dX6_init_347 : decode cX6_init 347 = .ok (.dup, 1) := by decide +kernel
theorem dX6_init_348 : decode cX6_init 348 = .ok (.bipush 65, 2) := by decide +kernel
theorem dX6_init_350 : decode cX6_init 350 = .ok (.iconst 0, 1) := by decide +kernel
theorem dX6_init_351 : decode cX6_init 351 = .ok (.iastore, 1) := by decide +kernel
theorem dX6_init_352 : decode cX6_init 352 = .ok (.dup, 1) := by decide +kernel
theorem dX6_init_353 : decode cX6_init 353 = .ok (.bipush 66, 2) := by decide +kernel
theorem dX6_init_355 : decode cX6_init 355 = .ok (.iconst 0, 1) := by decide +kernel
theorem dX6_init_356 : decode cX6_init 356 = .ok (.iastore, 1) := by decide +kernel
theorem dX6_init_357 : decode cX6_init 357 = .ok (.dup, 1) := by decide +kernel
theorem dX6_init_358 : decode cX6_init 358 = .ok (.bipush 67, 2) := by decide +kernel
theorem dX6_init_360 : decode cX6_init 360 = .ok (.iconst 0, 1) := by decide +kernel
theorem dX6_init_361 : decode cX6_init 361 = .ok (.iastore, 1) := by decide +kernel
theorem dX6_init_362 : decode cX6_init 362 = .ok (.dup, 1) := by decide +kernel
theorem dX6_init_363 : decode cX6_init 363 = .ok (.bipush 68, 2) := by decide +kernel
theorem dX6_init_365 : decode cX6_init 365 = .ok (.iconst 0, 1) := by decide +kernel
theorem dX6_init_366 : decode cX6_init 366 = .ok (.iastore, 1) := by decide +kernel
theorem dX6_init_367 : decode cX6_init 367 = .ok (.dup, 1) := by decide +kernel
theorem dX6_init_368 : decode cX6_init 368 = .ok (.bipush 69, 2) := by decide +kernel
theorem dX6_init_370 : decode cX6_init 370 = .ok (.iconst 0, 1) := by decide +kernel
theorem dX6_init_371 : decode cX6_init 371 = .ok (.iastore, 1) := by decide +kernel
theorem dX6_init_372 : decode cX6_init 372 = .ok (.putfield 16, 3) := by decide +kernel
theorem dX6_init_375 : decode cX6_init 375 = .ok (.aload_n 0, 1) := by decide +kernel
theorem dX6_init_376 : decode cX6_init 376 = .ok (.iconst 2, 1) := by decide +kernel
theorem dX6_init_377 : decode cX6_init 377 = .ok (.putfield 20, 3) := by decide +kernel
theorem dX6_init_380 : decode cX6_init 380 = .ok (.aload_n 0, 1) := by decide +kernel
theorem dX6_init_381 : decode cX6_init 381 = .ok (.bipush 24, 2) := by decide +kernel
theorem dX6_init_383 : decode cX6_init 383 = .ok (.newarray .int, 2) := by decide +kernel
theorem dX6_init_385 : decode cX6_init 385 = .ok (.dup, 1) := by decide +kernel
theorem dX6_init_386 : decode cX6_init 386 = .ok (.iconst 0, 1) := by decide +kernel
theorem dX6_init_387 : decode cX6_init 387 = .ok (.iconst 1, 1) := by decide +kernel
theorem dX6_init_388 : decode cX6_init 388 = .ok (.iastore, 1) := by decide +kernel
theorem dX6_init_389 : decode cX6_init 389 = .ok (.dup, 1) := by decide +kernel
theorem dX6_init_390 : decode cX6_init 390 = .ok (.iconst 1, 1) := by decide +kernel
theorem dX6_init_391 : decode cX6_init 391 = .ok (.iconst 0, 1) := by decide +kernel
theorem dX6_init_392 : decode cX6_init 392 = .ok (.iastore, 1) := by decide +kernel
theorem dX6_init_393 : decode cX6_init 393 = .ok (.dup, 1) := by decide +kernel
theorem dX6_init_394 : decode cX6_init 394 = .ok (.iconst 2, 1) := by decide +kernel
theorem dX6_init_395 : decode cX6_init 395 = .ok (.iconst 0, 1) := by decide +kernel
theorem dX6_init_396 : decode cX6_init 396 = .ok (.iastore, 1) := by decide +kernel
theorem dX6_init_397 : decode cX6_init 397 = .ok (.dup, 1) := by decide +kernel
theorem dX6_init_398 : decode cX6_init 398 = .ok (.iconst 3, 1) := by decide +kernel
theorem dX6_init_399 : decode cX6_init 399 = .ok (.bipush (-4), 2) := by decide +kernel
theorem dX6_init_401 : decode cX6_init 401 = .ok (.iastore, 1) := by decide +kernel
theorem dX6_init_402 : decode cX6_init 402 = .ok (.dup, 1) := by decide +kernel
theorem dX6_init_403 : decode cX6_init 403 = .ok (.iconst 4, 1) := by decide +kernel
theorem dX6_init_404 : decode cX6_init 404 = .ok (.bipush (-4), 2) := by decide +kernel
theorem dX6_init_406 : decode cX6_init 406 = .ok (.iastore, 1) := by decide +kernel
theorem dX6_init_407 : decode cX6_init 407 = .ok (.dup, 1) := by decide +kernel
theorem dX6_init_408 : decode cX6_init 408 = .ok (.iconst 5, 1) := by decide +kernel
theorem dX6_init_409 : decode cX6_init 409 = .ok (.bipush (-4), 2) := by decide +kernel
theorem dX6_init_411 : decode cX6_init 411 = .ok (.iastore, 1) := by decide +kernel
theorem dX6_init_412 : decode cX6_init 412 = .ok (.dup, 1) := by decide +kernel
theorem dX6_init_413 : decode cX6_init 413 = .ok (.bipush 6, 2) := by decide +kernel
theorem dX6_init_415 : decode cX6_init 415 = .ok (.iconst 0, 1) := by decide +kernel
theorem dX6_init_416 : decode cX6_init 416 = .ok (.iastore, 1) := by decide +kernel
theorem dX6_init_417 : decode cX6_init 417 = .ok (.dup, 1) := by decide +kernel
theorem dX6_init_418 : decode cX6_init 418 = .ok (.bipush 7, 2) := by decide +kernel
theorem dX6_init_420 : decode cX6_init 420 = .ok (.iconst 2, 1) := by decide +kernel
theorem dX6_init_421 : decode cX6_init 421 = .ok (.iastore, 1) := by decide +kernel
theorem dX6_init_422 : decode cX6_init 422 = .ok (.dup, 1) := by decide +kernel
theorem dX6_init_423 : decode cX6_init 423 = .ok (.bipush 8, 2) := by decide +kernel
theorem dX6_init_425 : decode cX6_init 425 = .ok (.iconst 1, 1) := by decide +kernel
theorem dX6_init_426 : decode cX6_init 426 = .ok (.iastore, 1) := by decide +kernel
theorem dX6_init_427 : decode cX6_init 427 = .ok (.dup, 1) := by decide +kernel
theorem dX6_init_428 : decode cX6_init 428 = .ok (.bipush 9, 2) := by decide +kernel
theorem dX6_init_430 : decode cX6_init 430 = .ok (.iconst 2, 1) := by decide +kernel
theorem dX6_init_431 : decode cX6_init 431 = .ok (.iastore, 1) := by decide +kernel
theorem dX6_init_432 : decode cX6_init 432 = .ok (.dup, 1) := by decide +kernel
theorem dX6_init_433 : decode cX6_init 433 = .ok (.bipush 10, 2) := by decide +kernel
theorem dX6_init_435 : decode cX6_init 435 = .ok (.iconst 2, 1) := by decide +kernel
theorem dX6_init_436 : decode cX6_init 436 = .ok (.iastore, 1) := by decide +kernel
theorem dX6_init_437 : decode cX6_init 437 = .ok (.dup, 1) := by decide +kernel
theorem dX6_init_438 : decode cX6_init 438 = .ok (.bipush 11, 2) := by decide +kernel
theorem dX6_init_440 : decode cX6_init 440 = .ok (.bipush (-4), 2) := by decide +kernel
theorem dX6_init_442 : decode cX6_init 442 = .ok (.iastore, 1) := by decide +kernel
theorem dX6_init_443 : decode cX6_init 443 = .ok (.dup, 1) := by decide +kernel
theorem dX6_init_444 : decode cX6_init 444 = .ok (.bipush 12, 2) := by decide +kernel
theorem dX6_init_446 : decode cX6_init 446 = .ok (.iconst 0, 1) := by decide +kernel
theorem dX6_init_447 : decode cX6_init 447 = .ok (.iastore, 1) := by decide +kernel
theorem dX6_init_448 : decode cX6_init 448 = .ok (.dup, 1) := by decide +kernel
theorem dX6_init_449 : decode cX6_init 449 = .ok (.bipush 13, 2) := by decide +kernel
theorem dX6_init_451 : decode cX6_init 451 = .ok (.iconst 0, 1) := by decide +kernel
theorem dX6_init_452 : decode cX6_init 452 = .ok (.iastore, 1) := by decide +kernel
theorem dX6_init_453 : decode cX6_init 453 = .ok (.dup, 1) := by decide +kernel
theorem dX6_init_454 : decode cX6_init 454 = .ok (.bipush 14, 2) := by decide +kernel
theorem dX6_init_456 : decode cX6_init 456 = .ok (.iconst 0, 1) := by decide +kernel
theorem dX6_init_457 : decode cX6_init 457 = .ok (.iastore, 1) := by decide +kernel
theorem dX6_init_458 : decode cX6_init 458 = .ok (.dup, 1) := by decide +kernel
theorem dX6_init_459 : decode cX6_init 459 = .ok (.bipush 15, 2) := by decide +kernel
theorem dX6_init_461 : decode cX6_init 461 = .ok (.iconst 0, 1) := by decide +kernel
theorem dX6_init_462 : decode cX6_init 462 = .ok (.iastore, 1) := by decide +kernel
