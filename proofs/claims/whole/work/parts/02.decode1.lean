theorem dX0_init_0 : decode cX0_init 0 = .ok (.aload_n 0, 1) := by decide +kernel
theorem dX0_init_1 : decode cX0_init 1 = .ok (.invokespecial 3, 3) := by decide +kernel
theorem dX0_init_4 : decode cX0_init 4 = .ok (.aload_n 0, 1) := by decide +kernel
theorem dX0_init_5 : decode cX0_init 5 = .ok (.iconst 0, 1) := by decide +kernel
theorem dX0_init_6 : decode cX0_init 6 = .ok (.putfield 9, 3) := by decide +kernel
theorem dX0_init_9 : decode cX0_init 9 = .ok (.aload_n 0, 1) := by decide +kernel
theorem dX0_init_10 : decode cX0_init 10 = .ok (.iconst 0, 1) := by decide +kernel
theorem dX0_init_11 : decode cX0_init 11 = .ok (.putfield 15, 3) := by decide +kernel
theorem dX0_init_14 : decode cX0_init 14 = .ok (.aload_n 0, 1) := by decide +kernel
theorem dX0_init_15 : decode cX0_init 15 = .ok (.iconst 0, 1) := by decide +kernel
theorem dX0_init_16 : decode cX0_init 16 = .ok (.putfield 18, 3) := by decide +kernel
theorem dX0_init_19 : decode cX0_init 19 = .ok (.aload_n 0, 1) := by decide +kernel
theorem dX0_init_20 : decode cX0_init 20 = .ok (.bipush 7, 2) := by decide +kernel
theorem dX0_init_22 : decode cX0_init 22 = .ok (.newarray .int, 2) := by decide +kernel
theorem dX0_init_24 : decode cX0_init 24 = .ok (.putfield 22, 3) := by decide +kernel
theorem dX0_init_27 : decode cX0_init 27 = .ok (.aload_n 0, 1) := by decide +kernel
theorem dX0_init_28 : decode cX0_init 28 = .ok (.bipush 7, 2) := by decide +kernel
theorem dX0_init_30 : decode cX0_init 30 = .ok (.newarray .int, 2) := by decide +kernel
theorem dX0_init_32 : decode cX0_init 32 = .ok (.putfield 26, 3) := by decide +kernel
theorem dX0_init_35 : decode cX0_init 35 = .ok (.aload_n 0, 1) := by decide +kernel
theorem dX0_init_36 : decode cX0_init 36 = .ok (.bipush 7, 2) := by decide +kernel
theorem dX0_init_38 : decode cX0_init 38 = .ok (.newarray .int, 2) := by decide +kernel
theorem dX0_init_40 : decode cX0_init 40 = .ok (.putfield 29, 3) := by decide +kernel
theorem dX0_init_43 : decode cX0_init 43 = .ok (.aload_n 0, 1) := by decide +kernel
theorem dX0_init_44 : decode cX0_init 44 = .ok (.bipush 7, 2) := by decide +kernel
theorem dX0_init_46 : decode cX0_init 46 = .ok (.newarray .int, 2) := by decide +kernel
theorem dX0_init_48 : decode cX0_init 48 = .ok (.putfield 32, 3) := by decide +kernel
theorem dX0_init_51 : decode cX0_init 51 = .ok (.aload_n 0, 1) := by decide +kernel
theorem dX0_init_52 : decode cX0_init 52 = .ok (.bipush 7, 2) := by decide +kernel
theorem dX0_init_54 : decode cX0_init 54 = .ok (.newarray .boolean, 2) := by decide +kernel
theorem dX0_init_56 : decode cX0_init 56 = .ok (.putfield 35, 3) := by decide +kernel
theorem dX0_init_59 : decode cX0_init 59 = .ok (.return_, 1) := by decide +kernel
theorem dX0_takeText_0 : decode cX0_takeText 0 = .ok (.aload_n 0, 1) := by decide +kernel
theorem dX0_takeText_1 : decode cX0_takeText 1 = .ok (.aload_n 1, 1) := by decide +kernel
theorem dX0_takeText_2 : decode cX0_takeText 2 = .ok (.iload_n 2, 1) := by decide +kernel
theorem dX0_takeText_3 : decode cX0_takeText 3 = .ok (.iconst 1, 1) := by decide +kernel
theorem dX0_takeText_4 : decode cX0_takeText 4 = .ok (.iadd, 1) := by decide +kernel
theorem dX0_takeText_5 : decode cX0_takeText 5 = .ok (.invokevirtual 39, 3) := by decide +kernel
theorem dX0_takeText_8 : decode cX0_takeText 8 = .ok (.bipush 49, 2) := by decide +kernel
theorem dX0_takeText_10 : decode cX0_takeText 10 = .ok (.if_icmp .ne 7, 3) := by decide +kernel
theorem dX0_takeText_13 : decode cX0_takeText 13 = .ok (.iconst 1, 1) := by decide +kernel
theorem dX0_takeText_14 : decode cX0_takeText 14 = .ok (.goto 4, 3) := by decide +kernel
theorem dX0_takeText_17 : decode cX0_takeText 17 = .ok (.iconst 0, 1) := by decide +kernel
theorem dX0_takeText_18 : decode cX0_takeText 18 = .ok (.putfield 18, 3) := by decide +kernel
theorem dX0_takeText_21 : decode cX0_takeText 21 = .ok (.aload_n 0, 1) := by decide +kernel
theorem dX0_takeText_22 : decode cX0_takeText 22 = .ok (.iload_n 3, 1) := by decide +kernel
theorem dX0_takeText_23 : decode cX0_takeText 23 = .ok (.iconst 2, 1) := by decide +kernel
theorem dX0_takeText_24 : decode cX0_takeText 24 = .ok (.isub, 1) := by decide +kernel
theorem dX0_takeText_25 : decode cX0_takeText 25 = .ok (.iconst 5, 1) := by decide +kernel
theorem dX0_takeText_26 : decode cX0_takeText 26 = .ok (.idiv, 1) := by decide +kernel
theorem dX0_takeText_27 : decode cX0_takeText 27 = .ok (.bipush 7, 2) := by decide +kernel
theorem dX0_takeText_29 : decode cX0_takeText 29 = .ok (.invokestatic 45, 3) := by decide +kernel
theorem dX0_takeText_32 : decode cX0_takeText 32 = .ok (.putfield 9, 3) := by decide +kernel
theorem dX0_takeText_35 : decode cX0_takeText 35 = .ok (.aload_n 0, 1) := by decide +kernel
theorem dX0_takeText_36 : decode cX0_takeText 36 = .ok (.aload_n 0, 1) := by decide +kernel
theorem dX0_takeText_37 : decode cX0_takeText 37 = .ok (.getfield 18, 3) := by decide +kernel
theorem dX0_takeText_40 : decode cX0_takeText 40 = .ok (.ifCond .eq 10, 3) := by decide +kernel
theorem dX0_takeText_43 : decode cX0_takeText 43 = .ok (.aload_n 0, 1) := by decide +kernel
theorem dX0_takeText_44 : decode cX0_takeText 44 = .ok (.getfield 9, 3) := by decide +kernel
theorem dX0_takeText_47 : decode cX0_takeText 47 = .ok (.goto 9, 3) := by decide +kernel
theorem dX0_takeText_50 : decode cX0_takeText 50 = .ok (.aload_n 0, 1) := by decide +kernel
theorem dX0_takeText_51 : decode cX0_takeText 51 = .ok (.getfield 9, 3) := by decide +kernel
theorem dX0_takeText_54 : decode cX0_takeText 54 = .ok (.iconst 1, 1) := by decide +kernel
theorem dX0_takeText_55 : decode cX0_takeText 55 = .ok (.isub, 1) := by decide +kernel
theorem dX0_takeText_56 : decode cX0_takeText 56 = .ok (.putfield 15, 3) := by decide +kernel
theorem dX0_takeText_59 : decode cX0_takeText 59 = .ok (.iconst 0, 1) := by decide +kernel
theorem dX0_takeText_60 : decode cX0_takeText 60 = .ok (.istore 4, 2) := by decide +kernel
theorem dX0_takeText_62 : decode cX0_takeText 62 = .ok (.iload 4, 2) := by decide +kernel
theorem dX0_takeText_64 : decode cX0_takeText 64 = .ok (.aload_n 0, 1) := by decide +kernel
theorem dX0_takeText_65 : decode cX0_takeText 65 = .ok (.getfield 9, 3) := by decide +kernel
theorem dX0_takeText_68 : decode cX0_takeText 68 = .ok (.if_icmp .ge 91, 3) := by decide +kernel
theorem dX0_takeText_71 : decode cX0_takeText 71 = .ok (.iload_n 2, 1) := by decide +kernel
theorem dX0_takeText_72 : decode cX0_takeText 72 = .ok (.iconst 2, 1) := by decide +kernel
theorem dX0_takeText_73 : decode cX0_takeText 73 = .ok (.iadd, 1) := by decide +kernel
theorem dX0_takeText_74 : decode cX0_takeText 74 = .ok (.iload 4, 2) := by decide +kernel
theorem dX0_takeText_76 : decode cX0_takeText 76 = .ok (.iconst 5, 1) := by decide +kernel
theorem dX0_takeText_77 : decode cX0_takeText 77 = .ok (.imul, 1) := by decide +kernel
theorem dX0_takeText_78 : decode cX0_takeText 78 = .ok (.iadd, 1) := by decide +kernel
theorem dX0_takeText_79 : decode cX0_takeText 79 = .ok (.istore 5, 2) := by decide +kernel
theorem dX0_takeText_81 : decode cX0_takeText 81 = .ok (.aload_n 0, 1) := by decide +kernel
theorem dX0_takeText_82 : decode cX0_takeText 82 = .ok (.getfield 22, 3) := by decide +kernel
theorem dX0_takeText_85 : decode cX0_takeText 85 = .ok (.iload 4, 2) := by decide +kernel
theorem dX0_takeText_87 : decode cX0_takeText 87 = .ok (.aload_n 1, 1) := by decide +kernel
theorem dX0_takeText_88 : decode cX0_takeText 88 = .ok (.iload 5, 2) := by decide +kernel
theorem dX0_takeText_90 : decode cX0_takeText 90 = .ok (.iconst 1, 1) := by decide +kernel
theorem dX0_takeText_91 : decode cX0_takeText 91 = .ok (.iadd, 1) := by decide +kernel
theorem dX0_takeText_92 : decode cX0_takeText 92 = .ok (.invokevirtual 39, 3) := by decide +kernel
theorem dX0_takeText_95 : decode cX0_takeText 95 = .ok (.invokestatic 51, 3) := by decide +kernel
theorem dX0_takeText_98 : decode cX0_takeText 98 = .ok (.iastore, 1) := by decide +kernel
theorem dX0_takeText_99 : decode cX0_takeText 99 = .ok (.aload_n 0, 1) := by decide +kernel
theorem dX0_takeText_100 : decode cX0_takeText 100 = .ok (.getfield 26, 3) := by decide +kernel
theorem dX0_takeText_103 : decode cX0_takeText 103 = .ok (.iload 4, 2) := by decide +kernel
theorem dX0_takeText_105 : decode cX0_takeText 105 = .ok (.aload_n 1, 1) := by decide +kernel
theorem dX0_takeText_106 : decode cX0_takeText 106 = .ok (.iload 5, 2) := by decide +kernel
theorem dX0_takeText_108 : decode cX0_takeText 108 = .ok (.iconst 2, 1) := by decide +kernel
theorem dX0_takeText_109 : decode cX0_takeText 109 = .ok (.iadd, 1) := by decide +kernel
theorem dX0_takeText_110 : decode cX0_takeText 110 = .ok (.invokevirtual 39, 3) := by decide +kernel
theorem dX0_takeText_113 : decode cX0_takeText 113 = .ok (.bipush 48, 2) := by decide +kernel
theorem dX0_takeText_115 : decode cX0_takeText 115 = .ok (.isub, 1) := by decide +kernel
theorem dX0_takeText_116 : decode cX0_takeText 116 = .ok (.iastore, 1) := by decide +kernel
theorem dX0_takeText_117 : decode cX0_takeText 117 = .ok (.aload_n 0, 1) := by decide +kernel
theorem dX0_takeText_118 : decode cX0_takeText 118 = .ok (.getfield 29, 3) := by decide +kernel
theorem dX0_takeText_121 : decode cX0_takeText 121 = .ok (.iload 4, 2) := by decide +kernel
theorem dX0_takeText_123 : decode cX0_takeText 123 = .ok (.aload_n 1, 1) := by decide +kernel
theorem dX0_takeText_124 : decode cX0_takeText 124 = .ok (.iload 5, 2) := by decide +kernel
theorem dX0_takeText_126 : decode cX0_takeText 126 = .ok (.iconst 3, 1) := by decide +kernel
theorem dX0_takeText_127 : decode cX0_takeText 127 = .ok (.iadd, 1) := by decide +kernel
theorem dX0_takeText_128 : decode cX0_takeText 128 = .ok (.invokevirtual 39, 3) := by decide +kernel
theorem dX0_takeText_131 : decode cX0_takeText 131 = .ok (.bipush 48, 2) := by decide +kernel
theorem dX0_takeText_133 : decode cX0_takeText 133 = .ok (.isub, 1) := by decide +kernel
theorem dX0_takeText_134 : decode cX0_takeText 134 = .ok (.iastore, 1) := by decide +kernel
theorem dX0_takeText_135 : decode cX0_takeText 135 = .ok (.aload_n 0, 1) := by decide +kernel
theorem dX0_takeText_136 : decode cX0_takeText 136 = .ok (.getfield 32, 3) := by decide +kernel
theorem dX0_takeText_139 : decode cX0_takeText 139 = .ok (.iload 4, 2) := by decide +kernel
theorem dX0_takeText_141 : decode cX0_takeText 141 = .ok (.aload_n 1, 1) := by decide +kernel
theorem dX0_takeText_142 : decode cX0_takeText 142 = .ok (.iload 5, 2) := by decide +kernel
theorem dX0_takeText_144 : decode cX0_takeText 144 = .ok (.iconst 4, 1) := by decide +kernel
theorem dX0_takeText_145 : decode cX0_takeText 145 = .ok (.iadd, 1) := by decide +kernel
theorem dX0_takeText_146 : decode cX0_takeText 146 = .ok (.invokevirtual 39, 3) := by decide +kernel
theorem dX0_takeText_149 : decode cX0_takeText 149 = .ok (.bipush 48, 2) := by decide +kernel
theorem dX0_takeText_151 : decode cX0_takeText 151 = .ok (.isub, 1) := by decide +kernel
theorem dX0_takeText_152 : decode cX0_takeText 152 = .ok (.iastore, 1) := by decide +kernel
theorem dX0_takeText_153 : decode cX0_takeText 153 = .ok (.iinc 4 1, 3) := by decide +kernel
theorem dX0_takeText_156 : decode cX0_takeText 156 = .ok (.goto (-94), 3) := by decide +kernel
theorem dX0_takeText_159 : decode cX0_takeText 159 = .ok (.iconst 0, 1) := by decide +kernel
theorem dX0_takeText_160 : decode cX0_takeText 160 = .ok (.istore 4, 2) := by decide +kernel
theorem dX0_takeText_162 : decode cX0_takeText 162 = .ok (.iload 4, 2) := by decide +kernel
theorem dX0_takeText_164 : decode cX0_takeText 164 = .ok (.aload_n 0, 1) := by decide +kernel
theorem dX0_takeText_165 : decode cX0_takeText 165 = .ok (.getfield 35, 3) := by decide +kernel
theorem dX0_takeText_168 : decode cX0_takeText 168 = .ok (.arraylength, 1) := by decide +kernel
theorem dX0_takeText_169 : decode cX0_takeText 169 = .ok (.if_icmp .ge 17, 3) := by decide +kernel
theorem dX0_takeText_172 : decode cX0_takeText 172 = .ok (.aload_n 0, 1) := by decide +kernel
theorem dX0_takeText_173 : decode cX0_takeText 173 = .ok (.getfield 35, 3) := by decide +kernel
theorem dX0_takeText_176 : decode cX0_takeText 176 = .ok (.iload 4, 2) := by decide +kernel
theorem dX0_takeText_178 : decode cX0_takeText 178 = .ok (.iconst 0, 1) := by decide +kernel
theorem dX0_takeText_179 : decode cX0_takeText 179 = .ok (.bastore, 1) := by decide +kernel
theorem dX0_takeText_180 : decode cX0_takeText 180 = .ok (.iinc 4 1, 3) := by decide +kernel
theorem dX0_takeText_183 : decode cX0_takeText 183 = .ok (.goto (-21), 3) := by decide +kernel
theorem dX0_takeText_186 : decode cX0_takeText 186 = .ok (.return_, 1) := by decide +kernel
theorem dX0_kindOf_0 : decode cX0_kindOf 0 = .ok (.iload_n 0, 1) := by decide +kernel
theorem dX0_kindOf_1 : decode cX0_kindOf 1 = .ok (.bipush 116, 2) := by decide +kernel
theorem dX0_kindOf_3 : decode cX0_kindOf 3 = .ok (.if_icmp .ne 7, 3) := by decide +kernel
theorem dX0_kindOf_6 : decode cX0_kindOf 6 = .ok (.iconst 2, 1) := by decide +kernel
theorem dX0_kindOf_7 : decode cX0_kindOf 7 = .ok (.goto 14, 3) := by decide +kernel
theorem dX0_kindOf_10 : decode cX0_kindOf 10 = .ok (.iload_n 0, 1) := by decide +kernel
theorem dX0_kindOf_11 : decode cX0_kindOf 11 = .ok (.bipush 103, 2) := by decide +kernel
theorem dX0_kindOf_13 : decode cX0_kindOf 13 = .ok (.if_icmp .ne 7, 3) := by decide +kernel
theorem dX0_kindOf_16 : decode cX0_kindOf 16 = .ok (.iconst 1, 1) := by decide +kernel
theorem dX0_kindOf_17 : decode cX0_kindOf 17 = .ok (.goto 4, 3) := by decide +kernel
theorem dX0_kindOf_20 : decode cX0_kindOf 20 = .ok (.iconst 0, 1) := by decide +kernel
theorem dX0_kindOf_21 : decode cX0_kindOf 21 = .ok (.ireturn, 1) := by decide +kernel
theorem dX0_isThere_0 : decode cX0_isThere 0 = .ok (.aload_n 0, 1) := by decide +kernel
theorem dX0_isThere_1 : decode cX0_isThere 1 = .ok (.getfield 9, 3) := by decide +kernel
theorem dX0_isThere_4 : decode cX0_isThere 4 = .ok (.ifCond .le 7, 3) := by decide +kernel
theorem dX0_isThere_7 : decode cX0_isThere 7 = .ok (.iconst 1, 1) := by decide +kernel
theorem dX0_isThere_8 : decode cX0_isThere 8 = .ok (.goto 4, 3) := by decide +kernel
theorem dX0_isThere_11 : decode cX0_isThere 11 = .ok (.iconst 0, 1) := by decide +kernel
theorem dX0_isThere_12 : decode cX0_isThere 12 = .ok (.ireturn, 1) := by decide +kernel
theorem dX0_isPerson_0 : decode cX0_isPerson 0 = .ok (.iload_n 1, 1) := by decide +kernel
theorem dX0_isPerson_1 : decode cX0_isPerson 1 = .ok (.ifCond .lt 15, 3) := by decide +kernel
theorem dX0_isPerson_4 : decode cX0_isPerson 4 = .ok (.iload_n 1, 1) := by decide +kernel
theorem dX0_isPerson_5 : decode cX0_isPerson 5 = .ok (.aload_n 0, 1) := by decide +kernel
theorem dX0_isPerson_6 : decode cX0_isPerson 6 = .ok (.getfield 9, 3) := by decide +kernel
theorem dX0_isPerson_9 : decode cX0_isPerson 9 = .ok (.if_icmp .ge 7, 3) := by decide +kernel
theorem dX0_isPerson_12 : decode cX0_isPerson 12 = .ok (.iconst 1, 1) := by decide +kernel
theorem dX0_isPerson_13 : decode cX0_isPerson 13 = .ok (.goto 4, 3) := by decide +kernel
theorem dX0_isPerson_16 : decode cX0_isPerson 16 = .ok (.iconst 0, 1) := by decide +kernel
theorem dX0_isPerson_17 : decode cX0_isPerson 17 = .ok (.ireturn, 1) := by decide +kernel
theorem dX0_isEdge_0 : decode cX0_isEdge 0 = .ok (.iload_n 1, 1) := by decide +kernel
theorem dX0_isEdge_1 : decode cX0_isEdge 1 = .ok (.ifCond .lt 15, 3) := by decide +kernel
theorem dX0_isEdge_4 : decode cX0_isEdge 4 = .ok (.iload_n 1, 1) := by decide +kernel
theorem dX0_isEdge_5 : decode cX0_isEdge 5 = .ok (.aload_n 0, 1) := by decide +kernel
theorem dX0_isEdge_6 : decode cX0_isEdge 6 = .ok (.getfield 15, 3) := by decide +kernel
theorem dX0_isEdge_9 : decode cX0_isEdge 9 = .ok (.if_icmp .ge 7, 3) := by decide +kernel
theorem dX0_isEdge_12 : decode cX0_isEdge 12 = .ok (.iconst 1, 1) := by decide +kernel
theorem dX0_isEdge_13 : decode cX0_isEdge 13 = .ok (.goto 4, 3) := by decide +kernel
theorem dX0_isEdge_16 : decode cX0_isEdge 16 = .ok (.iconst 0, 1) := by decide +kernel
theorem dX0_isEdge_17 : decode cX0_isEdge 17 = .ok (.ireturn, 1) := by decide +kernel
theorem dX0_isOpen_0 : decode cX0_isOpen 0 = .ok (.aload_n 0, 1) := by decide +kernel
theorem dX0_isOpen_1 : decode cX0_isOpen 1 = .ok (.iload_n 1, 1) := by decide +kernel
theorem dX0_isOpen_2 : decode cX0_isOpen 2 = .ok (.invokevirtual 54, 3) := by decide +kernel
theorem dX0_isOpen_5 : decode cX0_isOpen 5 = .ok (.ifCond .eq 16, 3) := by decide +kernel
theorem dX0_isOpen_8 : decode cX0_isOpen 8 = .ok (.aload_n 0, 1) := by decide +kernel
theorem dX0_isOpen_9 : decode cX0_isOpen 9 = .ok (.getfield 35, 3) := by decide +kernel
theorem dX0_isOpen_12 : decode cX0_isOpen 12 = .ok (.iload_n 1, 1) := by decide +kernel
theorem dX0_isOpen_13 : decode cX0_isOpen 13 = .ok (.baload, 1) := by decide +kernel
theorem dX0_isOpen_14 : decode cX0_isOpen 14 = .ok (.ifCond .ne 7, 3) := by decide +kernel
theorem dX0_isOpen_17 : decode cX0_isOpen 17 = .ok (.iconst 1, 1) := by decide +kernel
theorem dX0_isOpen_18 : decode cX0_isOpen 18 = .ok (.goto 4, 3) := by decide +kernel
theorem dX0_isOpen_21 : decode cX0_isOpen 21 = .ok (.iconst 0, 1) := by decide +kernel
theorem dX0_isOpen_22 : decode cX0_isOpen 22 = .ok (.ireturn, 1) := by decide +kernel
theorem dX0_rightEnd_0 : decode cX0_rightEnd 0 = .ok (.iload_n 1, 1) := by decide +kernel
theorem dX0_rightEnd_1 : decode cX0_rightEnd 1 = .ok (.iconst 1, 1) := by decide +kernel
theorem dX0_rightEnd_2 : decode cX0_rightEnd 2 = .ok (.iadd, 1) := by decide +kernel
theorem dX0_rightEnd_3 : decode cX0_rightEnd 3 = .ok (.aload_n 0, 1) := by decide +kernel
theorem dX0_rightEnd_4 : decode cX0_rightEnd 4 = .ok (.getfield 9, 3) := by decide +kernel
theorem dX0_rightEnd_7 : decode cX0_rightEnd 7 = .ok (.if_icmp .ge 9, 3) := by decide +kernel
theorem dX0_rightEnd_10 : decode cX0_rightEnd 10 = .ok (.iload_n 1, 1) := by decide +kernel
theorem dX0_rightEnd_11 : decode cX0_rightEnd 11 = .ok (.iconst 1, 1) := by decide +kernel
theorem dX0_rightEnd_12 : decode cX0_rightEnd 12 = .ok (.iadd, 1) := by decide +kernel
theorem dX0_rightEnd_13 : decode cX0_rightEnd 13 = .ok (.goto 4, 3) := by decide +kernel
theorem dX0_rightEnd_16 : decode cX0_rightEnd 16 = .ok (.iconst 0, 1) := by decide +kernel
theorem dX0_rightEnd_17 : decode cX0_rightEnd 17 = .ok (.ireturn, 1) := by decide +kernel
theorem dX0_edgeOnLeft_0 : decode cX0_edgeOnLeft 0 = .ok (.iload_n 1, 1) := by decide +kernel
theorem dX0_edgeOnLeft_1 : decode cX0_edgeOnLeft 1 = .ok (.ifCond .le 9, 3) := by decide +kernel
theorem dX0_edgeOnLeft_4 : decode cX0_edgeOnLeft 4 = .ok (.iload_n 1, 1) := by decide +kernel
theorem dX0_edgeOnLeft_5 : decode cX0_edgeOnLeft 5 = .ok (.iconst 1, 1) := by decide +kernel
theorem dX0_edgeOnLeft_6 : decode cX0_edgeOnLeft 6 = .ok (.isub, 1) := by decide +kernel
theorem dX0_edgeOnLeft_7 : decode cX0_edgeOnLeft 7 = .ok (.goto 9, 3) := by decide +kernel
theorem dX0_edgeOnLeft_10 : decode cX0_edgeOnLeft 10 = .ok (.aload_n 0, 1) := by decide +kernel
theorem dX0_edgeOnLeft_11 : decode cX0_edgeOnLeft 11 = .ok (.getfield 9, 3) := by decide +kernel
theorem dX0_edgeOnLeft_14 : decode cX0_edgeOnLeft 14 = .ok (.iconst 1, 1) := by decide +kernel
theorem dX0_edgeOnLeft_15 : decode cX0_edgeOnLeft 15 = .ok (.isub, 1) := by decide +kernel
theorem dX0_edgeOnLeft_16 : decode cX0_edgeOnLeft 16 = .ok (.ireturn, 1) := by decide +kernel
theorem dX0_howManyWalled_0 : decode cX0_howManyWalled 0 = .ok (.iconst 0, 1) := by decide +kernel
theorem dX0_howManyWalled_1 : decode cX0_howManyWalled 1 = .ok (.istore_n 1, 1) := by decide +kernel
theorem dX0_howManyWalled_2 : decode cX0_howManyWalled 2 = .ok (.iconst 0, 1) := by decide +kernel
theorem dX0_howManyWalled_3 : decode cX0_howManyWalled 3 = .ok (.istore_n 2, 1) := by decide +kernel
theorem dX0_howManyWalled_4 : decode cX0_howManyWalled 4 = .ok (.iload_n 2, 1) := by decide +kernel
theorem dX0_howManyWalled_5 : decode cX0_howManyWalled 5 = .ok (.aload_n 0, 1) := by decide +kernel
theorem dX0_howManyWalled_6 : decode cX0_howManyWalled 6 = .ok (.getfield 15, 3) := by decide +kernel
theorem dX0_howManyWalled_9 : decode cX0_howManyWalled 9 = .ok (.if_icmp .ge 21, 3) := by decide +kernel
theorem dX0_howManyWalled_12 : decode cX0_howManyWalled 12 = .ok (.aload_n 0, 1) := by decide +kernel
theorem dX0_howManyWalled_13 : decode cX0_howManyWalled 13 = .ok (.getfield 35, 3) := by decide +kernel
theorem dX0_howManyWalled_16 : decode cX0_howManyWalled 16 = .ok (.iload_n 2, 1) := by decide +kernel
theorem dX0_howManyWalled_17 : decode cX0_howManyWalled 17 = .ok (.baload, 1) := by decide +kernel
theorem dX0_howManyWalled_18 : decode cX0_howManyWalled 18 = .ok (.ifCond .eq 6, 3) := by decide +kernel
theorem dX0_howManyWalled_21 : decode cX0_howManyWalled 21 = .ok (.iinc 1 1, 3) := by decide +kernel
theorem dX0_howManyWalled_24 : decode cX0_howManyWalled 24 = .ok (.iinc 2 1, 3) := by decide +kernel
theorem dX0_howManyWalled_27 : decode cX0_howManyWalled 27 = .ok (.goto (-23), 3) := by decide +kernel
theorem dX0_howManyWalled_30 : decode cX0_howManyWalled 30 = .ok (.iload_n 1, 1) := by decide +kernel
theorem dX0_howManyWalled_31 : decode cX0_howManyWalled 31 = .ok (.ireturn, 1) := by decide +kernel
theorem dX0_changeGoods_0 : decode cX0_changeGoods 0 = .ok (.aload_n 0, 1) := by decide +kernel
theorem dX0_changeGoods_1 : decode cX0_changeGoods 1 = .ok (.iload_n 1, 1) := by decide +kernel
theorem dX0_changeGoods_2 : decode cX0_changeGoods 2 = .ok (.invokevirtual 54, 3) := by decide +kernel
theorem dX0_changeGoods_5 : decode cX0_changeGoods 5 = .ok (.ifCond .eq 35, 3) := by decide +kernel
theorem dX0_changeGoods_8 : decode cX0_changeGoods 8 = .ok (.aload_n 0, 1) := by decide +kernel
theorem dX0_changeGoods_9 : decode cX0_changeGoods 9 = .ok (.iload_n 1, 1) := by decide +kernel
theorem dX0_changeGoods_10 : decode cX0_changeGoods 10 = .ok (.invokevirtual 58, 3) := by decide +kernel
theorem dX0_changeGoods_13 : decode cX0_changeGoods 13 = .ok (.istore_n 2, 1) := by decide +kernel
theorem dX0_changeGoods_14 : decode cX0_changeGoods 14 = .ok (.aload_n 0, 1) := by decide +kernel
theorem dX0_changeGoods_15 : decode cX0_changeGoods 15 = .ok (.getfield 29, 3) := by decide +kernel
theorem dX0_changeGoods_18 : decode cX0_changeGoods 18 = .ok (.iload_n 1, 1) := by decide +kernel
theorem dX0_changeGoods_19 : decode cX0_changeGoods 19 = .ok (.iaload, 1) := by decide +kernel
theorem dX0_changeGoods_20 : decode cX0_changeGoods 20 = .ok (.istore_n 3, 1) := by decide +kernel
theorem dX0_changeGoods_21 : decode cX0_changeGoods 21 = .ok (.aload_n 0, 1) := by decide +kernel
theorem dX0_changeGoods_22 : decode cX0_changeGoods 22 = .ok (.getfield 29, 3) := by decide +kernel
theorem dX0_changeGoods_25 : decode cX0_changeGoods 25 = .ok (.iload_n 1, 1) := by decide +kernel
theorem dX0_changeGoods_26 : decode cX0_changeGoods 26 = .ok (.aload_n 0, 1) := by decide +kernel
theorem dX0_changeGoods_27 : decode cX0_changeGoods 27 = .ok (.getfield 29, 3) := by decide +kernel
theorem dX0_changeGoods_30 : decode cX0_changeGoods 30 = .ok (.iload_n 2, 1) := by decide +kernel
theorem dX0_changeGoods_31 : decode cX0_changeGoods 31 = .ok (.iaload, 1) := by decide +kernel
theorem dX0_changeGoods_32 : decode cX0_changeGoods 32 = .ok (.iastore, 1) := by decide +kernel
theorem dX0_changeGoods_33 : decode cX0_changeGoods 33 = .ok (.aload_n 0, 1) := by decide +kernel
theorem dX0_changeGoods_34 : decode cX0_changeGoods 34 = .ok (.getfield 29, 3) := by decide +kernel
theorem dX0_changeGoods_37 : decode cX0_changeGoods 37 = .ok (.iload_n 2, 1) := by decide +kernel
theorem dX0_changeGoods_38 : decode cX0_changeGoods 38 = .ok (.iload_n 3, 1) := by decide +kernel
theorem dX0_changeGoods_39 : decode cX0_changeGoods 39 = .ok (.iastore, 1) := by decide +kernel
theorem dX0_changeGoods_40 : decode cX0_changeGoods 40 = .ok (.return_, 1) := by decide +kernel
theorem dX0_wayRight_0 : decode cX0_wayRight 0 = .ok (.iload_n 1, 1) := by decide +kernel
theorem dX0_wayRight_1 : decode cX0_wayRight 1 = .ok (.istore_n 3, 1) := by decide +kernel
theorem dX0_wayRight_2 : decode cX0_wayRight 2 = .ok (.iconst 0, 1) := by decide +kernel
theorem dX0_wayRight_3 : decode cX0_wayRight 3 = .ok (.istore 4, 2) := by decide +kernel
theorem dX0_wayRight_5 : decode cX0_wayRight 5 = .ok (.iload 4, 2) := by decide +kernel
theorem dX0_wayRight_7 : decode cX0_wayRight 7 = .ok (.aload_n 0, 1) := by decide +kernel
theorem dX0_wayRight_8 : decode cX0_wayRight 8 = .ok (.getfield 9, 3) := by decide +kernel
theorem dX0_wayRight_11 : decode cX0_wayRight 11 = .ok (.if_icmp .gt 34, 3) := by decide +kernel
theorem dX0_wayRight_14 : decode cX0_wayRight 14 = .ok (.iload_n 3, 1) := by decide +kernel
theorem dX0_wayRight_15 : decode cX0_wayRight 15 = .ok (.iload_n 2, 1) := by decide +kernel
theorem dX0_wayRight_16 : decode cX0_wayRight 16 = .ok (.if_icmp .ne 6, 3) := by decide +kernel
theorem dX0_wayRight_19 : decode cX0_wayRight 19 = .ok (.iload 4, 2) := by decide +kernel
theorem dX0_wayRight_21 : decode cX0_wayRight 21 = .ok (.ireturn, 1) := by decide +kernel
theorem dX0_wayRight_22 : decode cX0_wayRight 22 = .ok (.aload_n 0, 1) := by decide +kernel
theorem dX0_wayRight_23 : decode cX0_wayRight 23 = .ok (.iload_n 3, 1) := by decide +kernel
theorem dX0_wayRight_24 : decode cX0_wayRight 24 = .ok (.invokevirtual 61, 3) := by decide +kernel
theorem dX0_wayRight_27 : decode cX0_wayRight 27 = .ok (.ifCond .ne 6, 3) := by decide +kernel
theorem dX0_wayRight_30 : decode cX0_wayRight 30 = .ok (.bipush (-9), 2) := by decide +kernel
theorem dX0_wayRight_32 : decode cX0_wayRight 32 = .ok (.ireturn, 1) := by decide +kernel
theorem dX0_wayRight_33 : decode cX0_wayRight 33 = .ok (.aload_n 0, 1) := by decide +kernel
theorem dX0_wayRight_34 : decode cX0_wayRight 34 = .ok (.iload_n 3, 1) := by decide +kernel
theorem dX0_wayRight_35 : decode cX0_wayRight 35 = .ok (.invokevirtual 58, 3) := by decide +kernel
theorem dX0_wayRight_38 : decode cX0_wayRight 38 = .ok (.istore_n 3, 1) := by decide +kernel
theorem dX0_wayRight_39 : decode cX0_wayRight 39 = .ok (.iinc 4 1, 3) := by decide +kernel
theorem dX0_wayRight_42 : decode cX0_wayRight 42 = .ok (.goto (-37), 3) := by decide +kernel
theorem dX0_wayRight_45 : decode cX0_wayRight 45 = .ok (.bipush (-9), 2) := by decide +kernel
theorem dX0_wayRight_47 : decode cX0_wayRight 47 = .ok (.ireturn, 1) := by decide +kernel
theorem dX0_altered_0 : decode cX0_altered 0 = .ok (.aload_n 0, 1) := by decide +kernel
theorem dX0_altered_1 : decode cX0_altered 1 = .ok (.iload_n 1, 1) := by decide +kernel
theorem dX0_altered_2 : decode cX0_altered 2 = .ok (.invokevirtual 64, 3) := by decide +kernel
theorem dX0_altered_5 : decode cX0_altered 5 = .ok (.ifCond .eq 12, 3) := by decide +kernel
theorem dX0_altered_8 : decode cX0_altered 8 = .ok (.aload_n 0, 1) := by decide +kernel
theorem dX0_altered_9 : decode cX0_altered 9 = .ok (.getfield 22, 3) := by decide +kernel
theorem dX0_altered_12 : decode cX0_altered 12 = .ok (.iload_n 1, 1) := by decide +kernel
theorem dX0_altered_13 : decode cX0_altered 13 = .ok (.iaload, 1) := by decide +kernel
theorem dX0_altered_14 : decode cX0_altered 14 = .ok (.ifCond .ne 5, 3) := by decide +kernel
theorem dX0_altered_17 : decode cX0_altered 17 = .ok (.iload_n 2, 1) := by decide +kernel
theorem dX0_altered_18 : decode cX0_altered 18 = .ok (.ireturn, 1) := by decide +kernel
theorem dX0_altered_19 : decode cX0_altered 19 = .ok (.iload_n 2, 1) := by decide +kernel
theorem dX0_altered_20 : decode cX0_altered 20 = .ok (.aload_n 0, 1) := by decide +kernel
theorem dX0_altered_21 : decode cX0_altered 21 = .ok (.getfield 26, 3) := by decide +kernel
theorem dX0_altered_24 : decode cX0_altered 24 = .ok (.iload_n 1, 1) := by decide +kernel
theorem dX0_altered_25 : decode cX0_altered 25 = .ok (.iaload, 1) := by decide +kernel
theorem dX0_altered_26 : decode cX0_altered 26 = .ok (.iadd, 1) := by decide +kernel
theorem dX0_altered_27 : decode cX0_altered 27 = .ok (.bipush 100, 2) := by decide +kernel
theorem dX0_altered_29 : decode cX0_altered 29 = .ok (.irem, 1) := by decide +kernel
theorem dX0_altered_30 : decode cX0_altered 30 = .ok (.istore_n 3, 1) := by decide +kernel
theorem dX0_altered_31 : decode cX0_altered 31 = .ok (.aload_n 0, 1) := by decide +kernel
theorem dX0_altered_32 : decode cX0_altered 32 = .ok (.getfield 22, 3) := by decide +kernel
theorem dX0_altered_35 : decode cX0_altered 35 = .ok (.iload_n 1, 1) := by decide +kernel
theorem dX0_altered_36 : decode cX0_altered 36 = .ok (.iaload, 1) := by decide +kernel
theorem dX0_altered_37 : decode cX0_altered 37 = .ok (.iconst 2, 1) := by decide +kernel
theorem dX0_altered_38 : decode cX0_altered 38 = .ok (.if_icmp .ne 12, 3) := by decide +kernel
theorem dX0_altered_41 : decode cX0_altered 41 = .ok (.iconst 2, 1) := by decide +kernel
theorem dX0_altered_42 : decode cX0_altered 42 = .ok (.iload_n 3, 1) := by decide +kernel
theorem dX0_altered_43 : decode cX0_altered 43 = .ok (.imul, 1) := by decide +kernel
theorem dX0_altered_44 : decode cX0_altered 44 = .ok (.bipush 100, 2) := by decide +kernel
theorem dX0_altered_46 : decode cX0_altered 46 = .ok (.irem, 1) := by decide +kernel
theorem dX0_altered_47 : decode cX0_altered 47 = .ok (.goto 4, 3) := by decide +kernel
theorem dX0_altered_50 : decode cX0_altered 50 = .ok (.iload_n 3, 1) := by decide +kernel
theorem dX0_altered_51 : decode cX0_altered 51 = .ok (.ireturn, 1) := by decide +kernel
theorem dX1_init_0 : decode cX1_init 0 = .ok (.aload_n 0, 1) := by decide +kernel
theorem dX1_init_1 : decode cX1_init 1 = .ok (.invokespecial 3, 3) := by decide +kernel
theorem dX1_init_4 : decode cX1_init 4 = .ok (.aload_n 0, 1) := by decide +kernel
theorem dX1_init_5 : decode cX1_init 5 = .ok (.sipush 128, 3) := by decide +kernel
theorem dX1_init_8 : decode cX1_init 8 = .ok (.newarray .int, 2) := by decide +kernel
theorem dX1_init_10 : decode cX1_init 10 = .ok (.putfield 9, 3) := by decide +kernel
theorem dX1_init_13 : decode cX1_init 13 = .ok (.return_, 1) := by decide +kernel
theorem dX1_leastReaders_0 : decode cX1_leastReaders 0 = .ok (.iconst 1, 1) := by decide +kernel
theorem dX1_leastReaders_1 : decode cX1_leastReaders 1 = .ok (.aload_n 1, 1) := by decide +kernel
theorem dX1_leastReaders_2 : decode cX1_leastReaders 2 = .ok (.getfield 15, 3) := by decide +kernel
theorem dX1_leastReaders_5 : decode cX1_leastReaders 5 = .ok (.ishl, 1) := by decide +kernel
theorem dX1_leastReaders_6 : decode cX1_leastReaders 6 = .ok (.istore_n 2, 1) := by decide +kernel
theorem dX1_leastReaders_7 : decode cX1_leastReaders 7 = .ok (.aload_n 0, 1) := by decide +kernel
theorem dX1_leastReaders_8 : decode cX1_leastReaders 8 = .ok (.getfield 9, 3) := by decide +kernel
theorem dX1_leastReaders_11 : decode cX1_leastReaders 11 = .ok (.iconst 0, 1) := by decide +kernel
theorem dX1_leastReaders_12 : decode cX1_leastReaders 12 = .ok (.iconst 0, 1) := by decide +kernel
theorem dX1_leastReaders_13 : decode cX1_leastReaders 13 = .ok (.iastore, 1) := by decide +kernel
theorem dX1_leastReaders_14 : decode cX1_leastReaders 14 = .ok (.iconst 1, 1) := by decide +kernel
theorem dX1_leastReaders_15 : decode cX1_leastReaders 15 = .ok (.istore_n 3, 1) := by decide +kernel
theorem dX1_leastReaders_16 : decode cX1_leastReaders 16 = .ok (.iload_n 3, 1) := by decide +kernel
theorem dX1_leastReaders_17 : decode cX1_leastReaders 17 = .ok (.iload_n 2, 1) := by decide +kernel
theorem dX1_leastReaders_18 : decode cX1_leastReaders 18 = .ok (.if_icmp .ge 102, 3) := by decide +kernel
theorem dX1_leastReaders_21 : decode cX1_leastReaders 21 = .ok (.iload_n 3, 1) := by decide +kernel
theorem dX1_leastReaders_22 : decode cX1_leastReaders 22 = .ok (.aload_n 0, 1) := by decide +kernel
theorem dX1_leastReaders_23 : decode cX1_leastReaders 23 = .ok (.getfield 9, 3) := by decide +kernel
theorem dX1_leastReaders_26 : decode cX1_leastReaders 26 = .ok (.arraylength, 1) := by decide +kernel
theorem dX1_leastReaders_27 : decode cX1_leastReaders 27 = .ok (.if_icmp .ge 93, 3) := by decide +kernel
theorem dX1_leastReaders_30 : decode cX1_leastReaders 30 = .ok (.aload_n 0, 1) := by decide +kernel
theorem dX1_leastReaders_31 : decode cX1_leastReaders 31 = .ok (.getfield 9, 3) := by decide +kernel
theorem dX1_leastReaders_34 : decode cX1_leastReaders 34 = .ok (.iload_n 3, 1) := by decide +kernel
theorem dX1_leastReaders_35 : decode cX1_leastReaders 35 = .ok (.bipush (-9), 2) := by decide +kernel
theorem dX1_leastReaders_37 : decode cX1_leastReaders 37 = .ok (.iastore, 1) := by decide +kernel
theorem dX1_leastReaders_38 : decode cX1_leastReaders 38 = .ok (.iload_n 3, 1) := by decide +kernel
theorem dX1_leastReaders_39 : decode cX1_leastReaders 39 = .ok (.invokestatic 21, 3) := by decide +kernel
theorem dX1_leastReaders_42 : decode cX1_leastReaders 42 = .ok (.istore 4, 2) := by decide +kernel
theorem dX1_leastReaders_44 : decode cX1_leastReaders 44 = .ok (.iload 4, 2) := by decide +kernel
theorem dX1_leastReaders_46 : decode cX1_leastReaders 46 = .ok (.iconst 1, 1) := by decide +kernel
theorem dX1_leastReaders_47 : decode cX1_leastReaders 47 = .ok (.iadd, 1) := by decide +kernel
theorem dX1_leastReaders_48 : decode cX1_leastReaders 48 = .ok (.istore 5, 2) := by decide +kernel
theorem dX1_leastReaders_50 : decode cX1_leastReaders 50 = .ok (.iload 5, 2) := by decide +kernel
theorem dX1_leastReaders_52 : decode cX1_leastReaders 52 = .ok (.aload_n 1, 1) := by decide +kernel
theorem dX1_leastReaders_53 : decode cX1_leastReaders 53 = .ok (.getfield 15, 3) := by decide +kernel
theorem dX1_leastReaders_56 : decode cX1_leastReaders 56 = .ok (.if_icmp .ge 58, 3) := by decide +kernel
theorem dX1_leastReaders_59 : decode cX1_leastReaders 59 = .ok (.aload_n 0, 1) := by decide +kernel
theorem dX1_leastReaders_60 : decode cX1_leastReaders 60 = .ok (.aload_n 1, 1) := by decide +kernel
theorem dX1_leastReaders_61 : decode cX1_leastReaders 61 = .ok (.iload_n 3, 1) := by decide +kernel
theorem dX1_leastReaders_62 : decode cX1_leastReaders 62 = .ok (.iload 4, 2) := by decide +kernel
theorem dX1_leastReaders_64 : decode cX1_leastReaders 64 = .ok (.iload 5, 2) := by decide +kernel
theorem dX1_leastReaders_66 : decode cX1_leastReaders 66 = .ok (.invokevirtual 25, 3) := by decide +kernel
theorem dX1_leastReaders_69 : decode cX1_leastReaders 69 = .ok (.istore 6, 2) := by decide +kernel
theorem dX1_leastReaders_71 : decode cX1_leastReaders 71 = .ok (.iload 6, 2) := by decide +kernel
theorem dX1_leastReaders_73 : decode cX1_leastReaders 73 = .ok (.bipush (-9), 2) := by decide +kernel
theorem dX1_leastReaders_75 : decode cX1_leastReaders 75 = .ok (.if_icmp .eq 33, 3) := by decide +kernel
theorem dX1_leastReaders_78 : decode cX1_leastReaders 78 = .ok (.aload_n 0, 1) := by decide +kernel
theorem dX1_leastReaders_79 : decode cX1_leastReaders 79 = .ok (.getfield 9, 3) := by decide +kernel
theorem dX1_leastReaders_82 : decode cX1_leastReaders 82 = .ok (.iload_n 3, 1) := by decide +kernel
theorem dX1_leastReaders_83 : decode cX1_leastReaders 83 = .ok (.iaload, 1) := by decide +kernel
theorem dX1_leastReaders_84 : decode cX1_leastReaders 84 = .ok (.bipush (-9), 2) := by decide +kernel
theorem dX1_leastReaders_86 : decode cX1_leastReaders 86 = .ok (.if_icmp .eq 14, 3) := by decide +kernel
theorem dX1_leastReaders_89 : decode cX1_leastReaders 89 = .ok (.iload 6, 2) := by decide +kernel
theorem dX1_leastReaders_91 : decode cX1_leastReaders 91 = .ok (.aload_n 0, 1) := by decide +kernel
theorem dX1_leastReaders_92 : decode cX1_leastReaders 92 = .ok (.getfield 9, 3) := by decide +kernel
theorem dX1_leastReaders_95 : decode cX1_leastReaders 95 = .ok (.iload_n 3, 1) := by decide +kernel
theorem dX1_leastReaders_96 : decode cX1_leastReaders 96 = .ok (.iaload, 1) := by decide +kernel
theorem dX1_leastReaders_97 : decode cX1_leastReaders 97 = .ok (.if_icmp .ge 11, 3) := by decide +kernel
theorem dX1_leastReaders_100 : decode cX1_leastReaders 100 = .ok (.aload_n 0, 1) := by decide +kernel
theorem dX1_leastReaders_101 : decode cX1_leastReaders 101 = .ok (.getfield 9, 3) := by decide +kernel
theorem dX1_leastReaders_104 : decode cX1_leastReaders 104 = .ok (.iload_n 3, 1) := by decide +kernel
theorem dX1_leastReaders_105 : decode cX1_leastReaders 105 = .ok (.iload 6, 2) := by decide +kernel
theorem dX1_leastReaders_107 : decode cX1_leastReaders 107 = .ok (.iastore, 1) := by decide +kernel
theorem dX1_leastReaders_108 : decode cX1_leastReaders 108 = .ok (.iinc 5 1, 3) := by decide +kernel
theorem dX1_leastReaders_111 : decode cX1_leastReaders 111 = .ok (.goto (-61), 3) := by decide +kernel
theorem dX1_leastReaders_114 : decode cX1_leastReaders 114 = .ok (.iinc 3 1, 3) := by decide +kernel
theorem dX1_leastReaders_117 : decode cX1_leastReaders 117 = .ok (.goto (-101), 3) := by decide +kernel
theorem dX1_leastReaders_120 : decode cX1_leastReaders 120 = .ok (.aload_n 0, 1) := by decide +kernel
theorem dX1_leastReaders_121 : decode cX1_leastReaders 121 = .ok (.getfield 9, 3) := by decide +kernel
theorem dX1_leastReaders_124 : decode cX1_leastReaders 124 = .ok (.iload_n 2, 1) := by decide +kernel
theorem dX1_leastReaders_125 : decode cX1_leastReaders 125 = .ok (.iconst 1, 1) := by decide +kernel
theorem dX1_leastReaders_126 : decode cX1_leastReaders 126 = .ok (.isub, 1) := by decide +kernel
theorem dX1_leastReaders_127 : decode cX1_leastReaders 127 = .ok (.iaload, 1) := by decide +kernel
theorem dX1_leastReaders_128 : decode cX1_leastReaders 128 = .ok (.ireturn, 1) := by decide +kernel
theorem dX1_readersWith_0 : decode cX1_readersWith 0 = .ok (.iload_n 2, 1) := by decide +kernel
theorem dX1_readersWith_1 : decode cX1_readersWith 1 = .ok (.iload 4, 2) := by decide +kernel
theorem dX1_readersWith_3 : decode cX1_readersWith 3 = .ok (.ishr, 1) := by decide +kernel
theorem dX1_readersWith_4 : decode cX1_readersWith 4 = .ok (.iconst 1, 1) := by decide +kernel
theorem dX1_readersWith_5 : decode cX1_readersWith 5 = .ok (.iand, 1) := by decide +kernel
theorem dX1_readersWith_6 : decode cX1_readersWith 6 = .ok (.ifCond .eq 23, 3) := by decide +kernel
theorem dX1_readersWith_9 : decode cX1_readersWith 9 = .ok (.aload_n 1, 1) := by decide +kernel
theorem dX1_readersWith_10 : decode cX1_readersWith 10 = .ok (.getfield 29, 3) := by decide +kernel
theorem dX1_readersWith_13 : decode cX1_readersWith 13 = .ok (.iload_n 3, 1) := by decide +kernel
theorem dX1_readersWith_14 : decode cX1_readersWith 14 = .ok (.iaload, 1) := by decide +kernel
theorem dX1_readersWith_15 : decode cX1_readersWith 15 = .ok (.aload_n 1, 1) := by decide +kernel
theorem dX1_readersWith_16 : decode cX1_readersWith 16 = .ok (.getfield 29, 3) := by decide +kernel
theorem dX1_readersWith_19 : decode cX1_readersWith 19 = .ok (.iload 4, 2) := by decide +kernel
theorem dX1_readersWith_21 : decode cX1_readersWith 21 = .ok (.iaload, 1) := by decide +kernel
theorem dX1_readersWith_22 : decode cX1_readersWith 22 = .ok (.if_icmp .eq 7, 3) := by decide +kernel
theorem dX1_readersWith_25 : decode cX1_readersWith 25 = .ok (.iconst 1, 1) := by decide +kernel
theorem dX1_readersWith_26 : decode cX1_readersWith 26 = .ok (.goto 4, 3) := by decide +kernel
theorem dX1_readersWith_29 : decode cX1_readersWith 29 = .ok (.iconst 0, 1) := by decide +kernel
theorem dX1_readersWith_30 : decode cX1_readersWith 30 = .ok (.istore 5, 2) := by decide +kernel
theorem dX1_readersWith_32 : decode cX1_readersWith 32 = .ok (.iload 5, 2) := by decide +kernel
theorem dX1_readersWith_34 : decode cX1_readersWith 34 = .ok (.ifCond .ne 6, 3) := by decide +kernel
theorem dX1_readersWith_37 : decode cX1_readersWith 37 = .ok (.bipush (-9), 2) := by decide +kernel
theorem dX1_readersWith_39 : decode cX1_readersWith 39 = .ok (.ireturn, 1) := by decide +kernel
theorem dX1_readersWith_40 : decode cX1_readersWith 40 = .ok (.aload_n 0, 1) := by decide +kernel
theorem dX1_readersWith_41 : decode cX1_readersWith 41 = .ok (.getfield 9, 3) := by decide +kernel
theorem dX1_readersWith_44 : decode cX1_readersWith 44 = .ok (.iload_n 2, 1) := by decide +kernel
theorem dX1_readersWith_45 : decode cX1_readersWith 45 = .ok (.iconst 1, 1) := by decide +kernel
theorem dX1_readersWith_46 : decode cX1_readersWith 46 = .ok (.iload_n 3, 1) := by decide +kernel
theorem dX1_readersWith_47 : decode cX1_readersWith 47 = .ok (.ishl, 1) := by decide +kernel
theorem dX1_readersWith_48 : decode cX1_readersWith 48 = .ok (.ixor, 1) := by decide +kernel
theorem dX1_readersWith_49 : decode cX1_readersWith 49 = .ok (.iconst 1, 1) := by decide +kernel
theorem dX1_readersWith_50 : decode cX1_readersWith 50 = .ok (.iload 4, 2) := by decide +kernel
theorem dX1_readersWith_52 : decode cX1_readersWith 52 = .ok (.ishl, 1) := by decide +kernel
theorem dX1_readersWith_53 : decode cX1_readersWith 53 = .ok (.ixor, 1) := by decide +kernel
theorem dX1_readersWith_54 : decode cX1_readersWith 54 = .ok (.iaload, 1) := by decide +kernel
theorem dX1_readersWith_55 : decode cX1_readersWith 55 = .ok (.istore 6, 2) := by decide +kernel
theorem dX1_readersWith_57 : decode cX1_readersWith 57 = .ok (.iload 6, 2) := by decide +kernel
theorem dX1_readersWith_59 : decode cX1_readersWith 59 = .ok (.bipush (-9), 2) := by decide +kernel
theorem dX1_readersWith_61 : decode cX1_readersWith 61 = .ok (.if_icmp .ne 8, 3) := by decide +kernel
theorem dX1_readersWith_64 : decode cX1_readersWith 64 = .ok (.bipush (-9), 2) := by decide +kernel
theorem dX1_readersWith_66 : decode cX1_readersWith 66 = .ok (.goto 13, 3) := by decide +kernel
theorem dX1_readersWith_69 : decode cX1_readersWith 69 = .ok (.iload 6, 2) := by decide +kernel
theorem dX1_readersWith_71 : decode cX1_readersWith 71 = .ok (.aload_n 1, 1) := by decide +kernel
theorem dX1_readersWith_72 : decode cX1_readersWith 72 = .ok (.iload_n 3, 1) := by decide +kernel
theorem dX1_readersWith_73 : decode cX1_readersWith 73 = .ok (.iload 4, 2) := by decide +kernel
theorem dX1_readersWith_75 : decode cX1_readersWith 75 = .ok (.invokestatic 32, 3) := by decide +kernel
theorem dX1_readersWith_78 : decode cX1_readersWith 78 = .ok (.iadd, 1) := by decide +kernel
theorem dX1_readersWith_79 : decode cX1_readersWith 79 = .ok (.ireturn, 1) := by decide +kernel
theorem dX1_between_0 : decode cX1_between 0 = .ok (.iload_n 2, 1) := by decide +kernel
theorem dX1_between_1 : decode cX1_between 1 = .ok (.iload_n 1, 1) := by decide +kernel
theorem dX1_between_2 : decode cX1_between 2 = .ok (.isub, 1) := by decide +kernel
theorem dX1_between_3 : decode cX1_between 3 = .ok (.iconst 1, 1) := by decide +kernel
theorem dX1_between_4 : decode cX1_between 4 = .ok (.isub, 1) := by decide +kernel
theorem dX1_between_5 : decode cX1_between 5 = .ok (.istore_n 3, 1) := by decide +kernel
theorem dX1_between_6 : decode cX1_between 6 = .ok (.aload_n 0, 1) := by decide +kernel
theorem dX1_between_7 : decode cX1_between 7 = .ok (.getfield 36, 3) := by decide +kernel
theorem dX1_between_10 : decode cX1_between 10 = .ok (.ifCond .eq 18, 3) := by decide +kernel
theorem dX1_between_13 : decode cX1_between 13 = .ok (.iload_n 3, 1) := by decide +kernel
theorem dX1_between_14 : decode cX1_between 14 = .ok (.aload_n 0, 1) := by decide +kernel
theorem dX1_between_15 : decode cX1_between 15 = .ok (.getfield 15, 3) := by decide +kernel
theorem dX1_between_18 : decode cX1_between 18 = .ok (.iconst 2, 1) := by decide +kernel
theorem dX1_between_19 : decode cX1_between 19 = .ok (.isub, 1) := by decide +kernel
theorem dX1_between_20 : decode cX1_between 20 = .ok (.iload_n 3, 1) := by decide +kernel
theorem dX1_between_21 : decode cX1_between 21 = .ok (.isub, 1) := by decide +kernel
theorem dX1_between_22 : decode cX1_between 22 = .ok (.invokestatic 40, 3) := by decide +kernel
theorem dX1_between_25 : decode cX1_between 25 = .ok (.goto 4, 3) := by decide +kernel
theorem dX1_between_28 : decode cX1_between 28 = .ok (.iload_n 3, 1) := by decide +kernel
theorem dX1_between_29 : decode cX1_between 29 = .ok (.ireturn, 1) := by decide +kernel
theorem dX1_leastOf_0 : decode cX1_leastOf 0 = .ok (.iconst 0, 1) := by decide +kernel
theorem dX1_leastOf_1 : decode cX1_leastOf 1 = .ok (.istore_n 1, 1) := by decide +kernel
theorem dX1_leastOf_2 : decode cX1_leastOf 2 = .ok (.iload_n 1, 1) := by decide +kernel
theorem dX1_leastOf_3 : decode cX1_leastOf 3 = .ok (.bipush 6, 2) := by decide +kernel
theorem dX1_leastOf_5 : decode cX1_leastOf 5 = .ok (.if_icmp .ge 17, 3) := by decide +kernel
theorem dX1_leastOf_8 : decode cX1_leastOf 8 = .ok (.iload_n 0, 1) := by decide +kernel
theorem dX1_leastOf_9 : decode cX1_leastOf 9 = .ok (.iload_n 1, 1) := by decide +kernel
theorem dX1_leastOf_10 : decode cX1_leastOf 10 = .ok (.ishr, 1) := by decide +kernel
theorem dX1_leastOf_11 : decode cX1_leastOf 11 = .ok (.iconst 1, 1) := by decide +kernel
theorem dX1_leastOf_12 : decode cX1_leastOf 12 = .ok (.iand, 1) := by decide +kernel
theorem dX1_leastOf_13 : decode cX1_leastOf 13 = .ok (.ifCond .ne 9, 3) := by decide +kernel
theorem dX1_leastOf_16 : decode cX1_leastOf 16 = .ok (.iinc 1 1, 3) := by decide +kernel
theorem dX1_leastOf_19 : decode cX1_leastOf 19 = .ok (.goto (-17), 3) := by decide +kernel
theorem dX1_leastOf_22 : decode cX1_leastOf 22 = .ok (.iload_n 1, 1) := by decide +kernel
theorem dX1_leastOf_23 : decode cX1_leastOf 23 = .ok (.ireturn, 1) := by decide +kernel
theorem dX1_mateOf_0 : decode cX1_mateOf 0 = .ok (.iconst 1, 1) := by decide +kernel
theorem dX1_mateOf_1 : decode cX1_mateOf 1 = .ok (.aload_n 1, 1) := by decide +kernel
theorem dX1_mateOf_2 : decode cX1_mateOf 2 = .ok (.getfield 15, 3) := by decide +kernel
theorem dX1_mateOf_5 : decode cX1_mateOf 5 = .ok (.ishl, 1) := by decide +kernel
theorem dX1_mateOf_6 : decode cX1_mateOf 6 = .ok (.iconst 1, 1) := by decide +kernel
theorem dX1_mateOf_7 : decode cX1_mateOf 7 = .ok (.isub, 1) := by decide +kernel
theorem dX1_mateOf_8 : decode cX1_mateOf 8 = .ok (.istore_n 3, 1) := by decide +kernel
theorem dX1_mateOf_9 : decode cX1_mateOf 9 = .ok (.iconst 0, 1) := by decide +kernel
theorem dX1_mateOf_10 : decode cX1_mateOf 10 = .ok (.istore 4, 2) := by decide +kernel
theorem dX1_mateOf_12 : decode cX1_mateOf 12 = .ok (.iload 4, 2) := by decide +kernel
theorem dX1_mateOf_14 : decode cX1_mateOf 14 = .ok (.aload_n 1, 1) := by decide +kernel
theorem dX1_mateOf_15 : decode cX1_mateOf 15 = .ok (.getfield 15, 3) := by decide +kernel
theorem dX1_mateOf_18 : decode cX1_mateOf 18 = .ok (.if_icmp .ge 101, 3) := by decide +kernel
theorem dX1_mateOf_21 : decode cX1_mateOf 21 = .ok (.iload_n 3, 1) := by decide +kernel
theorem dX1_mateOf_22 : decode cX1_mateOf 22 = .ok (.ifCond .eq 97, 3) := by decide +kernel
theorem dX1_mateOf_25 : decode cX1_mateOf 25 = .ok (.iload_n 3, 1) := by decide +kernel
theorem dX1_mateOf_26 : decode cX1_mateOf 26 = .ok (.invokestatic 21, 3) := by decide +kernel
theorem dX1_mateOf_29 : decode cX1_mateOf 29 = .ok (.istore 5, 2) := by decide +kernel
theorem dX1_mateOf_31 : decode cX1_mateOf 31 = .ok (.iload 5, 2) := by decide +kernel
theorem dX1_mateOf_33 : decode cX1_mateOf 33 = .ok (.iconst 1, 1) := by decide +kernel
theorem dX1_mateOf_34 : decode cX1_mateOf 34 = .ok (.iadd, 1) := by decide +kernel
theorem dX1_mateOf_35 : decode cX1_mateOf 35 = .ok (.istore 6, 2) := by decide +kernel
theorem dX1_mateOf_37 : decode cX1_mateOf 37 = .ok (.iload 6, 2) := by decide +kernel
theorem dX1_mateOf_39 : decode cX1_mateOf 39 = .ok (.aload_n 1, 1) := by decide +kernel
theorem dX1_mateOf_40 : decode cX1_mateOf 40 = .ok (.getfield 15, 3) := by decide +kernel
theorem dX1_mateOf_43 : decode cX1_mateOf 43 = .ok (.iconst 1, 1) := by decide +kernel
theorem dX1_mateOf_44 : decode cX1_mateOf 44 = .ok (.isub, 1) := by decide +kernel
theorem dX1_mateOf_45 : decode cX1_mateOf 45 = .ok (.if_icmp .ge 28, 3) := by decide +kernel
theorem dX1_mateOf_48 : decode cX1_mateOf 48 = .ok (.aload_n 0, 1) := by decide +kernel
theorem dX1_mateOf_49 : decode cX1_mateOf 49 = .ok (.aload_n 1, 1) := by decide +kernel
theorem dX1_mateOf_50 : decode cX1_mateOf 50 = .ok (.iload_n 3, 1) := by decide +kernel
theorem dX1_mateOf_51 : decode cX1_mateOf 51 = .ok (.iload 5, 2) := by decide +kernel
theorem dX1_mateOf_53 : decode cX1_mateOf 53 = .ok (.iload 6, 2) := by decide +kernel
theorem dX1_mateOf_55 : decode cX1_mateOf 55 = .ok (.invokevirtual 25, 3) := by decide +kernel
theorem dX1_mateOf_58 : decode cX1_mateOf 58 = .ok (.aload_n 0, 1) := by decide +kernel
theorem dX1_mateOf_59 : decode cX1_mateOf 59 = .ok (.getfield 9, 3) := by decide +kernel
theorem dX1_mateOf_62 : decode cX1_mateOf 62 = .ok (.iload_n 3, 1) := by decide +kernel
theorem dX1_mateOf_63 : decode cX1_mateOf 63 = .ok (.iaload, 1) := by decide +kernel
theorem dX1_mateOf_64 : decode cX1_mateOf 64 = .ok (.if_icmp .eq 9, 3) := by decide +kernel
theorem dX1_mateOf_67 : decode cX1_mateOf 67 = .ok (.iinc 6 1, 3) := by decide +kernel
theorem dX1_mateOf_70 : decode cX1_mateOf 70 = .ok (.goto (-33), 3) := by decide +kernel
theorem dX1_mateOf_73 : decode cX1_mateOf 73 = .ok (.iload_n 2, 1) := by decide +kernel
theorem dX1_mateOf_74 : decode cX1_mateOf 74 = .ok (.iload 5, 2) := by decide +kernel
theorem dX1_mateOf_76 : decode cX1_mateOf 76 = .ok (.if_icmp .eq 9, 3) := by decide +kernel
theorem dX1_mateOf_79 : decode cX1_mateOf 79 = .ok (.iload_n 2, 1) := by decide +kernel
theorem dX1_mateOf_80 : decode cX1_mateOf 80 = .ok (.iload 6, 2) := by decide +kernel
theorem dX1_mateOf_82 : decode cX1_mateOf 82 = .ok (.if_icmp .ne 17, 3) := by decide +kernel
theorem dX1_mateOf_85 : decode cX1_mateOf 85 = .ok (.iload_n 2, 1) := by decide +kernel
theorem dX1_mateOf_86 : decode cX1_mateOf 86 = .ok (.iload 5, 2) := by decide +kernel
theorem dX1_mateOf_88 : decode cX1_mateOf 88 = .ok (.if_icmp .ne 8, 3) := by decide +kernel
theorem dX1_mateOf_91 : decode cX1_mateOf 91 = .ok (.iload 6, 2) := by decide +kernel
theorem dX1_mateOf_93 : decode cX1_mateOf 93 = .ok (.goto 5, 3) := by decide +kernel
theorem dX1_mateOf_96 : decode cX1_mateOf 96 = .ok (.iload 5, 2) := by decide +kernel
theorem dX1_mateOf_98 : decode cX1_mateOf 98 = .ok (.ireturn, 1) := by decide +kernel
theorem dX1_mateOf_99 : decode cX1_mateOf 99 = .ok (.iload_n 3, 1) := by decide +kernel
theorem dX1_mateOf_100 : decode cX1_mateOf 100 = .ok (.iconst 1, 1) := by decide +kernel
theorem dX1_mateOf_101 : decode cX1_mateOf 101 = .ok (.iload 5, 2) := by decide +kernel
theorem dX1_mateOf_103 : decode cX1_mateOf 103 = .ok (.ishl, 1) := by decide +kernel
theorem dX1_mateOf_104 : decode cX1_mateOf 104 = .ok (.iconst 1, 1) := by decide +kernel
theorem dX1_mateOf_105 : decode cX1_mateOf 105 = .ok (.iload 6, 2) := by decide +kernel
theorem dX1_mateOf_107 : decode cX1_mateOf 107 = .ok (.ishl, 1) := by decide +kernel
theorem dX1_mateOf_108 : decode cX1_mateOf 108 = .ok (.ior, 1) := by decide +kernel
theorem dX1_mateOf_109 : decode cX1_mateOf 109 = .ok (.iconst (-1), 1) := by decide +kernel
theorem dX1_mateOf_110 : decode cX1_mateOf 110 = .ok (.ixor, 1) := by decide +kernel
theorem dX1_mateOf_111 : decode cX1_mateOf 111 = .ok (.iand, 1) := by decide +kernel
theorem dX1_mateOf_112 : decode cX1_mateOf 112 = .ok (.istore_n 3, 1) := by decide +kernel
theorem dX1_mateOf_113 : decode cX1_mateOf 113 = .ok (.iinc 4 1, 3) := by decide +kernel
theorem dX1_mateOf_116 : decode cX1_mateOf 116 = .ok (.goto (-104), 3) := by decide +kernel
theorem dX1_mateOf_119 : decode cX1_mateOf 119 = .ok (.bipush (-9), 2) := by decide +kernel
theorem dX1_mateOf_121 : decode cX1_mateOf 121 = .ok (.ireturn, 1) := by decide +kernel
theorem dX2_init_0 : decode cX2_init 0 = .ok (.aload_n 0, 1) := by decide +kernel
theorem dX2_init_1 : decode cX2_init 1 = .ok (.invokespecial 3, 3) := by decide +kernel
theorem dX2_init_4 : decode cX2_init 4 = .ok (.aload_n 0, 1) := by decide +kernel
theorem dX2_init_5 : decode cX2_init 5 = .ok (.bipush 7, 2) := by decide +kernel
theorem dX2_init_7 : decode cX2_init 7 = .ok (.newarray .int, 2) := by decide +kernel
theorem dX2_init_9 : decode cX2_init 9 = .ok (.putfield 9, 3) := by decide +kernel
theorem dX2_init_12 : decode cX2_init 12 = .ok (.aload_n 0, 1) := by decide +kernel
theorem dX2_init_13 : decode cX2_init 13 = .ok (.sipush 128, 3) := by decide +kernel
theorem dX2_init_16 : decode cX2_init 16 = .ok (.newarray .int, 2) := by decide +kernel
theorem dX2_init_18 : decode cX2_init 18 = .ok (.putfield 15, 3) := by decide +kernel
theorem dX2_init_21 : decode cX2_init 21 = .ok (.return_, 1) := by decide +kernel
theorem dX2_readPlaces_0 : decode cX2_readPlaces 0 = .ok (.aload_n 0, 1) := by decide +kernel
theorem dX2_readPlaces_1 : decode cX2_readPlaces 1 = .ok (.getfield 9, 3) := by decide +kernel
theorem dX2_readPlaces_4 : decode cX2_readPlaces 4 = .ok (.bipush (-9), 2) := by decide +kernel
theorem dX2_readPlaces_6 : decode cX2_readPlaces 6 = .ok (.invokestatic 18, 3) := by decide +kernel
theorem dX2_readPlaces_9 : decode cX2_readPlaces 9 = .ok (.iconst 0, 1) := by decide +kernel
theorem dX2_readPlaces_10 : decode cX2_readPlaces 10 = .ok (.istore 4, 2) := by decide +kernel
theorem dX2_readPlaces_12 : decode cX2_readPlaces 12 = .ok (.iload 4, 2) := by decide +kernel
theorem dX2_readPlaces_14 : decode cX2_readPlaces 14 = .ok (.aload_n 1, 1) := by decide +kernel
theorem dX2_readPlaces_15 : decode cX2_readPlaces 15 = .ok (.getfield 24, 3) := by decide +kernel
theorem dX2_readPlaces_18 : decode cX2_readPlaces 18 = .ok (.if_icmp .ge 51, 3) := by decide +kernel
theorem dX2_readPlaces_21 : decode cX2_readPlaces 21 = .ok (.aload_n 2, 1) := by decide +kernel
theorem dX2_readPlaces_22 : decode cX2_readPlaces 22 = .ok (.iload_n 3, 1) := by decide +kernel
theorem dX2_readPlaces_23 : decode cX2_readPlaces 23 = .ok (.iload 4, 2) := by decide +kernel
theorem dX2_readPlaces_25 : decode cX2_readPlaces 25 = .ok (.iadd, 1) := by decide +kernel
theorem dX2_readPlaces_26 : decode cX2_readPlaces 26 = .ok (.invokevirtual 30, 3) := by decide +kernel
theorem dX2_readPlaces_29 : decode cX2_readPlaces 29 = .ok (.istore 5, 2) := by decide +kernel
theorem dX2_readPlaces_31 : decode cX2_readPlaces 31 = .ok (.aload_n 1, 1) := by decide +kernel
theorem dX2_readPlaces_32 : decode cX2_readPlaces 32 = .ok (.iload 5, 2) := by decide +kernel
theorem dX2_readPlaces_34 : decode cX2_readPlaces 34 = .ok (.invokevirtual 36, 3) := by decide +kernel
theorem dX2_readPlaces_37 : decode cX2_readPlaces 37 = .ok (.ifCond .eq 15, 3) := by decide +kernel
theorem dX2_readPlaces_40 : decode cX2_readPlaces 40 = .ok (.aload_n 0, 1) := by decide +kernel
theorem dX2_readPlaces_41 : decode cX2_readPlaces 41 = .ok (.getfield 9, 3) := by decide +kernel
theorem dX2_readPlaces_44 : decode cX2_readPlaces 44 = .ok (.iload 5, 2) := by decide +kernel
theorem dX2_readPlaces_46 : decode cX2_readPlaces 46 = .ok (.iaload, 1) := by decide +kernel
theorem dX2_readPlaces_47 : decode cX2_readPlaces 47 = .ok (.bipush (-9), 2) := by decide +kernel
theorem dX2_readPlaces_49 : decode cX2_readPlaces 49 = .ok (.if_icmp .eq 5, 3) := by decide +kernel
theorem dX2_readPlaces_52 : decode cX2_readPlaces 52 = .ok (.iconst 0, 1) := by decide +kernel
theorem dX2_readPlaces_53 : decode cX2_readPlaces 53 = .ok (.ireturn, 1) := by decide +kernel
theorem dX2_readPlaces_54 : decode cX2_readPlaces 54 = .ok (.aload_n 0, 1) := by decide +kernel
theorem dX2_readPlaces_55 : decode cX2_readPlaces 55 = .ok (.getfield 9, 3) := by decide +kernel
theorem dX2_readPlaces_58 : decode cX2_readPlaces 58 = .ok (.iload 5, 2) := by decide +kernel
theorem dX2_readPlaces_60 : decode cX2_readPlaces 60 = .ok (.iload 4, 2) := by decide +kernel
theorem dX2_readPlaces_62 : decode cX2_readPlaces 62 = .ok (.iastore, 1) := by decide +kernel
theorem dX2_readPlaces_63 : decode cX2_readPlaces 63 = .ok (.iinc 4 1, 3) := by decide +kernel
theorem dX2_readPlaces_66 : decode cX2_readPlaces 66 = .ok (.goto (-54), 3) := by decide +kernel
theorem dX2_readPlaces_69 : decode cX2_readPlaces 69 = .ok (.iconst 1, 1) := by decide +kernel
theorem dX2_readPlaces_70 : decode cX2_readPlaces 70 = .ok (.ireturn, 1) := by decide +kernel
theorem dX2_mayChange_0 : decode cX2_mayChange 0 = .ok (.aload_n 0, 1) := by decide +kernel
theorem dX2_mayChange_1 : decode cX2_mayChange 1 = .ok (.getfield 40, 3) := by decide +kernel
theorem dX2_mayChange_4 : decode cX2_mayChange 4 = .ok (.iload_n 2, 1) := by decide +kernel
theorem dX2_mayChange_5 : decode cX2_mayChange 5 = .ok (.iaload, 1) := by decide +kernel
theorem dX2_mayChange_6 : decode cX2_mayChange 6 = .ok (.aload_n 0, 1) := by decide +kernel
theorem dX2_mayChange_7 : decode cX2_mayChange 7 = .ok (.getfield 40, 3) := by decide +kernel
theorem dX2_mayChange_10 : decode cX2_mayChange 10 = .ok (.iload_n 1, 1) := by decide +kernel
theorem dX2_mayChange_11 : decode cX2_mayChange 11 = .ok (.iaload, 1) := by decide +kernel
theorem dX2_mayChange_12 : decode cX2_mayChange 12 = .ok (.if_icmp .lt 7, 3) := by decide +kernel
theorem dX2_mayChange_15 : decode cX2_mayChange 15 = .ok (.iconst 1, 1) := by decide +kernel
theorem dX2_mayChange_16 : decode cX2_mayChange 16 = .ok (.goto 4, 3) := by decide +kernel
theorem dX2_mayChange_19 : decode cX2_mayChange 19 = .ok (.iconst 0, 1) := by decide +kernel
theorem dX2_mayChange_20 : decode cX2_mayChange 20 = .ok (.ireturn, 1) := by decide +kernel
theorem dX2_firstBar_0 : decode cX2_firstBar 0 = .ok (.iconst 0, 1) := by decide +kernel
theorem dX2_firstBar_1 : decode cX2_firstBar 1 = .ok (.istore_n 2, 1) := by decide +kernel
theorem dX2_firstBar_2 : decode cX2_firstBar 2 = .ok (.iload_n 2, 1) := by decide +kernel
theorem dX2_firstBar_3 : decode cX2_firstBar 3 = .ok (.aload_n 1, 1) := by decide +kernel
theorem dX2_firstBar_4 : decode cX2_firstBar 4 = .ok (.getfield 24, 3) := by decide +kernel
theorem dX2_firstBar_7 : decode cX2_firstBar 7 = .ok (.if_icmp .ge 58, 3) := by decide +kernel
theorem dX2_firstBar_10 : decode cX2_firstBar 10 = .ok (.iload_n 2, 1) := by decide +kernel
theorem dX2_firstBar_11 : decode cX2_firstBar 11 = .ok (.iconst 1, 1) := by decide +kernel
theorem dX2_firstBar_12 : decode cX2_firstBar 12 = .ok (.iadd, 1) := by decide +kernel
theorem dX2_firstBar_13 : decode cX2_firstBar 13 = .ok (.istore_n 3, 1) := by decide +kernel
theorem dX2_firstBar_14 : decode cX2_firstBar 14 = .ok (.iload_n 3, 1) := by decide +kernel
theorem dX2_firstBar_15 : decode cX2_firstBar 15 = .ok (.aload_n 1, 1) := by decide +kernel
theorem dX2_firstBar_16 : decode cX2_firstBar 16 = .ok (.getfield 24, 3) := by decide +kernel
theorem dX2_firstBar_19 : decode cX2_firstBar 19 = .ok (.if_icmp .ge 40, 3) := by decide +kernel
theorem dX2_firstBar_22 : decode cX2_firstBar 22 = .ok (.aload_n 0, 1) := by decide +kernel
theorem dX2_firstBar_23 : decode cX2_firstBar 23 = .ok (.getfield 9, 3) := by decide +kernel
theorem dX2_firstBar_26 : decode cX2_firstBar 26 = .ok (.iload_n 3, 1) := by decide +kernel
theorem dX2_firstBar_27 : decode cX2_firstBar 27 = .ok (.iaload, 1) := by decide +kernel
theorem dX2_firstBar_28 : decode cX2_firstBar 28 = .ok (.aload_n 0, 1) := by decide +kernel
theorem dX2_firstBar_29 : decode cX2_firstBar 29 = .ok (.getfield 9, 3) := by decide +kernel
theorem dX2_firstBar_32 : decode cX2_firstBar 32 = .ok (.iload_n 2, 1) := by decide +kernel
theorem dX2_firstBar_33 : decode cX2_firstBar 33 = .ok (.iaload, 1) := by decide +kernel
theorem dX2_firstBar_34 : decode cX2_firstBar 34 = .ok (.if_icmp .ge 19, 3) := by decide +kernel
theorem dX2_firstBar_37 : decode cX2_firstBar 37 = .ok (.aload_n 1, 1) := by decide +kernel
theorem dX2_firstBar_38 : decode cX2_firstBar 38 = .ok (.iload_n 2, 1) := by decide +kernel
theorem dX2_firstBar_39 : decode cX2_firstBar 39 = .ok (.iload_n 3, 1) := by decide +kernel
theorem dX2_firstBar_40 : decode cX2_firstBar 40 = .ok (.invokestatic 43, 3) := by decide +kernel
theorem dX2_firstBar_43 : decode cX2_firstBar 43 = .ok (.ifCond .ne 10, 3) := by decide +kernel
theorem dX2_firstBar_46 : decode cX2_firstBar 46 = .ok (.bipush 10, 2) := by decide +kernel
theorem dX2_firstBar_48 : decode cX2_firstBar 48 = .ok (.iload_n 2, 1) := by decide +kernel
theorem dX2_firstBar_49 : decode cX2_firstBar 49 = .ok (.imul, 1) := by decide +kernel
theorem dX2_firstBar_50 : decode cX2_firstBar 50 = .ok (.iload_n 3, 1) := by decide +kernel
theorem dX2_firstBar_51 : decode cX2_firstBar 51 = .ok (.iadd, 1) := by decide +kernel
theorem dX2_firstBar_52 : decode cX2_firstBar 52 = .ok (.ireturn, 1) := by decide +kernel
theorem dX2_firstBar_53 : decode cX2_firstBar 53 = .ok (.iinc 3 1, 3) := by decide +kernel
theorem dX2_firstBar_56 : decode cX2_firstBar 56 = .ok (.goto (-42), 3) := by decide +kernel
theorem dX2_firstBar_59 : decode cX2_firstBar 59 = .ok (.iinc 2 1, 3) := by decide +kernel
theorem dX2_firstBar_62 : decode cX2_firstBar 62 = .ok (.goto (-60), 3) := by decide +kernel
theorem dX2_firstBar_65 : decode cX2_firstBar 65 = .ok (.bipush (-9), 2) := by decide +kernel
theorem dX2_firstBar_67 : decode cX2_firstBar 67 = .ok (.ireturn, 1) := by decide +kernel
theorem dX2_changes_0 : decode cX2_changes 0 = .ok (.iconst 0, 1) := by decide +kernel
theorem dX2_changes_1 : decode cX2_changes 1 = .ok (.istore_n 2, 1) := by decide +kernel
theorem dX2_changes_2 : decode cX2_changes 2 = .ok (.iconst 0, 1) := by decide +kernel
theorem dX2_changes_3 : decode cX2_changes 3 = .ok (.istore_n 3, 1) := by decide +kernel
theorem dX2_changes_4 : decode cX2_changes 4 = .ok (.iload_n 3, 1) := by decide +kernel
theorem dX2_changes_5 : decode cX2_changes 5 = .ok (.aload_n 1, 1) := by decide +kernel
theorem dX2_changes_6 : decode cX2_changes 6 = .ok (.getfield 24, 3) := by decide +kernel
theorem dX2_changes_9 : decode cX2_changes 9 = .ok (.if_icmp .ge 48, 3) := by decide +kernel
theorem dX2_changes_12 : decode cX2_changes 12 = .ok (.iload_n 3, 1) := by decide +kernel
theorem dX2_changes_13 : decode cX2_changes 13 = .ok (.iconst 1, 1) := by decide +kernel
theorem dX2_changes_14 : decode cX2_changes 14 = .ok (.iadd, 1) := by decide +kernel
theorem dX2_changes_15 : decode cX2_changes 15 = .ok (.istore 4, 2) := by decide +kernel
theorem dX2_changes_17 : decode cX2_changes 17 = .ok (.iload 4, 2) := by decide +kernel
theorem dX2_changes_19 : decode cX2_changes 19 = .ok (.aload_n 1, 1) := by decide +kernel
theorem dX2_changes_20 : decode cX2_changes 20 = .ok (.getfield 24, 3) := by decide +kernel
theorem dX2_changes_23 : decode cX2_changes 23 = .ok (.if_icmp .ge 28, 3) := by decide +kernel
theorem dX2_changes_26 : decode cX2_changes 26 = .ok (.aload_n 0, 1) := by decide +kernel
theorem dX2_changes_27 : decode cX2_changes 27 = .ok (.getfield 9, 3) := by decide +kernel
theorem dX2_changes_30 : decode cX2_changes 30 = .ok (.iload 4, 2) := by decide +kernel
theorem dX2_changes_32 : decode cX2_changes 32 = .ok (.iaload, 1) := by decide +kernel
theorem dX2_changes_33 : decode cX2_changes 33 = .ok (.aload_n 0, 1) := by decide +kernel
theorem dX2_changes_34 : decode cX2_changes 34 = .ok (.getfield 9, 3) := by decide +kernel
theorem dX2_changes_37 : decode cX2_changes 37 = .ok (.iload_n 3, 1) := by decide +kernel
theorem dX2_changes_38 : decode cX2_changes 38 = .ok (.iaload, 1) := by decide +kernel
theorem dX2_changes_39 : decode cX2_changes 39 = .ok (.if_icmp .ge 6, 3) := by decide +kernel
theorem dX2_changes_42 : decode cX2_changes 42 = .ok (.iinc 2 1, 3) := by decide +kernel
theorem dX2_changes_45 : decode cX2_changes 45 = .ok (.iinc 4 1, 3) := by decide +kernel
theorem dX2_changes_48 : decode cX2_changes 48 = .ok (.goto (-31), 3) := by decide +kernel
theorem dX2_changes_51 : decode cX2_changes 51 = .ok (.iinc 3 1, 3) := by decide +kernel
theorem dX2_changes_54 : decode cX2_changes 54 = .ok (.goto (-50), 3) := by decide +kernel
theorem dX2_changes_57 : decode cX2_changes 57 = .ok (.iload_n 2, 1) := by decide +kernel
theorem dX2_changes_58 : decode cX2_changes 58 = .ok (.ireturn, 1) := by decide +kernel
theorem dX2_howManyCome_0 : decode cX2_howManyCome 0 = .ok (.iconst 1, 1) := by decide +kernel
theorem dX2_howManyCome_1 : decode cX2_howManyCome 1 = .ok (.aload_n 1, 1) := by decide +kernel
theorem dX2_howManyCome_2 : decode cX2_howManyCome 2 = .ok (.getfield 24, 3) := by decide +kernel
theorem dX2_howManyCome_5 : decode cX2_howManyCome 5 = .ok (.ishl, 1) := by decide +kernel
theorem dX2_howManyCome_6 : decode cX2_howManyCome 6 = .ok (.istore_n 2, 1) := by decide +kernel
theorem dX2_howManyCome_7 : decode cX2_howManyCome 7 = .ok (.aload_n 0, 1) := by decide +kernel
theorem dX2_howManyCome_8 : decode cX2_howManyCome 8 = .ok (.getfield 15, 3) := by decide +kernel
theorem dX2_howManyCome_11 : decode cX2_howManyCome 11 = .ok (.iconst 0, 1) := by decide +kernel
theorem dX2_howManyCome_12 : decode cX2_howManyCome 12 = .ok (.iconst 1, 1) := by decide +kernel
theorem dX2_howManyCome_13 : decode cX2_howManyCome 13 = .ok (.iastore, 1) := by decide +kernel
theorem dX2_howManyCome_14 : decode cX2_howManyCome 14 = .ok (.iconst 1, 1) := by decide +kernel
theorem dX2_howManyCome_15 : decode cX2_howManyCome 15 = .ok (.istore_n 3, 1) := by decide +kernel
theorem dX2_howManyCome_16 : decode cX2_howManyCome 16 = .ok (.iload_n 3, 1) := by decide +kernel
theorem dX2_howManyCome_17 : decode cX2_howManyCome 17 = .ok (.iload_n 2, 1) := by decide +kernel
theorem dX2_howManyCome_18 : decode cX2_howManyCome 18 = .ok (.if_icmp .ge 87, 3) := by decide +kernel
theorem dX2_howManyCome_21 : decode cX2_howManyCome 21 = .ok (.iload_n 3, 1) := by decide +kernel
theorem dX2_howManyCome_22 : decode cX2_howManyCome 22 = .ok (.aload_n 0, 1) := by decide +kernel
theorem dX2_howManyCome_23 : decode cX2_howManyCome 23 = .ok (.getfield 15, 3) := by decide +kernel
theorem dX2_howManyCome_26 : decode cX2_howManyCome 26 = .ok (.arraylength, 1) := by decide +kernel
theorem dX2_howManyCome_27 : decode cX2_howManyCome 27 = .ok (.if_icmp .ge 78, 3) := by decide +kernel
theorem dX2_howManyCome_30 : decode cX2_howManyCome 30 = .ok (.aload_n 0, 1) := by decide +kernel
theorem dX2_howManyCome_31 : decode cX2_howManyCome 31 = .ok (.getfield 15, 3) := by decide +kernel
theorem dX2_howManyCome_34 : decode cX2_howManyCome 34 = .ok (.iload_n 3, 1) := by decide +kernel
theorem dX2_howManyCome_35 : decode cX2_howManyCome 35 = .ok (.iconst 0, 1) := by decide +kernel
theorem dX2_howManyCome_36 : decode cX2_howManyCome 36 = .ok (.iastore, 1) := by decide +kernel
theorem dX2_howManyCome_37 : decode cX2_howManyCome 37 = .ok (.iconst 0, 1) := by decide +kernel
theorem dX2_howManyCome_38 : decode cX2_howManyCome 38 = .ok (.istore 4, 2) := by decide +kernel
theorem dX2_howManyCome_40 : decode cX2_howManyCome 40 = .ok (.iload 4, 2) := by decide +kernel
theorem dX2_howManyCome_42 : decode cX2_howManyCome 42 = .ok (.aload_n 1, 1) := by decide +kernel
theorem dX2_howManyCome_43 : decode cX2_howManyCome 43 = .ok (.getfield 24, 3) := by decide +kernel
theorem dX2_howManyCome_46 : decode cX2_howManyCome 46 = .ok (.if_icmp .ge 53, 3) := by decide +kernel
theorem dX2_howManyCome_49 : decode cX2_howManyCome 49 = .ok (.iconst 1, 1) := by decide +kernel
theorem dX2_howManyCome_50 : decode cX2_howManyCome 50 = .ok (.iload 4, 2) := by decide +kernel
theorem dX2_howManyCome_52 : decode cX2_howManyCome 52 = .ok (.ishl, 1) := by decide +kernel
theorem dX2_howManyCome_53 : decode cX2_howManyCome 53 = .ok (.istore 5, 2) := by decide +kernel
theorem dX2_howManyCome_55 : decode cX2_howManyCome 55 = .ok (.iload_n 3, 1) := by decide +kernel
theorem dX2_howManyCome_56 : decode cX2_howManyCome 56 = .ok (.iload 5, 2) := by decide +kernel
theorem dX2_howManyCome_58 : decode cX2_howManyCome 58 = .ok (.iand, 1) := by decide +kernel
theorem dX2_howManyCome_59 : decode cX2_howManyCome 59 = .ok (.ifCond .eq 34, 3) := by decide +kernel
theorem dX2_howManyCome_62 : decode cX2_howManyCome 62 = .ok (.aload_n 1, 1) := by decide +kernel
theorem dX2_howManyCome_63 : decode cX2_howManyCome 63 = .ok (.iload 4, 2) := by decide +kernel
theorem dX2_howManyCome_65 : decode cX2_howManyCome 65 = .ok (.invokestatic 47, 3) := by decide +kernel
theorem dX2_howManyCome_68 : decode cX2_howManyCome 68 = .ok (.iload_n 3, 1) := by decide +kernel
theorem dX2_howManyCome_69 : decode cX2_howManyCome 69 = .ok (.iconst (-1), 1) := by decide +kernel
theorem dX2_howManyCome_70 : decode cX2_howManyCome 70 = .ok (.ixor, 1) := by decide +kernel
theorem dX2_howManyCome_71 : decode cX2_howManyCome 71 = .ok (.iand, 1) := by decide +kernel
theorem dX2_howManyCome_72 : decode cX2_howManyCome 72 = .ok (.ifCond .ne 21, 3) := by decide +kernel
theorem dX2_howManyCome_75 : decode cX2_howManyCome 75 = .ok (.aload_n 0, 1) := by decide +kernel
theorem dX2_howManyCome_76 : decode cX2_howManyCome 76 = .ok (.getfield 15, 3) := by decide +kernel
theorem dX2_howManyCome_79 : decode cX2_howManyCome 79 = .ok (.iload_n 3, 1) := by decide +kernel
theorem dX2_howManyCome_80 : decode cX2_howManyCome 80 = .ok (.dup2, 1) := by decide +kernel
theorem dX2_howManyCome_81 : decode cX2_howManyCome 81 = .ok (.iaload, 1) := by decide +kernel
theorem dX2_howManyCome_82 : decode cX2_howManyCome 82 = .ok (.aload_n 0, 1) := by decide +kernel
theorem dX2_howManyCome_83 : decode cX2_howManyCome 83 = .ok (.getfield 15, 3) := by decide +kernel
theorem dX2_howManyCome_86 : decode cX2_howManyCome 86 = .ok (.iload_n 3, 1) := by decide +kernel
theorem dX2_howManyCome_87 : decode cX2_howManyCome 87 = .ok (.iload 5, 2) := by decide +kernel
theorem dX2_howManyCome_89 : decode cX2_howManyCome 89 = .ok (.ixor, 1) := by decide +kernel
theorem dX2_howManyCome_90 : decode cX2_howManyCome 90 = .ok (.iaload, 1) := by decide +kernel
theorem dX2_howManyCome_91 : decode cX2_howManyCome 91 = .ok (.iadd, 1) := by decide +kernel
theorem dX2_howManyCome_92 : decode cX2_howManyCome 92 = .ok (.iastore, 1) := by decide +kernel
theorem dX2_howManyCome_93 : decode cX2_howManyCome 93 = .ok (.iinc 4 1, 3) := by decide +kernel
theorem dX2_howManyCome_96 : decode cX2_howManyCome 96 = .ok (.goto (-56), 3) := by decide +kernel
theorem dX2_howManyCome_99 : decode cX2_howManyCome 99 = .ok (.iinc 3 1, 3) := by decide +kernel
theorem dX2_howManyCome_102 : decode cX2_howManyCome 102 = .ok (.goto (-86), 3) := by decide +kernel
theorem dX2_howManyCome_105 : decode cX2_howManyCome 105 = .ok (.aload_n 0, 1) := by decide +kernel
theorem dX2_howManyCome_106 : decode cX2_howManyCome 106 = .ok (.getfield 15, 3) := by decide +kernel
theorem dX2_howManyCome_109 : decode cX2_howManyCome 109 = .ok (.iload_n 2, 1) := by decide +kernel
theorem dX2_howManyCome_110 : decode cX2_howManyCome 110 = .ok (.iconst 1, 1) := by decide +kernel
theorem dX2_howManyCome_111 : decode cX2_howManyCome 111 = .ok (.isub, 1) := by decide +kernel
theorem dX2_howManyCome_112 : decode cX2_howManyCome 112 = .ok (.iaload, 1) := by decide +kernel
theorem dX2_howManyCome_113 : decode cX2_howManyCome 113 = .ok (.ireturn, 1) := by decide +kernel
theorem dX2_mustBeAhead_0 : decode cX2_mustBeAhead 0 = .ok (.iconst 0, 1) := by decide +kernel
theorem dX2_mustBeAhead_1 : decode cX2_mustBeAhead 1 = .ok (.istore_n 2, 1) := by decide +kernel
theorem dX2_mustBeAhead_2 : decode cX2_mustBeAhead 2 = .ok (.iconst 0, 1) := by decide +kernel
theorem dX2_mustBeAhead_3 : decode cX2_mustBeAhead 3 = .ok (.istore_n 3, 1) := by decide +kernel
theorem dX2_mustBeAhead_4 : decode cX2_mustBeAhead 4 = .ok (.iload_n 3, 1) := by decide +kernel
theorem dX2_mustBeAhead_5 : decode cX2_mustBeAhead 5 = .ok (.iload_n 1, 1) := by decide +kernel
theorem dX2_mustBeAhead_6 : decode cX2_mustBeAhead 6 = .ok (.if_icmp .ge 24, 3) := by decide +kernel
theorem dX2_mustBeAhead_9 : decode cX2_mustBeAhead 9 = .ok (.aload_n 0, 1) := by decide +kernel
theorem dX2_mustBeAhead_10 : decode cX2_mustBeAhead 10 = .ok (.iload_n 3, 1) := by decide +kernel
theorem dX2_mustBeAhead_11 : decode cX2_mustBeAhead 11 = .ok (.iload_n 1, 1) := by decide +kernel
theorem dX2_mustBeAhead_12 : decode cX2_mustBeAhead 12 = .ok (.invokestatic 43, 3) := by decide +kernel
theorem dX2_mustBeAhead_15 : decode cX2_mustBeAhead 15 = .ok (.ifCond .ne 9, 3) := by decide +kernel
theorem dX2_mustBeAhead_18 : decode cX2_mustBeAhead 18 = .ok (.iload_n 2, 1) := by decide +kernel
theorem dX2_mustBeAhead_19 : decode cX2_mustBeAhead 19 = .ok (.iconst 1, 1) := by decide +kernel
theorem dX2_mustBeAhead_20 : decode cX2_mustBeAhead 20 = .ok (.iload_n 3, 1) := by decide +kernel
theorem dX2_mustBeAhead_21 : decode cX2_mustBeAhead 21 = .ok (.ishl, 1) := by decide +kernel
theorem dX2_mustBeAhead_22 : decode cX2_mustBeAhead 22 = .ok (.ior, 1) := by decide +kernel
theorem dX2_mustBeAhead_23 : decode cX2_mustBeAhead 23 = .ok (.istore_n 2, 1) := by decide +kernel
theorem dX2_mustBeAhead_24 : decode cX2_mustBeAhead 24 = .ok (.iinc 3 1, 3) := by decide +kernel
theorem dX2_mustBeAhead_27 : decode cX2_mustBeAhead 27 = .ok (.goto (-23), 3) := by decide +kernel
theorem dX2_mustBeAhead_30 : decode cX2_mustBeAhead 30 = .ok (.iload_n 2, 1) := by decide +kernel
theorem dX2_mustBeAhead_31 : decode cX2_mustBeAhead 31 = .ok (.ireturn, 1) := by decide +kernel
theorem dX3_init_0 : decode cX3_init 0 = .ok (.aload_n 0, 1) := by decide +kernel
theorem dX3_init_1 : decode cX3_init 1 = .ok (.invokespecial 3, 3) := by decide +kernel
theorem dX3_init_4 : decode cX3_init 4 = .ok (.aload_n 0, 1) := by decide +kernel
theorem dX3_init_5 : decode cX3_init 5 = .ok (.iconst 0, 1) := by decide +kernel
theorem dX3_init_6 : decode cX3_init 6 = .ok (.putfield 9, 3) := by decide +kernel
theorem dX3_init_9 : decode cX3_init 9 = .ok (.aload_n 0, 1) := by decide +kernel
theorem dX3_init_10 : decode cX3_init 10 = .ok (.bipush 8, 2) := by decide +kernel
theorem dX3_init_12 : decode cX3_init 12 = .ok (.newarray .int, 2) := by decide +kernel
theorem dX3_init_14 : decode cX3_init 14 = .ok (.putfield 15, 3) := by decide +kernel
theorem dX3_init_17 : decode cX3_init 17 = .ok (.aload_n 0, 1) := by decide +kernel
theorem dX3_init_18 : decode cX3_init 18 = .ok (.bipush 8, 2) := by decide +kernel
theorem dX3_init_20 : decode cX3_init 20 = .ok (.newarray .int, 2) := by decide +kernel
theorem dX3_init_22 : decode cX3_init 22 = .ok (.putfield 19, 3) := by decide +kernel
theorem dX3_init_25 : decode cX3_init 25 = .ok (.aload_n 0, 1) := by decide +kernel
theorem dX3_init_26 : decode cX3_init 26 = .ok (.bipush 8, 2) := by decide +kernel
theorem dX3_init_28 : decode cX3_init 28 = .ok (.newarray .int, 2) := by decide +kernel
theorem dX3_init_30 : decode cX3_init 30 = .ok (.putfield 22, 3) := by decide +kernel
theorem dX3_init_33 : decode cX3_init 33 = .ok (.aload_n 0, 1) := by decide +kernel
theorem dX3_init_34 : decode cX3_init 34 = .ok (.bipush 8, 2) := by decide +kernel
theorem dX3_init_36 : decode cX3_init 36 = .ok (.newarray .int, 2) := by decide +kernel
theorem dX3_init_38 : decode cX3_init 38 = .ok (.putfield 25, 3) := by decide +kernel
theorem dX3_init_41 : decode cX3_init 41 = .ok (.return_, 1) := by decide +kernel
theorem dX3_takeOne_0 : decode cX3_takeOne 0 = .ok (.aload_n 0, 1) := by decide +kernel
theorem dX3_takeOne_1 : decode cX3_takeOne 1 = .ok (.getfield 9, 3) := by decide +kernel
theorem dX3_takeOne_4 : decode cX3_takeOne 4 = .ok (.bipush 8, 2) := by decide +kernel
theorem dX3_takeOne_6 : decode cX3_takeOne 6 = .ok (.if_icmp .lt 6, 3) := by decide +kernel
theorem dX3_takeOne_9 : decode cX3_takeOne 9 = .ok (.bipush (-4), 2) := by decide +kernel
theorem dX3_takeOne_11 : decode cX3_takeOne 11 = .ok (.ireturn, 1) := by decide +kernel
theorem dX3_takeOne_12 : decode cX3_takeOne 12 = .ok (.aload_n 0, 1) := by decide +kernel
theorem dX3_takeOne_13 : decode cX3_takeOne 13 = .ok (.getfield 9, 3) := by decide +kernel
theorem dX3_takeOne_16 : decode cX3_takeOne 16 = .ok (.istore 5, 2) := by decide +kernel
theorem dX3_takeOne_18 : decode cX3_takeOne 18 = .ok (.aload_n 0, 1) := by decide +kernel
theorem dX3_takeOne_19 : decode cX3_takeOne 19 = .ok (.getfield 15, 3) := by decide +kernel
theorem dX3_takeOne_22 : decode cX3_takeOne 22 = .ok (.iload 5, 2) := by decide +kernel
theorem dX3_takeOne_24 : decode cX3_takeOne 24 = .ok (.iload_n 1, 1) := by decide +kernel
theorem dX3_takeOne_25 : decode cX3_takeOne 25 = .ok (.iastore, 1) := by decide +kernel
theorem dX3_takeOne_26 : decode cX3_takeOne 26 = .ok (.aload_n 0, 1) := by decide +kernel
theorem dX3_takeOne_27 : decode cX3_takeOne 27 = .ok (.getfield 19, 3) := by decide +kernel
theorem dX3_takeOne_30 : decode cX3_takeOne 30 = .ok (.iload 5, 2) := by decide +kernel
theorem dX3_takeOne_32 : decode cX3_takeOne 32 = .ok (.iload_n 2, 1) := by decide +kernel
theorem dX3_takeOne_33 : decode cX3_takeOne 33 = .ok (.iastore, 1) := by decide +kernel
theorem dX3_takeOne_34 : decode cX3_takeOne 34 = .ok (.aload_n 0, 1) := by decide +kernel
theorem dX3_takeOne_35 : decode cX3_takeOne 35 = .ok (.getfield 22, 3) := by decide +kernel
theorem dX3_takeOne_38 : decode cX3_takeOne 38 = .ok (.iload 5, 2) := by decide +kernel
theorem dX3_takeOne_40 : decode cX3_takeOne 40 = .ok (.iload_n 3, 1) := by decide +kernel
theorem dX3_takeOne_41 : decode cX3_takeOne 41 = .ok (.iastore, 1) := by decide +kernel
theorem dX3_takeOne_42 : decode cX3_takeOne 42 = .ok (.aload_n 0, 1) := by decide +kernel
theorem dX3_takeOne_43 : decode cX3_takeOne 43 = .ok (.getfield 25, 3) := by decide +kernel
theorem dX3_takeOne_46 : decode cX3_takeOne 46 = .ok (.iload 5, 2) := by decide +kernel
theorem dX3_takeOne_48 : decode cX3_takeOne 48 = .ok (.iload 4, 2) := by decide +kernel
theorem dX3_takeOne_50 : decode cX3_takeOne 50 = .ok (.iastore, 1) := by decide +kernel
theorem dX3_takeOne_51 : decode cX3_takeOne 51 = .ok (.aload_n 0, 1) := by decide +kernel
theorem dX3_takeOne_52 : decode cX3_takeOne 52 = .ok (.dup, 1) := by decide +kernel
theorem dX3_takeOne_53 : decode cX3_takeOne 53 = .ok (.getfield 9, 3) := by decide +kernel
theorem dX3_takeOne_56 : decode cX3_takeOne 56 = .ok (.iconst 1, 1) := by decide +kernel
theorem dX3_takeOne_57 : decode cX3_takeOne 57 = .ok (.iadd, 1) := by decide +kernel
theorem dX3_takeOne_58 : decode cX3_takeOne 58 = .ok (.putfield 9, 3) := by decide +kernel
theorem dX3_takeOne_61 : decode cX3_takeOne 61 = .ok (.iload 5, 2) := by decide +kernel
theorem dX3_takeOne_63 : decode cX3_takeOne 63 = .ok (.ireturn, 1) := by decide +kernel
theorem dX3_areAllSo_0 : decode cX3_areAllSo 0 = .ok (.iconst 0, 1) := by decide +kernel
theorem dX3_areAllSo_1 : decode cX3_areAllSo 1 = .ok (.istore_n 3, 1) := by decide +kernel
theorem dX3_areAllSo_2 : decode cX3_areAllSo 2 = .ok (.iload_n 3, 1) := by decide +kernel
theorem dX3_areAllSo_3 : decode cX3_areAllSo 3 = .ok (.aload_n 0, 1) := by decide +kernel
theorem dX3_areAllSo_4 : decode cX3_areAllSo 4 = .ok (.getfield 9, 3) := by decide +kernel
theorem dX3_areAllSo_7 : decode cX3_areAllSo 7 = .ok (.if_icmp .ge 48, 3) := by decide +kernel
theorem dX3_areAllSo_10 : decode cX3_areAllSo 10 = .ok (.aload_n 2, 1) := by decide +kernel
theorem dX3_areAllSo_11 : decode cX3_areAllSo 11 = .ok (.aload_n 1, 1) := by decide +kernel
theorem dX3_areAllSo_12 : decode cX3_areAllSo 12 = .ok (.aload_n 0, 1) := by decide +kernel
theorem dX3_areAllSo_13 : decode cX3_areAllSo 13 = .ok (.getfield 15, 3) := by decide +kernel
theorem dX3_areAllSo_16 : decode cX3_areAllSo 16 = .ok (.iload_n 3, 1) := by decide +kernel
theorem dX3_areAllSo_17 : decode cX3_areAllSo 17 = .ok (.iaload, 1) := by decide +kernel
theorem dX3_areAllSo_18 : decode cX3_areAllSo 18 = .ok (.aload_n 0, 1) := by decide +kernel
theorem dX3_areAllSo_19 : decode cX3_areAllSo 19 = .ok (.getfield 19, 3) := by decide +kernel
theorem dX3_areAllSo_22 : decode cX3_areAllSo 22 = .ok (.iload_n 3, 1) := by decide +kernel
theorem dX3_areAllSo_23 : decode cX3_areAllSo 23 = .ok (.iaload, 1) := by decide +kernel
theorem dX3_areAllSo_24 : decode cX3_areAllSo 24 = .ok (.invokevirtual 28, 3) := by decide +kernel
theorem dX3_areAllSo_27 : decode cX3_areAllSo 27 = .ok (.aload_n 2, 1) := by decide +kernel
theorem dX3_areAllSo_28 : decode cX3_areAllSo 28 = .ok (.getfield 34, 3) := by decide +kernel
theorem dX3_areAllSo_31 : decode cX3_areAllSo 31 = .ok (.aload_n 0, 1) := by decide +kernel
theorem dX3_areAllSo_32 : decode cX3_areAllSo 32 = .ok (.getfield 22, 3) := by decide +kernel
theorem dX3_areAllSo_35 : decode cX3_areAllSo 35 = .ok (.iload_n 3, 1) := by decide +kernel
theorem dX3_areAllSo_36 : decode cX3_areAllSo 36 = .ok (.iaload, 1) := by decide +kernel
theorem dX3_areAllSo_37 : decode cX3_areAllSo 37 = .ok (.iaload, 1) := by decide +kernel
theorem dX3_areAllSo_38 : decode cX3_areAllSo 38 = .ok (.aload_n 0, 1) := by decide +kernel
theorem dX3_areAllSo_39 : decode cX3_areAllSo 39 = .ok (.getfield 25, 3) := by decide +kernel
theorem dX3_areAllSo_42 : decode cX3_areAllSo 42 = .ok (.iload_n 3, 1) := by decide +kernel
theorem dX3_areAllSo_43 : decode cX3_areAllSo 43 = .ok (.iaload, 1) := by decide +kernel
theorem dX3_areAllSo_44 : decode cX3_areAllSo 44 = .ok (.if_icmp .eq 5, 3) := by decide +kernel
theorem dX3_areAllSo_47 : decode cX3_areAllSo 47 = .ok (.iconst 0, 1) := by decide +kernel
theorem dX3_areAllSo_48 : decode cX3_areAllSo 48 = .ok (.ireturn, 1) := by decide +kernel
theorem dX3_areAllSo_49 : decode cX3_areAllSo 49 = .ok (.iinc 3 1, 3) := by decide +kernel
theorem dX3_areAllSo_52 : decode cX3_areAllSo 52 = .ok (.goto (-50), 3) := by decide +kernel
theorem dX3_areAllSo_55 : decode cX3_areAllSo 55 = .ok (.iconst 1, 1) := by decide +kernel
theorem dX3_areAllSo_56 : decode cX3_areAllSo 56 = .ok (.ireturn, 1) := by decide +kernel
theorem dX4_init_0 : decode cX4_init 0 = .ok (.aload_n 0, 1) := by decide +kernel
theorem dX4_init_1 : decode cX4_init 1 = .ok (.invokespecial 3, 3) := by decide +kernel
theorem dX4_init_4 : decode cX4_init 4 = .ok (.aload_n 0, 1) := by decide +kernel
theorem dX4_init_5 : decode cX4_init 5 = .ok (.iconst 0, 1) := by decide +kernel
theorem dX4_init_6 : decode cX4_init 6 = .ok (.putfield 9, 3) := by decide +kernel
theorem dX4_init_9 : decode cX4_init 9 = .ok (.aload_n 0, 1) := by decide +kernel
theorem dX4_init_10 : decode cX4_init 10 = .ok (.iconst 0, 1) := by decide +kernel
theorem dX4_init_11 : decode cX4_init 11 = .ok (.putfield 15, 3) := by decide +kernel
theorem dX4_init_14 : decode cX4_init 14 = .ok (.aload_n 0, 1) := by decide +kernel
theorem dX4_init_15 : decode cX4_init 15 = .ok (.iconst 0, 1) := by decide +kernel
theorem dX4_init_16 : decode cX4_init 16 = .ok (.putfield 19, 3) := by decide +kernel
theorem dX4_init_19 : decode cX4_init 19 = .ok (.aload_n 0, 1) := by decide +kernel
theorem dX4_init_20 : decode cX4_init 20 = .ok (.bipush 50, 2) := by decide +kernel
theorem dX4_init_22 : decode cX4_init 22 = .ok (.newarray .int, 2) := by decide +kernel
theorem dX4_init_24 : decode cX4_init 24 = .ok (.putfield 22, 3) := by decide +kernel
theorem dX4_init_27 : decode cX4_init 27 = .ok (.return_, 1) := by decide +kernel
theorem dX4_becomeNew_0 : decode cX4_becomeNew 0 = .ok (.aload_n 0, 1) := by decide +kernel
theorem dX4_becomeNew_1 : decode cX4_becomeNew 1 = .ok (.iconst 1, 1) := by decide +kernel
theorem dX4_becomeNew_2 : decode cX4_becomeNew 2 = .ok (.putfield 9, 3) := by decide +kernel
theorem dX4_becomeNew_5 : decode cX4_becomeNew 5 = .ok (.aload_n 0, 1) := by decide +kernel
theorem dX4_becomeNew_6 : decode cX4_becomeNew 6 = .ok (.iload_n 1, 1) := by decide +kernel
theorem dX4_becomeNew_7 : decode cX4_becomeNew 7 = .ok (.putfield 15, 3) := by decide +kernel
theorem dX4_becomeNew_10 : decode cX4_becomeNew 10 = .ok (.aload_n 0, 1) := by decide +kernel
theorem dX4_becomeNew_11 : decode cX4_becomeNew 11 = .ok (.iload_n 2, 1) := by decide +kernel
theorem dX4_becomeNew_12 : decode cX4_becomeNew 12 = .ok (.putfield 19, 3) := by decide +kernel
theorem dX4_becomeNew_15 : decode cX4_becomeNew 15 = .ok (.aload_n 0, 1) := by decide +kernel
theorem dX4_becomeNew_16 : decode cX4_becomeNew 16 = .ok (.getfield 22, 3) := by decide +kernel
theorem dX4_becomeNew_19 : decode cX4_becomeNew 19 = .ok (.iconst 0, 1) := by decide +kernel
theorem dX4_becomeNew_20 : decode cX4_becomeNew 20 = .ok (.invokestatic 26, 3) := by decide +kernel
theorem dX4_becomeNew_23 : decode cX4_becomeNew 23 = .ok (.return_, 1) := by decide +kernel
theorem dX4_hasCells_0 : decode cX4_hasCells 0 = .ok (.iload_n 2, 1) := by decide +kernel
theorem dX4_hasCells_1 : decode cX4_hasCells 1 = .ok (.ifCond .lt 21, 3) := by decide +kernel
theorem dX4_hasCells_4 : decode cX4_hasCells 4 = .ok (.iload_n 1, 1) := by decide +kernel
theorem dX4_hasCells_5 : decode cX4_hasCells 5 = .ok (.ifCond .lt 17, 3) := by decide +kernel
theorem dX4_hasCells_8 : decode cX4_hasCells 8 = .ok (.iload_n 1, 1) := by decide +kernel
theorem dX4_hasCells_9 : decode cX4_hasCells 9 = .ok (.aload_n 0, 1) := by decide +kernel
theorem dX4_hasCells_10 : decode cX4_hasCells 10 = .ok (.getfield 19, 3) := by decide +kernel
theorem dX4_hasCells_13 : decode cX4_hasCells 13 = .ok (.iload_n 2, 1) := by decide +kernel
theorem dX4_hasCells_14 : decode cX4_hasCells 14 = .ok (.isub, 1) := by decide +kernel
theorem dX4_hasCells_15 : decode cX4_hasCells 15 = .ok (.if_icmp .gt 7, 3) := by decide +kernel
theorem dX4_hasCells_18 : decode cX4_hasCells 18 = .ok (.iconst 1, 1) := by decide +kernel
theorem dX4_hasCells_19 : decode cX4_hasCells 19 = .ok (.goto 4, 3) := by decide +kernel
theorem dX4_hasCells_22 : decode cX4_hasCells 22 = .ok (.iconst 0, 1) := by decide +kernel
theorem dX4_hasCells_23 : decode cX4_hasCells 23 = .ok (.ireturn, 1) := by decide +kernel
theorem dX4_faultOfCells_0 : decode cX4_faultOfCells 0 = .ok (.aload_n 0, 1) := by decide +kernel
theorem dX4_faultOfCells_1 : decode cX4_faultOfCells 1 = .ok (.getfield 9, 3) := by decide +kernel
theorem dX4_faultOfCells_4 : decode cX4_faultOfCells 4 = .ok (.ifCond .eq 13, 3) := by decide +kernel
theorem dX4_faultOfCells_7 : decode cX4_faultOfCells 7 = .ok (.aload_n 0, 1) := by decide +kernel
theorem dX4_faultOfCells_8 : decode cX4_faultOfCells 8 = .ok (.getfield 15, 3) := by decide +kernel
theorem dX4_faultOfCells_11 : decode cX4_faultOfCells 11 = .ok (.iload_n 1, 1) := by decide +kernel
theorem dX4_faultOfCells_12 : decode cX4_faultOfCells 12 = .ok (.if_icmp .eq 5, 3) := by decide +kernel
theorem dX4_faultOfCells_15 : decode cX4_faultOfCells 15 = .ok (.iconst 2, 1) := by decide +kernel
theorem dX4_faultOfCells_16 : decode cX4_faultOfCells 16 = .ok (.ireturn, 1) := by decide +kernel
theorem dX4_faultOfCells_17 : decode cX4_faultOfCells 17 = .ok (.aload_n 0, 1) := by decide +kernel
theorem dX4_faultOfCells_18 : decode cX4_faultOfCells 18 = .ok (.getfield 9, 3) := by decide +kernel
theorem dX4_faultOfCells_21 : decode cX4_faultOfCells 21 = .ok (.ifCond .ne 5, 3) := by decide +kernel
theorem dX4_faultOfCells_24 : decode cX4_faultOfCells 24 = .ok (.iconst 1, 1) := by decide +kernel
theorem dX4_faultOfCells_25 : decode cX4_faultOfCells 25 = .ok (.ireturn, 1) := by decide +kernel
theorem dX4_faultOfCells_26 : decode cX4_faultOfCells 26 = .ok (.iload_n 3, 1) := by decide +kernel
theorem dX4_faultOfCells_27 : decode cX4_faultOfCells 27 = .ok (.ifCond .ge 5, 3) := by decide +kernel
theorem dX4_faultOfCells_30 : decode cX4_faultOfCells 30 = .ok (.iconst 4, 1) := by decide +kernel
theorem dX4_faultOfCells_31 : decode cX4_faultOfCells 31 = .ok (.ireturn, 1) := by decide +kernel
theorem dX4_faultOfCells_32 : decode cX4_faultOfCells 32 = .ok (.aload_n 0, 1) := by decide +kernel
theorem dX4_faultOfCells_33 : decode cX4_faultOfCells 33 = .ok (.iload_n 2, 1) := by decide +kernel
theorem dX4_faultOfCells_34 : decode cX4_faultOfCells 34 = .ok (.iload_n 3, 1) := by decide +kernel
theorem dX4_faultOfCells_35 : decode cX4_faultOfCells 35 = .ok (.invokevirtual 32, 3) := by decide +kernel
theorem dX4_faultOfCells_38 : decode cX4_faultOfCells 38 = .ok (.ifCond .eq 7, 3) := by decide +kernel
theorem dX4_faultOfCells_41 : decode cX4_faultOfCells 41 = .ok (.iconst 0, 1) := by decide +kernel
theorem dX4_faultOfCells_42 : decode cX4_faultOfCells 42 = .ok (.goto 4, 3) := by decide +kernel
theorem dX4_faultOfCells_45 : decode cX4_faultOfCells 45 = .ok (.iconst 3, 1) := by decide +kernel
theorem dX4_faultOfCells_46 : decode cX4_faultOfCells 46 = .ok (.ireturn, 1) := by decide +kernel
theorem dX4_load_0 : decode cX4_load 0 = .ok (.iload_n 1, 1) := by decide +kernel
theorem dX4_load_1 : decode cX4_load 1 = .ok (.ifCond .lt 20, 3) := by decide +kernel
theorem dX4_load_4 : decode cX4_load 4 = .ok (.iload_n 1, 1) := by decide +kernel
theorem dX4_load_5 : decode cX4_load 5 = .ok (.aload_n 0, 1) := by decide +kernel
theorem dX4_load_6 : decode cX4_load 6 = .ok (.getfield 19, 3) := by decide +kernel
theorem dX4_load_9 : decode cX4_load 9 = .ok (.if_icmp .ge 12, 3) := by decide +kernel
theorem dX4_load_12 : decode cX4_load 12 = .ok (.aload_n 0, 1) := by decide +kernel
theorem dX4_load_13 : decode cX4_load 13 = .ok (.getfield 22, 3) := by decide +kernel
theorem dX4_load_16 : decode cX4_load 16 = .ok (.iload_n 1, 1) := by decide +kernel
theorem dX4_load_17 : decode cX4_load 17 = .ok (.iaload, 1) := by decide +kernel
theorem dX4_load_18 : decode cX4_load 18 = .ok (.goto 4, 3) := by decide +kernel
theorem dX4_load_21 : decode cX4_load 21 = .ok (.iconst 0, 1) := by decide +kernel
theorem dX4_load_22 : decode cX4_load 22 = .ok (.ireturn, 1) := by decide +kernel
theorem dX4_store_0 : decode cX4_store 0 = .ok (.iload_n 1, 1) := by decide +kernel
theorem dX4_store_1 : decode cX4_store 1 = .ok (.ifCond .lt 43, 3) := by decide +kernel
theorem dX4_store_4 : decode cX4_store 4 = .ok (.iload_n 1, 1) := by decide +kernel
theorem dX4_store_5 : decode cX4_store 5 = .ok (.aload_n 0, 1) := by decide +kernel
theorem dX4_store_6 : decode cX4_store 6 = .ok (.getfield 19, 3) := by decide +kernel
theorem dX4_store_9 : decode cX4_store 9 = .ok (.if_icmp .ge 35, 3) := by decide +kernel
theorem dX4_store_12 : decode cX4_store 12 = .ok (.aload_n 0, 1) := by decide +kernel
theorem dX4_store_13 : decode cX4_store 13 = .ok (.getfield 22, 3) := by decide +kernel
theorem dX4_store_16 : decode cX4_store 16 = .ok (.iload_n 1, 1) := by decide +kernel
theorem dX4_store_17 : decode cX4_store 17 = .ok (.aload_n 0, 1) := by decide +kernel
theorem dX4_store_18 : decode cX4_store 18 = .ok (.getfield 15, 3) := by decide +kernel
theorem dX4_store_21 : decode cX4_store 21 = .ok (.ifCond .ne 8, 3) := by decide +kernel
theorem dX4_store_24 : decode cX4_store 24 = .ok (.iload_n 2, 1) := by decide +kernel
theorem dX4_store_25 : decode cX4_store 25 = .ok (.i2b, 1) := by decide +kernel
theorem dX4_store_26 : decode cX4_store 26 = .ok (.goto 17, 3) := by decide +kernel
theorem dX4_store_29 : decode cX4_store 29 = .ok (.aload_n 0, 1) := by decide +kernel
theorem dX4_store_30 : decode cX4_store 30 = .ok (.getfield 15, 3) := by decide +kernel
theorem dX4_store_33 : decode cX4_store 33 = .ok (.iconst 1, 1) := by decide +kernel
theorem dX4_store_34 : decode cX4_store 34 = .ok (.if_icmp .ne 8, 3) := by decide +kernel
theorem dX4_store_37 : decode cX4_store 37 = .ok (.iload_n 2, 1) := by decide +kernel
theorem dX4_store_38 : decode cX4_store 38 = .ok (.i2s, 1) := by decide +kernel
theorem dX4_store_39 : decode cX4_store 39 = .ok (.goto 4, 3) := by decide +kernel
theorem dX4_store_42 : decode cX4_store 42 = .ok (.iload_n 2, 1) := by decide +kernel
theorem dX4_store_43 : decode cX4_store 43 = .ok (.iastore, 1) := by decide +kernel
theorem dX4_store_44 : decode cX4_store 44 = .ok (.return_, 1) := by decide +kernel
theorem dX5_init_0 : decode cX5_init 0 = .ok (.aload_n 0, 1) := by decide +kernel
theorem dX5_init_1 : decode cX5_init 1 = .ok (.invokespecial 3, 3) := by decide +kernel
theorem dX5_init_4 : decode cX5_init 4 = .ok (.aload_n 0, 1) := by decide +kernel
theorem dX5_init_5 : decode cX5_init 5 = .ok (.bipush 7, 2) := by decide +kernel
theorem dX5_init_7 : decode cX5_init 7 = .ok (.newarray .int, 2) := by decide +kernel
theorem dX5_init_9 : decode cX5_init 9 = .ok (.putfield 9, 3) := by decide +kernel
theorem dX5_init_12 : decode cX5_init 12 = .ok (.aload_n 0, 1) := by decide +kernel
theorem dX5_init_13 : decode cX5_init 13 = .ok (.bipush 7, 2) := by decide +kernel
theorem dX5_init_15 : decode cX5_init 15 = .ok (.newarray .int, 2) := by decide +kernel
theorem dX5_init_17 : decode cX5_init 17 = .ok (.putfield 15, 3) := by decide +kernel
theorem dX5_init_20 : decode cX5_init 20 = .ok (.return_, 1) := by decide +kernel
theorem dX5_tellFrom_0 : decode cX5_tellFrom 0 = .ok (.aload_n 0, 1) := by decide +kernel
theorem dX5_tellFrom_1 : decode cX5_tellFrom 1 = .ok (.getfield 9, 3) := by decide +kernel
theorem dX5_tellFrom_4 : decode cX5_tellFrom 4 = .ok (.bipush (-9), 2) := by decide +kernel
theorem dX5_tellFrom_6 : decode cX5_tellFrom 6 = .ok (.invokestatic 18, 3) := by decide +kernel
theorem dX5_tellFrom_9 : decode cX5_tellFrom 9 = .ok (.aload_n 0, 1) := by decide +kernel
theorem dX5_tellFrom_10 : decode cX5_tellFrom 10 = .ok (.getfield 15, 3) := by decide +kernel
theorem dX5_tellFrom_13 : decode cX5_tellFrom 13 = .ok (.bipush (-9), 2) := by decide +kernel
theorem dX5_tellFrom_15 : decode cX5_tellFrom 15 = .ok (.invokestatic 18, 3) := by decide +kernel
theorem dX5_tellFrom_18 : decode cX5_tellFrom 18 = .ok (.aload_n 1, 1) := by decide +kernel
theorem dX5_tellFrom_19 : decode cX5_tellFrom 19 = .ok (.iload_n 2, 1) := by decide +kernel
theorem dX5_tellFrom_20 : decode cX5_tellFrom 20 = .ok (.invokevirtual 24, 3) := by decide +kernel
theorem dX5_tellFrom_23 : decode cX5_tellFrom 23 = .ok (.ifCond .ne 4, 3) := by decide +kernel
theorem dX5_tellFrom_26 : decode cX5_tellFrom 26 = .ok (.return_, 1) := by decide +kernel
theorem dX5_tellFrom_27 : decode cX5_tellFrom 27 = .ok (.aload_n 0, 1) := by decide +kernel
theorem dX5_tellFrom_28 : decode cX5_tellFrom 28 = .ok (.getfield 9, 3) := by decide +kernel
theorem dX5_tellFrom_31 : decode cX5_tellFrom 31 = .ok (.iload_n 2, 1) := by decide +kernel
theorem dX5_tellFrom_32 : decode cX5_tellFrom 32 = .ok (.iload_n 3, 1) := by decide +kernel
theorem dX5_tellFrom_33 : decode cX5_tellFrom 33 = .ok (.iastore, 1) := by decide +kernel
theorem dX5_tellFrom_34 : decode cX5_tellFrom 34 = .ok (.aload_n 0, 1) := by decide +kernel
theorem dX5_tellFrom_35 : decode cX5_tellFrom 35 = .ok (.getfield 15, 3) := by decide +kernel
theorem dX5_tellFrom_38 : decode cX5_tellFrom 38 = .ok (.iload_n 2, 1) := by decide +kernel
theorem dX5_tellFrom_39 : decode cX5_tellFrom 39 = .ok (.iconst 0, 1) := by decide +kernel
theorem dX5_tellFrom_40 : decode cX5_tellFrom 40 = .ok (.iastore, 1) := by decide +kernel
theorem dX5_tellFrom_41 : decode cX5_tellFrom 41 = .ok (.iconst 1, 1) := by decide +kernel
theorem dX5_tellFrom_42 : decode cX5_tellFrom 42 = .ok (.istore 4, 2) := by decide +kernel
theorem dX5_tellFrom_44 : decode cX5_tellFrom 44 = .ok (.iload 4, 2) := by decide +kernel
theorem dX5_tellFrom_46 : decode cX5_tellFrom 46 = .ok (.aload_n 1, 1) := by decide +kernel
theorem dX5_tellFrom_47 : decode cX5_tellFrom 47 = .ok (.getfield 30, 3) := by decide +kernel
theorem dX5_tellFrom_50 : decode cX5_tellFrom 50 = .ok (.if_icmp .ge 73, 3) := by decide +kernel
theorem dX5_tellFrom_53 : decode cX5_tellFrom 53 = .ok (.iconst 0, 1) := by decide +kernel
theorem dX5_tellFrom_54 : decode cX5_tellFrom 54 = .ok (.istore 5, 2) := by decide +kernel
theorem dX5_tellFrom_56 : decode cX5_tellFrom 56 = .ok (.iload 5, 2) := by decide +kernel
theorem dX5_tellFrom_58 : decode cX5_tellFrom 58 = .ok (.aload_n 1, 1) := by decide +kernel
theorem dX5_tellFrom_59 : decode cX5_tellFrom 59 = .ok (.getfield 30, 3) := by decide +kernel
theorem dX5_tellFrom_62 : decode cX5_tellFrom 62 = .ok (.if_icmp .ge 55, 3) := by decide +kernel
theorem dX5_tellFrom_65 : decode cX5_tellFrom 65 = .ok (.aload_n 0, 1) := by decide +kernel
theorem dX5_tellFrom_66 : decode cX5_tellFrom 66 = .ok (.getfield 15, 3) := by decide +kernel
theorem dX5_tellFrom_69 : decode cX5_tellFrom 69 = .ok (.iload 5, 2) := by decide +kernel
theorem dX5_tellFrom_71 : decode cX5_tellFrom 71 = .ok (.iaload, 1) := by decide +kernel
theorem dX5_tellFrom_72 : decode cX5_tellFrom 72 = .ok (.iload 4, 2) := by decide +kernel
theorem dX5_tellFrom_74 : decode cX5_tellFrom 74 = .ok (.iconst 1, 1) := by decide +kernel
theorem dX5_tellFrom_75 : decode cX5_tellFrom 75 = .ok (.isub, 1) := by decide +kernel
theorem dX5_tellFrom_76 : decode cX5_tellFrom 76 = .ok (.if_icmp .ne 35, 3) := by decide +kernel
theorem dX5_tellFrom_79 : decode cX5_tellFrom 79 = .ok (.aload_n 0, 1) := by decide +kernel
theorem dX5_tellFrom_80 : decode cX5_tellFrom 80 = .ok (.aload_n 1, 1) := by decide +kernel
theorem dX5_tellFrom_81 : decode cX5_tellFrom 81 = .ok (.iload 5, 2) := by decide +kernel
theorem dX5_tellFrom_83 : decode cX5_tellFrom 83 = .ok (.iload 5, 2) := by decide +kernel
theorem dX5_tellFrom_85 : decode cX5_tellFrom 85 = .ok (.iload_n 2, 1) := by decide +kernel
theorem dX5_tellFrom_86 : decode cX5_tellFrom 86 = .ok (.if_icmp .ne 7, 3) := by decide +kernel
theorem dX5_tellFrom_89 : decode cX5_tellFrom 89 = .ok (.iload_n 3, 1) := by decide +kernel
theorem dX5_tellFrom_90 : decode cX5_tellFrom 90 = .ok (.goto 16, 3) := by decide +kernel
theorem dX5_tellFrom_93 : decode cX5_tellFrom 93 = .ok (.aload_n 1, 1) := by decide +kernel
theorem dX5_tellFrom_94 : decode cX5_tellFrom 94 = .ok (.iload 5, 2) := by decide +kernel
theorem dX5_tellFrom_96 : decode cX5_tellFrom 96 = .ok (.aload_n 0, 1) := by decide +kernel
theorem dX5_tellFrom_97 : decode cX5_tellFrom 97 = .ok (.getfield 9, 3) := by decide +kernel
theorem dX5_tellFrom_100 : decode cX5_tellFrom 100 = .ok (.iload 5, 2) := by decide +kernel
theorem dX5_tellFrom_102 : decode cX5_tellFrom 102 = .ok (.iaload, 1) := by decide +kernel
theorem dX5_tellFrom_103 : decode cX5_tellFrom 103 = .ok (.invokevirtual 34, 3) := by decide +kernel
theorem dX5_tellFrom_106 : decode cX5_tellFrom 106 = .ok (.iload 4, 2) := by decide +kernel
theorem dX5_tellFrom_108 : decode cX5_tellFrom 108 = .ok (.invokevirtual 38, 3) := by decide +kernel
theorem dX5_tellFrom_111 : decode cX5_tellFrom 111 = .ok (.iinc 5 1, 3) := by decide +kernel
theorem dX5_tellFrom_114 : decode cX5_tellFrom 114 = .ok (.goto (-58), 3) := by decide +kernel
theorem dX5_tellFrom_117 : decode cX5_tellFrom 117 = .ok (.iinc 4 1, 3) := by decide +kernel
theorem dX5_tellFrom_120 : decode cX5_tellFrom 120 = .ok (.goto (-76), 3) := by decide +kernel
theorem dX5_tellFrom_123 : decode cX5_tellFrom 123 = .ok (.return_, 1) := by decide +kernel
theorem dX5_passOn_0 : decode cX5_passOn 0 = .ok (.aload_n 1, 1) := by decide +kernel
theorem dX5_passOn_1 : decode cX5_passOn 1 = .ok (.iload_n 2, 1) := by decide +kernel
theorem dX5_passOn_2 : decode cX5_passOn 2 = .ok (.invokevirtual 42, 3) := by decide +kernel
theorem dX5_passOn_5 : decode cX5_passOn 5 = .ok (.istore 5, 2) := by decide +kernel
theorem dX5_passOn_7 : decode cX5_passOn 7 = .ok (.aload_n 1, 1) := by decide +kernel
theorem dX5_passOn_8 : decode cX5_passOn 8 = .ok (.iload 5, 2) := by decide +kernel
theorem dX5_passOn_10 : decode cX5_passOn 10 = .ok (.invokevirtual 46, 3) := by decide +kernel
theorem dX5_passOn_13 : decode cX5_passOn 13 = .ok (.ifCond .eq 12, 3) := by decide +kernel
theorem dX5_passOn_16 : decode cX5_passOn 16 = .ok (.aload_n 0, 1) := by decide +kernel
theorem dX5_passOn_17 : decode cX5_passOn 17 = .ok (.iload 5, 2) := by decide +kernel
theorem dX5_passOn_19 : decode cX5_passOn 19 = .ok (.iload_n 3, 1) := by decide +kernel
theorem dX5_passOn_20 : decode cX5_passOn 20 = .ok (.iload 4, 2) := by decide +kernel
theorem dX5_passOn_22 : decode cX5_passOn 22 = .ok (.invokevirtual 49, 3) := by decide +kernel
theorem dX5_passOn_25 : decode cX5_passOn 25 = .ok (.aload_n 1, 1) := by decide +kernel
theorem dX5_passOn_26 : decode cX5_passOn 26 = .ok (.iload_n 2, 1) := by decide +kernel
theorem dX5_passOn_27 : decode cX5_passOn 27 = .ok (.invokevirtual 46, 3) := by decide +kernel
theorem dX5_passOn_30 : decode cX5_passOn 30 = .ok (.ifCond .eq 15, 3) := by decide +kernel
theorem dX5_passOn_33 : decode cX5_passOn 33 = .ok (.aload_n 0, 1) := by decide +kernel
theorem dX5_passOn_34 : decode cX5_passOn 34 = .ok (.aload_n 1, 1) := by decide +kernel
theorem dX5_passOn_35 : decode cX5_passOn 35 = .ok (.iload_n 2, 1) := by decide +kernel
theorem dX5_passOn_36 : decode cX5_passOn 36 = .ok (.invokevirtual 53, 3) := by decide +kernel
theorem dX5_passOn_39 : decode cX5_passOn 39 = .ok (.iload_n 3, 1) := by decide +kernel
theorem dX5_passOn_40 : decode cX5_passOn 40 = .ok (.iload 4, 2) := by decide +kernel
theorem dX5_passOn_42 : decode cX5_passOn 42 = .ok (.invokevirtual 49, 3) := by decide +kernel
theorem dX5_passOn_45 : decode cX5_passOn 45 = .ok (.return_, 1) := by decide +kernel
theorem dX5_hear_0 : decode cX5_hear 0 = .ok (.iload_n 1, 1) := by decide +kernel
theorem dX5_hear_1 : decode cX5_hear 1 = .ok (.ifCond .lt 37, 3) := by decide +kernel
theorem dX5_hear_4 : decode cX5_hear 4 = .ok (.iload_n 1, 1) := by decide +kernel
theorem dX5_hear_5 : decode cX5_hear 5 = .ok (.aload_n 0, 1) := by decide +kernel
theorem dX5_hear_6 : decode cX5_hear 6 = .ok (.getfield 15, 3) := by decide +kernel
theorem dX5_hear_9 : decode cX5_hear 9 = .ok (.arraylength, 1) := by decide +kernel
theorem dX5_hear_10 : decode cX5_hear 10 = .ok (.if_icmp .ge 28, 3) := by decide +kernel
theorem dX5_hear_13 : decode cX5_hear 13 = .ok (.aload_n 0, 1) := by decide +kernel
theorem dX5_hear_14 : decode cX5_hear 14 = .ok (.getfield 15, 3) := by decide +kernel
theorem dX5_hear_17 : decode cX5_hear 17 = .ok (.iload_n 1, 1) := by decide +kernel
theorem dX5_hear_18 : decode cX5_hear 18 = .ok (.iaload, 1) := by decide +kernel
theorem dX5_hear_19 : decode cX5_hear 19 = .ok (.bipush (-9), 2) := by decide +kernel
theorem dX5_hear_21 : decode cX5_hear 21 = .ok (.if_icmp .ne 17, 3) := by decide +kernel
theorem dX5_hear_24 : decode cX5_hear 24 = .ok (.aload_n 0, 1) := by decide +kernel
theorem dX5_hear_25 : decode cX5_hear 25 = .ok (.getfield 9, 3) := by decide +kernel
theorem dX5_hear_28 : decode cX5_hear 28 = .ok (.iload_n 1, 1) := by decide +kernel
theorem dX5_hear_29 : decode cX5_hear 29 = .ok (.iload_n 2, 1) := by decide +kernel
theorem dX5_hear_30 : decode cX5_hear 30 = .ok (.iastore, 1) := by decide +kernel
theorem dX5_hear_31 : decode cX5_hear 31 = .ok (.aload_n 0, 1) := by decide +kernel
theorem dX5_hear_32 : decode cX5_hear 32 = .ok (.getfield 15, 3) := by decide +kernel
theorem dX5_hear_35 : decode cX5_hear 35 = .ok (.iload_n 1, 1) := by decide +kernel
theorem dX5_hear_36 : decode cX5_hear 36 = .ok (.iload_n 3, 1) := by decide +kernel
theorem dX5_hear_37 : decode cX5_hear 37 = .ok (.iastore, 1) := by decide +kernel
theorem dX5_hear_38 : decode cX5_hear 38 = .ok (.return_, 1) := by decide +kernel
theorem dX6_init_0 : decode cX6_init 0 = .ok (.aload_n 0, 1) := by decide +kernel
theorem dX6_init_1 : decode cX6_init 1 = .ok (.invokespecial 5, 3) := by decide +kernel
theorem dX6_init_4 : decode cX6_init 4 = .ok (.aload_n 0, 1) := by decide +kernel
theorem dX6_init_5 : decode cX6_init 5 = .ok (.sipush 256, 3) := by decide +kernel
theorem dX6_init_8 : decode cX6_init 8 = .ok (.newarray .long, 2) := by decide +kernel
theorem dX6_init_10 : decode cX6_init 10 = .ok (.putfield 11, 3) := by decide +kernel
theorem dX6_init_13 : decode cX6_init 13 = .ok (.aload_n 0, 1) := by decide +kernel
theorem dX6_init_14 : decode cX6_init 14 = .ok (.sipush 630, 3) := by decide +kernel
theorem dX6_init_17 : decode cX6_init 17 = .ok (.newarray .int, 2) := by decide +kernel
theorem dX6_init_19 : decode cX6_init 19 = .ok (.putfield 15, 3) := by decide +kernel
theorem dX6_init_22 : decode cX6_init 22 = .ok (.aload_n 0, 1) := by decide +kernel
theorem dX6_init_23 : decode cX6_init 23 = .ok (.iconst 0, 1) := by decide +kernel
theorem dX6_init_24 : decode cX6_init 24 = .ok (.putfield 19, 3) := by decide +kernel
theorem dX6_init_27 : decode cX6_init 27 = .ok (.aload_n 0, 1) := by decide +kernel
theorem dX6_init_28 : decode cX6_init 28 = .ok (.sipush 128, 3) := by decide +kernel
theorem dX6_init_31 : decode cX6_init 31 = .ok (.newarray .int, 2) := by decide +kernel
theorem dX6_init_33 : decode cX6_init 33 = .ok (.putfield 23, 3) := by decide +kernel
theorem dX6_init_36 : decode cX6_init 36 = .ok (.aload_n 0, 1) := by decide +kernel
theorem dX6_init_37 : decode cX6_init 37 = .ok (.iconst 0, 1) := by decide +kernel
theorem dX6_init_38 : decode cX6_init 38 = .ok (.putfield 26, 3) := by decide +kernel
theorem dX6_init_41 : decode cX6_init 41 = .ok (.aload_n 0, 1) := by decide +kernel
theorem dX6_init_42 : decode cX6_init 42 = .ok (.sipush 128, 3) := by decide +kernel
theorem dX6_init_45 : decode cX6_init 45 = .ok (.newarray .int, 2) := by decide +kernel
theorem dX6_init_47 : decode cX6_init 47 = .ok (.putfield 29, 3) := by decide +kernel
theorem dX6_init_50 : decode cX6_init 50 = .ok (.return_, 1) := by decide +kernel
theorem dX6_leastSteps_0 : decode cX6_leastSteps 0 = .ok (.aload_n 1, 1) := by decide +kernel
theorem dX6_leastSteps_1 : decode cX6_leastSteps 1 = .ok (.getfield 32, 3) := by decide +kernel
theorem dX6_leastSteps_4 : decode cX6_leastSteps 4 = .ok (.aload_n 1, 1) := by decide +kernel
theorem dX6_leastSteps_5 : decode cX6_leastSteps 5 = .ok (.getfield 37, 3) := by decide +kernel
theorem dX6_leastSteps_8 : decode cX6_leastSteps 8 = .ok (.invokestatic 40, 3) := by decide +kernel
theorem dX6_leastSteps_11 : decode cX6_leastSteps 11 = .ok (.istore_n 3, 1) := by decide +kernel
theorem dX6_leastSteps_12 : decode cX6_leastSteps 12 = .ok (.aload_n 0, 1) := by decide +kernel
theorem dX6_leastSteps_13 : decode cX6_leastSteps 13 = .ok (.aload_n 1, 1) := by decide +kernel
theorem dX6_leastSteps_14 : decode cX6_leastSteps 14 = .ok (.iload_n 2, 1) := by decide +kernel
theorem dX6_leastSteps_15 : decode cX6_leastSteps 15 = .ok (.invokevirtual 44, 3) := by decide +kernel
theorem dX6_leastSteps_18 : decode cX6_leastSteps 18 = .ok (.aload_n 0, 1) := by decide +kernel
theorem dX6_leastSteps_19 : decode cX6_leastSteps 19 = .ok (.getfield 11, 3) := by decide +kernel
theorem dX6_leastSteps_22 : decode cX6_leastSteps 22 = .ok (.lconst 0, 1) := by decide +kernel
theorem dX6_leastSteps_23 : decode cX6_leastSteps 23 = .ok (.invokestatic 48, 3) := by decide +kernel
theorem dX6_leastSteps_26 : decode cX6_leastSteps 26 = .ok (.aload_n 0, 1) := by decide +kernel
theorem dX6_leastSteps_27 : decode cX6_leastSteps 27 = .ok (.iconst 0, 1) := by decide +kernel
theorem dX6_leastSteps_28 : decode cX6_leastSteps 28 = .ok (.putfield 19, 3) := by decide +kernel
theorem dX6_leastSteps_31 : decode cX6_leastSteps 31 = .ok (.aload_n 0, 1) := by decide +kernel
theorem dX6_leastSteps_32 : decode cX6_leastSteps 32 = .ok (.aload_n 1, 1) := by decide +kernel
theorem dX6_leastSteps_33 : decode cX6_leastSteps 33 = .ok (.getfield 54, 3) := by decide +kernel
theorem dX6_leastSteps_36 : decode cX6_leastSteps 36 = .ok (.aload_n 1, 1) := by decide +kernel
theorem dX6_leastSteps_37 : decode cX6_leastSteps 37 = .ok (.getfield 37, 3) := by decide +kernel
theorem dX6_leastSteps_40 : decode cX6_leastSteps 40 = .ok (.invokestatic 40, 3) := by decide +kernel
theorem dX6_leastSteps_43 : decode cX6_leastSteps 43 = .ok (.invokevirtual 57, 3) := by decide +kernel
theorem dX6_leastSteps_46 : decode cX6_leastSteps 46 = .ok (.iconst 0, 1) := by decide +kernel
theorem dX6_leastSteps_47 : decode cX6_leastSteps 47 = .ok (.istore 4, 2) := by decide +kernel
theorem dX6_leastSteps_49 : decode cX6_leastSteps 49 = .ok (.iconst 0, 1) := by decide +kernel
theorem dX6_leastSteps_50 : decode cX6_leastSteps 50 = .ok (.istore 5, 2) := by decide +kernel
theorem dX6_leastSteps_52 : decode cX6_leastSteps 52 = .ok (.iload 5, 2) := by decide +kernel
theorem dX6_leastSteps_54 : decode cX6_leastSteps 54 = .ok (.sipush 630, 3) := by decide +kernel
theorem dX6_leastSteps_57 : decode cX6_leastSteps 57 = .ok (.if_icmp .ge 63, 3) := by decide +kernel
theorem dX6_leastSteps_60 : decode cX6_leastSteps 60 = .ok (.iload 4, 2) := by decide +kernel
theorem dX6_leastSteps_62 : decode cX6_leastSteps 62 = .ok (.aload_n 0, 1) := by decide +kernel
theorem dX6_leastSteps_63 : decode cX6_leastSteps 63 = .ok (.getfield 19, 3) := by decide +kernel
theorem dX6_leastSteps_66 : decode cX6_leastSteps 66 = .ok (.if_icmp .ge 54, 3) := by decide +kernel
theorem dX6_leastSteps_69 : decode cX6_leastSteps 69 = .ok (.aload_n 0, 1) := by decide +kernel
theorem dX6_leastSteps_70 : decode cX6_leastSteps 70 = .ok (.getfield 19, 3) := by decide +kernel
theorem dX6_leastSteps_73 : decode cX6_leastSteps 73 = .ok (.istore 6, 2) := by decide +kernel
theorem dX6_leastSteps_75 : decode cX6_leastSteps 75 = .ok (.iload 4, 2) := by decide +kernel
theorem dX6_leastSteps_77 : decode cX6_leastSteps 77 = .ok (.iload 6, 2) := by decide +kernel
theorem dX6_leastSteps_79 : decode cX6_leastSteps 79 = .ok (.if_icmp .ge 35, 3) := by decide +kernel
theorem dX6_leastSteps_82 : decode cX6_leastSteps 82 = .ok (.aload_n 0, 1) := by decide +kernel
theorem dX6_leastSteps_83 : decode cX6_leastSteps 83 = .ok (.getfield 15, 3) := by decide +kernel
theorem dX6_leastSteps_86 : decode cX6_leastSteps 86 = .ok (.iload 4, 2) := by decide +kernel
theorem dX6_leastSteps_88 : decode cX6_leastSteps 88 = .ok (.iaload, 1) := by decide +kernel
theorem dX6_leastSteps_89 : decode cX6_leastSteps 89 = .ok (.iload_n 3, 1) := by decide +kernel
theorem dX6_leastSteps_90 : decode cX6_leastSteps 90 = .ok (.if_icmp .ne 6, 3) := by decide +kernel
theorem dX6_leastSteps_93 : decode cX6_leastSteps 93 = .ok (.iload 5, 2) := by decide +kernel
theorem dX6_leastSteps_95 : decode cX6_leastSteps 95 = .ok (.ireturn, 1) := by decide +kernel
theorem dX6_leastSteps_96 : decode cX6_leastSteps 96 = .ok (.aload_n 0, 1) := by decide +kernel
theorem dX6_leastSteps_97 : decode cX6_leastSteps 97 = .ok (.aload_n 1, 1) := by decide +kernel
theorem dX6_leastSteps_98 : decode cX6_leastSteps 98 = .ok (.aload_n 0, 1) := by decide +kernel
theorem dX6_leastSteps_99 : decode cX6_leastSteps 99 = .ok (.getfield 15, 3) := by decide +kernel
theorem dX6_leastSteps_102 : decode cX6_leastSteps 102 = .ok (.iload 4, 2) := by decide +kernel
theorem dX6_leastSteps_104 : decode cX6_leastSteps 104 = .ok (.iaload, 1) := by decide +kernel
theorem dX6_leastSteps_105 : decode cX6_leastSteps 105 = .ok (.invokevirtual 61, 3) := by decide +kernel
theorem dX6_leastSteps_108 : decode cX6_leastSteps 108 = .ok (.iinc 4 1, 3) := by decide +kernel
theorem dX6_leastSteps_111 : decode cX6_leastSteps 111 = .ok (.goto (-36), 3) := by decide +kernel
theorem dX6_leastSteps_114 : decode cX6_leastSteps 114 = .ok (.iinc 5 1, 3) := by decide +kernel
theorem dX6_leastSteps_117 : decode cX6_leastSteps 117 = .ok (.goto (-65), 3) := by decide +kernel
theorem dX6_leastSteps_120 : decode cX6_leastSteps 120 = .ok (.bipush (-9), 2) := by decide +kernel
theorem dX6_leastSteps_122 : decode cX6_leastSteps 122 = .ok (.ireturn, 1) := by decide +kernel
theorem dX6_held_0 : decode cX6_held 0 = .ok (.iconst 0, 1) := by decide +kernel
theorem dX6_held_1 : decode cX6_held 1 = .ok (.istore_n 2, 1) := by decide +kernel
theorem dX6_held_2 : decode cX6_held 2 = .ok (.iconst 0, 1) := by decide +kernel
theorem dX6_held_3 : decode cX6_held 3 = .ok (.istore_n 3, 1) := by decide +kernel
theorem dX6_held_4 : decode cX6_held 4 = .ok (.iload_n 3, 1) := by decide +kernel
theorem dX6_held_5 : decode cX6_held 5 = .ok (.iload_n 1, 1) := by decide +kernel
theorem dX6_held_6 : decode cX6_held 6 = .ok (.if_icmp .ge 25, 3) := by decide +kernel
theorem dX6_held_9 : decode cX6_held 9 = .ok (.iload_n 3, 1) := by decide +kernel
theorem dX6_held_10 : decode cX6_held 10 = .ok (.aload_n 0, 1) := by decide +kernel
theorem dX6_held_11 : decode cX6_held 11 = .ok (.arraylength, 1) := by decide +kernel
theorem dX6_held_12 : decode cX6_held 12 = .ok (.if_icmp .ge 19, 3) := by decide +kernel
theorem dX6_held_15 : decode cX6_held 15 = .ok (.iload_n 2, 1) := by decide +kernel
theorem dX6_held_16 : decode cX6_held 16 = .ok (.aload_n 0, 1) := by decide +kernel
theorem dX6_held_17 : decode cX6_held 17 = .ok (.iload_n 3, 1) := by decide +kernel
theorem dX6_held_18 : decode cX6_held 18 = .ok (.iaload, 1) := by decide +kernel
theorem dX6_held_19 : decode cX6_held 19 = .ok (.iconst 2, 1) := by decide +kernel
theorem dX6_held_20 : decode cX6_held 20 = .ok (.iload_n 3, 1) := by decide +kernel
theorem dX6_held_21 : decode cX6_held 21 = .ok (.imul, 1) := by decide +kernel
theorem dX6_held_22 : decode cX6_held 22 = .ok (.ishl, 1) := by decide +kernel
theorem dX6_held_23 : decode cX6_held 23 = .ok (.ior, 1) := by decide +kernel
theorem dX6_held_24 : decode cX6_held 24 = .ok (.istore_n 2, 1) := by decide +kernel
theorem dX6_held_25 : decode cX6_held 25 = .ok (.iinc 3 1, 3) := by decide +kernel
theorem dX6_held_28 : decode cX6_held 28 = .ok (.goto (-24), 3) := by decide +kernel
theorem dX6_held_31 : decode cX6_held 31 = .ok (.iload_n 2, 1) := by decide +kernel
theorem dX6_held_32 : decode cX6_held 32 = .ok (.ireturn, 1) := by decide +kernel
theorem dX6_gatherSteps_0 : decode cX6_gatherSteps 0 = .ok (.aload_n 0, 1) := by decide +kernel
theorem dX6_gatherSteps_1 : decode cX6_gatherSteps 1 = .ok (.iconst 0, 1) := by decide +kernel
theorem dX6_gatherSteps_2 : decode cX6_gatherSteps 2 = .ok (.putfield 26, 3) := by decide +kernel
theorem dX6_gatherSteps_5 : decode cX6_gatherSteps 5 = .ok (.iconst 1, 1) := by decide +kernel
theorem dX6_gatherSteps_6 : decode cX6_gatherSteps 6 = .ok (.aload_n 1, 1) := by decide +kernel
theorem dX6_gatherSteps_7 : decode cX6_gatherSteps 7 = .ok (.getfield 65, 3) := by decide +kernel
theorem dX6_gatherSteps_10 : decode cX6_gatherSteps 10 = .ok (.ishl, 1) := by decide +kernel
theorem dX6_gatherSteps_11 : decode cX6_gatherSteps 11 = .ok (.istore_n 3, 1) := by decide +kernel
theorem dX6_gatherSteps_12 : decode cX6_gatherSteps 12 = .ok (.iconst 1, 1) := by decide +kernel
theorem dX6_gatherSteps_13 : decode cX6_gatherSteps 13 = .ok (.istore 4, 2) := by decide +kernel
theorem dX6_gatherSteps_15 : decode cX6_gatherSteps 15 = .ok (.iload 4, 2) := by decide +kernel
theorem dX6_gatherSteps_17 : decode cX6_gatherSteps 17 = .ok (.iload_n 3, 1) := by decide +kernel
theorem dX6_gatherSteps_18 : decode cX6_gatherSteps 18 = .ok (.if_icmp .ge 77, 3) := by decide +kernel
theorem dX6_gatherSteps_21 : decode cX6_gatherSteps 21 = .ok (.aload_n 0, 1) := by decide +kernel
theorem dX6_gatherSteps_22 : decode cX6_gatherSteps 22 = .ok (.getfield 26, 3) := by decide +kernel
theorem dX6_gatherSteps_25 : decode cX6_gatherSteps 25 = .ok (.aload_n 0, 1) := by decide +kernel
theorem dX6_gatherSteps_26 : decode cX6_gatherSteps 26 = .ok (.getfield 23, 3) := by decide +kernel
theorem dX6_gatherSteps_29 : decode cX6_gatherSteps 29 = .ok (.arraylength, 1) := by decide +kernel
theorem dX6_gatherSteps_30 : decode cX6_gatherSteps 30 = .ok (.if_icmp .ge 65, 3) := by decide +kernel
theorem dX6_gatherSteps_33 : decode cX6_gatherSteps 33 = .ok (.iload 4, 2) := by decide +kernel
theorem dX6_gatherSteps_35 : decode cX6_gatherSteps 35 = .ok (.iload 4, 2) := by decide +kernel
theorem dX6_gatherSteps_37 : decode cX6_gatherSteps 37 = .ok (.iconst 1, 1) := by decide +kernel
theorem dX6_gatherSteps_38 : decode cX6_gatherSteps 38 = .ok (.isub, 1) := by decide +kernel
theorem dX6_gatherSteps_39 : decode cX6_gatherSteps 39 = .ok (.iand, 1) := by decide +kernel
theorem dX6_gatherSteps_40 : decode cX6_gatherSteps 40 = .ok (.ifCond .ne 7, 3) := by decide +kernel
theorem dX6_gatherSteps_43 : decode cX6_gatherSteps 43 = .ok (.iconst 1, 1) := by decide +kernel
theorem dX6_gatherSteps_44 : decode cX6_gatherSteps 44 = .ok (.goto 4, 3) := by decide +kernel
theorem dX6_gatherSteps_47 : decode cX6_gatherSteps 47 = .ok (.iconst 0, 1) := by decide +kernel
theorem dX6_gatherSteps_48 : decode cX6_gatherSteps 48 = .ok (.istore 5, 2) := by decide +kernel
theorem dX6_gatherSteps_50 : decode cX6_gatherSteps 50 = .ok (.iload_n 2, 1) := by decide +kernel
theorem dX6_gatherSteps_51 : decode cX6_gatherSteps 51 = .ok (.ifCond .ne 8, 3) := by decide +kernel
theorem dX6_gatherSteps_54 : decode cX6_gatherSteps 54 = .ok (.iload 5, 2) := by decide +kernel
theorem dX6_gatherSteps_56 : decode cX6_gatherSteps 56 = .ok (.ifCond .eq 33, 3) := by decide +kernel
theorem dX6_gatherSteps_59 : decode cX6_gatherSteps 59 = .ok (.aload_n 1, 1) := by decide +kernel
theorem dX6_gatherSteps_60 : decode cX6_gatherSteps 60 = .ok (.iload 4, 2) := by decide +kernel
theorem dX6_gatherSteps_62 : decode cX6_gatherSteps 62 = .ok (.invokestatic 68, 3) := by decide +kernel
theorem dX6_gatherSteps_65 : decode cX6_gatherSteps 65 = .ok (.ifCond .eq 24, 3) := by decide +kernel
theorem dX6_gatherSteps_68 : decode cX6_gatherSteps 68 = .ok (.aload_n 0, 1) := by decide +kernel
theorem dX6_gatherSteps_69 : decode cX6_gatherSteps 69 = .ok (.getfield 23, 3) := by decide +kernel
theorem dX6_gatherSteps_72 : decode cX6_gatherSteps 72 = .ok (.aload_n 0, 1) := by decide +kernel
theorem dX6_gatherSteps_73 : decode cX6_gatherSteps 73 = .ok (.getfield 26, 3) := by decide +kernel
theorem dX6_gatherSteps_76 : decode cX6_gatherSteps 76 = .ok (.iload 4, 2) := by decide +kernel
theorem dX6_gatherSteps_78 : decode cX6_gatherSteps 78 = .ok (.iastore, 1) := by decide +kernel
theorem dX6_gatherSteps_79 : decode cX6_gatherSteps 79 = .ok (.aload_n 0, 1) := by decide +kernel
theorem dX6_gatherSteps_80 : decode cX6_gatherSteps 80 = .ok (.dup, 1) := by decide +kernel
theorem dX6_gatherSteps_81 : decode cX6_gatherSteps 81 = .ok (.getfield 26, 3) := by decide +kernel
theorem dX6_gatherSteps_84 : decode cX6_gatherSteps 84 = .ok (.iconst 1, 1) := by decide +kernel
theorem dX6_gatherSteps_85 : decode cX6_gatherSteps 85 = .ok (.iadd, 1) := by decide +kernel
theorem dX6_gatherSteps_86 : decode cX6_gatherSteps 86 = .ok (.putfield 26, 3) := by decide +kernel
theorem dX6_gatherSteps_89 : decode cX6_gatherSteps 89 = .ok (.iinc 4 1, 3) := by decide +kernel
theorem dX6_gatherSteps_92 : decode cX6_gatherSteps 92 = .ok (.goto (-77), 3) := by decide +kernel
theorem dX6_gatherSteps_95 : decode cX6_gatherSteps 95 = .ok (.return_, 1) := by decide +kernel
theorem dX6_isOneDay_0 : decode cX6_isOneDay 0 = .ok (.iconst 0, 1) := by decide +kernel
theorem dX6_isOneDay_1 : decode cX6_isOneDay 1 = .ok (.istore_n 2, 1) := by decide +kernel
theorem dX6_isOneDay_2 : decode cX6_isOneDay 2 = .ok (.iconst 0, 1) := by decide +kernel
theorem dX6_isOneDay_3 : decode cX6_isOneDay 3 = .ok (.istore_n 3, 1) := by decide +kernel
theorem dX6_isOneDay_4 : decode cX6_isOneDay 4 = .ok (.iload_n 3, 1) := by decide +kernel
theorem dX6_isOneDay_5 : decode cX6_isOneDay 5 = .ok (.aload_n 0, 1) := by decide +kernel
theorem dX6_isOneDay_6 : decode cX6_isOneDay 6 = .ok (.getfield 65, 3) := by decide +kernel
theorem dX6_isOneDay_9 : decode cX6_isOneDay 9 = .ok (.if_icmp .ge 52, 3) := by decide +kernel
theorem dX6_isOneDay_12 : decode cX6_isOneDay 12 = .ok (.iload_n 1, 1) := by decide +kernel
theorem dX6_isOneDay_13 : decode cX6_isOneDay 13 = .ok (.iload_n 3, 1) := by decide +kernel
theorem dX6_isOneDay_14 : decode cX6_isOneDay 14 = .ok (.ishr, 1) := by decide +kernel
theorem dX6_isOneDay_15 : decode cX6_isOneDay 15 = .ok (.iconst 1, 1) := by decide +kernel
theorem dX6_isOneDay_16 : decode cX6_isOneDay 16 = .ok (.iand, 1) := by decide +kernel
theorem dX6_isOneDay_17 : decode cX6_isOneDay 17 = .ok (.ifCond .eq 38, 3) := by decide +kernel
theorem dX6_isOneDay_20 : decode cX6_isOneDay 20 = .ok (.iconst 1, 1) := by decide +kernel
theorem dX6_isOneDay_21 : decode cX6_isOneDay 21 = .ok (.iload_n 3, 1) := by decide +kernel
theorem dX6_isOneDay_22 : decode cX6_isOneDay 22 = .ok (.ishl, 1) := by decide +kernel
theorem dX6_isOneDay_23 : decode cX6_isOneDay 23 = .ok (.iconst 1, 1) := by decide +kernel
theorem dX6_isOneDay_24 : decode cX6_isOneDay 24 = .ok (.aload_n 0, 1) := by decide +kernel
theorem dX6_isOneDay_25 : decode cX6_isOneDay 25 = .ok (.iload_n 3, 1) := by decide +kernel
theorem dX6_isOneDay_26 : decode cX6_isOneDay 26 = .ok (.invokevirtual 72, 3) := by decide +kernel
theorem dX6_isOneDay_29 : decode cX6_isOneDay 29 = .ok (.ishl, 1) := by decide +kernel
theorem dX6_isOneDay_30 : decode cX6_isOneDay 30 = .ok (.ior, 1) := by decide +kernel
theorem dX6_isOneDay_31 : decode cX6_isOneDay 31 = .ok (.istore 4, 2) := by decide +kernel
theorem dX6_isOneDay_33 : decode cX6_isOneDay 33 = .ok (.aload_n 0, 1) := by decide +kernel
theorem dX6_isOneDay_34 : decode cX6_isOneDay 34 = .ok (.iload_n 3, 1) := by decide +kernel
theorem dX6_isOneDay_35 : decode cX6_isOneDay 35 = .ok (.invokevirtual 76, 3) := by decide +kernel
theorem dX6_isOneDay_38 : decode cX6_isOneDay 38 = .ok (.ifCond .eq 10, 3) := by decide +kernel
theorem dX6_isOneDay_41 : decode cX6_isOneDay 41 = .ok (.iload_n 2, 1) := by decide +kernel
theorem dX6_isOneDay_42 : decode cX6_isOneDay 42 = .ok (.iload 4, 2) := by decide +kernel
theorem dX6_isOneDay_44 : decode cX6_isOneDay 44 = .ok (.iand, 1) := by decide +kernel
theorem dX6_isOneDay_45 : decode cX6_isOneDay 45 = .ok (.ifCond .eq 5, 3) := by decide +kernel
theorem dX6_isOneDay_48 : decode cX6_isOneDay 48 = .ok (.iconst 0, 1) := by decide +kernel
theorem dX6_isOneDay_49 : decode cX6_isOneDay 49 = .ok (.ireturn, 1) := by decide +kernel
theorem dX6_isOneDay_50 : decode cX6_isOneDay 50 = .ok (.iload_n 2, 1) := by decide +kernel
theorem dX6_isOneDay_51 : decode cX6_isOneDay 51 = .ok (.iload 4, 2) := by decide +kernel
theorem dX6_isOneDay_53 : decode cX6_isOneDay 53 = .ok (.ior, 1) := by decide +kernel
theorem dX6_isOneDay_54 : decode cX6_isOneDay 54 = .ok (.istore_n 2, 1) := by decide +kernel
theorem dX6_isOneDay_55 : decode cX6_isOneDay 55 = .ok (.iinc 3 1, 3) := by decide +kernel
theorem dX6_isOneDay_58 : decode cX6_isOneDay 58 = .ok (.goto (-54), 3) := by decide +kernel
theorem dX6_isOneDay_61 : decode cX6_isOneDay 61 = .ok (.iconst 1, 1) := by decide +kernel
theorem dX6_isOneDay_62 : decode cX6_isOneDay 62 = .ok (.ireturn, 1) := by decide +kernel
theorem dX6_goOnFrom_0 : decode cX6_goOnFrom 0 = .ok (.aload_n 0, 1) := by decide +kernel
theorem dX6_goOnFrom_1 : decode cX6_goOnFrom 1 = .ok (.getfield 29, 3) := by decide +kernel
theorem dX6_goOnFrom_4 : decode cX6_goOnFrom 4 = .ok (.iconst 0, 1) := by decide +kernel
theorem dX6_goOnFrom_5 : decode cX6_goOnFrom 5 = .ok (.iconst 0, 1) := by decide +kernel
theorem dX6_goOnFrom_6 : decode cX6_goOnFrom 6 = .ok (.iastore, 1) := by decide +kernel
theorem dX6_goOnFrom_7 : decode cX6_goOnFrom 7 = .ok (.iconst 0, 1) := by decide +kernel
theorem dX6_goOnFrom_8 : decode cX6_goOnFrom 8 = .ok (.istore_n 3, 1) := by decide +kernel
theorem dX6_goOnFrom_9 : decode cX6_goOnFrom 9 = .ok (.iload_n 3, 1) := by decide +kernel
theorem dX6_goOnFrom_10 : decode cX6_goOnFrom 10 = .ok (.aload_n 1, 1) := by decide +kernel
theorem dX6_goOnFrom_11 : decode cX6_goOnFrom 11 = .ok (.getfield 65, 3) := by decide +kernel
theorem dX6_goOnFrom_14 : decode cX6_goOnFrom 14 = .ok (.if_icmp .ge 27, 3) := by decide +kernel
theorem dX6_goOnFrom_17 : decode cX6_goOnFrom 17 = .ok (.aload_n 0, 1) := by decide +kernel
theorem dX6_goOnFrom_18 : decode cX6_goOnFrom 18 = .ok (.getfield 29, 3) := by decide +kernel
theorem dX6_goOnFrom_21 : decode cX6_goOnFrom 21 = .ok (.iconst 1, 1) := by decide +kernel
theorem dX6_goOnFrom_22 : decode cX6_goOnFrom 22 = .ok (.iload_n 3, 1) := by decide +kernel
theorem dX6_goOnFrom_23 : decode cX6_goOnFrom 23 = .ok (.ishl, 1) := by decide +kernel
theorem dX6_goOnFrom_24 : decode cX6_goOnFrom 24 = .ok (.iload_n 2, 1) := by decide +kernel
theorem dX6_goOnFrom_25 : decode cX6_goOnFrom 25 = .ok (.iload_n 3, 1) := by decide +kernel
theorem dX6_goOnFrom_26 : decode cX6_goOnFrom 26 = .ok (.aload_n 1, 1) := by decide +kernel
theorem dX6_goOnFrom_27 : decode cX6_goOnFrom 27 = .ok (.iload_n 3, 1) := by decide +kernel
theorem dX6_goOnFrom_28 : decode cX6_goOnFrom 28 = .ok (.invokevirtual 72, 3) := by decide +kernel
theorem dX6_goOnFrom_31 : decode cX6_goOnFrom 31 = .ok (.invokestatic 80, 3) := by decide +kernel
theorem dX6_goOnFrom_34 : decode cX6_goOnFrom 34 = .ok (.iastore, 1) := by decide +kernel
theorem dX6_goOnFrom_35 : decode cX6_goOnFrom 35 = .ok (.iinc 3 1, 3) := by decide +kernel
theorem dX6_goOnFrom_38 : decode cX6_goOnFrom 38 = .ok (.goto (-29), 3) := by decide +kernel
theorem dX6_goOnFrom_41 : decode cX6_goOnFrom 41 = .ok (.iconst 0, 1) := by decide +kernel
theorem dX6_goOnFrom_42 : decode cX6_goOnFrom 42 = .ok (.istore_n 3, 1) := by decide +kernel
theorem dX6_goOnFrom_43 : decode cX6_goOnFrom 43 = .ok (.iload_n 3, 1) := by decide +kernel
theorem dX6_goOnFrom_44 : decode cX6_goOnFrom 44 = .ok (.aload_n 0, 1) := by decide +kernel
theorem dX6_goOnFrom_45 : decode cX6_goOnFrom 45 = .ok (.getfield 26, 3) := by decide +kernel
theorem dX6_goOnFrom_48 : decode cX6_goOnFrom 48 = .ok (.if_icmp .ge 78, 3) := by decide +kernel
theorem dX6_goOnFrom_51 : decode cX6_goOnFrom 51 = .ok (.iload_n 3, 1) := by decide +kernel
theorem dX6_goOnFrom_52 : decode cX6_goOnFrom 52 = .ok (.aload_n 0, 1) := by decide +kernel
theorem dX6_goOnFrom_53 : decode cX6_goOnFrom 53 = .ok (.getfield 23, 3) := by decide +kernel
theorem dX6_goOnFrom_56 : decode cX6_goOnFrom 56 = .ok (.arraylength, 1) := by decide +kernel
theorem dX6_goOnFrom_57 : decode cX6_goOnFrom 57 = .ok (.if_icmp .ge 69, 3) := by decide +kernel
theorem dX6_goOnFrom_60 : decode cX6_goOnFrom 60 = .ok (.aload_n 0, 1) := by decide +kernel
theorem dX6_goOnFrom_61 : decode cX6_goOnFrom 61 = .ok (.getfield 23, 3) := by decide +kernel
theorem dX6_goOnFrom_64 : decode cX6_goOnFrom 64 = .ok (.iload_n 3, 1) := by decide +kernel
theorem dX6_goOnFrom_65 : decode cX6_goOnFrom 65 = .ok (.iaload, 1) := by decide +kernel
theorem dX6_goOnFrom_66 : decode cX6_goOnFrom 66 = .ok (.istore 4, 2) := by decide +kernel
theorem dX6_goOnFrom_68 : decode cX6_goOnFrom 68 = .ok (.iload 4, 2) := by decide +kernel
theorem dX6_goOnFrom_70 : decode cX6_goOnFrom 70 = .ok (.iload 4, 2) := by decide +kernel
theorem dX6_goOnFrom_72 : decode cX6_goOnFrom 72 = .ok (.iconst 1, 1) := by decide +kernel
theorem dX6_goOnFrom_73 : decode cX6_goOnFrom 73 = .ok (.isub, 1) := by decide +kernel
theorem dX6_goOnFrom_74 : decode cX6_goOnFrom 74 = .ok (.iand, 1) := by decide +kernel
theorem dX6_goOnFrom_75 : decode cX6_goOnFrom 75 = .ok (.istore 5, 2) := by decide +kernel
theorem dX6_goOnFrom_77 : decode cX6_goOnFrom 77 = .ok (.iload 5, 2) := by decide +kernel
theorem dX6_goOnFrom_79 : decode cX6_goOnFrom 79 = .ok (.ifCond .eq 28, 3) := by decide +kernel
theorem dX6_goOnFrom_82 : decode cX6_goOnFrom 82 = .ok (.aload_n 0, 1) := by decide +kernel
theorem dX6_goOnFrom_83 : decode cX6_goOnFrom 83 = .ok (.getfield 29, 3) := by decide +kernel
theorem dX6_goOnFrom_86 : decode cX6_goOnFrom 86 = .ok (.iload 4, 2) := by decide +kernel
theorem dX6_goOnFrom_88 : decode cX6_goOnFrom 88 = .ok (.aload_n 0, 1) := by decide +kernel
theorem dX6_goOnFrom_89 : decode cX6_goOnFrom 89 = .ok (.getfield 29, 3) := by decide +kernel
theorem dX6_goOnFrom_92 : decode cX6_goOnFrom 92 = .ok (.iload 5, 2) := by decide +kernel
theorem dX6_goOnFrom_94 : decode cX6_goOnFrom 94 = .ok (.iaload, 1) := by decide +kernel
theorem dX6_goOnFrom_95 : decode cX6_goOnFrom 95 = .ok (.aload_n 0, 1) := by decide +kernel
theorem dX6_goOnFrom_96 : decode cX6_goOnFrom 96 = .ok (.getfield 29, 3) := by decide +kernel
theorem dX6_goOnFrom_99 : decode cX6_goOnFrom 99 = .ok (.iload 4, 2) := by decide +kernel
theorem dX6_goOnFrom_101 : decode cX6_goOnFrom 101 = .ok (.iload 5, 2) := by decide +kernel
theorem dX6_goOnFrom_103 : decode cX6_goOnFrom 103 = .ok (.ixor, 1) := by decide +kernel
theorem dX6_goOnFrom_104 : decode cX6_goOnFrom 104 = .ok (.iaload, 1) := by decide +kernel
theorem dX6_goOnFrom_105 : decode cX6_goOnFrom 105 = .ok (.ixor, 1) := by decide +kernel
theorem dX6_goOnFrom_106 : decode cX6_goOnFrom 106 = .ok (.iastore, 1) := by decide +kernel
theorem dX6_goOnFrom_107 : decode cX6_goOnFrom 107 = .ok (.aload_n 0, 1) := by decide +kernel
theorem dX6_goOnFrom_108 : decode cX6_goOnFrom 108 = .ok (.iload_n 2, 1) := by decide +kernel
theorem dX6_goOnFrom_109 : decode cX6_goOnFrom 109 = .ok (.aload_n 0, 1) := by decide +kernel
theorem dX6_goOnFrom_110 : decode cX6_goOnFrom 110 = .ok (.getfield 29, 3) := by decide +kernel
theorem dX6_goOnFrom_113 : decode cX6_goOnFrom 113 = .ok (.iload 4, 2) := by decide +kernel
theorem dX6_goOnFrom_115 : decode cX6_goOnFrom 115 = .ok (.iaload, 1) := by decide +kernel
theorem dX6_goOnFrom_116 : decode cX6_goOnFrom 116 = .ok (.ixor, 1) := by decide +kernel
theorem dX6_goOnFrom_117 : decode cX6_goOnFrom 117 = .ok (.invokevirtual 57, 3) := by decide +kernel
theorem dX6_goOnFrom_120 : decode cX6_goOnFrom 120 = .ok (.iinc 3 1, 3) := by decide +kernel
theorem dX6_goOnFrom_123 : decode cX6_goOnFrom 123 = .ok (.goto (-80), 3) := by decide +kernel
theorem dX6_goOnFrom_126 : decode cX6_goOnFrom 126 = .ok (.return_, 1) := by decide +kernel
theorem dX6_turnedBy_0 : decode cX6_turnedBy 0 = .ok (.iload_n 0, 1) := by decide +kernel
theorem dX6_turnedBy_1 : decode cX6_turnedBy 1 = .ok (.iconst 2, 1) := by decide +kernel
theorem dX6_turnedBy_2 : decode cX6_turnedBy 2 = .ok (.iload_n 1, 1) := by decide +kernel
theorem dX6_turnedBy_3 : decode cX6_turnedBy 3 = .ok (.imul, 1) := by decide +kernel
theorem dX6_turnedBy_4 : decode cX6_turnedBy 4 = .ok (.ishr, 1) := by decide +kernel
theorem dX6_turnedBy_5 : decode cX6_turnedBy 5 = .ok (.iload_n 0, 1) := by decide +kernel
theorem dX6_turnedBy_6 : decode cX6_turnedBy 6 = .ok (.iconst 2, 1) := by decide +kernel
theorem dX6_turnedBy_7 : decode cX6_turnedBy 7 = .ok (.iload_n 2, 1) := by decide +kernel
theorem dX6_turnedBy_8 : decode cX6_turnedBy 8 = .ok (.imul, 1) := by decide +kernel
theorem dX6_turnedBy_9 : decode cX6_turnedBy 9 = .ok (.ishr, 1) := by decide +kernel
theorem dX6_turnedBy_10 : decode cX6_turnedBy 10 = .ok (.ixor, 1) := by decide +kernel
theorem dX6_turnedBy_11 : decode cX6_turnedBy 11 = .ok (.iconst 3, 1) := by decide +kernel
theorem dX6_turnedBy_12 : decode cX6_turnedBy 12 = .ok (.iand, 1) := by decide +kernel
theorem dX6_turnedBy_13 : decode cX6_turnedBy 13 = .ok (.istore_n 3, 1) := by decide +kernel
theorem dX6_turnedBy_14 : decode cX6_turnedBy 14 = .ok (.iload_n 3, 1) := by decide +kernel
theorem dX6_turnedBy_15 : decode cX6_turnedBy 15 = .ok (.iconst 2, 1) := by decide +kernel
theorem dX6_turnedBy_16 : decode cX6_turnedBy 16 = .ok (.iload_n 1, 1) := by decide +kernel
theorem dX6_turnedBy_17 : decode cX6_turnedBy 17 = .ok (.imul, 1) := by decide +kernel
theorem dX6_turnedBy_18 : decode cX6_turnedBy 18 = .ok (.ishl, 1) := by decide +kernel
theorem dX6_turnedBy_19 : decode cX6_turnedBy 19 = .ok (.iload_n 3, 1) := by decide +kernel
theorem dX6_turnedBy_20 : decode cX6_turnedBy 20 = .ok (.iconst 2, 1) := by decide +kernel
theorem dX6_turnedBy_21 : decode cX6_turnedBy 21 = .ok (.iload_n 2, 1) := by decide +kernel
theorem dX6_turnedBy_22 : decode cX6_turnedBy 22 = .ok (.imul, 1) := by decide +kernel
theorem dX6_turnedBy_23 : decode cX6_turnedBy 23 = .ok (.ishl, 1) := by decide +kernel
theorem dX6_turnedBy_24 : decode cX6_turnedBy 24 = .ok (.ior, 1) := by decide +kernel
theorem dX6_turnedBy_25 : decode cX6_turnedBy 25 = .ok (.ireturn, 1) := by decide +kernel
theorem dX6_meet_0 : decode cX6_meet 0 = .ok (.iload_n 1, 1) := by decide +kernel
theorem dX6_meet_1 : decode cX6_meet 1 = .ok (.bipush 64, 2) := by decide +kernel
theorem dX6_meet_3 : decode cX6_meet 3 = .ok (.idiv, 1) := by decide +kernel
theorem dX6_meet_4 : decode cX6_meet 4 = .ok (.istore_n 2, 1) := by decide +kernel
theorem dX6_meet_5 : decode cX6_meet 5 = .ok (.iload_n 1, 1) := by decide +kernel
theorem dX6_meet_6 : decode cX6_meet 6 = .ok (.ifCond .lt 24, 3) := by decide +kernel
theorem dX6_meet_9 : decode cX6_meet 9 = .ok (.iload_n 2, 1) := by decide +kernel
theorem dX6_meet_10 : decode cX6_meet 10 = .ok (.aload_n 0, 1) := by decide +kernel
theorem dX6_meet_11 : decode cX6_meet 11 = .ok (.getfield 11, 3) := by decide +kernel
theorem dX6_meet_14 : decode cX6_meet 14 = .ok (.arraylength, 1) := by decide +kernel
theorem dX6_meet_15 : decode cX6_meet 15 = .ok (.if_icmp .ge 15, 3) := by decide +kernel
theorem dX6_meet_18 : decode cX6_meet 18 = .ok (.aload_n 0, 1) := by decide +kernel
theorem dX6_meet_19 : decode cX6_meet 19 = .ok (.getfield 19, 3) := by decide +kernel
theorem dX6_meet_22 : decode cX6_meet 22 = .ok (.aload_n 0, 1) := by decide +kernel
theorem dX6_meet_23 : decode cX6_meet 23 = .ok (.getfield 15, 3) := by decide +kernel
theorem dX6_meet_26 : decode cX6_meet 26 = .ok (.arraylength, 1) := by decide +kernel
theorem dX6_meet_27 : decode cX6_meet 27 = .ok (.if_icmp .lt 4, 3) := by decide +kernel
theorem dX6_meet_30 : decode cX6_meet 30 = .ok (.return_, 1) := by decide +kernel
theorem dX6_meet_31 : decode cX6_meet 31 = .ok (.lconst 1, 1) := by decide +kernel
theorem dX6_meet_32 : decode cX6_meet 32 = .ok (.iload_n 1, 1) := by decide +kernel
theorem dX6_meet_33 : decode cX6_meet 33 = .ok (.bipush 64, 2) := by decide +kernel
theorem dX6_meet_35 : decode cX6_meet 35 = .ok (.irem, 1) := by decide +kernel
theorem dX6_meet_36 : decode cX6_meet 36 = .ok (.lshl, 1) := by decide +kernel
theorem dX6_meet_37 : decode cX6_meet 37 = .ok (.lstore_n 3, 1) := by decide +kernel
theorem dX6_meet_38 : decode cX6_meet 38 = .ok (.aload_n 0, 1) := by decide +kernel
theorem dX6_meet_39 : decode cX6_meet 39 = .ok (.getfield 11, 3) := by decide +kernel
theorem dX6_meet_42 : decode cX6_meet 42 = .ok (.iload_n 2, 1) := by decide +kernel
theorem dX6_meet_43 : decode cX6_meet 43 = .ok (.laload, 1) := by decide +kernel
theorem dX6_meet_44 : decode cX6_meet 44 = .ok (.lload_n 3, 1) := by decide +kernel
theorem dX6_meet_45 : decode cX6_meet 45 = .ok (.land, 1) := by decide +kernel
theorem dX6_meet_46 : decode cX6_meet 46 = .ok (.lconst 0, 1) := by decide +kernel
theorem dX6_meet_47 : decode cX6_meet 47 = .ok (.lcmp, 1) := by decide +kernel
theorem dX6_meet_48 : decode cX6_meet 48 = .ok (.ifCond .ne 33, 3) := by decide +kernel
theorem dX6_meet_51 : decode cX6_meet 51 = .ok (.aload_n 0, 1) := by decide +kernel
theorem dX6_meet_52 : decode cX6_meet 52 = .ok (.getfield 11, 3) := by decide +kernel
theorem dX6_meet_55 : decode cX6_meet 55 = .ok (.iload_n 2, 1) := by decide +kernel
theorem dX6_meet_56 : decode cX6_meet 56 = .ok (.dup2, 1) := by decide +kernel
theorem dX6_meet_57 : decode cX6_meet 57 = .ok (.laload, 1) := by decide +kernel
theorem dX6_meet_58 : decode cX6_meet 58 = .ok (.lload_n 3, 1) := by decide +kernel
theorem dX6_meet_59 : decode cX6_meet 59 = .ok (.lor, 1) := by decide +kernel
theorem dX6_meet_60 : decode cX6_meet 60 = .ok (.lastore, 1) := by decide +kernel
theorem dX6_meet_61 : decode cX6_meet 61 = .ok (.aload_n 0, 1) := by decide +kernel
theorem dX6_meet_62 : decode cX6_meet 62 = .ok (.getfield 15, 3) := by decide +kernel
theorem dX6_meet_65 : decode cX6_meet 65 = .ok (.aload_n 0, 1) := by decide +kernel
theorem dX6_meet_66 : decode cX6_meet 66 = .ok (.getfield 19, 3) := by decide +kernel
theorem dX6_meet_69 : decode cX6_meet 69 = .ok (.iload_n 1, 1) := by decide +kernel
theorem dX6_meet_70 : decode cX6_meet 70 = .ok (.iastore, 1) := by decide +kernel
theorem dX6_meet_71 : decode cX6_meet 71 = .ok (.aload_n 0, 1) := by decide +kernel
theorem dX6_meet_72 : decode cX6_meet 72 = .ok (.dup, 1) := by decide +kernel
theorem dX6_meet_73 : decode cX6_meet 73 = .ok (.getfield 19, 3) := by decide +kernel
theorem dX6_meet_76 : decode cX6_meet 76 = .ok (.iconst 1, 1) := by decide +kernel
theorem dX6_meet_77 : decode cX6_meet 77 = .ok (.iadd, 1) := by decide +kernel
theorem dX6_meet_78 : decode cX6_meet 78 = .ok (.putfield 19, 3) := by decide +kernel
theorem dX6_meet_81 : decode cX6_meet 81 = .ok (.return_, 1) := by decide +kernel
theorem dX6_mustGoOver_0 : decode cX6_mustGoOver 0 = .ok (.iconst 0, 1) := by decide +kernel
theorem dX6_mustGoOver_1 : decode cX6_mustGoOver 1 = .ok (.istore_n 3, 1) := by decide +kernel
theorem dX6_mustGoOver_2 : decode cX6_mustGoOver 2 = .ok (.iconst 0, 1) := by decide +kernel
theorem dX6_mustGoOver_3 : decode cX6_mustGoOver 3 = .ok (.istore 4, 2) := by decide +kernel
theorem dX6_mustGoOver_5 : decode cX6_mustGoOver 5 = .ok (.iload 4, 2) := by decide +kernel
theorem dX6_mustGoOver_7 : decode cX6_mustGoOver 7 = .ok (.iconst 4, 1) := by decide +kernel
theorem dX6_mustGoOver_8 : decode cX6_mustGoOver 8 = .ok (.if_icmp .ge 89, 3) := by decide +kernel
theorem dX6_mustGoOver_11 : decode cX6_mustGoOver 11 = .ok (.iconst 0, 1) := by decide +kernel
theorem dX6_mustGoOver_12 : decode cX6_mustGoOver 12 = .ok (.istore 5, 2) := by decide +kernel
theorem dX6_mustGoOver_14 : decode cX6_mustGoOver 14 = .ok (.iconst 0, 1) := by decide +kernel
theorem dX6_mustGoOver_15 : decode cX6_mustGoOver 15 = .ok (.istore 6, 2) := by decide +kernel
theorem dX6_mustGoOver_17 : decode cX6_mustGoOver 17 = .ok (.iload 6, 2) := by decide +kernel
theorem dX6_mustGoOver_19 : decode cX6_mustGoOver 19 = .ok (.iload_n 2, 1) := by decide +kernel
theorem dX6_mustGoOver_20 : decode cX6_mustGoOver 20 = .ok (.if_icmp .gt 62, 3) := by decide +kernel
theorem dX6_mustGoOver_23 : decode cX6_mustGoOver 23 = .ok (.iload 6, 2) := by decide +kernel
theorem dX6_mustGoOver_25 : decode cX6_mustGoOver 25 = .ok (.aload_n 1, 1) := by decide +kernel
theorem dX6_mustGoOver_26 : decode cX6_mustGoOver 26 = .ok (.getfield 37, 3) := by decide +kernel
theorem dX6_mustGoOver_29 : decode cX6_mustGoOver 29 = .ok (.if_icmp .ge 53, 3) := by decide +kernel
theorem dX6_mustGoOver_32 : decode cX6_mustGoOver 32 = .ok (.iload 5, 2) := by decide +kernel
theorem dX6_mustGoOver_34 : decode cX6_mustGoOver 34 = .ok (.aload_n 1, 1) := by decide +kernel
theorem dX6_mustGoOver_35 : decode cX6_mustGoOver 35 = .ok (.getfield 54, 3) := by decide +kernel
theorem dX6_mustGoOver_38 : decode cX6_mustGoOver 38 = .ok (.iload 6, 2) := by decide +kernel
theorem dX6_mustGoOver_40 : decode cX6_mustGoOver 40 = .ok (.iaload, 1) := by decide +kernel
theorem dX6_mustGoOver_41 : decode cX6_mustGoOver 41 = .ok (.iload 4, 2) := by decide +kernel
theorem dX6_mustGoOver_43 : decode cX6_mustGoOver 43 = .ok (.if_icmp .ne 7, 3) := by decide +kernel
theorem dX6_mustGoOver_46 : decode cX6_mustGoOver 46 = .ok (.iconst 1, 1) := by decide +kernel
theorem dX6_mustGoOver_47 : decode cX6_mustGoOver 47 = .ok (.goto 4, 3) := by decide +kernel
theorem dX6_mustGoOver_50 : decode cX6_mustGoOver 50 = .ok (.iconst 0, 1) := by decide +kernel
theorem dX6_mustGoOver_51 : decode cX6_mustGoOver 51 = .ok (.iadd, 1) := by decide +kernel
theorem dX6_mustGoOver_52 : decode cX6_mustGoOver 52 = .ok (.istore 5, 2) := by decide +kernel
theorem dX6_mustGoOver_54 : decode cX6_mustGoOver 54 = .ok (.iload 5, 2) := by decide +kernel
theorem dX6_mustGoOver_56 : decode cX6_mustGoOver 56 = .ok (.aload_n 1, 1) := by decide +kernel
theorem dX6_mustGoOver_57 : decode cX6_mustGoOver 57 = .ok (.getfield 32, 3) := by decide +kernel
theorem dX6_mustGoOver_60 : decode cX6_mustGoOver 60 = .ok (.iload 6, 2) := by decide +kernel
theorem dX6_mustGoOver_62 : decode cX6_mustGoOver 62 = .ok (.iaload, 1) := by decide +kernel
theorem dX6_mustGoOver_63 : decode cX6_mustGoOver 63 = .ok (.iload 4, 2) := by decide +kernel
theorem dX6_mustGoOver_65 : decode cX6_mustGoOver 65 = .ok (.if_icmp .ne 7, 3) := by decide +kernel
theorem dX6_mustGoOver_68 : decode cX6_mustGoOver 68 = .ok (.iconst 1, 1) := by decide +kernel
theorem dX6_mustGoOver_69 : decode cX6_mustGoOver 69 = .ok (.goto 4, 3) := by decide +kernel
theorem dX6_mustGoOver_72 : decode cX6_mustGoOver 72 = .ok (.iconst 0, 1) := by decide +kernel
theorem dX6_mustGoOver_73 : decode cX6_mustGoOver 73 = .ok (.isub, 1) := by decide +kernel
theorem dX6_mustGoOver_74 : decode cX6_mustGoOver 74 = .ok (.istore 5, 2) := by decide +kernel
theorem dX6_mustGoOver_76 : decode cX6_mustGoOver 76 = .ok (.iinc 6 1, 3) := by decide +kernel
theorem dX6_mustGoOver_79 : decode cX6_mustGoOver 79 = .ok (.goto (-62), 3) := by decide +kernel
theorem dX6_mustGoOver_82 : decode cX6_mustGoOver 82 = .ok (.iload_n 3, 1) := by decide +kernel
theorem dX6_mustGoOver_83 : decode cX6_mustGoOver 83 = .ok (.iload 5, 2) := by decide +kernel
theorem dX6_mustGoOver_85 : decode cX6_mustGoOver 85 = .ok (.iconst 0, 1) := by decide +kernel
theorem dX6_mustGoOver_86 : decode cX6_mustGoOver 86 = .ok (.invokestatic 84, 3) := by decide +kernel
theorem dX6_mustGoOver_89 : decode cX6_mustGoOver 89 = .ok (.iadd, 1) := by decide +kernel
theorem dX6_mustGoOver_90 : decode cX6_mustGoOver 90 = .ok (.istore_n 3, 1) := by decide +kernel
theorem dX6_mustGoOver_91 : decode cX6_mustGoOver 91 = .ok (.iinc 4 1, 3) := by decide +kernel
theorem dX6_mustGoOver_94 : decode cX6_mustGoOver 94 = .ok (.goto (-89), 3) := by decide +kernel
theorem dX6_mustGoOver_97 : decode cX6_mustGoOver 97 = .ok (.iload_n 3, 1) := by decide +kernel
theorem dX6_mustGoOver_98 : decode cX6_mustGoOver 98 = .ok (.ireturn, 1) := by decide +kernel
theorem dX7_init_0 : decode cX7_init 0 = .ok (.aload_n 0, 1) := by decide +kernel
theorem dX7_init_1 : decode cX7_init 1 = .ok (.invokespecial 5, 3) := by decide +kernel
theorem dX7_init_4 : decode cX7_init 4 = .ok (.aload_n 0, 1) := by decide +kernel
theorem dX7_init_5 : decode cX7_init 5 = .ok (.iconst 4, 1) := by decide +kernel
theorem dX7_init_6 : decode cX7_init 6 = .ok (.anewarray 11, 3) := by decide +kernel
theorem dX7_init_9 : decode cX7_init 9 = .ok (.putfield 13, 3) := by decide +kernel
theorem dX7_init_12 : decode cX7_init 12 = .ok (.aload_n 0, 1) := by decide +kernel
theorem dX7_init_13 : decode cX7_init 13 = .ok (.new 17, 3) := by decide +kernel
theorem dX7_init_16 : decode cX7_init 16 = .ok (.dup, 1) := by decide +kernel
theorem dX7_init_17 : decode cX7_init 17 = .ok (.invokespecial 19, 3) := by decide +kernel
theorem dX7_init_20 : decode cX7_init 20 = .ok (.putfield 20, 3) := by decide +kernel
theorem dX7_init_23 : decode cX7_init 23 = .ok (.aload_n 0, 1) := by decide +kernel
theorem dX7_init_24 : decode cX7_init 24 = .ok (.new 24, 3) := by decide +kernel
theorem dX7_init_27 : decode cX7_init 27 = .ok (.dup, 1) := by decide +kernel
theorem dX7_init_28 : decode cX7_init 28 = .ok (.invokespecial 26, 3) := by decide +kernel
theorem dX7_init_31 : decode cX7_init 31 = .ok (.putfield 27, 3) := by decide +kernel
theorem dX7_init_34 : decode cX7_init 34 = .ok (.aload_n 0, 1) := by decide +kernel
theorem dX7_init_35 : decode cX7_init 35 = .ok (.new 31, 3) := by decide +kernel
theorem dX7_init_38 : decode cX7_init 38 = .ok (.dup, 1) := by decide +kernel
theorem dX7_init_39 : decode cX7_init 39 = .ok (.invokespecial 33, 3) := by decide +kernel
theorem dX7_init_42 : decode cX7_init 42 = .ok (.putfield 34, 3) := by decide +kernel
theorem dX7_init_45 : decode cX7_init 45 = .ok (.aload_n 0, 1) := by decide +kernel
theorem dX7_init_46 : decode cX7_init 46 = .ok (.new 38, 3) := by decide +kernel
theorem dX7_init_49 : decode cX7_init 49 = .ok (.dup, 1) := by decide +kernel
theorem dX7_init_50 : decode cX7_init 50 = .ok (.invokespecial 40, 3) := by decide +kernel
theorem dX7_init_53 : decode cX7_init 53 = .ok (.putfield 41, 3) := by decide +kernel
theorem dX7_init_56 : decode cX7_init 56 = .ok (.aload_n 0, 1) := by decide +kernel
theorem dX7_init_57 : decode cX7_init 57 = .ok (.new 45, 3) := by decide +kernel
theorem dX7_init_60 : decode cX7_init 60 = .ok (.dup, 1) := by decide +kernel
theorem dX7_init_61 : decode cX7_init 61 = .ok (.invokespecial 47, 3) := by decide +kernel
theorem dX7_init_64 : decode cX7_init 64 = .ok (.putfield 48, 3) := by decide +kernel
theorem dX7_init_67 : decode cX7_init 67 = .ok (.aload_n 0, 1) := by decide +kernel
theorem dX7_init_68 : decode cX7_init 68 = .ok (.new 52, 3) := by decide +kernel
theorem dX7_init_71 : decode cX7_init 71 = .ok (.dup, 1) := by decide +kernel
theorem dX7_init_72 : decode cX7_init 72 = .ok (.invokespecial 54, 3) := by decide +kernel
theorem dX7_init_75 : decode cX7_init 75 = .ok (.putfield 55, 3) := by decide +kernel
theorem dX7_init_78 : decode cX7_init 78 = .ok (.aload_n 0, 1) := by decide +kernel
theorem dX7_init_79 : decode cX7_init 79 = .ok (.iconst 0, 1) := by decide +kernel
theorem dX7_init_80 : decode cX7_init 80 = .ok (.putfield 59, 3) := by decide +kernel
theorem dX7_init_83 : decode cX7_init 83 = .ok (.aload_n 0, 1) := by decide +kernel
theorem dX7_init_84 : decode cX7_init 84 = .ok (.iconst 0, 1) := by decide +kernel
theorem dX7_init_85 : decode cX7_init 85 = .ok (.putfield 63, 3) := by decide +kernel
theorem dX7_init_88 : decode cX7_init 88 = .ok (.iconst 0, 1) := by decide +kernel
theorem dX7_init_89 : decode cX7_init 89 = .ok (.istore_n 1, 1) := by decide +kernel
theorem dX7_init_90 : decode cX7_init 90 = .ok (.iload_n 1, 1) := by decide +kernel
theorem dX7_init_91 : decode cX7_init 91 = .ok (.aload_n 0, 1) := by decide +kernel
theorem dX7_init_92 : decode cX7_init 92 = .ok (.getfield 13, 3) := by decide +kernel
theorem dX7_init_95 : decode cX7_init 95 = .ok (.arraylength, 1) := by decide +kernel
theorem dX7_init_96 : decode cX7_init 96 = .ok (.if_icmp .ge 22, 3) := by decide +kernel
theorem dX7_init_99 : decode cX7_init 99 = .ok (.aload_n 0, 1) := by decide +kernel
theorem dX7_init_100 : decode cX7_init 100 = .ok (.getfield 13, 3) := by decide +kernel
theorem dX7_init_103 : decode cX7_init 103 = .ok (.iload_n 1, 1) := by decide +kernel
theorem dX7_init_104 : decode cX7_init 104 = .ok (.new 11, 3) := by decide +kernel
theorem dX7_init_107 : decode cX7_init 107 = .ok (.dup, 1) := by decide +kernel
theorem dX7_init_108 : decode cX7_init 108 = .ok (.invokespecial 66, 3) := by decide +kernel
theorem dX7_init_111 : decode cX7_init 111 = .ok (.aastore, 1) := by decide +kernel
theorem dX7_init_112 : decode cX7_init 112 = .ok (.iinc 1 1, 3) := by decide +kernel
theorem dX7_init_115 : decode cX7_init 115 = .ok (.goto (-25), 3) := by decide +kernel
theorem dX7_init_118 : decode cX7_init 118 = .ok (.return_, 1) := by decide +kernel
theorem dX7_wire_0 : decode cX7_wire 0 = .ok (.aload_n 0, 1) := by decide +kernel
theorem dX7_wire_1 : decode cX7_wire 1 = .ok (.iconst 0, 1) := by decide +kernel
theorem dX7_wire_2 : decode cX7_wire 2 = .ok (.putfield 63, 3) := by decide +kernel
theorem dX7_wire_5 : decode cX7_wire 5 = .ok (.iload_n 1, 1) := by decide +kernel
theorem dX7_wire_6 : decode cX7_wire 6 = .ok (.invokestatic 67, 3) := by decide +kernel
theorem dX7_wire_9 : decode cX7_wire 9 = .ok (.ifCond .ne 5, 3) := by decide +kernel
theorem dX7_wire_12 : decode cX7_wire 12 = .ok (.iconst (-1), 1) := by decide +kernel
theorem dX7_wire_13 : decode cX7_wire 13 = .ok (.ireturn, 1) := by decide +kernel
theorem dX7_wire_14 : decode cX7_wire 14 = .ok (.iload_n 2, 1) := by decide +kernel
theorem dX7_wire_15 : decode cX7_wire 15 = .ok (.invokestatic 71, 3) := by decide +kernel
theorem dX7_wire_18 : decode cX7_wire 18 = .ok (.ifCond .ne 6, 3) := by decide +kernel
theorem dX7_wire_21 : decode cX7_wire 21 = .ok (.bipush (-2), 2) := by decide +kernel
theorem dX7_wire_23 : decode cX7_wire 23 = .ok (.ireturn, 1) := by decide +kernel
theorem dX7_wire_24 : decode cX7_wire 24 = .ok (.aload_n 0, 1) := by decide +kernel
theorem dX7_wire_25 : decode cX7_wire 25 = .ok (.getfield 13, 3) := by decide +kernel
theorem dX7_wire_28 : decode cX7_wire 28 = .ok (.iload_n 1, 1) := by decide +kernel
theorem dX7_wire_29 : decode cX7_wire 29 = .ok (.aaload, 1) := by decide +kernel
theorem dX7_wire_30 : decode cX7_wire 30 = .ok (.astore 5, 2) := by decide +kernel
theorem dX7_wire_32 : decode cX7_wire 32 = .ok (.aload 5, 2) := by decide +kernel
theorem dX7_wire_34 : decode cX7_wire 34 = .ok (.iload_n 2, 1) := by decide +kernel
theorem dX7_wire_35 : decode cX7_wire 35 = .ok (.iload_n 3, 1) := by decide +kernel
theorem dX7_wire_36 : decode cX7_wire 36 = .ok (.iload 4, 2) := by decide +kernel
theorem dX7_wire_38 : decode cX7_wire 38 = .ok (.invokevirtual 74, 3) := by decide +kernel
theorem dX7_wire_41 : decode cX7_wire 41 = .ok (.istore 6, 2) := by decide +kernel
theorem dX7_wire_43 : decode cX7_wire 43 = .ok (.iload 6, 2) := by decide +kernel
theorem dX7_wire_45 : decode cX7_wire 45 = .ok (.ifCond .eq 10, 3) := by decide +kernel
theorem dX7_wire_48 : decode cX7_wire 48 = .ok (.aload_n 0, 1) := by decide +kernel
theorem dX7_wire_49 : decode cX7_wire 49 = .ok (.iload 6, 2) := by decide +kernel
theorem dX7_wire_51 : decode cX7_wire 51 = .ok (.invokevirtual 78, 3) := by decide +kernel
theorem dX7_wire_54 : decode cX7_wire 54 = .ok (.ireturn, 1) := by decide +kernel
theorem dX7_wire_55 : decode cX7_wire 55 = .ok (.aload 5, 2) := by decide +kernel
theorem dX7_wire_57 : decode cX7_wire 57 = .ok (.iload_n 3, 1) := by decide +kernel
theorem dX7_wire_58 : decode cX7_wire 58 = .ok (.iload 4, 2) := by decide +kernel
theorem dX7_wire_60 : decode cX7_wire 60 = .ok (.invokestatic 82, 3) := by decide +kernel
theorem dX7_wire_63 : decode cX7_wire 63 = .ok (.istore 7, 2) := by decide +kernel
theorem dX7_wire_65 : decode cX7_wire 65 = .ok (.iload 7, 2) := by decide +kernel
theorem dX7_wire_67 : decode cX7_wire 67 = .ok (.bipush (-9), 2) := by decide +kernel
theorem dX7_wire_69 : decode cX7_wire 69 = .ok (.if_icmp .eq 9, 3) := by decide +kernel
theorem dX7_wire_72 : decode cX7_wire 72 = .ok (.bipush (-100), 2) := by decide +kernel
theorem dX7_wire_74 : decode cX7_wire 74 = .ok (.iload 7, 2) := by decide +kernel
theorem dX7_wire_76 : decode cX7_wire 76 = .ok (.isub, 1) := by decide +kernel
theorem dX7_wire_77 : decode cX7_wire 77 = .ok (.ireturn, 1) := by decide +kernel
theorem dX7_wire_78 : decode cX7_wire 78 = .ok (.aload_n 0, 1) := by decide +kernel
theorem dX7_wire_79 : decode cX7_wire 79 = .ok (.getfield 20, 3) := by decide +kernel
theorem dX7_wire_82 : decode cX7_wire 82 = .ok (.aload 5, 2) := by decide +kernel
theorem dX7_wire_84 : decode cX7_wire 84 = .ok (.iload_n 3, 1) := by decide +kernel
theorem dX7_wire_85 : decode cX7_wire 85 = .ok (.iload 4, 2) := by decide +kernel
theorem dX7_wire_87 : decode cX7_wire 87 = .ok (.invokevirtual 86, 3) := by decide +kernel
theorem dX7_wire_90 : decode cX7_wire 90 = .ok (.aload_n 0, 1) := by decide +kernel
theorem dX7_wire_91 : decode cX7_wire 91 = .ok (.getfield 55, 3) := by decide +kernel
theorem dX7_wire_94 : decode cX7_wire 94 = .ok (.iconst 0, 1) := by decide +kernel
theorem dX7_wire_95 : decode cX7_wire 95 = .ok (.putfield 90, 3) := by decide +kernel
theorem dX7_wire_98 : decode cX7_wire 98 = .ok (.aload_n 0, 1) := by decide +kernel
theorem dX7_wire_99 : decode cX7_wire 99 = .ok (.getfield 20, 3) := by decide +kernel
theorem dX7_wire_102 : decode cX7_wire 102 = .ok (.getfield 93, 3) := by decide +kernel
theorem dX7_wire_105 : decode cX7_wire 105 = .ok (.ireturn, 1) := by decide +kernel
theorem dX7_ofPerson_0 : decode cX7_ofPerson 0 = .ok (.aload_n 0, 1) := by decide +kernel
theorem dX7_ofPerson_1 : decode cX7_ofPerson 1 = .ok (.getfield 20, 3) := by decide +kernel
theorem dX7_ofPerson_4 : decode cX7_ofPerson 4 = .ok (.iload_n 1, 1) := by decide +kernel
theorem dX7_ofPerson_5 : decode cX7_ofPerson 5 = .ok (.invokevirtual 96, 3) := by decide +kernel
theorem dX7_ofPerson_8 : decode cX7_ofPerson 8 = .ok (.ifCond .ne 5, 3) := by decide +kernel
theorem dX7_ofPerson_11 : decode cX7_ofPerson 11 = .ok (.iconst (-1), 1) := by decide +kernel
theorem dX7_ofPerson_12 : decode cX7_ofPerson 12 = .ok (.ireturn, 1) := by decide +kernel
theorem dX7_ofPerson_13 : decode cX7_ofPerson 13 = .ok (.iload_n 2, 1) := by decide +kernel
theorem dX7_ofPerson_14 : decode cX7_ofPerson 14 = .ok (.tableswitch 70 0 3 #[30, 40, 50, 60], 30) := by decide +kernel
theorem dX7_ofPerson_44 : decode cX7_ofPerson 44 = .ok (.aload_n 0, 1) := by decide +kernel
theorem dX7_ofPerson_45 : decode cX7_ofPerson 45 = .ok (.getfield 20, 3) := by decide +kernel
theorem dX7_ofPerson_48 : decode cX7_ofPerson 48 = .ok (.getfield 99, 3) := by decide +kernel
theorem dX7_ofPerson_51 : decode cX7_ofPerson 51 = .ok (.iload_n 1, 1) := by decide +kernel
theorem dX7_ofPerson_52 : decode cX7_ofPerson 52 = .ok (.iaload, 1) := by decide +kernel
theorem dX7_ofPerson_53 : decode cX7_ofPerson 53 = .ok (.ireturn, 1) := by decide +kernel
theorem dX7_ofPerson_54 : decode cX7_ofPerson 54 = .ok (.aload_n 0, 1) := by decide +kernel
theorem dX7_ofPerson_55 : decode cX7_ofPerson 55 = .ok (.getfield 20, 3) := by decide +kernel
theorem dX7_ofPerson_58 : decode cX7_ofPerson 58 = .ok (.getfield 103, 3) := by decide +kernel
theorem dX7_ofPerson_61 : decode cX7_ofPerson 61 = .ok (.iload_n 1, 1) := by decide +kernel
theorem dX7_ofPerson_62 : decode cX7_ofPerson 62 = .ok (.iaload, 1) := by decide +kernel
theorem dX7_ofPerson_63 : decode cX7_ofPerson 63 = .ok (.ireturn, 1) := by decide +kernel
theorem dX7_ofPerson_64 : decode cX7_ofPerson 64 = .ok (.aload_n 0, 1) := by decide +kernel
theorem dX7_ofPerson_65 : decode cX7_ofPerson 65 = .ok (.getfield 20, 3) := by decide +kernel
theorem dX7_ofPerson_68 : decode cX7_ofPerson 68 = .ok (.getfield 106, 3) := by decide +kernel
theorem dX7_ofPerson_71 : decode cX7_ofPerson 71 = .ok (.iload_n 1, 1) := by decide +kernel
theorem dX7_ofPerson_72 : decode cX7_ofPerson 72 = .ok (.iaload, 1) := by decide +kernel
theorem dX7_ofPerson_73 : decode cX7_ofPerson 73 = .ok (.ireturn, 1) := by decide +kernel
theorem dX7_ofPerson_74 : decode cX7_ofPerson 74 = .ok (.aload_n 0, 1) := by decide +kernel
theorem dX7_ofPerson_75 : decode cX7_ofPerson 75 = .ok (.getfield 20, 3) := by decide +kernel
theorem dX7_ofPerson_78 : decode cX7_ofPerson 78 = .ok (.getfield 109, 3) := by decide +kernel
theorem dX7_ofPerson_81 : decode cX7_ofPerson 81 = .ok (.iload_n 1, 1) := by decide +kernel
theorem dX7_ofPerson_82 : decode cX7_ofPerson 82 = .ok (.iaload, 1) := by decide +kernel
theorem dX7_ofPerson_83 : decode cX7_ofPerson 83 = .ok (.ireturn, 1) := by decide +kernel
theorem dX7_ofPerson_84 : decode cX7_ofPerson 84 = .ok (.bipush (-2), 2) := by decide +kernel
theorem dX7_ofPerson_86 : decode cX7_ofPerson 86 = .ok (.ireturn, 1) := by decide +kernel
theorem dX7_grudge_0 : decode cX7_grudge 0 = .ok (.aload_n 0, 1) := by decide +kernel
theorem dX7_grudge_1 : decode cX7_grudge 1 = .ok (.getfield 20, 3) := by decide +kernel
theorem dX7_grudge_4 : decode cX7_grudge 4 = .ok (.iload_n 1, 1) := by decide +kernel
theorem dX7_grudge_5 : decode cX7_grudge 5 = .ok (.invokevirtual 112, 3) := by decide +kernel
theorem dX7_grudge_8 : decode cX7_grudge 8 = .ok (.ifCond .ne 5, 3) := by decide +kernel
theorem dX7_grudge_11 : decode cX7_grudge 11 = .ok (.iconst (-1), 1) := by decide +kernel
theorem dX7_grudge_12 : decode cX7_grudge 12 = .ok (.ireturn, 1) := by decide +kernel
theorem dX7_grudge_13 : decode cX7_grudge 13 = .ok (.aload_n 0, 1) := by decide +kernel
theorem dX7_grudge_14 : decode cX7_grudge 14 = .ok (.getfield 20, 3) := by decide +kernel
theorem dX7_grudge_17 : decode cX7_grudge 17 = .ok (.getfield 115, 3) := by decide +kernel
theorem dX7_grudge_20 : decode cX7_grudge 20 = .ok (.iload_n 1, 1) := by decide +kernel
theorem dX7_grudge_21 : decode cX7_grudge 21 = .ok (.baload, 1) := by decide +kernel
theorem dX7_grudge_22 : decode cX7_grudge 22 = .ok (.iload_n 2, 1) := by decide +kernel
theorem dX7_grudge_23 : decode cX7_grudge 23 = .ok (.if_icmp .ne 5, 3) := by decide +kernel
theorem dX7_grudge_26 : decode cX7_grudge 26 = .ok (.iconst 0, 1) := by decide +kernel
theorem dX7_grudge_27 : decode cX7_grudge 27 = .ok (.ireturn, 1) := by decide +kernel
theorem dX7_grudge_28 : decode cX7_grudge 28 = .ok (.aload_n 0, 1) := by decide +kernel
theorem dX7_grudge_29 : decode cX7_grudge 29 = .ok (.getfield 20, 3) := by decide +kernel
theorem dX7_grudge_32 : decode cX7_grudge 32 = .ok (.getfield 115, 3) := by decide +kernel
theorem dX7_grudge_35 : decode cX7_grudge 35 = .ok (.iload_n 1, 1) := by decide +kernel
theorem dX7_grudge_36 : decode cX7_grudge 36 = .ok (.iload_n 2, 1) := by decide +kernel
theorem dX7_grudge_37 : decode cX7_grudge 37 = .ok (.bastore, 1) := by decide +kernel
theorem dX7_grudge_38 : decode cX7_grudge 38 = .ok (.iconst 1, 1) := by decide +kernel
theorem dX7_grudge_39 : decode cX7_grudge 39 = .ok (.ireturn, 1) := by decide +kernel
theorem dX7_hand_0 : decode cX7_hand 0 = .ok (.aload_n 0, 1) := by decide +kernel
theorem dX7_hand_1 : decode cX7_hand 1 = .ok (.getfield 20, 3) := by decide +kernel
theorem dX7_hand_4 : decode cX7_hand 4 = .ok (.iload_n 1, 1) := by decide +kernel
theorem dX7_hand_5 : decode cX7_hand 5 = .ok (.invokevirtual 112, 3) := by decide +kernel
theorem dX7_hand_8 : decode cX7_hand 8 = .ok (.ifCond .ne 5, 3) := by decide +kernel
theorem dX7_hand_11 : decode cX7_hand 11 = .ok (.iconst (-1), 1) := by decide +kernel
theorem dX7_hand_12 : decode cX7_hand 12 = .ok (.ireturn, 1) := by decide +kernel
theorem dX7_hand_13 : decode cX7_hand 13 = .ok (.aload_n 0, 1) := by decide +kernel
theorem dX7_hand_14 : decode cX7_hand 14 = .ok (.getfield 20, 3) := by decide +kernel
theorem dX7_hand_17 : decode cX7_hand 17 = .ok (.getfield 115, 3) := by decide +kernel
theorem dX7_hand_20 : decode cX7_hand 20 = .ok (.iload_n 1, 1) := by decide +kernel
theorem dX7_hand_21 : decode cX7_hand 21 = .ok (.baload, 1) := by decide +kernel
theorem dX7_hand_22 : decode cX7_hand 22 = .ok (.ifCond .eq 6, 3) := by decide +kernel
theorem dX7_hand_25 : decode cX7_hand 25 = .ok (.bipush (-3), 2) := by decide +kernel
theorem dX7_hand_27 : decode cX7_hand 27 = .ok (.ireturn, 1) := by decide +kernel
theorem dX7_hand_28 : decode cX7_hand 28 = .ok (.aload_n 0, 1) := by decide +kernel
theorem dX7_hand_29 : decode cX7_hand 29 = .ok (.getfield 20, 3) := by decide +kernel
theorem dX7_hand_32 : decode cX7_hand 32 = .ok (.iload_n 1, 1) := by decide +kernel
theorem dX7_hand_33 : decode cX7_hand 33 = .ok (.invokevirtual 119, 3) := by decide +kernel
theorem dX7_hand_36 : decode cX7_hand 36 = .ok (.iconst 1, 1) := by decide +kernel
theorem dX7_hand_37 : decode cX7_hand 37 = .ok (.ireturn, 1) := by decide +kernel
theorem dX7_wish_0 : decode cX7_wish 0 = .ok (.aload_n 0, 1) := by decide +kernel
theorem dX7_wish_1 : decode cX7_wish 1 = .ok (.getfield 20, 3) := by decide +kernel
theorem dX7_wish_4 : decode cX7_wish 4 = .ok (.iload_n 1, 1) := by decide +kernel
theorem dX7_wish_5 : decode cX7_wish 5 = .ok (.invokevirtual 96, 3) := by decide +kernel
theorem dX7_wish_8 : decode cX7_wish 8 = .ok (.ifCond .ne 5, 3) := by decide +kernel
theorem dX7_wish_11 : decode cX7_wish 11 = .ok (.iconst (-1), 1) := by decide +kernel
theorem dX7_wish_12 : decode cX7_wish 12 = .ok (.ireturn, 1) := by decide +kernel
theorem dX7_wish_13 : decode cX7_wish 13 = .ok (.iload_n 2, 1) := by decide +kernel
theorem dX7_wish_14 : decode cX7_wish 14 = .ok (.ifCond .lt 8, 3) := by decide +kernel
theorem dX7_wish_17 : decode cX7_wish 17 = .ok (.iload_n 2, 1) := by decide +kernel
theorem dX7_wish_18 : decode cX7_wish 18 = .ok (.iconst 4, 1) := by decide +kernel
theorem dX7_wish_19 : decode cX7_wish 19 = .ok (.if_icmp .lt 6, 3) := by decide +kernel
theorem dX7_wish_22 : decode cX7_wish 22 = .ok (.bipush (-2), 2) := by decide +kernel
theorem dX7_wish_24 : decode cX7_wish 24 = .ok (.ireturn, 1) := by decide +kernel
theorem dX7_wish_25 : decode cX7_wish 25 = .ok (.aload_n 0, 1) := by decide +kernel
theorem dX7_wish_26 : decode cX7_wish 26 = .ok (.getfield 20, 3) := by decide +kernel
theorem dX7_wish_29 : decode cX7_wish 29 = .ok (.getfield 109, 3) := by decide +kernel
theorem dX7_wish_32 : decode cX7_wish 32 = .ok (.iload_n 1, 1) := by decide +kernel
theorem dX7_wish_33 : decode cX7_wish 33 = .ok (.iaload, 1) := by decide +kernel
theorem dX7_wish_34 : decode cX7_wish 34 = .ok (.istore_n 3, 1) := by decide +kernel
theorem dX7_wish_35 : decode cX7_wish 35 = .ok (.aload_n 0, 1) := by decide +kernel
theorem dX7_wish_36 : decode cX7_wish 36 = .ok (.getfield 20, 3) := by decide +kernel
theorem dX7_wish_39 : decode cX7_wish 39 = .ok (.getfield 109, 3) := by decide +kernel
theorem dX7_wish_42 : decode cX7_wish 42 = .ok (.iload_n 1, 1) := by decide +kernel
theorem dX7_wish_43 : decode cX7_wish 43 = .ok (.iload_n 2, 1) := by decide +kernel
theorem dX7_wish_44 : decode cX7_wish 44 = .ok (.iastore, 1) := by decide +kernel
theorem dX7_wish_45 : decode cX7_wish 45 = .ok (.iload_n 3, 1) := by decide +kernel
theorem dX7_wish_46 : decode cX7_wish 46 = .ok (.ireturn, 1) := by decide +kernel
theorem dX7_news_0 : decode cX7_news 0 = .ok (.aload_n 0, 1) := by decide +kernel
theorem dX7_news_1 : decode cX7_news 1 = .ok (.getfield 20, 3) := by decide +kernel
theorem dX7_news_4 : decode cX7_news 4 = .ok (.iload_n 1, 1) := by decide +kernel
theorem dX7_news_5 : decode cX7_news 5 = .ok (.invokevirtual 96, 3) := by decide +kernel
theorem dX7_news_8 : decode cX7_news 8 = .ok (.ifCond .eq 14, 3) := by decide +kernel
theorem dX7_news_11 : decode cX7_news 11 = .ok (.aload_n 0, 1) := by decide +kernel
theorem dX7_news_12 : decode cX7_news 12 = .ok (.getfield 20, 3) := by decide +kernel
theorem dX7_news_15 : decode cX7_news 15 = .ok (.iload_n 3, 1) := by decide +kernel
theorem dX7_news_16 : decode cX7_news 16 = .ok (.invokevirtual 96, 3) := by decide +kernel
theorem dX7_news_19 : decode cX7_news 19 = .ok (.ifCond .ne 5, 3) := by decide +kernel
theorem dX7_news_22 : decode cX7_news 22 = .ok (.iconst (-1), 1) := by decide +kernel
theorem dX7_news_23 : decode cX7_news 23 = .ok (.ireturn, 1) := by decide +kernel
theorem dX7_news_24 : decode cX7_news 24 = .ok (.iload_n 2, 1) := by decide +kernel
theorem dX7_news_25 : decode cX7_news 25 = .ok (.invokestatic 123, 3) := by decide +kernel
theorem dX7_news_28 : decode cX7_news 28 = .ok (.ifCond .eq 14, 3) := by decide +kernel
theorem dX7_news_31 : decode cX7_news 31 = .ok (.iload 4, 2) := by decide +kernel
theorem dX7_news_33 : decode cX7_news 33 = .ok (.ifCond .lt 9, 3) := by decide +kernel
theorem dX7_news_36 : decode cX7_news 36 = .ok (.iload 4, 2) := by decide +kernel
theorem dX7_news_38 : decode cX7_news 38 = .ok (.iconst 1, 1) := by decide +kernel
theorem dX7_news_39 : decode cX7_news 39 = .ok (.if_icmp .le 6, 3) := by decide +kernel
theorem dX7_news_42 : decode cX7_news 42 = .ok (.bipush (-2), 2) := by decide +kernel
theorem dX7_news_44 : decode cX7_news 44 = .ok (.ireturn, 1) := by decide +kernel
theorem dX7_news_45 : decode cX7_news 45 = .ok (.aload_n 0, 1) := by decide +kernel
theorem dX7_news_46 : decode cX7_news 46 = .ok (.getfield 27, 3) := by decide +kernel
theorem dX7_news_49 : decode cX7_news 49 = .ok (.aload_n 0, 1) := by decide +kernel
theorem dX7_news_50 : decode cX7_news 50 = .ok (.getfield 20, 3) := by decide +kernel
theorem dX7_news_53 : decode cX7_news 53 = .ok (.iload_n 1, 1) := by decide +kernel
theorem dX7_news_54 : decode cX7_news 54 = .ok (.iload_n 2, 1) := by decide +kernel
theorem dX7_news_55 : decode cX7_news 55 = .ok (.invokevirtual 126, 3) := by decide +kernel
theorem dX7_news_58 : decode cX7_news 58 = .ok (.iload 4, 2) := by decide +kernel
theorem dX7_news_60 : decode cX7_news 60 = .ok (.ifCond .ne 15, 3) := by decide +kernel
theorem dX7_news_63 : decode cX7_news 63 = .ok (.aload_n 0, 1) := by decide +kernel
theorem dX7_news_64 : decode cX7_news 64 = .ok (.getfield 27, 3) := by decide +kernel
theorem dX7_news_67 : decode cX7_news 67 = .ok (.getfield 130, 3) := by decide +kernel
theorem dX7_news_70 : decode cX7_news 70 = .ok (.iload_n 3, 1) := by decide +kernel
theorem dX7_news_71 : decode cX7_news 71 = .ok (.iaload, 1) := by decide +kernel
theorem dX7_news_72 : decode cX7_news 72 = .ok (.goto 12, 3) := by decide +kernel
theorem dX7_news_75 : decode cX7_news 75 = .ok (.aload_n 0, 1) := by decide +kernel
theorem dX7_news_76 : decode cX7_news 76 = .ok (.getfield 27, 3) := by decide +kernel
theorem dX7_news_79 : decode cX7_news 79 = .ok (.getfield 133, 3) := by decide +kernel
theorem dX7_news_82 : decode cX7_news 82 = .ok (.iload_n 3, 1) := by decide +kernel
theorem dX7_news_83 : decode cX7_news 83 = .ok (.iaload, 1) := by decide +kernel
theorem dX7_news_84 : decode cX7_news 84 = .ok (.ireturn, 1) := by decide +kernel
theorem dX7_said_0 : decode cX7_said 0 = .ok (.aload_n 0, 1) := by decide +kernel
theorem dX7_said_1 : decode cX7_said 1 = .ok (.getfield 20, 3) := by decide +kernel
theorem dX7_said_4 : decode cX7_said 4 = .ok (.iload_n 1, 1) := by decide +kernel
theorem dX7_said_5 : decode cX7_said 5 = .ok (.invokevirtual 96, 3) := by decide +kernel
theorem dX7_said_8 : decode cX7_said 8 = .ok (.ifCond .eq 20, 3) := by decide +kernel
theorem dX7_said_11 : decode cX7_said 11 = .ok (.aload_n 0, 1) := by decide +kernel
theorem dX7_said_12 : decode cX7_said 12 = .ok (.getfield 20, 3) := by decide +kernel
theorem dX7_said_15 : decode cX7_said 15 = .ok (.iload_n 2, 1) := by decide +kernel
theorem dX7_said_16 : decode cX7_said 16 = .ok (.invokevirtual 96, 3) := by decide +kernel
theorem dX7_said_19 : decode cX7_said 19 = .ok (.ifCond .eq 9, 3) := by decide +kernel
theorem dX7_said_22 : decode cX7_said 22 = .ok (.iload 4, 2) := by decide +kernel
theorem dX7_said_24 : decode cX7_said 24 = .ok (.iconst (-1), 1) := by decide +kernel
theorem dX7_said_25 : decode cX7_said 25 = .ok (.if_icmp .ge 5, 3) := by decide +kernel
theorem dX7_said_28 : decode cX7_said 28 = .ok (.iconst (-1), 1) := by decide +kernel
theorem dX7_said_29 : decode cX7_said 29 = .ok (.ireturn, 1) := by decide +kernel
theorem dX7_said_30 : decode cX7_said 30 = .ok (.iload_n 3, 1) := by decide +kernel
theorem dX7_said_31 : decode cX7_said 31 = .ok (.invokestatic 123, 3) := by decide +kernel
theorem dX7_said_34 : decode cX7_said 34 = .ok (.ifCond .ne 6, 3) := by decide +kernel
theorem dX7_said_37 : decode cX7_said 37 = .ok (.bipush (-2), 2) := by decide +kernel
theorem dX7_said_39 : decode cX7_said 39 = .ok (.ireturn, 1) := by decide +kernel
theorem dX7_said_40 : decode cX7_said 40 = .ok (.iconst 0, 1) := by decide +kernel
theorem dX7_said_41 : decode cX7_said 41 = .ok (.istore 5, 2) := by decide +kernel
theorem dX7_said_43 : decode cX7_said 43 = .ok (.iconst 0, 1) := by decide +kernel
theorem dX7_said_44 : decode cX7_said 44 = .ok (.istore 6, 2) := by decide +kernel
theorem dX7_said_46 : decode cX7_said 46 = .ok (.iload 6, 2) := by decide +kernel
theorem dX7_said_48 : decode cX7_said 48 = .ok (.bipush 100, 2) := by decide +kernel
theorem dX7_said_50 : decode cX7_said 50 = .ok (.if_icmp .ge 49, 3) := by decide +kernel
theorem dX7_said_53 : decode cX7_said 53 = .ok (.aload_n 0, 1) := by decide +kernel
theorem dX7_said_54 : decode cX7_said 54 = .ok (.getfield 27, 3) := by decide +kernel
theorem dX7_said_57 : decode cX7_said 57 = .ok (.aload_n 0, 1) := by decide +kernel
theorem dX7_said_58 : decode cX7_said 58 = .ok (.getfield 20, 3) := by decide +kernel
theorem dX7_said_61 : decode cX7_said 61 = .ok (.iload_n 1, 1) := by decide +kernel
theorem dX7_said_62 : decode cX7_said 62 = .ok (.iload 6, 2) := by decide +kernel
theorem dX7_said_64 : decode cX7_said 64 = .ok (.invokevirtual 126, 3) := by decide +kernel
theorem dX7_said_67 : decode cX7_said 67 = .ok (.aload_n 0, 1) := by decide +kernel
theorem dX7_said_68 : decode cX7_said 68 = .ok (.getfield 27, 3) := by decide +kernel
theorem dX7_said_71 : decode cX7_said 71 = .ok (.getfield 130, 3) := by decide +kernel
theorem dX7_said_74 : decode cX7_said 74 = .ok (.iload_n 2, 1) := by decide +kernel
theorem dX7_said_75 : decode cX7_said 75 = .ok (.iaload, 1) := by decide +kernel
theorem dX7_said_76 : decode cX7_said 76 = .ok (.iload_n 3, 1) := by decide +kernel
theorem dX7_said_77 : decode cX7_said 77 = .ok (.if_icmp .ne 16, 3) := by decide +kernel
theorem dX7_said_80 : decode cX7_said 80 = .ok (.iload 5, 2) := by decide +kernel
theorem dX7_said_82 : decode cX7_said 82 = .ok (.iload 4, 2) := by decide +kernel
theorem dX7_said_84 : decode cX7_said 84 = .ok (.if_icmp .ne 6, 3) := by decide +kernel
theorem dX7_said_87 : decode cX7_said 87 = .ok (.iload 6, 2) := by decide +kernel
theorem dX7_said_89 : decode cX7_said 89 = .ok (.ireturn, 1) := by decide +kernel
theorem dX7_said_90 : decode cX7_said 90 = .ok (.iinc 5 1, 3) := by decide +kernel
theorem dX7_said_93 : decode cX7_said 93 = .ok (.iinc 6 1, 3) := by decide +kernel
theorem dX7_said_96 : decode cX7_said 96 = .ok (.goto (-50), 3) := by decide +kernel
theorem dX7_said_99 : decode cX7_said 99 = .ok (.iload 4, 2) := by decide +kernel
theorem dX7_said_101 : decode cX7_said 101 = .ok (.iconst (-1), 1) := by decide +kernel
theorem dX7_said_102 : decode cX7_said 102 = .ok (.if_icmp .ne 8, 3) := by decide +kernel
theorem dX7_said_105 : decode cX7_said 105 = .ok (.iload 5, 2) := by decide +kernel
theorem dX7_said_107 : decode cX7_said 107 = .ok (.goto 5, 3) := by decide +kernel
theorem dX7_said_110 : decode cX7_said 110 = .ok (.bipush (-9), 2) := by decide +kernel
theorem dX7_said_112 : decode cX7_said 112 = .ok (.ireturn, 1) := by decide +kernel
theorem dX7_fewest_0 : decode cX7_fewest 0 = .ok (.aload_n 0, 1) := by decide +kernel
theorem dX7_fewest_1 : decode cX7_fewest 1 = .ok (.getfield 20, 3) := by decide +kernel
theorem dX7_fewest_4 : decode cX7_fewest 4 = .ok (.invokevirtual 136, 3) := by decide +kernel
theorem dX7_fewest_7 : decode cX7_fewest 7 = .ok (.ifCond .eq 18, 3) := by decide +kernel
theorem dX7_fewest_10 : decode cX7_fewest 10 = .ok (.aload_n 0, 1) := by decide +kernel
theorem dX7_fewest_11 : decode cX7_fewest 11 = .ok (.getfield 34, 3) := by decide +kernel
theorem dX7_fewest_14 : decode cX7_fewest 14 = .ok (.aload_n 0, 1) := by decide +kernel
theorem dX7_fewest_15 : decode cX7_fewest 15 = .ok (.getfield 20, 3) := by decide +kernel
theorem dX7_fewest_18 : decode cX7_fewest 18 = .ok (.iconst 0, 1) := by decide +kernel
theorem dX7_fewest_19 : decode cX7_fewest 19 = .ok (.invokevirtual 140, 3) := by decide +kernel
theorem dX7_fewest_22 : decode cX7_fewest 22 = .ok (.goto 5, 3) := by decide +kernel
theorem dX7_fewest_25 : decode cX7_fewest 25 = .ok (.bipush (-3), 2) := by decide +kernel
theorem dX7_fewest_27 : decode cX7_fewest 27 = .ok (.ireturn, 1) := by decide +kernel
theorem dX7_soonest_0 : decode cX7_soonest 0 = .ok (.aload_n 0, 1) := by decide +kernel
theorem dX7_soonest_1 : decode cX7_soonest 1 = .ok (.getfield 20, 3) := by decide +kernel
theorem dX7_soonest_4 : decode cX7_soonest 4 = .ok (.invokevirtual 136, 3) := by decide +kernel
theorem dX7_soonest_7 : decode cX7_soonest 7 = .ok (.ifCond .eq 18, 3) := by decide +kernel
theorem dX7_soonest_10 : decode cX7_soonest 10 = .ok (.aload_n 0, 1) := by decide +kernel
theorem dX7_soonest_11 : decode cX7_soonest 11 = .ok (.getfield 34, 3) := by decide +kernel
theorem dX7_soonest_14 : decode cX7_soonest 14 = .ok (.aload_n 0, 1) := by decide +kernel
theorem dX7_soonest_15 : decode cX7_soonest 15 = .ok (.getfield 20, 3) := by decide +kernel
theorem dX7_soonest_18 : decode cX7_soonest 18 = .ok (.iconst 1, 1) := by decide +kernel
theorem dX7_soonest_19 : decode cX7_soonest 19 = .ok (.invokevirtual 140, 3) := by decide +kernel
theorem dX7_soonest_22 : decode cX7_soonest 22 = .ok (.goto 5, 3) := by decide +kernel
theorem dX7_soonest_25 : decode cX7_soonest 25 = .ok (.bipush (-3), 2) := by decide +kernel
theorem dX7_soonest_27 : decode cX7_soonest 27 = .ok (.ireturn, 1) := by decide +kernel
theorem dX7_cut_0 : decode cX7_cut 0 = .ok (.aload_n 0, 1) := by decide +kernel
theorem dX7_cut_1 : decode cX7_cut 1 = .ok (.getfield 20, 3) := by decide +kernel
theorem dX7_cut_4 : decode cX7_cut 4 = .ok (.iload_n 1, 1) := by decide +kernel
theorem dX7_cut_5 : decode cX7_cut 5 = .ok (.invokevirtual 112, 3) := by decide +kernel
theorem dX7_cut_8 : decode cX7_cut 8 = .ok (.ifCond .ne 5, 3) := by decide +kernel
theorem dX7_cut_11 : decode cX7_cut 11 = .ok (.iconst (-1), 1) := by decide +kernel
theorem dX7_cut_12 : decode cX7_cut 12 = .ok (.ireturn, 1) := by decide +kernel
theorem dX7_cut_13 : decode cX7_cut 13 = .ok (.aload_n 0, 1) := by decide +kernel
theorem dX7_cut_14 : decode cX7_cut 14 = .ok (.getfield 20, 3) := by decide +kernel
theorem dX7_cut_17 : decode cX7_cut 17 = .ok (.getfield 144, 3) := by decide +kernel
theorem dX7_cut_20 : decode cX7_cut 20 = .ok (.ifCond .eq 8, 3) := by decide +kernel
theorem dX7_cut_23 : decode cX7_cut 23 = .ok (.bipush (-3), 2) := by decide +kernel
theorem dX7_cut_25 : decode cX7_cut 25 = .ok (.goto 15, 3) := by decide +kernel
theorem dX7_cut_28 : decode cX7_cut 28 = .ok (.aload_n 0, 1) := by decide +kernel
theorem dX7_cut_29 : decode cX7_cut 29 = .ok (.getfield 34, 3) := by decide +kernel
theorem dX7_cut_32 : decode cX7_cut 32 = .ok (.aload_n 0, 1) := by decide +kernel
theorem dX7_cut_33 : decode cX7_cut 33 = .ok (.getfield 20, 3) := by decide +kernel
theorem dX7_cut_36 : decode cX7_cut 36 = .ok (.iload_n 1, 1) := by decide +kernel
theorem dX7_cut_37 : decode cX7_cut 37 = .ok (.invokevirtual 148, 3) := by decide +kernel
theorem dX7_cut_40 : decode cX7_cut 40 = .ok (.ireturn, 1) := by decide +kernel
theorem dX7_order_0 : decode cX7_order 0 = .ok (.aload_n 0, 1) := by decide +kernel
theorem dX7_order_1 : decode cX7_order 1 = .ok (.iconst 0, 1) := by decide +kernel
theorem dX7_order_2 : decode cX7_order 2 = .ok (.putfield 63, 3) := by decide +kernel
theorem dX7_order_5 : decode cX7_order 5 = .ok (.iload_n 1, 1) := by decide +kernel
theorem dX7_order_6 : decode cX7_order 6 = .ok (.invokestatic 67, 3) := by decide +kernel
theorem dX7_order_9 : decode cX7_order 9 = .ok (.ifCond .ne 5, 3) := by decide +kernel
theorem dX7_order_12 : decode cX7_order 12 = .ok (.iconst (-1), 1) := by decide +kernel
theorem dX7_order_13 : decode cX7_order 13 = .ok (.ireturn, 1) := by decide +kernel
theorem dX7_order_14 : decode cX7_order 14 = .ok (.iload_n 2, 1) := by decide +kernel
theorem dX7_order_15 : decode cX7_order 15 = .ok (.invokestatic 71, 3) := by decide +kernel
theorem dX7_order_18 : decode cX7_order 18 = .ok (.ifCond .eq 14, 3) := by decide +kernel
theorem dX7_order_21 : decode cX7_order 21 = .ok (.iload 5, 2) := by decide +kernel
theorem dX7_order_23 : decode cX7_order 23 = .ok (.ifCond .lt 9, 3) := by decide +kernel
theorem dX7_order_26 : decode cX7_order 26 = .ok (.iload 5, 2) := by decide +kernel
theorem dX7_order_28 : decode cX7_order 28 = .ok (.iconst 1, 1) := by decide +kernel
theorem dX7_order_29 : decode cX7_order 29 = .ok (.if_icmp .le 6, 3) := by decide +kernel
theorem dX7_order_32 : decode cX7_order 32 = .ok (.bipush (-2), 2) := by decide +kernel
theorem dX7_order_34 : decode cX7_order 34 = .ok (.ireturn, 1) := by decide +kernel
theorem dX7_order_35 : decode cX7_order 35 = .ok (.aload_n 0, 1) := by decide +kernel
theorem dX7_order_36 : decode cX7_order 36 = .ok (.getfield 13, 3) := by decide +kernel
theorem dX7_order_39 : decode cX7_order 39 = .ok (.iload_n 1, 1) := by decide +kernel
theorem dX7_order_40 : decode cX7_order 40 = .ok (.aaload, 1) := by decide +kernel
theorem dX7_order_41 : decode cX7_order 41 = .ok (.astore 6, 2) := by decide +kernel
theorem dX7_order_43 : decode cX7_order 43 = .ok (.aload 6, 2) := by decide +kernel
theorem dX7_order_45 : decode cX7_order 45 = .ok (.iload_n 2, 1) := by decide +kernel
theorem dX7_order_46 : decode cX7_order 46 = .ok (.iload_n 3, 1) := by decide +kernel
theorem dX7_order_47 : decode cX7_order 47 = .ok (.iload 4, 2) := by decide +kernel
theorem dX7_order_49 : decode cX7_order 49 = .ok (.invokevirtual 74, 3) := by decide +kernel
theorem dX7_order_52 : decode cX7_order 52 = .ok (.istore 7, 2) := by decide +kernel
theorem dX7_order_54 : decode cX7_order 54 = .ok (.iload 7, 2) := by decide +kernel
theorem dX7_order_56 : decode cX7_order 56 = .ok (.ifCond .eq 10, 3) := by decide +kernel
theorem dX7_order_59 : decode cX7_order 59 = .ok (.aload_n 0, 1) := by decide +kernel
theorem dX7_order_60 : decode cX7_order 60 = .ok (.iload 7, 2) := by decide +kernel
theorem dX7_order_62 : decode cX7_order 62 = .ok (.invokevirtual 78, 3) := by decide +kernel
theorem dX7_order_65 : decode cX7_order 65 = .ok (.ireturn, 1) := by decide +kernel
theorem dX7_order_66 : decode cX7_order 66 = .ok (.aload_n 0, 1) := by decide +kernel
theorem dX7_order_67 : decode cX7_order 67 = .ok (.getfield 20, 3) := by decide +kernel
theorem dX7_order_70 : decode cX7_order 70 = .ok (.invokevirtual 136, 3) := by decide +kernel
theorem dX7_order_73 : decode cX7_order 73 = .ok (.ifCond .ne 6, 3) := by decide +kernel
theorem dX7_order_76 : decode cX7_order 76 = .ok (.bipush (-3), 2) := by decide +kernel
theorem dX7_order_78 : decode cX7_order 78 = .ok (.ireturn, 1) := by decide +kernel
theorem dX7_order_79 : decode cX7_order 79 = .ok (.iload 4, 2) := by decide +kernel
theorem dX7_order_81 : decode cX7_order 81 = .ok (.aload_n 0, 1) := by decide +kernel
theorem dX7_order_82 : decode cX7_order 82 = .ok (.getfield 20, 3) := by decide +kernel
theorem dX7_order_85 : decode cX7_order 85 = .ok (.getfield 93, 3) := by decide +kernel
theorem dX7_order_88 : decode cX7_order 88 = .ok (.if_icmp .eq 6, 3) := by decide +kernel
theorem dX7_order_91 : decode cX7_order 91 = .ok (.bipush (-2), 2) := by decide +kernel
theorem dX7_order_93 : decode cX7_order 93 = .ok (.ireturn, 1) := by decide +kernel
theorem dX7_order_94 : decode cX7_order 94 = .ok (.aload_n 0, 1) := by decide +kernel
theorem dX7_order_95 : decode cX7_order 95 = .ok (.getfield 41, 3) := by decide +kernel
theorem dX7_order_98 : decode cX7_order 98 = .ok (.aload_n 0, 1) := by decide +kernel
theorem dX7_order_99 : decode cX7_order 99 = .ok (.getfield 20, 3) := by decide +kernel
theorem dX7_order_102 : decode cX7_order 102 = .ok (.aload 6, 2) := by decide +kernel
theorem dX7_order_104 : decode cX7_order 104 = .ok (.iload_n 3, 1) := by decide +kernel
theorem dX7_order_105 : decode cX7_order 105 = .ok (.invokevirtual 152, 3) := by decide +kernel
theorem dX7_order_108 : decode cX7_order 108 = .ok (.ifCond .ne 5, 3) := by decide +kernel
theorem dX7_order_111 : decode cX7_order 111 = .ok (.iconst (-1), 1) := by decide +kernel
theorem dX7_order_112 : decode cX7_order 112 = .ok (.ireturn, 1) := by decide +kernel
theorem dX7_order_113 : decode cX7_order 113 = .ok (.aload_n 0, 1) := by decide +kernel
theorem dX7_order_114 : decode cX7_order 114 = .ok (.getfield 41, 3) := by decide +kernel
theorem dX7_order_117 : decode cX7_order 117 = .ok (.aload_n 0, 1) := by decide +kernel
theorem dX7_order_118 : decode cX7_order 118 = .ok (.getfield 20, 3) := by decide +kernel
theorem dX7_order_121 : decode cX7_order 121 = .ok (.invokevirtual 156, 3) := by decide +kernel
theorem dX7_order_124 : decode cX7_order 124 = .ok (.istore 8, 2) := by decide +kernel
theorem dX7_order_126 : decode cX7_order 126 = .ok (.iload 5, 2) := by decide +kernel
theorem dX7_order_128 : decode cX7_order 128 = .ok (.iconst 1, 1) := by decide +kernel
theorem dX7_order_129 : decode cX7_order 129 = .ok (.if_icmp .ne 6, 3) := by decide +kernel
theorem dX7_order_132 : decode cX7_order 132 = .ok (.iload 8, 2) := by decide +kernel
theorem dX7_order_134 : decode cX7_order 134 = .ok (.ireturn, 1) := by decide +kernel
theorem dX7_order_135 : decode cX7_order 135 = .ok (.iload 8, 2) := by decide +kernel
theorem dX7_order_137 : decode cX7_order 137 = .ok (.bipush (-9), 2) := by decide +kernel
theorem dX7_order_139 : decode cX7_order 139 = .ok (.if_icmp .ne 17, 3) := by decide +kernel
theorem dX7_order_142 : decode cX7_order 142 = .ok (.aload_n 0, 1) := by decide +kernel
theorem dX7_order_143 : decode cX7_order 143 = .ok (.getfield 41, 3) := by decide +kernel
theorem dX7_order_146 : decode cX7_order 146 = .ok (.aload_n 0, 1) := by decide +kernel
theorem dX7_order_147 : decode cX7_order 147 = .ok (.getfield 20, 3) := by decide +kernel
theorem dX7_order_150 : decode cX7_order 150 = .ok (.invokevirtual 160, 3) := by decide +kernel
theorem dX7_order_153 : decode cX7_order 153 = .ok (.goto 5, 3) := by decide +kernel
theorem dX7_order_156 : decode cX7_order 156 = .ok (.bipush (-9), 2) := by decide +kernel
theorem dX7_order_158 : decode cX7_order 158 = .ok (.ireturn, 1) := by decide +kernel
theorem dX7_coming_0 : decode cX7_coming 0 = .ok (.aload_n 0, 1) := by decide +kernel
theorem dX7_coming_1 : decode cX7_coming 1 = .ok (.getfield 20, 3) := by decide +kernel
theorem dX7_coming_4 : decode cX7_coming 4 = .ok (.invokevirtual 136, 3) := by decide +kernel
theorem dX7_coming_7 : decode cX7_coming 7 = .ok (.ifCond .eq 17, 3) := by decide +kernel
theorem dX7_coming_10 : decode cX7_coming 10 = .ok (.aload_n 0, 1) := by decide +kernel
theorem dX7_coming_11 : decode cX7_coming 11 = .ok (.getfield 41, 3) := by decide +kernel
theorem dX7_coming_14 : decode cX7_coming 14 = .ok (.aload_n 0, 1) := by decide +kernel
theorem dX7_coming_15 : decode cX7_coming 15 = .ok (.getfield 20, 3) := by decide +kernel
theorem dX7_coming_18 : decode cX7_coming 18 = .ok (.invokevirtual 163, 3) := by decide +kernel
theorem dX7_coming_21 : decode cX7_coming 21 = .ok (.goto 5, 3) := by decide +kernel
theorem dX7_coming_24 : decode cX7_coming 24 = .ok (.bipush (-3), 2) := by decide +kernel
theorem dX7_coming_26 : decode cX7_coming 26 = .ok (.ireturn, 1) := by decide +kernel
theorem dX7_letters_0 : decode cX7_letters 0 = .ok (.iload_n 1, 1) := by decide +kernel
theorem dX7_letters_1 : decode cX7_letters 1 = .ok (.iconst (-1), 1) := by decide +kernel
theorem dX7_letters_2 : decode cX7_letters 2 = .ok (.if_icmp .eq 16, 3) := by decide +kernel
theorem dX7_letters_5 : decode cX7_letters 5 = .ok (.aload_n 0, 1) := by decide +kernel
theorem dX7_letters_6 : decode cX7_letters 6 = .ok (.getfield 20, 3) := by decide +kernel
theorem dX7_letters_9 : decode cX7_letters 9 = .ok (.iload_n 1, 1) := by decide +kernel
theorem dX7_letters_10 : decode cX7_letters 10 = .ok (.invokevirtual 96, 3) := by decide +kernel
theorem dX7_letters_13 : decode cX7_letters 13 = .ok (.ifCond .ne 5, 3) := by decide +kernel
theorem dX7_letters_16 : decode cX7_letters 16 = .ok (.iconst (-1), 1) := by decide +kernel
theorem dX7_letters_17 : decode cX7_letters 17 = .ok (.ireturn, 1) := by decide +kernel
theorem dX7_letters_18 : decode cX7_letters 18 = .ok (.aload_n 0, 1) := by decide +kernel
theorem dX7_letters_19 : decode cX7_letters 19 = .ok (.getfield 20, 3) := by decide +kernel
theorem dX7_letters_22 : decode cX7_letters 22 = .ok (.invokevirtual 136, 3) := by decide +kernel
theorem dX7_letters_25 : decode cX7_letters 25 = .ok (.ifCond .ne 6, 3) := by decide +kernel
theorem dX7_letters_28 : decode cX7_letters 28 = .ok (.bipush (-3), 2) := by decide +kernel
theorem dX7_letters_30 : decode cX7_letters 30 = .ok (.ireturn, 1) := by decide +kernel
theorem dX7_letters_31 : decode cX7_letters 31 = .ok (.aload_n 0, 1) := by decide +kernel
theorem dX7_letters_32 : decode cX7_letters 32 = .ok (.getfield 48, 3) := by decide +kernel
theorem dX7_letters_35 : decode cX7_letters 35 = .ok (.aload_n 0, 1) := by decide +kernel
theorem dX7_letters_36 : decode cX7_letters 36 = .ok (.getfield 20, 3) := by decide +kernel
theorem dX7_letters_39 : decode cX7_letters 39 = .ok (.invokevirtual 166, 3) := by decide +kernel
theorem dX7_letters_42 : decode cX7_letters 42 = .ok (.istore_n 2, 1) := by decide +kernel
theorem dX7_letters_43 : decode cX7_letters 43 = .ok (.iload_n 1, 1) := by decide +kernel
theorem dX7_letters_44 : decode cX7_letters 44 = .ok (.iconst (-1), 1) := by decide +kernel
theorem dX7_letters_45 : decode cX7_letters 45 = .ok (.if_icmp .eq 9, 3) := by decide +kernel
theorem dX7_letters_48 : decode cX7_letters 48 = .ok (.iload_n 2, 1) := by decide +kernel
theorem dX7_letters_49 : decode cX7_letters 49 = .ok (.bipush (-9), 2) := by decide +kernel
theorem dX7_letters_51 : decode cX7_letters 51 = .ok (.if_icmp .ne 7, 3) := by decide +kernel
theorem dX7_letters_54 : decode cX7_letters 54 = .ok (.iload_n 2, 1) := by decide +kernel
theorem dX7_letters_55 : decode cX7_letters 55 = .ok (.goto 15, 3) := by decide +kernel
theorem dX7_letters_58 : decode cX7_letters 58 = .ok (.aload_n 0, 1) := by decide +kernel
theorem dX7_letters_59 : decode cX7_letters 59 = .ok (.getfield 48, 3) := by decide +kernel
theorem dX7_letters_62 : decode cX7_letters 62 = .ok (.aload_n 0, 1) := by decide +kernel
theorem dX7_letters_63 : decode cX7_letters 63 = .ok (.getfield 20, 3) := by decide +kernel
theorem dX7_letters_66 : decode cX7_letters 66 = .ok (.iload_n 1, 1) := by decide +kernel
theorem dX7_letters_67 : decode cX7_letters 67 = .ok (.invokevirtual 169, 3) := by decide +kernel
theorem dX7_letters_70 : decode cX7_letters 70 = .ok (.ireturn, 1) := by decide +kernel
theorem dX7_heard_0 : decode cX7_heard 0 = .ok (.aload_n 0, 1) := by decide +kernel
theorem dX7_heard_1 : decode cX7_heard 1 = .ok (.getfield 20, 3) := by decide +kernel
theorem dX7_heard_4 : decode cX7_heard 4 = .ok (.iload_n 1, 1) := by decide +kernel
theorem dX7_heard_5 : decode cX7_heard 5 = .ok (.invokevirtual 96, 3) := by decide +kernel
theorem dX7_heard_8 : decode cX7_heard 8 = .ok (.ifCond .eq 19, 3) := by decide +kernel
theorem dX7_heard_11 : decode cX7_heard 11 = .ok (.iload_n 2, 1) := by decide +kernel
theorem dX7_heard_12 : decode cX7_heard 12 = .ok (.invokestatic 172, 3) := by decide +kernel
theorem dX7_heard_15 : decode cX7_heard 15 = .ok (.ifCond .eq 12, 3) := by decide +kernel
theorem dX7_heard_18 : decode cX7_heard 18 = .ok (.iload_n 3, 1) := by decide +kernel
theorem dX7_heard_19 : decode cX7_heard 19 = .ok (.ifCond .lt 8, 3) := by decide +kernel
theorem dX7_heard_22 : decode cX7_heard 22 = .ok (.iload_n 3, 1) := by decide +kernel
theorem dX7_heard_23 : decode cX7_heard 23 = .ok (.iconst 1, 1) := by decide +kernel
theorem dX7_heard_24 : decode cX7_heard 24 = .ok (.if_icmp .le 7, 3) := by decide +kernel
theorem dX7_heard_27 : decode cX7_heard 27 = .ok (.ldc2_w 175, 3) := by decide +kernel
theorem dX7_heard_30 : decode cX7_heard 30 = .ok (.lreturn, 1) := by decide +kernel
theorem dX7_heard_31 : decode cX7_heard 31 = .ok (.aload_n 0, 1) := by decide +kernel
theorem dX7_heard_32 : decode cX7_heard 32 = .ok (.iload_n 1, 1) := by decide +kernel
theorem dX7_heard_33 : decode cX7_heard 33 = .ok (.iload_n 2, 1) := by decide +kernel
theorem dX7_heard_34 : decode cX7_heard 34 = .ok (.invokevirtual 177, 3) := by decide +kernel
theorem dX7_heard_37 : decode cX7_heard 37 = .ok (.lstore 4, 2) := by decide +kernel
theorem dX7_heard_39 : decode cX7_heard 39 = .ok (.aload_n 0, 1) := by decide +kernel
theorem dX7_heard_40 : decode cX7_heard 40 = .ok (.invokevirtual 181, 3) := by decide +kernel
theorem dX7_heard_43 : decode cX7_heard 43 = .ok (.lstore 6, 2) := by decide +kernel
theorem dX7_heard_45 : decode cX7_heard 45 = .ok (.lload 4, 2) := by decide +kernel
theorem dX7_heard_47 : decode cX7_heard 47 = .ok (.lload 6, 2) := by decide +kernel
theorem dX7_heard_49 : decode cX7_heard 49 = .ok (.invokestatic 185, 3) := by decide +kernel
theorem dX7_heard_52 : decode cX7_heard 52 = .ok (.lstore 8, 2) := by decide +kernel
theorem dX7_heard_54 : decode cX7_heard 54 = .ok (.lload 8, 2) := by decide +kernel
theorem dX7_heard_56 : decode cX7_heard 56 = .ok (.lconst 1, 1) := by decide +kernel
theorem dX7_heard_57 : decode cX7_heard 57 = .ok (.lcmp, 1) := by decide +kernel
theorem dX7_heard_58 : decode cX7_heard 58 = .ok (.ifCond .ge 7, 3) := by decide +kernel
theorem dX7_heard_61 : decode cX7_heard 61 = .ok (.ldc2_w 175, 3) := by decide +kernel
theorem dX7_heard_64 : decode cX7_heard 64 = .ok (.lreturn, 1) := by decide +kernel
theorem dX7_heard_65 : decode cX7_heard 65 = .ok (.iload_n 3, 1) := by decide +kernel
theorem dX7_heard_66 : decode cX7_heard 66 = .ok (.ifCond .ne 8, 3) := by decide +kernel
theorem dX7_heard_69 : decode cX7_heard 69 = .ok (.lload 4, 2) := by decide +kernel
theorem dX7_heard_71 : decode cX7_heard 71 = .ok (.goto 5, 3) := by decide +kernel
theorem dX7_heard_74 : decode cX7_heard 74 = .ok (.lload 6, 2) := by decide +kernel
theorem dX7_heard_76 : decode cX7_heard 76 = .ok (.lload 8, 2) := by decide +kernel
theorem dX7_heard_78 : decode cX7_heard 78 = .ok (.ldiv, 1) := by decide +kernel
theorem dX7_heard_79 : decode cX7_heard 79 = .ok (.lreturn, 1) := by decide +kernel
theorem dX7_stand_0 : decode cX7_stand 0 = .ok (.iload_n 1, 1) := by decide +kernel
theorem dX7_stand_1 : decode cX7_stand 1 = .ok (.invokestatic 172, 3) := by decide +kernel
theorem dX7_stand_4 : decode cX7_stand 4 = .ok (.ifCond .ne 6, 3) := by decide +kernel
theorem dX7_stand_7 : decode cX7_stand 7 = .ok (.bipush (-2), 2) := by decide +kernel
theorem dX7_stand_9 : decode cX7_stand 9 = .ok (.ireturn, 1) := by decide +kernel
theorem dX7_stand_10 : decode cX7_stand 10 = .ok (.aload_n 0, 1) := by decide +kernel
theorem dX7_stand_11 : decode cX7_stand 11 = .ok (.getfield 20, 3) := by decide +kernel
theorem dX7_stand_14 : decode cX7_stand 14 = .ok (.invokevirtual 136, 3) := by decide +kernel
theorem dX7_stand_17 : decode cX7_stand 17 = .ok (.ifCond .ne 6, 3) := by decide +kernel
theorem dX7_stand_20 : decode cX7_stand 20 = .ok (.bipush (-3), 2) := by decide +kernel
theorem dX7_stand_22 : decode cX7_stand 22 = .ok (.ireturn, 1) := by decide +kernel
theorem dX7_stand_23 : decode cX7_stand 23 = .ok (.iconst 0, 1) := by decide +kernel
theorem dX7_stand_24 : decode cX7_stand 24 = .ok (.istore_n 2, 1) := by decide +kernel
theorem dX7_stand_25 : decode cX7_stand 25 = .ok (.iconst 1, 1) := by decide +kernel
theorem dX7_stand_26 : decode cX7_stand 26 = .ok (.istore_n 3, 1) := by decide +kernel
theorem dX7_stand_27 : decode cX7_stand 27 = .ok (.iload_n 3, 1) := by decide +kernel
theorem dX7_stand_28 : decode cX7_stand 28 = .ok (.aload_n 0, 1) := by decide +kernel
theorem dX7_stand_29 : decode cX7_stand 29 = .ok (.getfield 20, 3) := by decide +kernel
theorem dX7_stand_32 : decode cX7_stand 32 = .ok (.getfield 93, 3) := by decide +kernel
theorem dX7_stand_35 : decode cX7_stand 35 = .ok (.if_icmp .ge 27, 3) := by decide +kernel
theorem dX7_stand_38 : decode cX7_stand 38 = .ok (.aload_n 0, 1) := by decide +kernel
theorem dX7_stand_39 : decode cX7_stand 39 = .ok (.iload_n 3, 1) := by decide +kernel
theorem dX7_stand_40 : decode cX7_stand 40 = .ok (.iload_n 1, 1) := by decide +kernel
theorem dX7_stand_41 : decode cX7_stand 41 = .ok (.invokevirtual 177, 3) := by decide +kernel
theorem dX7_stand_44 : decode cX7_stand 44 = .ok (.aload_n 0, 1) := by decide +kernel
theorem dX7_stand_45 : decode cX7_stand 45 = .ok (.iload_n 2, 1) := by decide +kernel
theorem dX7_stand_46 : decode cX7_stand 46 = .ok (.iload_n 1, 1) := by decide +kernel
theorem dX7_stand_47 : decode cX7_stand 47 = .ok (.invokevirtual 177, 3) := by decide +kernel
theorem dX7_stand_50 : decode cX7_stand 50 = .ok (.lcmp, 1) := by decide +kernel
theorem dX7_stand_51 : decode cX7_stand 51 = .ok (.ifCond .le 5, 3) := by decide +kernel
theorem dX7_stand_54 : decode cX7_stand 54 = .ok (.iload_n 3, 1) := by decide +kernel
theorem dX7_stand_55 : decode cX7_stand 55 = .ok (.istore_n 2, 1) := by decide +kernel
theorem dX7_stand_56 : decode cX7_stand 56 = .ok (.iinc 3 1, 3) := by decide +kernel
theorem dX7_stand_59 : decode cX7_stand 59 = .ok (.goto (-32), 3) := by decide +kernel
theorem dX7_stand_62 : decode cX7_stand 62 = .ok (.iload_n 2, 1) := by decide +kernel
theorem dX7_stand_63 : decode cX7_stand 63 = .ok (.ireturn, 1) := by decide +kernel
theorem dX7_reading_0 : decode cX7_reading 0 = .ok (.aload_n 0, 1) := by decide +kernel
theorem dX7_reading_1 : decode cX7_reading 1 = .ok (.getfield 20, 3) := by decide +kernel
theorem dX7_reading_4 : decode cX7_reading 4 = .ok (.iload_n 1, 1) := by decide +kernel
theorem dX7_reading_5 : decode cX7_reading 5 = .ok (.invokevirtual 96, 3) := by decide +kernel
theorem dX7_reading_8 : decode cX7_reading 8 = .ok (.ifCond .eq 14, 3) := by decide +kernel
theorem dX7_reading_11 : decode cX7_reading 11 = .ok (.aload_n 0, 1) := by decide +kernel
theorem dX7_reading_12 : decode cX7_reading 12 = .ok (.getfield 20, 3) := by decide +kernel
theorem dX7_reading_15 : decode cX7_reading 15 = .ok (.iload_n 3, 1) := by decide +kernel
theorem dX7_reading_16 : decode cX7_reading 16 = .ok (.invokevirtual 96, 3) := by decide +kernel
theorem dX7_reading_19 : decode cX7_reading 19 = .ok (.ifCond .ne 5, 3) := by decide +kernel
theorem dX7_reading_22 : decode cX7_reading 22 = .ok (.iconst (-1), 1) := by decide +kernel
theorem dX7_reading_23 : decode cX7_reading 23 = .ok (.ireturn, 1) := by decide +kernel
theorem dX7_reading_24 : decode cX7_reading 24 = .ok (.iload_n 2, 1) := by decide +kernel
theorem dX7_reading_25 : decode cX7_reading 25 = .ok (.invokestatic 123, 3) := by decide +kernel
theorem dX7_reading_28 : decode cX7_reading 28 = .ok (.ifCond .eq 18, 3) := by decide +kernel
theorem dX7_reading_31 : decode cX7_reading 31 = .ok (.iload 4, 2) := by decide +kernel
theorem dX7_reading_33 : decode cX7_reading 33 = .ok (.invokestatic 123, 3) := by decide +kernel
theorem dX7_reading_36 : decode cX7_reading 36 = .ok (.ifCond .ne 13, 3) := by decide +kernel
theorem dX7_reading_39 : decode cX7_reading 39 = .ok (.iload 4, 2) := by decide +kernel
theorem dX7_reading_41 : decode cX7_reading 41 = .ok (.bipush (-9), 2) := by decide +kernel
theorem dX7_reading_43 : decode cX7_reading 43 = .ok (.if_icmp .eq 6, 3) := by decide +kernel
theorem dX7_reading_46 : decode cX7_reading 46 = .ok (.bipush (-2), 2) := by decide +kernel
theorem dX7_reading_48 : decode cX7_reading 48 = .ok (.ireturn, 1) := by decide +kernel
theorem dX7_reading_49 : decode cX7_reading 49 = .ok (.aload_n 0, 1) := by decide +kernel
theorem dX7_reading_50 : decode cX7_reading 50 = .ok (.getfield 55, 3) := by decide +kernel
theorem dX7_reading_53 : decode cX7_reading 53 = .ok (.iload_n 1, 1) := by decide +kernel
theorem dX7_reading_54 : decode cX7_reading 54 = .ok (.iload_n 2, 1) := by decide +kernel
theorem dX7_reading_55 : decode cX7_reading 55 = .ok (.iload_n 3, 1) := by decide +kernel
theorem dX7_reading_56 : decode cX7_reading 56 = .ok (.iload 4, 2) := by decide +kernel
theorem dX7_reading_58 : decode cX7_reading 58 = .ok (.invokevirtual 189, 3) := by decide +kernel
theorem dX7_reading_61 : decode cX7_reading 61 = .ok (.ireturn, 1) := by decide +kernel
theorem dX7_back_0 : decode cX7_back 0 = .ok (.iload_n 1, 1) := by decide +kernel
theorem dX7_back_1 : decode cX7_back 1 = .ok (.ifCond .lt 14, 3) := by decide +kernel
theorem dX7_back_4 : decode cX7_back 4 = .ok (.iload_n 1, 1) := by decide +kernel
theorem dX7_back_5 : decode cX7_back 5 = .ok (.aload_n 0, 1) := by decide +kernel
theorem dX7_back_6 : decode cX7_back 6 = .ok (.getfield 55, 3) := by decide +kernel
theorem dX7_back_9 : decode cX7_back 9 = .ok (.getfield 90, 3) := by decide +kernel
theorem dX7_back_12 : decode cX7_back 12 = .ok (.if_icmp .le 6, 3) := by decide +kernel
theorem dX7_back_15 : decode cX7_back 15 = .ok (.bipush (-2), 2) := by decide +kernel
theorem dX7_back_17 : decode cX7_back 17 = .ok (.ireturn, 1) := by decide +kernel
theorem dX7_back_18 : decode cX7_back 18 = .ok (.aload_n 0, 1) := by decide +kernel
theorem dX7_back_19 : decode cX7_back 19 = .ok (.getfield 55, 3) := by decide +kernel
theorem dX7_back_22 : decode cX7_back 22 = .ok (.dup, 1) := by decide +kernel
theorem dX7_back_23 : decode cX7_back 23 = .ok (.getfield 90, 3) := by decide +kernel
theorem dX7_back_26 : decode cX7_back 26 = .ok (.iload_n 1, 1) := by decide +kernel
theorem dX7_back_27 : decode cX7_back 27 = .ok (.isub, 1) := by decide +kernel
theorem dX7_back_28 : decode cX7_back 28 = .ok (.putfield 90, 3) := by decide +kernel
theorem dX7_back_31 : decode cX7_back 31 = .ok (.aload_n 0, 1) := by decide +kernel
theorem dX7_back_32 : decode cX7_back 32 = .ok (.getfield 55, 3) := by decide +kernel
theorem dX7_back_35 : decode cX7_back 35 = .ok (.getfield 90, 3) := by decide +kernel
theorem dX7_back_38 : decode cX7_back 38 = .ok (.ireturn, 1) := by decide +kernel
theorem dX7_kinds_0 : decode cX7_kinds 0 = .ok (.aload_n 0, 1) := by decide +kernel
theorem dX7_kinds_1 : decode cX7_kinds 1 = .ok (.getfield 20, 3) := by decide +kernel
theorem dX7_kinds_4 : decode cX7_kinds 4 = .ok (.iload_n 1, 1) := by decide +kernel
theorem dX7_kinds_5 : decode cX7_kinds 5 = .ok (.invokevirtual 96, 3) := by decide +kernel
theorem dX7_kinds_8 : decode cX7_kinds 8 = .ok (.ifCond .ne 5, 3) := by decide +kernel
theorem dX7_kinds_11 : decode cX7_kinds 11 = .ok (.iconst (-1), 1) := by decide +kernel
theorem dX7_kinds_12 : decode cX7_kinds 12 = .ok (.ireturn, 1) := by decide +kernel
theorem dX7_kinds_13 : decode cX7_kinds 13 = .ok (.aload_n 0, 1) := by decide +kernel
theorem dX7_kinds_14 : decode cX7_kinds 14 = .ok (.getfield 20, 3) := by decide +kernel
theorem dX7_kinds_17 : decode cX7_kinds 17 = .ok (.getfield 99, 3) := by decide +kernel
theorem dX7_kinds_20 : decode cX7_kinds 20 = .ok (.iload_n 1, 1) := by decide +kernel
