theorem dX0_init_0 : decode cX0_init 0 = .ok (.aload_n 0, 1) := by decide +kernel
theorem dX0_init_1 : decode cX0_init 1 = .ok (.invokespecial 3, 3) := by decide +kernel
theorem dX0_init_4 : decode cX0_init 4 = .ok (.aload_n 0, 1) := by decide +kernel
theorem dX0_init_5 : decode cX0_init 5 = .ok (.bipush 60, 2) := by decide +kernel
theorem dX0_init_7 : decode cX0_init 7 = .ok (.newarray .int, 2) := by decide +kernel
theorem dX0_init_9 : decode cX0_init 9 = .ok (.putfield 9, 3) := by decide +kernel
theorem dX0_init_12 : decode cX0_init 12 = .ok (.aload_n 0, 1) := by decide +kernel
theorem dX0_init_13 : decode cX0_init 13 = .ok (.iconst 0, 1) := by decide +kernel
theorem dX0_init_14 : decode cX0_init 14 = .ok (.putfield 15, 3) := by decide +kernel
theorem dX0_init_17 : decode cX0_init 17 = .ok (.return_, 1) := by decide +kernel
theorem dX0_append_0 : decode cX0_append 0 = .ok (.aload_n 0, 1) := by decide +kernel
theorem dX0_append_1 : decode cX0_append 1 = .ok (.getfield 15, 3) := by decide +kernel
theorem dX0_append_4 : decode cX0_append 4 = .ok (.ifCond .lt 35, 3) := by decide +kernel
theorem dX0_append_7 : decode cX0_append 7 = .ok (.aload_n 0, 1) := by decide +kernel
theorem dX0_append_8 : decode cX0_append 8 = .ok (.getfield 15, 3) := by decide +kernel
theorem dX0_append_11 : decode cX0_append 11 = .ok (.aload_n 0, 1) := by decide +kernel
theorem dX0_append_12 : decode cX0_append 12 = .ok (.getfield 9, 3) := by decide +kernel
theorem dX0_append_15 : decode cX0_append 15 = .ok (.arraylength, 1) := by decide +kernel
theorem dX0_append_16 : decode cX0_append 16 = .ok (.if_icmp .ge 23, 3) := by decide +kernel
theorem dX0_append_19 : decode cX0_append 19 = .ok (.aload_n 0, 1) := by decide +kernel
theorem dX0_append_20 : decode cX0_append 20 = .ok (.getfield 9, 3) := by decide +kernel
theorem dX0_append_23 : decode cX0_append 23 = .ok (.aload_n 0, 1) := by decide +kernel
theorem dX0_append_24 : decode cX0_append 24 = .ok (.getfield 15, 3) := by decide +kernel
theorem dX0_append_27 : decode cX0_append 27 = .ok (.iload_n 1, 1) := by decide +kernel
theorem dX0_append_28 : decode cX0_append 28 = .ok (.iastore, 1) := by decide +kernel
theorem dX0_append_29 : decode cX0_append 29 = .ok (.aload_n 0, 1) := by decide +kernel
theorem dX0_append_30 : decode cX0_append 30 = .ok (.dup, 1) := by decide +kernel
theorem dX0_append_31 : decode cX0_append 31 = .ok (.getfield 15, 3) := by decide +kernel
theorem dX0_append_34 : decode cX0_append 34 = .ok (.iconst 1, 1) := by decide +kernel
theorem dX0_append_35 : decode cX0_append 35 = .ok (.iadd, 1) := by decide +kernel
theorem dX0_append_36 : decode cX0_append 36 = .ok (.putfield 15, 3) := by decide +kernel
theorem dX0_append_39 : decode cX0_append 39 = .ok (.return_, 1) := by decide +kernel
theorem dX0_byteAt_0 : decode cX0_byteAt 0 = .ok (.iload_n 1, 1) := by decide +kernel
theorem dX0_byteAt_1 : decode cX0_byteAt 1 = .ok (.ifCond .lt 29, 3) := by decide +kernel
theorem dX0_byteAt_4 : decode cX0_byteAt 4 = .ok (.iload_n 1, 1) := by decide +kernel
theorem dX0_byteAt_5 : decode cX0_byteAt 5 = .ok (.aload_n 0, 1) := by decide +kernel
theorem dX0_byteAt_6 : decode cX0_byteAt 6 = .ok (.getfield 15, 3) := by decide +kernel
theorem dX0_byteAt_9 : decode cX0_byteAt 9 = .ok (.if_icmp .ge 21, 3) := by decide +kernel
theorem dX0_byteAt_12 : decode cX0_byteAt 12 = .ok (.iload_n 1, 1) := by decide +kernel
theorem dX0_byteAt_13 : decode cX0_byteAt 13 = .ok (.aload_n 0, 1) := by decide +kernel
theorem dX0_byteAt_14 : decode cX0_byteAt 14 = .ok (.getfield 9, 3) := by decide +kernel
theorem dX0_byteAt_17 : decode cX0_byteAt 17 = .ok (.arraylength, 1) := by decide +kernel
theorem dX0_byteAt_18 : decode cX0_byteAt 18 = .ok (.if_icmp .ge 12, 3) := by decide +kernel
theorem dX0_byteAt_21 : decode cX0_byteAt 21 = .ok (.aload_n 0, 1) := by decide +kernel
theorem dX0_byteAt_22 : decode cX0_byteAt 22 = .ok (.getfield 9, 3) := by decide +kernel
theorem dX0_byteAt_25 : decode cX0_byteAt 25 = .ok (.iload_n 1, 1) := by decide +kernel
theorem dX0_byteAt_26 : decode cX0_byteAt 26 = .ok (.iaload, 1) := by decide +kernel
theorem dX0_byteAt_27 : decode cX0_byteAt 27 = .ok (.goto 4, 3) := by decide +kernel
theorem dX0_byteAt_30 : decode cX0_byteAt 30 = .ok (.iconst 0, 1) := by decide +kernel
theorem dX0_byteAt_31 : decode cX0_byteAt 31 = .ok (.ireturn, 1) := by decide +kernel
theorem dX0_alikeFrom_0 : decode cX0_alikeFrom 0 = .ok (.aload_n 0, 1) := by decide +kernel
theorem dX0_alikeFrom_1 : decode cX0_alikeFrom 1 = .ok (.iload_n 1, 1) := by decide +kernel
theorem dX0_alikeFrom_2 : decode cX0_alikeFrom 2 = .ok (.invokevirtual 19, 3) := by decide +kernel
theorem dX0_alikeFrom_5 : decode cX0_alikeFrom 5 = .ok (.iload_n 2, 1) := by decide +kernel
theorem dX0_alikeFrom_6 : decode cX0_alikeFrom 6 = .ok (.if_icmp .eq 5, 3) := by decide +kernel
theorem dX0_alikeFrom_9 : decode cX0_alikeFrom 9 = .ok (.iconst 0, 1) := by decide +kernel
theorem dX0_alikeFrom_10 : decode cX0_alikeFrom 10 = .ok (.ireturn, 1) := by decide +kernel
theorem dX0_alikeFrom_11 : decode cX0_alikeFrom 11 = .ok (.aload_n 0, 1) := by decide +kernel
theorem dX0_alikeFrom_12 : decode cX0_alikeFrom 12 = .ok (.iload_n 1, 1) := by decide +kernel
theorem dX0_alikeFrom_13 : decode cX0_alikeFrom 13 = .ok (.iconst 1, 1) := by decide +kernel
theorem dX0_alikeFrom_14 : decode cX0_alikeFrom 14 = .ok (.iadd, 1) := by decide +kernel
theorem dX0_alikeFrom_15 : decode cX0_alikeFrom 15 = .ok (.invokevirtual 19, 3) := by decide +kernel
theorem dX0_alikeFrom_18 : decode cX0_alikeFrom 18 = .ok (.iload_n 2, 1) := by decide +kernel
theorem dX0_alikeFrom_19 : decode cX0_alikeFrom 19 = .ok (.if_icmp .ne 7, 3) := by decide +kernel
theorem dX0_alikeFrom_22 : decode cX0_alikeFrom 22 = .ok (.iconst 2, 1) := by decide +kernel
theorem dX0_alikeFrom_23 : decode cX0_alikeFrom 23 = .ok (.goto 4, 3) := by decide +kernel
theorem dX0_alikeFrom_26 : decode cX0_alikeFrom 26 = .ok (.iconst 1, 1) := by decide +kernel
theorem dX0_alikeFrom_27 : decode cX0_alikeFrom 27 = .ok (.ireturn, 1) := by decide +kernel
theorem dX0_readTerms_0 : decode cX0_readTerms 0 = .ok (.iconst 0, 1) := by decide +kernel
theorem dX0_readTerms_1 : decode cX0_readTerms 1 = .ok (.istore_n 2, 1) := by decide +kernel
theorem dX0_readTerms_2 : decode cX0_readTerms 2 = .ok (.iload_n 2, 1) := by decide +kernel
theorem dX0_readTerms_3 : decode cX0_readTerms 3 = .ok (.aload_n 1, 1) := by decide +kernel
theorem dX0_readTerms_4 : decode cX0_readTerms 4 = .ok (.arraylength, 1) := by decide +kernel
theorem dX0_readTerms_5 : decode cX0_readTerms 5 = .ok (.if_icmp .ge 13, 3) := by decide +kernel
theorem dX0_readTerms_8 : decode cX0_readTerms 8 = .ok (.aload_n 1, 1) := by decide +kernel
theorem dX0_readTerms_9 : decode cX0_readTerms 9 = .ok (.iload_n 2, 1) := by decide +kernel
theorem dX0_readTerms_10 : decode cX0_readTerms 10 = .ok (.iconst 0, 1) := by decide +kernel
theorem dX0_readTerms_11 : decode cX0_readTerms 11 = .ok (.iastore, 1) := by decide +kernel
theorem dX0_readTerms_12 : decode cX0_readTerms 12 = .ok (.iinc 2 1, 3) := by decide +kernel
theorem dX0_readTerms_15 : decode cX0_readTerms 15 = .ok (.goto (-13), 3) := by decide +kernel
theorem dX0_readTerms_18 : decode cX0_readTerms 18 = .ok (.iconst 0, 1) := by decide +kernel
theorem dX0_readTerms_19 : decode cX0_readTerms 19 = .ok (.istore_n 2, 1) := by decide +kernel
theorem dX0_readTerms_20 : decode cX0_readTerms 20 = .ok (.iconst 1, 1) := by decide +kernel
theorem dX0_readTerms_21 : decode cX0_readTerms 21 = .ok (.istore_n 3, 1) := by decide +kernel
theorem dX0_readTerms_22 : decode cX0_readTerms 22 = .ok (.iload_n 3, 1) := by decide +kernel
theorem dX0_readTerms_23 : decode cX0_readTerms 23 = .ok (.bipush 60, 2) := by decide +kernel
theorem dX0_readTerms_25 : decode cX0_readTerms 25 = .ok (.if_icmp .gt 157, 3) := by decide +kernel
theorem dX0_readTerms_28 : decode cX0_readTerms 28 = .ok (.aload_n 0, 1) := by decide +kernel
theorem dX0_readTerms_29 : decode cX0_readTerms 29 = .ok (.iload_n 2, 1) := by decide +kernel
theorem dX0_readTerms_30 : decode cX0_readTerms 30 = .ok (.invokevirtual 19, 3) := by decide +kernel
theorem dX0_readTerms_33 : decode cX0_readTerms 33 = .ok (.bipush 48, 2) := by decide +kernel
theorem dX0_readTerms_35 : decode cX0_readTerms 35 = .ok (.isub, 1) := by decide +kernel
theorem dX0_readTerms_36 : decode cX0_readTerms 36 = .ok (.istore 4, 2) := by decide +kernel
theorem dX0_readTerms_38 : decode cX0_readTerms 38 = .ok (.iload 4, 2) := by decide +kernel
theorem dX0_readTerms_40 : decode cX0_readTerms 40 = .ok (.iconst 1, 1) := by decide +kernel
theorem dX0_readTerms_41 : decode cX0_readTerms 41 = .ok (.if_icmp .lt 10, 3) := by decide +kernel
theorem dX0_readTerms_44 : decode cX0_readTerms 44 = .ok (.iload 4, 2) := by decide +kernel
theorem dX0_readTerms_46 : decode cX0_readTerms 46 = .ok (.bipush 9, 2) := by decide +kernel
theorem dX0_readTerms_48 : decode cX0_readTerms 48 = .ok (.if_icmp .le 8, 3) := by decide +kernel
theorem dX0_readTerms_51 : decode cX0_readTerms 51 = .ok (.bipush (-100), 2) := by decide +kernel
theorem dX0_readTerms_53 : decode cX0_readTerms 53 = .ok (.iload_n 2, 1) := by decide +kernel
theorem dX0_readTerms_54 : decode cX0_readTerms 54 = .ok (.isub, 1) := by decide +kernel
theorem dX0_readTerms_55 : decode cX0_readTerms 55 = .ok (.ireturn, 1) := by decide +kernel
theorem dX0_readTerms_56 : decode cX0_readTerms 56 = .ok (.iinc 2 1, 3) := by decide +kernel
theorem dX0_readTerms_59 : decode cX0_readTerms 59 = .ok (.aload_n 0, 1) := by decide +kernel
theorem dX0_readTerms_60 : decode cX0_readTerms 60 = .ok (.iload_n 2, 1) := by decide +kernel
theorem dX0_readTerms_61 : decode cX0_readTerms 61 = .ok (.invokevirtual 19, 3) := by decide +kernel
theorem dX0_readTerms_64 : decode cX0_readTerms 64 = .ok (.bipush 48, 2) := by decide +kernel
theorem dX0_readTerms_66 : decode cX0_readTerms 66 = .ok (.isub, 1) := by decide +kernel
theorem dX0_readTerms_67 : decode cX0_readTerms 67 = .ok (.istore 5, 2) := by decide +kernel
theorem dX0_readTerms_69 : decode cX0_readTerms 69 = .ok (.iload 5, 2) := by decide +kernel
theorem dX0_readTerms_71 : decode cX0_readTerms 71 = .ok (.ifCond .lt 36, 3) := by decide +kernel
theorem dX0_readTerms_74 : decode cX0_readTerms 74 = .ok (.iload 5, 2) := by decide +kernel
theorem dX0_readTerms_76 : decode cX0_readTerms 76 = .ok (.bipush 9, 2) := by decide +kernel
theorem dX0_readTerms_78 : decode cX0_readTerms 78 = .ok (.if_icmp .gt 29, 3) := by decide +kernel
theorem dX0_readTerms_81 : decode cX0_readTerms 81 = .ok (.bipush 10, 2) := by decide +kernel
theorem dX0_readTerms_83 : decode cX0_readTerms 83 = .ok (.iload 4, 2) := by decide +kernel
theorem dX0_readTerms_85 : decode cX0_readTerms 85 = .ok (.imul, 1) := by decide +kernel
theorem dX0_readTerms_86 : decode cX0_readTerms 86 = .ok (.iload 5, 2) := by decide +kernel
theorem dX0_readTerms_88 : decode cX0_readTerms 88 = .ok (.iadd, 1) := by decide +kernel
theorem dX0_readTerms_89 : decode cX0_readTerms 89 = .ok (.bipush 30, 2) := by decide +kernel
theorem dX0_readTerms_91 : decode cX0_readTerms 91 = .ok (.if_icmp .gt 16, 3) := by decide +kernel
theorem dX0_readTerms_94 : decode cX0_readTerms 94 = .ok (.bipush 10, 2) := by decide +kernel
theorem dX0_readTerms_96 : decode cX0_readTerms 96 = .ok (.iload 4, 2) := by decide +kernel
theorem dX0_readTerms_98 : decode cX0_readTerms 98 = .ok (.imul, 1) := by decide +kernel
theorem dX0_readTerms_99 : decode cX0_readTerms 99 = .ok (.iload 5, 2) := by decide +kernel
theorem dX0_readTerms_101 : decode cX0_readTerms 101 = .ok (.iadd, 1) := by decide +kernel
theorem dX0_readTerms_102 : decode cX0_readTerms 102 = .ok (.istore 4, 2) := by decide +kernel
theorem dX0_readTerms_104 : decode cX0_readTerms 104 = .ok (.iinc 2 1, 3) := by decide +kernel
theorem dX0_readTerms_107 : decode cX0_readTerms 107 = .ok (.aload_n 0, 1) := by decide +kernel
theorem dX0_readTerms_108 : decode cX0_readTerms 108 = .ok (.iload_n 2, 1) := by decide +kernel
theorem dX0_readTerms_109 : decode cX0_readTerms 109 = .ok (.bipush 120, 2) := by decide +kernel
theorem dX0_readTerms_111 : decode cX0_readTerms 111 = .ok (.invokevirtual 23, 3) := by decide +kernel
theorem dX0_readTerms_114 : decode cX0_readTerms 114 = .ok (.istore 6, 2) := by decide +kernel
theorem dX0_readTerms_116 : decode cX0_readTerms 116 = .ok (.iload_n 2, 1) := by decide +kernel
theorem dX0_readTerms_117 : decode cX0_readTerms 117 = .ok (.iload 6, 2) := by decide +kernel
theorem dX0_readTerms_119 : decode cX0_readTerms 119 = .ok (.iadd, 1) := by decide +kernel
theorem dX0_readTerms_120 : decode cX0_readTerms 120 = .ok (.istore_n 2, 1) := by decide +kernel
theorem dX0_readTerms_121 : decode cX0_readTerms 121 = .ok (.aload_n 0, 1) := by decide +kernel
theorem dX0_readTerms_122 : decode cX0_readTerms 122 = .ok (.iload_n 2, 1) := by decide +kernel
theorem dX0_readTerms_123 : decode cX0_readTerms 123 = .ok (.bipush 121, 2) := by decide +kernel
theorem dX0_readTerms_125 : decode cX0_readTerms 125 = .ok (.invokevirtual 23, 3) := by decide +kernel
theorem dX0_readTerms_128 : decode cX0_readTerms 128 = .ok (.istore 7, 2) := by decide +kernel
theorem dX0_readTerms_130 : decode cX0_readTerms 130 = .ok (.iload_n 2, 1) := by decide +kernel
theorem dX0_readTerms_131 : decode cX0_readTerms 131 = .ok (.iload 7, 2) := by decide +kernel
theorem dX0_readTerms_133 : decode cX0_readTerms 133 = .ok (.iadd, 1) := by decide +kernel
theorem dX0_readTerms_134 : decode cX0_readTerms 134 = .ok (.istore_n 2, 1) := by decide +kernel
theorem dX0_readTerms_135 : decode cX0_readTerms 135 = .ok (.aload_n 1, 1) := by decide +kernel
theorem dX0_readTerms_136 : decode cX0_readTerms 136 = .ok (.iconst 3, 1) := by decide +kernel
theorem dX0_readTerms_137 : decode cX0_readTerms 137 = .ok (.iload 6, 2) := by decide +kernel
theorem dX0_readTerms_139 : decode cX0_readTerms 139 = .ok (.imul, 1) := by decide +kernel
theorem dX0_readTerms_140 : decode cX0_readTerms 140 = .ok (.iload 7, 2) := by decide +kernel
theorem dX0_readTerms_142 : decode cX0_readTerms 142 = .ok (.iadd, 1) := by decide +kernel
theorem dX0_readTerms_143 : decode cX0_readTerms 143 = .ok (.iload 4, 2) := by decide +kernel
theorem dX0_readTerms_145 : decode cX0_readTerms 145 = .ok (.invokestatic 27, 3) := by decide +kernel
theorem dX0_readTerms_148 : decode cX0_readTerms 148 = .ok (.iload_n 2, 1) := by decide +kernel
theorem dX0_readTerms_149 : decode cX0_readTerms 149 = .ok (.aload_n 0, 1) := by decide +kernel
theorem dX0_readTerms_150 : decode cX0_readTerms 150 = .ok (.getfield 15, 3) := by decide +kernel
theorem dX0_readTerms_153 : decode cX0_readTerms 153 = .ok (.if_icmp .lt 5, 3) := by decide +kernel
theorem dX0_readTerms_156 : decode cX0_readTerms 156 = .ok (.iload_n 3, 1) := by decide +kernel
theorem dX0_readTerms_157 : decode cX0_readTerms 157 = .ok (.ireturn, 1) := by decide +kernel
theorem dX0_readTerms_158 : decode cX0_readTerms 158 = .ok (.aload_n 0, 1) := by decide +kernel
theorem dX0_readTerms_159 : decode cX0_readTerms 159 = .ok (.iload_n 2, 1) := by decide +kernel
theorem dX0_readTerms_160 : decode cX0_readTerms 160 = .ok (.invokevirtual 19, 3) := by decide +kernel
theorem dX0_readTerms_163 : decode cX0_readTerms 163 = .ok (.bipush 43, 2) := by decide +kernel
theorem dX0_readTerms_165 : decode cX0_readTerms 165 = .ok (.if_icmp .eq 8, 3) := by decide +kernel
theorem dX0_readTerms_168 : decode cX0_readTerms 168 = .ok (.bipush (-100), 2) := by decide +kernel
theorem dX0_readTerms_170 : decode cX0_readTerms 170 = .ok (.iload_n 2, 1) := by decide +kernel
theorem dX0_readTerms_171 : decode cX0_readTerms 171 = .ok (.isub, 1) := by decide +kernel
theorem dX0_readTerms_172 : decode cX0_readTerms 172 = .ok (.ireturn, 1) := by decide +kernel
theorem dX0_readTerms_173 : decode cX0_readTerms 173 = .ok (.iinc 2 1, 3) := by decide +kernel
theorem dX0_readTerms_176 : decode cX0_readTerms 176 = .ok (.iinc 3 1, 3) := by decide +kernel
theorem dX0_readTerms_179 : decode cX0_readTerms 179 = .ok (.goto (-157), 3) := by decide +kernel
theorem dX0_readTerms_182 : decode cX0_readTerms 182 = .ok (.bipush (-100), 2) := by decide +kernel
theorem dX0_readTerms_184 : decode cX0_readTerms 184 = .ok (.iload_n 2, 1) := by decide +kernel
theorem dX0_readTerms_185 : decode cX0_readTerms 185 = .ok (.isub, 1) := by decide +kernel
theorem dX0_readTerms_186 : decode cX0_readTerms 186 = .ok (.ireturn, 1) := by decide +kernel
theorem dX0_addTo_0 : decode cX0_addTo 0 = .ok (.iload_n 1, 1) := by decide +kernel
theorem dX0_addTo_1 : decode cX0_addTo 1 = .ok (.ifCond .lt 20, 3) := by decide +kernel
theorem dX0_addTo_4 : decode cX0_addTo 4 = .ok (.iload_n 1, 1) := by decide +kernel
theorem dX0_addTo_5 : decode cX0_addTo 5 = .ok (.aload_n 0, 1) := by decide +kernel
theorem dX0_addTo_6 : decode cX0_addTo 6 = .ok (.arraylength, 1) := by decide +kernel
theorem dX0_addTo_7 : decode cX0_addTo 7 = .ok (.if_icmp .ge 14, 3) := by decide +kernel
theorem dX0_addTo_10 : decode cX0_addTo 10 = .ok (.aload_n 0, 1) := by decide +kernel
theorem dX0_addTo_11 : decode cX0_addTo 11 = .ok (.iload_n 1, 1) := by decide +kernel
theorem dX0_addTo_12 : decode cX0_addTo 12 = .ok (.aload_n 0, 1) := by decide +kernel
theorem dX0_addTo_13 : decode cX0_addTo 13 = .ok (.iload_n 1, 1) := by decide +kernel
theorem dX0_addTo_14 : decode cX0_addTo 14 = .ok (.iaload, 1) := by decide +kernel
theorem dX0_addTo_15 : decode cX0_addTo 15 = .ok (.iload_n 2, 1) := by decide +kernel
theorem dX0_addTo_16 : decode cX0_addTo 16 = .ok (.iadd, 1) := by decide +kernel
theorem dX0_addTo_17 : decode cX0_addTo 17 = .ok (.invokestatic 31, 3) := by decide +kernel
theorem dX0_addTo_20 : decode cX0_addTo 20 = .ok (.iastore, 1) := by decide +kernel
theorem dX0_addTo_21 : decode cX0_addTo 21 = .ok (.return_, 1) := by decide +kernel
theorem dX0_writeTerms_0 : decode cX0_writeTerms 0 = .ok (.aload_n 0, 1) := by decide +kernel
theorem dX0_writeTerms_1 : decode cX0_writeTerms 1 = .ok (.iconst 0, 1) := by decide +kernel
theorem dX0_writeTerms_2 : decode cX0_writeTerms 2 = .ok (.putfield 15, 3) := by decide +kernel
theorem dX0_writeTerms_5 : decode cX0_writeTerms 5 = .ok (.iconst 2, 1) := by decide +kernel
theorem dX0_writeTerms_6 : decode cX0_writeTerms 6 = .ok (.istore_n 3, 1) := by decide +kernel
theorem dX0_writeTerms_7 : decode cX0_writeTerms 7 = .ok (.iload_n 3, 1) := by decide +kernel
theorem dX0_writeTerms_8 : decode cX0_writeTerms 8 = .ok (.ifCond .lt 47, 3) := by decide +kernel
theorem dX0_writeTerms_11 : decode cX0_writeTerms 11 = .ok (.iconst 2, 1) := by decide +kernel
theorem dX0_writeTerms_12 : decode cX0_writeTerms 12 = .ok (.istore 4, 2) := by decide +kernel
theorem dX0_writeTerms_14 : decode cX0_writeTerms 14 = .ok (.iload 4, 2) := by decide +kernel
theorem dX0_writeTerms_16 : decode cX0_writeTerms 16 = .ok (.ifCond .lt 33, 3) := by decide +kernel
theorem dX0_writeTerms_19 : decode cX0_writeTerms 19 = .ok (.aload_n 1, 1) := by decide +kernel
theorem dX0_writeTerms_20 : decode cX0_writeTerms 20 = .ok (.iload_n 2, 1) := by decide +kernel
theorem dX0_writeTerms_21 : decode cX0_writeTerms 21 = .ok (.iload_n 3, 1) := by decide +kernel
theorem dX0_writeTerms_22 : decode cX0_writeTerms 22 = .ok (.iload 4, 2) := by decide +kernel
theorem dX0_writeTerms_24 : decode cX0_writeTerms 24 = .ok (.invokevirtual 34, 3) := by decide +kernel
theorem dX0_writeTerms_27 : decode cX0_writeTerms 27 = .ok (.istore 5, 2) := by decide +kernel
theorem dX0_writeTerms_29 : decode cX0_writeTerms 29 = .ok (.iload 5, 2) := by decide +kernel
theorem dX0_writeTerms_31 : decode cX0_writeTerms 31 = .ok (.ifCond .le 12, 3) := by decide +kernel
theorem dX0_writeTerms_34 : decode cX0_writeTerms 34 = .ok (.aload_n 0, 1) := by decide +kernel
theorem dX0_writeTerms_35 : decode cX0_writeTerms 35 = .ok (.iload 5, 2) := by decide +kernel
theorem dX0_writeTerms_37 : decode cX0_writeTerms 37 = .ok (.iload_n 3, 1) := by decide +kernel
theorem dX0_writeTerms_38 : decode cX0_writeTerms 38 = .ok (.iload 4, 2) := by decide +kernel
theorem dX0_writeTerms_40 : decode cX0_writeTerms 40 = .ok (.invokevirtual 40, 3) := by decide +kernel
theorem dX0_writeTerms_43 : decode cX0_writeTerms 43 = .ok (.iinc 4 (-1), 3) := by decide +kernel
theorem dX0_writeTerms_46 : decode cX0_writeTerms 46 = .ok (.goto (-32), 3) := by decide +kernel
theorem dX0_writeTerms_49 : decode cX0_writeTerms 49 = .ok (.iinc 3 (-1), 3) := by decide +kernel
theorem dX0_writeTerms_52 : decode cX0_writeTerms 52 = .ok (.goto (-45), 3) := by decide +kernel
theorem dX0_writeTerms_55 : decode cX0_writeTerms 55 = .ok (.return_, 1) := by decide +kernel
theorem dX0_writeTerm_0 : decode cX0_writeTerm 0 = .ok (.aload_n 0, 1) := by decide +kernel
theorem dX0_writeTerm_1 : decode cX0_writeTerm 1 = .ok (.getfield 15, 3) := by decide +kernel
theorem dX0_writeTerm_4 : decode cX0_writeTerm 4 = .ok (.ifCond .le 9, 3) := by decide +kernel
theorem dX0_writeTerm_7 : decode cX0_writeTerm 7 = .ok (.aload_n 0, 1) := by decide +kernel
theorem dX0_writeTerm_8 : decode cX0_writeTerm 8 = .ok (.bipush 43, 2) := by decide +kernel
theorem dX0_writeTerm_10 : decode cX0_writeTerm 10 = .ok (.invokevirtual 44, 3) := by decide +kernel
theorem dX0_writeTerm_13 : decode cX0_writeTerm 13 = .ok (.iload_n 1, 1) := by decide +kernel
theorem dX0_writeTerm_14 : decode cX0_writeTerm 14 = .ok (.bipush 9, 2) := by decide +kernel
theorem dX0_writeTerm_16 : decode cX0_writeTerm 16 = .ok (.if_icmp .le 14, 3) := by decide +kernel
theorem dX0_writeTerm_19 : decode cX0_writeTerm 19 = .ok (.aload_n 0, 1) := by decide +kernel
theorem dX0_writeTerm_20 : decode cX0_writeTerm 20 = .ok (.bipush 48, 2) := by decide +kernel
theorem dX0_writeTerm_22 : decode cX0_writeTerm 22 = .ok (.iload_n 1, 1) := by decide +kernel
theorem dX0_writeTerm_23 : decode cX0_writeTerm 23 = .ok (.bipush 10, 2) := by decide +kernel
theorem dX0_writeTerm_25 : decode cX0_writeTerm 25 = .ok (.idiv, 1) := by decide +kernel
theorem dX0_writeTerm_26 : decode cX0_writeTerm 26 = .ok (.iadd, 1) := by decide +kernel
theorem dX0_writeTerm_27 : decode cX0_writeTerm 27 = .ok (.invokevirtual 44, 3) := by decide +kernel
theorem dX0_writeTerm_30 : decode cX0_writeTerm 30 = .ok (.aload_n 0, 1) := by decide +kernel
theorem dX0_writeTerm_31 : decode cX0_writeTerm 31 = .ok (.bipush 48, 2) := by decide +kernel
theorem dX0_writeTerm_33 : decode cX0_writeTerm 33 = .ok (.iload_n 1, 1) := by decide +kernel
theorem dX0_writeTerm_34 : decode cX0_writeTerm 34 = .ok (.bipush 10, 2) := by decide +kernel
theorem dX0_writeTerm_36 : decode cX0_writeTerm 36 = .ok (.irem, 1) := by decide +kernel
theorem dX0_writeTerm_37 : decode cX0_writeTerm 37 = .ok (.iadd, 1) := by decide +kernel
theorem dX0_writeTerm_38 : decode cX0_writeTerm 38 = .ok (.invokevirtual 44, 3) := by decide +kernel
theorem dX0_writeTerm_41 : decode cX0_writeTerm 41 = .ok (.iconst 0, 1) := by decide +kernel
theorem dX0_writeTerm_42 : decode cX0_writeTerm 42 = .ok (.istore 4, 2) := by decide +kernel
theorem dX0_writeTerm_44 : decode cX0_writeTerm 44 = .ok (.iload 4, 2) := by decide +kernel
theorem dX0_writeTerm_46 : decode cX0_writeTerm 46 = .ok (.iload_n 2, 1) := by decide +kernel
theorem dX0_writeTerm_47 : decode cX0_writeTerm 47 = .ok (.if_icmp .ge 15, 3) := by decide +kernel
theorem dX0_writeTerm_50 : decode cX0_writeTerm 50 = .ok (.aload_n 0, 1) := by decide +kernel
theorem dX0_writeTerm_51 : decode cX0_writeTerm 51 = .ok (.bipush 120, 2) := by decide +kernel
theorem dX0_writeTerm_53 : decode cX0_writeTerm 53 = .ok (.invokevirtual 44, 3) := by decide +kernel
theorem dX0_writeTerm_56 : decode cX0_writeTerm 56 = .ok (.iinc 4 1, 3) := by decide +kernel
theorem dX0_writeTerm_59 : decode cX0_writeTerm 59 = .ok (.goto (-15), 3) := by decide +kernel
theorem dX0_writeTerm_62 : decode cX0_writeTerm 62 = .ok (.iconst 0, 1) := by decide +kernel
theorem dX0_writeTerm_63 : decode cX0_writeTerm 63 = .ok (.istore 4, 2) := by decide +kernel
theorem dX0_writeTerm_65 : decode cX0_writeTerm 65 = .ok (.iload 4, 2) := by decide +kernel
theorem dX0_writeTerm_67 : decode cX0_writeTerm 67 = .ok (.iload_n 3, 1) := by decide +kernel
theorem dX0_writeTerm_68 : decode cX0_writeTerm 68 = .ok (.if_icmp .ge 15, 3) := by decide +kernel
theorem dX0_writeTerm_71 : decode cX0_writeTerm 71 = .ok (.aload_n 0, 1) := by decide +kernel
theorem dX0_writeTerm_72 : decode cX0_writeTerm 72 = .ok (.bipush 121, 2) := by decide +kernel
theorem dX0_writeTerm_74 : decode cX0_writeTerm 74 = .ok (.invokevirtual 44, 3) := by decide +kernel
theorem dX0_writeTerm_77 : decode cX0_writeTerm 77 = .ok (.iinc 4 1, 3) := by decide +kernel
theorem dX0_writeTerm_80 : decode cX0_writeTerm 80 = .ok (.goto (-15), 3) := by decide +kernel
theorem dX0_writeTerm_83 : decode cX0_writeTerm 83 = .ok (.return_, 1) := by decide +kernel
theorem dX1_init_0 : decode cX1_init 0 = .ok (.aload_n 0, 1) := by decide +kernel
theorem dX1_init_1 : decode cX1_init 1 = .ok (.invokespecial 3, 3) := by decide +kernel
theorem dX1_init_4 : decode cX1_init 4 = .ok (.aload_n 0, 1) := by decide +kernel
theorem dX1_init_5 : decode cX1_init 5 = .ok (.new 9, 3) := by decide +kernel
theorem dX1_init_8 : decode cX1_init 8 = .ok (.dup, 1) := by decide +kernel
theorem dX1_init_9 : decode cX1_init 9 = .ok (.invokespecial 11, 3) := by decide +kernel
theorem dX1_init_12 : decode cX1_init 12 = .ok (.putfield 12, 3) := by decide +kernel
theorem dX1_init_15 : decode cX1_init 15 = .ok (.aload_n 0, 1) := by decide +kernel
theorem dX1_init_16 : decode cX1_init 16 = .ok (.iconst 1, 1) := by decide +kernel
theorem dX1_init_17 : decode cX1_init 17 = .ok (.putfield 18, 3) := by decide +kernel
theorem dX1_init_20 : decode cX1_init 20 = .ok (.aload_n 0, 1) := by decide +kernel
theorem dX1_init_21 : decode cX1_init 21 = .ok (.iconst 0, 1) := by decide +kernel
theorem dX1_init_22 : decode cX1_init 22 = .ok (.putfield 22, 3) := by decide +kernel
theorem dX1_init_25 : decode cX1_init 25 = .ok (.aload_n 0, 1) := by decide +kernel
theorem dX1_init_26 : decode cX1_init 26 = .ok (.iconst 0, 1) := by decide +kernel
theorem dX1_init_27 : decode cX1_init 27 = .ok (.putfield 25, 3) := by decide +kernel
theorem dX1_init_30 : decode cX1_init 30 = .ok (.aload_n 0, 1) := by decide +kernel
theorem dX1_init_31 : decode cX1_init 31 = .ok (.sipush 192, 3) := by decide +kernel
theorem dX1_init_34 : decode cX1_init 34 = .ok (.newarray .int, 2) := by decide +kernel
theorem dX1_init_36 : decode cX1_init 36 = .ok (.putfield 28, 3) := by decide +kernel
theorem dX1_init_39 : decode cX1_init 39 = .ok (.aload_n 0, 1) := by decide +kernel
theorem dX1_init_40 : decode cX1_init 40 = .ok (.sipush 1024, 3) := by decide +kernel
theorem dX1_init_43 : decode cX1_init 43 = .ok (.newarray .int, 2) := by decide +kernel
theorem dX1_init_45 : decode cX1_init 45 = .ok (.putfield 32, 3) := by decide +kernel
theorem dX1_init_48 : decode cX1_init 48 = .ok (.aload_n 0, 1) := by decide +kernel
theorem dX1_init_49 : decode cX1_init 49 = .ok (.bipush 32, 2) := by decide +kernel
theorem dX1_init_51 : decode cX1_init 51 = .ok (.newarray .int, 2) := by decide +kernel
theorem dX1_init_53 : decode cX1_init 53 = .ok (.putfield 35, 3) := by decide +kernel
theorem dX1_init_56 : decode cX1_init 56 = .ok (.aload_n 0, 1) := by decide +kernel
theorem dX1_init_57 : decode cX1_init 57 = .ok (.sipush 1024, 3) := by decide +kernel
theorem dX1_init_60 : decode cX1_init 60 = .ok (.newarray .int, 2) := by decide +kernel
theorem dX1_init_62 : decode cX1_init 62 = .ok (.putfield 38, 3) := by decide +kernel
theorem dX1_init_65 : decode cX1_init 65 = .ok (.aload_n 0, 1) := by decide +kernel
theorem dX1_init_66 : decode cX1_init 66 = .ok (.sipush 1024, 3) := by decide +kernel
theorem dX1_init_69 : decode cX1_init 69 = .ok (.newarray .boolean, 2) := by decide +kernel
theorem dX1_init_71 : decode cX1_init 71 = .ok (.putfield 41, 3) := by decide +kernel
theorem dX1_init_74 : decode cX1_init 74 = .ok (.aload_n 0, 1) := by decide +kernel
theorem dX1_init_75 : decode cX1_init 75 = .ok (.sipush 1024, 3) := by decide +kernel
theorem dX1_init_78 : decode cX1_init 78 = .ok (.newarray .int, 2) := by decide +kernel
theorem dX1_init_80 : decode cX1_init 80 = .ok (.putfield 45, 3) := by decide +kernel
theorem dX1_init_83 : decode cX1_init 83 = .ok (.return_, 1) := by decide +kernel
theorem dX1_change_0 : decode cX1_change 0 = .ok (.aload_n 0, 1) := by decide +kernel
theorem dX1_change_1 : decode cX1_change 1 = .ok (.getfield 12, 3) := by decide +kernel
theorem dX1_change_4 : decode cX1_change 4 = .ok (.iload_n 1, 1) := by decide +kernel
theorem dX1_change_5 : decode cX1_change 5 = .ok (.iload_n 2, 1) := by decide +kernel
theorem dX1_change_6 : decode cX1_change 6 = .ok (.iload_n 3, 1) := by decide +kernel
theorem dX1_change_7 : decode cX1_change 7 = .ok (.iload 4, 2) := by decide +kernel
theorem dX1_change_9 : decode cX1_change 9 = .ok (.invokevirtual 48, 3) := by decide +kernel
theorem dX1_change_12 : decode cX1_change 12 = .ok (.aload_n 0, 1) := by decide +kernel
theorem dX1_change_13 : decode cX1_change 13 = .ok (.dup, 1) := by decide +kernel
theorem dX1_change_14 : decode cX1_change 14 = .ok (.getfield 18, 3) := by decide +kernel
theorem dX1_change_17 : decode cX1_change 17 = .ok (.iconst 1, 1) := by decide +kernel
theorem dX1_change_18 : decode cX1_change 18 = .ok (.iadd, 1) := by decide +kernel
theorem dX1_change_19 : decode cX1_change 19 = .ok (.putfield 18, 3) := by decide +kernel
theorem dX1_change_22 : decode cX1_change 22 = .ok (.return_, 1) := by decide +kernel
theorem dX1_changeAll_0 : decode cX1_changeAll 0 = .ok (.iconst 0, 1) := by decide +kernel
theorem dX1_changeAll_1 : decode cX1_changeAll 1 = .ok (.istore_n 3, 1) := by decide +kernel
theorem dX1_changeAll_2 : decode cX1_changeAll 2 = .ok (.iload_n 3, 1) := by decide +kernel
theorem dX1_changeAll_3 : decode cX1_changeAll 3 = .ok (.bipush 9, 2) := by decide +kernel
theorem dX1_changeAll_5 : decode cX1_changeAll 5 = .ok (.if_icmp .ge 32, 3) := by decide +kernel
theorem dX1_changeAll_8 : decode cX1_changeAll 8 = .ok (.iload_n 3, 1) := by decide +kernel
theorem dX1_changeAll_9 : decode cX1_changeAll 9 = .ok (.aload_n 2, 1) := by decide +kernel
theorem dX1_changeAll_10 : decode cX1_changeAll 10 = .ok (.arraylength, 1) := by decide +kernel
theorem dX1_changeAll_11 : decode cX1_changeAll 11 = .ok (.if_icmp .ge 26, 3) := by decide +kernel
theorem dX1_changeAll_14 : decode cX1_changeAll 14 = .ok (.aload_n 0, 1) := by decide +kernel
theorem dX1_changeAll_15 : decode cX1_changeAll 15 = .ok (.getfield 12, 3) := by decide +kernel
theorem dX1_changeAll_18 : decode cX1_changeAll 18 = .ok (.iload_n 1, 1) := by decide +kernel
theorem dX1_changeAll_19 : decode cX1_changeAll 19 = .ok (.iload_n 3, 1) := by decide +kernel
theorem dX1_changeAll_20 : decode cX1_changeAll 20 = .ok (.iconst 3, 1) := by decide +kernel
theorem dX1_changeAll_21 : decode cX1_changeAll 21 = .ok (.idiv, 1) := by decide +kernel
theorem dX1_changeAll_22 : decode cX1_changeAll 22 = .ok (.iload_n 3, 1) := by decide +kernel
theorem dX1_changeAll_23 : decode cX1_changeAll 23 = .ok (.iconst 3, 1) := by decide +kernel
theorem dX1_changeAll_24 : decode cX1_changeAll 24 = .ok (.irem, 1) := by decide +kernel
theorem dX1_changeAll_25 : decode cX1_changeAll 25 = .ok (.aload_n 2, 1) := by decide +kernel
theorem dX1_changeAll_26 : decode cX1_changeAll 26 = .ok (.iload_n 3, 1) := by decide +kernel
theorem dX1_changeAll_27 : decode cX1_changeAll 27 = .ok (.iaload, 1) := by decide +kernel
theorem dX1_changeAll_28 : decode cX1_changeAll 28 = .ok (.invokevirtual 48, 3) := by decide +kernel
theorem dX1_changeAll_31 : decode cX1_changeAll 31 = .ok (.iinc 3 1, 3) := by decide +kernel
theorem dX1_changeAll_34 : decode cX1_changeAll 34 = .ok (.goto (-32), 3) := by decide +kernel
theorem dX1_changeAll_37 : decode cX1_changeAll 37 = .ok (.aload_n 0, 1) := by decide +kernel
theorem dX1_changeAll_38 : decode cX1_changeAll 38 = .ok (.dup, 1) := by decide +kernel
theorem dX1_changeAll_39 : decode cX1_changeAll 39 = .ok (.getfield 18, 3) := by decide +kernel
theorem dX1_changeAll_42 : decode cX1_changeAll 42 = .ok (.iconst 1, 1) := by decide +kernel
theorem dX1_changeAll_43 : decode cX1_changeAll 43 = .ok (.iadd, 1) := by decide +kernel
theorem dX1_changeAll_44 : decode cX1_changeAll 44 = .ok (.putfield 18, 3) := by decide +kernel
theorem dX1_changeAll_47 : decode cX1_changeAll 47 = .ok (.return_, 1) := by decide +kernel
theorem dX1_changeBack_0 : decode cX1_changeBack 0 = .ok (.aload_n 0, 1) := by decide +kernel
theorem dX1_changeBack_1 : decode cX1_changeBack 1 = .ok (.getfield 12, 3) := by decide +kernel
theorem dX1_changeBack_4 : decode cX1_changeBack 4 = .ok (.aload_n 1, 1) := by decide +kernel
theorem dX1_changeBack_5 : decode cX1_changeBack 5 = .ok (.invokevirtual 52, 3) := by decide +kernel
theorem dX1_changeBack_8 : decode cX1_changeBack 8 = .ok (.aload_n 0, 1) := by decide +kernel
theorem dX1_changeBack_9 : decode cX1_changeBack 9 = .ok (.dup, 1) := by decide +kernel
theorem dX1_changeBack_10 : decode cX1_changeBack 10 = .ok (.getfield 18, 3) := by decide +kernel
theorem dX1_changeBack_13 : decode cX1_changeBack 13 = .ok (.iconst 1, 1) := by decide +kernel
theorem dX1_changeBack_14 : decode cX1_changeBack 14 = .ok (.iadd, 1) := by decide +kernel
theorem dX1_changeBack_15 : decode cX1_changeBack 15 = .ok (.putfield 18, 3) := by decide +kernel
theorem dX1_changeBack_18 : decode cX1_changeBack 18 = .ok (.return_, 1) := by decide +kernel
theorem dX1_learnRows_0 : decode cX1_learnRows 0 = .ok (.aload_n 0, 1) := by decide +kernel
theorem dX1_learnRows_1 : decode cX1_learnRows 1 = .ok (.getfield 22, 3) := by decide +kernel
theorem dX1_learnRows_4 : decode cX1_learnRows 4 = .ok (.aload_n 0, 1) := by decide +kernel
theorem dX1_learnRows_5 : decode cX1_learnRows 5 = .ok (.getfield 18, 3) := by decide +kernel
theorem dX1_learnRows_8 : decode cX1_learnRows 8 = .ok (.if_icmp .ne 4, 3) := by decide +kernel
theorem dX1_learnRows_11 : decode cX1_learnRows 11 = .ok (.return_, 1) := by decide +kernel
theorem dX1_learnRows_12 : decode cX1_learnRows 12 = .ok (.aload_n 0, 1) := by decide +kernel
theorem dX1_learnRows_13 : decode cX1_learnRows 13 = .ok (.aload_n 0, 1) := by decide +kernel
theorem dX1_learnRows_14 : decode cX1_learnRows 14 = .ok (.getfield 18, 3) := by decide +kernel
theorem dX1_learnRows_17 : decode cX1_learnRows 17 = .ok (.putfield 22, 3) := by decide +kernel
theorem dX1_learnRows_20 : decode cX1_learnRows 20 = .ok (.iconst 0, 1) := by decide +kernel
theorem dX1_learnRows_21 : decode cX1_learnRows 21 = .ok (.istore_n 1, 1) := by decide +kernel
theorem dX1_learnRows_22 : decode cX1_learnRows 22 = .ok (.iload_n 1, 1) := by decide +kernel
theorem dX1_learnRows_23 : decode cX1_learnRows 23 = .ok (.sipush 1024, 3) := by decide +kernel
theorem dX1_learnRows_26 : decode cX1_learnRows 26 = .ok (.if_icmp .ge 17, 3) := by decide +kernel
theorem dX1_learnRows_29 : decode cX1_learnRows 29 = .ok (.aload_n 0, 1) := by decide +kernel
theorem dX1_learnRows_30 : decode cX1_learnRows 30 = .ok (.getfield 38, 3) := by decide +kernel
theorem dX1_learnRows_33 : decode cX1_learnRows 33 = .ok (.iload_n 1, 1) := by decide +kernel
theorem dX1_learnRows_34 : decode cX1_learnRows 34 = .ok (.bipush (-100), 2) := by decide +kernel
theorem dX1_learnRows_36 : decode cX1_learnRows 36 = .ok (.iastore, 1) := by decide +kernel
theorem dX1_learnRows_37 : decode cX1_learnRows 37 = .ok (.iinc 1 1, 3) := by decide +kernel
theorem dX1_learnRows_40 : decode cX1_learnRows 40 = .ok (.goto (-18), 3) := by decide +kernel
theorem dX1_learnRows_43 : decode cX1_learnRows 43 = .ok (.iconst 0, 1) := by decide +kernel
theorem dX1_learnRows_44 : decode cX1_learnRows 44 = .ok (.istore_n 1, 1) := by decide +kernel
theorem dX1_learnRows_45 : decode cX1_learnRows 45 = .ok (.iload_n 1, 1) := by decide +kernel
theorem dX1_learnRows_46 : decode cX1_learnRows 46 = .ok (.bipush 64, 2) := by decide +kernel
theorem dX1_learnRows_48 : decode cX1_learnRows 48 = .ok (.if_icmp .ge 167, 3) := by decide +kernel
theorem dX1_learnRows_51 : decode cX1_learnRows 51 = .ok (.iload_n 1, 1) := by decide +kernel
theorem dX1_learnRows_52 : decode cX1_learnRows 52 = .ok (.bipush 32, 2) := by decide +kernel
theorem dX1_learnRows_54 : decode cX1_learnRows 54 = .ok (.idiv, 1) := by decide +kernel
theorem dX1_learnRows_55 : decode cX1_learnRows 55 = .ok (.istore_n 2, 1) := by decide +kernel
theorem dX1_learnRows_56 : decode cX1_learnRows 56 = .ok (.iload_n 1, 1) := by decide +kernel
theorem dX1_learnRows_57 : decode cX1_learnRows 57 = .ok (.bipush 32, 2) := by decide +kernel
theorem dX1_learnRows_59 : decode cX1_learnRows 59 = .ok (.irem, 1) := by decide +kernel
theorem dX1_learnRows_60 : decode cX1_learnRows 60 = .ok (.istore_n 3, 1) := by decide +kernel
theorem dX1_learnRows_61 : decode cX1_learnRows 61 = .ok (.aload_n 0, 1) := by decide +kernel
theorem dX1_learnRows_62 : decode cX1_learnRows 62 = .ok (.getfield 12, 3) := by decide +kernel
theorem dX1_learnRows_65 : decode cX1_learnRows 65 = .ok (.iload_n 2, 1) := by decide +kernel
theorem dX1_learnRows_66 : decode cX1_learnRows 66 = .ok (.iconst 0, 1) := by decide +kernel
theorem dX1_learnRows_67 : decode cX1_learnRows 67 = .ok (.iconst 0, 1) := by decide +kernel
theorem dX1_learnRows_68 : decode cX1_learnRows 68 = .ok (.iload_n 3, 1) := by decide +kernel
theorem dX1_learnRows_69 : decode cX1_learnRows 69 = .ok (.invokevirtual 56, 3) := by decide +kernel
theorem dX1_learnRows_72 : decode cX1_learnRows 72 = .ok (.istore 4, 2) := by decide +kernel
theorem dX1_learnRows_74 : decode cX1_learnRows 74 = .ok (.aload_n 0, 1) := by decide +kernel
theorem dX1_learnRows_75 : decode cX1_learnRows 75 = .ok (.getfield 12, 3) := by decide +kernel
theorem dX1_learnRows_78 : decode cX1_learnRows 78 = .ok (.iload_n 2, 1) := by decide +kernel
theorem dX1_learnRows_79 : decode cX1_learnRows 79 = .ok (.iconst 0, 1) := by decide +kernel
theorem dX1_learnRows_80 : decode cX1_learnRows 80 = .ok (.iconst 1, 1) := by decide +kernel
theorem dX1_learnRows_81 : decode cX1_learnRows 81 = .ok (.iload_n 3, 1) := by decide +kernel
theorem dX1_learnRows_82 : decode cX1_learnRows 82 = .ok (.invokevirtual 56, 3) := by decide +kernel
theorem dX1_learnRows_85 : decode cX1_learnRows 85 = .ok (.istore 5, 2) := by decide +kernel
theorem dX1_learnRows_87 : decode cX1_learnRows 87 = .ok (.aload_n 0, 1) := by decide +kernel
theorem dX1_learnRows_88 : decode cX1_learnRows 88 = .ok (.getfield 12, 3) := by decide +kernel
theorem dX1_learnRows_91 : decode cX1_learnRows 91 = .ok (.iload_n 2, 1) := by decide +kernel
theorem dX1_learnRows_92 : decode cX1_learnRows 92 = .ok (.iconst 0, 1) := by decide +kernel
theorem dX1_learnRows_93 : decode cX1_learnRows 93 = .ok (.iconst 2, 1) := by decide +kernel
theorem dX1_learnRows_94 : decode cX1_learnRows 94 = .ok (.iload_n 3, 1) := by decide +kernel
theorem dX1_learnRows_95 : decode cX1_learnRows 95 = .ok (.invokevirtual 56, 3) := by decide +kernel
theorem dX1_learnRows_98 : decode cX1_learnRows 98 = .ok (.istore 6, 2) := by decide +kernel
theorem dX1_learnRows_100 : decode cX1_learnRows 100 = .ok (.aload_n 0, 1) := by decide +kernel
theorem dX1_learnRows_101 : decode cX1_learnRows 101 = .ok (.getfield 12, 3) := by decide +kernel
theorem dX1_learnRows_104 : decode cX1_learnRows 104 = .ok (.iload_n 2, 1) := by decide +kernel
theorem dX1_learnRows_105 : decode cX1_learnRows 105 = .ok (.iconst 1, 1) := by decide +kernel
theorem dX1_learnRows_106 : decode cX1_learnRows 106 = .ok (.iconst 0, 1) := by decide +kernel
theorem dX1_learnRows_107 : decode cX1_learnRows 107 = .ok (.iload_n 3, 1) := by decide +kernel
theorem dX1_learnRows_108 : decode cX1_learnRows 108 = .ok (.invokevirtual 56, 3) := by decide +kernel
theorem dX1_learnRows_111 : decode cX1_learnRows 111 = .ok (.istore 7, 2) := by decide +kernel
theorem dX1_learnRows_113 : decode cX1_learnRows 113 = .ok (.aload_n 0, 1) := by decide +kernel
theorem dX1_learnRows_114 : decode cX1_learnRows 114 = .ok (.getfield 12, 3) := by decide +kernel
theorem dX1_learnRows_117 : decode cX1_learnRows 117 = .ok (.iload_n 2, 1) := by decide +kernel
theorem dX1_learnRows_118 : decode cX1_learnRows 118 = .ok (.iconst 1, 1) := by decide +kernel
theorem dX1_learnRows_119 : decode cX1_learnRows 119 = .ok (.iconst 1, 1) := by decide +kernel
theorem dX1_learnRows_120 : decode cX1_learnRows 120 = .ok (.iload_n 3, 1) := by decide +kernel
theorem dX1_learnRows_121 : decode cX1_learnRows 121 = .ok (.invokevirtual 56, 3) := by decide +kernel
theorem dX1_learnRows_124 : decode cX1_learnRows 124 = .ok (.istore 8, 2) := by decide +kernel
theorem dX1_learnRows_126 : decode cX1_learnRows 126 = .ok (.aload_n 0, 1) := by decide +kernel
theorem dX1_learnRows_127 : decode cX1_learnRows 127 = .ok (.getfield 12, 3) := by decide +kernel
theorem dX1_learnRows_130 : decode cX1_learnRows 130 = .ok (.iload_n 2, 1) := by decide +kernel
theorem dX1_learnRows_131 : decode cX1_learnRows 131 = .ok (.iconst 1, 1) := by decide +kernel
theorem dX1_learnRows_132 : decode cX1_learnRows 132 = .ok (.iconst 2, 1) := by decide +kernel
theorem dX1_learnRows_133 : decode cX1_learnRows 133 = .ok (.iload_n 3, 1) := by decide +kernel
theorem dX1_learnRows_134 : decode cX1_learnRows 134 = .ok (.invokevirtual 56, 3) := by decide +kernel
theorem dX1_learnRows_137 : decode cX1_learnRows 137 = .ok (.istore 9, 2) := by decide +kernel
theorem dX1_learnRows_139 : decode cX1_learnRows 139 = .ok (.aload_n 0, 1) := by decide +kernel
theorem dX1_learnRows_140 : decode cX1_learnRows 140 = .ok (.getfield 28, 3) := by decide +kernel
theorem dX1_learnRows_143 : decode cX1_learnRows 143 = .ok (.iconst 3, 1) := by decide +kernel
theorem dX1_learnRows_144 : decode cX1_learnRows 144 = .ok (.iload_n 1, 1) := by decide +kernel
theorem dX1_learnRows_145 : decode cX1_learnRows 145 = .ok (.imul, 1) := by decide +kernel
theorem dX1_learnRows_146 : decode cX1_learnRows 146 = .ok (.iload 6, 2) := by decide +kernel
theorem dX1_learnRows_148 : decode cX1_learnRows 148 = .ok (.iload 8, 2) := by decide +kernel
theorem dX1_learnRows_150 : decode cX1_learnRows 150 = .ok (.imul, 1) := by decide +kernel
theorem dX1_learnRows_151 : decode cX1_learnRows 151 = .ok (.iload 5, 2) := by decide +kernel
theorem dX1_learnRows_153 : decode cX1_learnRows 153 = .ok (.iload 9, 2) := by decide +kernel
theorem dX1_learnRows_155 : decode cX1_learnRows 155 = .ok (.imul, 1) := by decide +kernel
theorem dX1_learnRows_156 : decode cX1_learnRows 156 = .ok (.isub, 1) := by decide +kernel
theorem dX1_learnRows_157 : decode cX1_learnRows 157 = .ok (.invokestatic 60, 3) := by decide +kernel
theorem dX1_learnRows_160 : decode cX1_learnRows 160 = .ok (.iastore, 1) := by decide +kernel
theorem dX1_learnRows_161 : decode cX1_learnRows 161 = .ok (.aload_n 0, 1) := by decide +kernel
theorem dX1_learnRows_162 : decode cX1_learnRows 162 = .ok (.getfield 28, 3) := by decide +kernel
theorem dX1_learnRows_165 : decode cX1_learnRows 165 = .ok (.iconst 3, 1) := by decide +kernel
theorem dX1_learnRows_166 : decode cX1_learnRows 166 = .ok (.iload_n 1, 1) := by decide +kernel
theorem dX1_learnRows_167 : decode cX1_learnRows 167 = .ok (.imul, 1) := by decide +kernel
theorem dX1_learnRows_168 : decode cX1_learnRows 168 = .ok (.iconst 1, 1) := by decide +kernel
theorem dX1_learnRows_169 : decode cX1_learnRows 169 = .ok (.iadd, 1) := by decide +kernel
theorem dX1_learnRows_170 : decode cX1_learnRows 170 = .ok (.iload 6, 2) := by decide +kernel
theorem dX1_learnRows_172 : decode cX1_learnRows 172 = .ok (.iload 7, 2) := by decide +kernel
theorem dX1_learnRows_174 : decode cX1_learnRows 174 = .ok (.imul, 1) := by decide +kernel
theorem dX1_learnRows_175 : decode cX1_learnRows 175 = .ok (.iload 4, 2) := by decide +kernel
theorem dX1_learnRows_177 : decode cX1_learnRows 177 = .ok (.iload 9, 2) := by decide +kernel
theorem dX1_learnRows_179 : decode cX1_learnRows 179 = .ok (.imul, 1) := by decide +kernel
theorem dX1_learnRows_180 : decode cX1_learnRows 180 = .ok (.isub, 1) := by decide +kernel
theorem dX1_learnRows_181 : decode cX1_learnRows 181 = .ok (.invokestatic 60, 3) := by decide +kernel
theorem dX1_learnRows_184 : decode cX1_learnRows 184 = .ok (.iastore, 1) := by decide +kernel
theorem dX1_learnRows_185 : decode cX1_learnRows 185 = .ok (.aload_n 0, 1) := by decide +kernel
theorem dX1_learnRows_186 : decode cX1_learnRows 186 = .ok (.getfield 28, 3) := by decide +kernel
theorem dX1_learnRows_189 : decode cX1_learnRows 189 = .ok (.iconst 3, 1) := by decide +kernel
theorem dX1_learnRows_190 : decode cX1_learnRows 190 = .ok (.iload_n 1, 1) := by decide +kernel
theorem dX1_learnRows_191 : decode cX1_learnRows 191 = .ok (.imul, 1) := by decide +kernel
theorem dX1_learnRows_192 : decode cX1_learnRows 192 = .ok (.iconst 2, 1) := by decide +kernel
theorem dX1_learnRows_193 : decode cX1_learnRows 193 = .ok (.iadd, 1) := by decide +kernel
theorem dX1_learnRows_194 : decode cX1_learnRows 194 = .ok (.iload 5, 2) := by decide +kernel
theorem dX1_learnRows_196 : decode cX1_learnRows 196 = .ok (.iload 7, 2) := by decide +kernel
theorem dX1_learnRows_198 : decode cX1_learnRows 198 = .ok (.imul, 1) := by decide +kernel
theorem dX1_learnRows_199 : decode cX1_learnRows 199 = .ok (.iload 4, 2) := by decide +kernel
theorem dX1_learnRows_201 : decode cX1_learnRows 201 = .ok (.iload 8, 2) := by decide +kernel
theorem dX1_learnRows_203 : decode cX1_learnRows 203 = .ok (.imul, 1) := by decide +kernel
theorem dX1_learnRows_204 : decode cX1_learnRows 204 = .ok (.isub, 1) := by decide +kernel
theorem dX1_learnRows_205 : decode cX1_learnRows 205 = .ok (.invokestatic 60, 3) := by decide +kernel
theorem dX1_learnRows_208 : decode cX1_learnRows 208 = .ok (.iastore, 1) := by decide +kernel
theorem dX1_learnRows_209 : decode cX1_learnRows 209 = .ok (.iinc 1 1, 3) := by decide +kernel
theorem dX1_learnRows_212 : decode cX1_learnRows 212 = .ok (.goto (-167), 3) := by decide +kernel
theorem dX1_learnRows_215 : decode cX1_learnRows 215 = .ok (.return_, 1) := by decide +kernel
theorem dX1_knownRow_0 : decode cX1_knownRow 0 = .ok (.iload_n 1, 1) := by decide +kernel
theorem dX1_knownRow_1 : decode cX1_knownRow 1 = .ok (.bipush 32, 2) := by decide +kernel
theorem dX1_knownRow_3 : decode cX1_knownRow 3 = .ok (.imul, 1) := by decide +kernel
theorem dX1_knownRow_4 : decode cX1_knownRow 4 = .ok (.iload_n 2, 1) := by decide +kernel
theorem dX1_knownRow_5 : decode cX1_knownRow 5 = .ok (.iadd, 1) := by decide +kernel
theorem dX1_knownRow_6 : decode cX1_knownRow 6 = .ok (.iconst 3, 1) := by decide +kernel
theorem dX1_knownRow_7 : decode cX1_knownRow 7 = .ok (.imul, 1) := by decide +kernel
theorem dX1_knownRow_8 : decode cX1_knownRow 8 = .ok (.iload_n 3, 1) := by decide +kernel
theorem dX1_knownRow_9 : decode cX1_knownRow 9 = .ok (.iadd, 1) := by decide +kernel
theorem dX1_knownRow_10 : decode cX1_knownRow 10 = .ok (.istore 4, 2) := by decide +kernel
theorem dX1_knownRow_12 : decode cX1_knownRow 12 = .ok (.iload 4, 2) := by decide +kernel
theorem dX1_knownRow_14 : decode cX1_knownRow 14 = .ok (.ifCond .lt 23, 3) := by decide +kernel
theorem dX1_knownRow_17 : decode cX1_knownRow 17 = .ok (.iload 4, 2) := by decide +kernel
theorem dX1_knownRow_19 : decode cX1_knownRow 19 = .ok (.aload_n 0, 1) := by decide +kernel
theorem dX1_knownRow_20 : decode cX1_knownRow 20 = .ok (.getfield 28, 3) := by decide +kernel
theorem dX1_knownRow_23 : decode cX1_knownRow 23 = .ok (.arraylength, 1) := by decide +kernel
theorem dX1_knownRow_24 : decode cX1_knownRow 24 = .ok (.if_icmp .ge 13, 3) := by decide +kernel
theorem dX1_knownRow_27 : decode cX1_knownRow 27 = .ok (.aload_n 0, 1) := by decide +kernel
theorem dX1_knownRow_28 : decode cX1_knownRow 28 = .ok (.getfield 28, 3) := by decide +kernel
theorem dX1_knownRow_31 : decode cX1_knownRow 31 = .ok (.iload 4, 2) := by decide +kernel
theorem dX1_knownRow_33 : decode cX1_knownRow 33 = .ok (.iaload, 1) := by decide +kernel
theorem dX1_knownRow_34 : decode cX1_knownRow 34 = .ok (.goto 4, 3) := by decide +kernel
theorem dX1_knownRow_37 : decode cX1_knownRow 37 = .ok (.iconst 0, 1) := by decide +kernel
theorem dX1_knownRow_38 : decode cX1_knownRow 38 = .ok (.ireturn, 1) := by decide +kernel
theorem dX1_rowOf_0 : decode cX1_rowOf 0 = .ok (.aload_n 0, 1) := by decide +kernel
theorem dX1_rowOf_1 : decode cX1_rowOf 1 = .ok (.invokevirtual 64, 3) := by decide +kernel
theorem dX1_rowOf_4 : decode cX1_rowOf 4 = .ok (.aload_n 0, 1) := by decide +kernel
theorem dX1_rowOf_5 : decode cX1_rowOf 5 = .ok (.iload_n 1, 1) := by decide +kernel
theorem dX1_rowOf_6 : decode cX1_rowOf 6 = .ok (.iload_n 2, 1) := by decide +kernel
theorem dX1_rowOf_7 : decode cX1_rowOf 7 = .ok (.iload_n 3, 1) := by decide +kernel
theorem dX1_rowOf_8 : decode cX1_rowOf 8 = .ok (.invokevirtual 67, 3) := by decide +kernel
theorem dX1_rowOf_11 : decode cX1_rowOf 11 = .ok (.ireturn, 1) := by decide +kernel
theorem dX1_pinchedLines_0 : decode cX1_pinchedLines 0 = .ok (.aload_n 0, 1) := by decide +kernel
theorem dX1_pinchedLines_1 : decode cX1_pinchedLines 1 = .ok (.invokevirtual 64, 3) := by decide +kernel
theorem dX1_pinchedLines_4 : decode cX1_pinchedLines 4 = .ok (.lconst 0, 1) := by decide +kernel
theorem dX1_pinchedLines_5 : decode cX1_pinchedLines 5 = .ok (.lstore_n 2, 1) := by decide +kernel
theorem dX1_pinchedLines_6 : decode cX1_pinchedLines 6 = .ok (.iconst 0, 1) := by decide +kernel
theorem dX1_pinchedLines_7 : decode cX1_pinchedLines 7 = .ok (.istore 4, 2) := by decide +kernel
theorem dX1_pinchedLines_9 : decode cX1_pinchedLines 9 = .ok (.iload 4, 2) := by decide +kernel
theorem dX1_pinchedLines_11 : decode cX1_pinchedLines 11 = .ok (.bipush 32, 2) := by decide +kernel
theorem dX1_pinchedLines_13 : decode cX1_pinchedLines 13 = .ok (.if_icmp .ge 55, 3) := by decide +kernel
theorem dX1_pinchedLines_16 : decode cX1_pinchedLines 16 = .ok (.aload_n 0, 1) := by decide +kernel
theorem dX1_pinchedLines_17 : decode cX1_pinchedLines 17 = .ok (.iload_n 1, 1) := by decide +kernel
theorem dX1_pinchedLines_18 : decode cX1_pinchedLines 18 = .ok (.iload 4, 2) := by decide +kernel
theorem dX1_pinchedLines_20 : decode cX1_pinchedLines 20 = .ok (.iconst 1, 1) := by decide +kernel
theorem dX1_pinchedLines_21 : decode cX1_pinchedLines 21 = .ok (.invokevirtual 67, 3) := by decide +kernel
theorem dX1_pinchedLines_24 : decode cX1_pinchedLines 24 = .ok (.istore 5, 2) := by decide +kernel
theorem dX1_pinchedLines_26 : decode cX1_pinchedLines 26 = .ok (.iload 5, 2) := by decide +kernel
theorem dX1_pinchedLines_28 : decode cX1_pinchedLines 28 = .ok (.iload 5, 2) := by decide +kernel
theorem dX1_pinchedLines_30 : decode cX1_pinchedLines 30 = .ok (.imul, 1) := by decide +kernel
theorem dX1_pinchedLines_31 : decode cX1_pinchedLines 31 = .ok (.aload_n 0, 1) := by decide +kernel
theorem dX1_pinchedLines_32 : decode cX1_pinchedLines 32 = .ok (.iload_n 1, 1) := by decide +kernel
theorem dX1_pinchedLines_33 : decode cX1_pinchedLines 33 = .ok (.iload 4, 2) := by decide +kernel
theorem dX1_pinchedLines_35 : decode cX1_pinchedLines 35 = .ok (.iconst 0, 1) := by decide +kernel
theorem dX1_pinchedLines_36 : decode cX1_pinchedLines 36 = .ok (.invokevirtual 67, 3) := by decide +kernel
theorem dX1_pinchedLines_39 : decode cX1_pinchedLines 39 = .ok (.aload_n 0, 1) := by decide +kernel
theorem dX1_pinchedLines_40 : decode cX1_pinchedLines 40 = .ok (.iload_n 1, 1) := by decide +kernel
theorem dX1_pinchedLines_41 : decode cX1_pinchedLines 41 = .ok (.iload 4, 2) := by decide +kernel
theorem dX1_pinchedLines_43 : decode cX1_pinchedLines 43 = .ok (.iconst 2, 1) := by decide +kernel
theorem dX1_pinchedLines_44 : decode cX1_pinchedLines 44 = .ok (.invokevirtual 67, 3) := by decide +kernel
theorem dX1_pinchedLines_47 : decode cX1_pinchedLines 47 = .ok (.imul, 1) := by decide +kernel
theorem dX1_pinchedLines_48 : decode cX1_pinchedLines 48 = .ok (.isub, 1) := by decide +kernel
theorem dX1_pinchedLines_49 : decode cX1_pinchedLines 49 = .ok (.invokestatic 60, 3) := by decide +kernel
theorem dX1_pinchedLines_52 : decode cX1_pinchedLines 52 = .ok (.ifCond .ne 10, 3) := by decide +kernel
theorem dX1_pinchedLines_55 : decode cX1_pinchedLines 55 = .ok (.lload_n 2, 1) := by decide +kernel
theorem dX1_pinchedLines_56 : decode cX1_pinchedLines 56 = .ok (.lconst 1, 1) := by decide +kernel
theorem dX1_pinchedLines_57 : decode cX1_pinchedLines 57 = .ok (.iload 4, 2) := by decide +kernel
theorem dX1_pinchedLines_59 : decode cX1_pinchedLines 59 = .ok (.lshl, 1) := by decide +kernel
theorem dX1_pinchedLines_60 : decode cX1_pinchedLines 60 = .ok (.lor, 1) := by decide +kernel
theorem dX1_pinchedLines_61 : decode cX1_pinchedLines 61 = .ok (.lstore_n 2, 1) := by decide +kernel
theorem dX1_pinchedLines_62 : decode cX1_pinchedLines 62 = .ok (.iinc 4 1, 3) := by decide +kernel
theorem dX1_pinchedLines_65 : decode cX1_pinchedLines 65 = .ok (.goto (-56), 3) := by decide +kernel
theorem dX1_pinchedLines_68 : decode cX1_pinchedLines 68 = .ok (.lload_n 2, 1) := by decide +kernel
theorem dX1_pinchedLines_69 : decode cX1_pinchedLines 69 = .ok (.lreturn, 1) := by decide +kernel
theorem dX1_swapOf_0 : decode cX1_swapOf 0 = .ok (.aload_n 0, 1) := by decide +kernel
theorem dX1_swapOf_1 : decode cX1_swapOf 1 = .ok (.invokevirtual 64, 3) := by decide +kernel
theorem dX1_swapOf_4 : decode cX1_swapOf 4 = .ok (.aload_n 0, 1) := by decide +kernel
theorem dX1_swapOf_5 : decode cX1_swapOf 5 = .ok (.iload_n 1, 1) := by decide +kernel
theorem dX1_swapOf_6 : decode cX1_swapOf 6 = .ok (.iload_n 2, 1) := by decide +kernel
theorem dX1_swapOf_7 : decode cX1_swapOf 7 = .ok (.iload_n 3, 1) := by decide +kernel
theorem dX1_swapOf_8 : decode cX1_swapOf 8 = .ok (.invokevirtual 71, 3) := by decide +kernel
theorem dX1_swapOf_11 : decode cX1_swapOf 11 = .ok (.ireturn, 1) := by decide +kernel
theorem dX1_knownSwap_0 : decode cX1_knownSwap 0 = .ok (.aload_n 0, 1) := by decide +kernel
theorem dX1_knownSwap_1 : decode cX1_knownSwap 1 = .ok (.iload_n 1, 1) := by decide +kernel
theorem dX1_knownSwap_2 : decode cX1_knownSwap 2 = .ok (.iload_n 3, 1) := by decide +kernel
theorem dX1_knownSwap_3 : decode cX1_knownSwap 3 = .ok (.iconst 0, 1) := by decide +kernel
theorem dX1_knownSwap_4 : decode cX1_knownSwap 4 = .ok (.invokevirtual 67, 3) := by decide +kernel
theorem dX1_knownSwap_7 : decode cX1_knownSwap 7 = .ok (.istore 4, 2) := by decide +kernel
theorem dX1_knownSwap_9 : decode cX1_knownSwap 9 = .ok (.aload_n 0, 1) := by decide +kernel
theorem dX1_knownSwap_10 : decode cX1_knownSwap 10 = .ok (.iload_n 1, 1) := by decide +kernel
theorem dX1_knownSwap_11 : decode cX1_knownSwap 11 = .ok (.iload_n 3, 1) := by decide +kernel
theorem dX1_knownSwap_12 : decode cX1_knownSwap 12 = .ok (.iconst 1, 1) := by decide +kernel
theorem dX1_knownSwap_13 : decode cX1_knownSwap 13 = .ok (.invokevirtual 67, 3) := by decide +kernel
theorem dX1_knownSwap_16 : decode cX1_knownSwap 16 = .ok (.istore 5, 2) := by decide +kernel
theorem dX1_knownSwap_18 : decode cX1_knownSwap 18 = .ok (.aload_n 0, 1) := by decide +kernel
theorem dX1_knownSwap_19 : decode cX1_knownSwap 19 = .ok (.iload_n 1, 1) := by decide +kernel
theorem dX1_knownSwap_20 : decode cX1_knownSwap 20 = .ok (.iload_n 3, 1) := by decide +kernel
theorem dX1_knownSwap_21 : decode cX1_knownSwap 21 = .ok (.iconst 2, 1) := by decide +kernel
theorem dX1_knownSwap_22 : decode cX1_knownSwap 22 = .ok (.invokevirtual 67, 3) := by decide +kernel
theorem dX1_knownSwap_25 : decode cX1_knownSwap 25 = .ok (.istore 6, 2) := by decide +kernel
theorem dX1_knownSwap_27 : decode cX1_knownSwap 27 = .ok (.iload_n 2, 1) := by decide +kernel
theorem dX1_knownSwap_28 : decode cX1_knownSwap 28 = .ok (.bipush 31, 2) := by decide +kernel
theorem dX1_knownSwap_30 : decode cX1_knownSwap 30 = .ok (.if_icmp .ne 14, 3) := by decide +kernel
theorem dX1_knownSwap_33 : decode cX1_knownSwap 33 = .ok (.iload 5, 2) := by decide +kernel
theorem dX1_knownSwap_35 : decode cX1_knownSwap 35 = .ok (.ineg, 1) := by decide +kernel
theorem dX1_knownSwap_36 : decode cX1_knownSwap 36 = .ok (.iload 4, 2) := by decide +kernel
theorem dX1_knownSwap_38 : decode cX1_knownSwap 38 = .ok (.invokestatic 74, 3) := by decide +kernel
theorem dX1_knownSwap_41 : decode cX1_knownSwap 41 = .ok (.goto 21, 3) := by decide +kernel
theorem dX1_knownSwap_44 : decode cX1_knownSwap 44 = .ok (.iload 5, 2) := by decide +kernel
theorem dX1_knownSwap_46 : decode cX1_knownSwap 46 = .ok (.iload_n 2, 1) := by decide +kernel
theorem dX1_knownSwap_47 : decode cX1_knownSwap 47 = .ok (.imul, 1) := by decide +kernel
theorem dX1_knownSwap_48 : decode cX1_knownSwap 48 = .ok (.iload 6, 2) := by decide +kernel
theorem dX1_knownSwap_50 : decode cX1_knownSwap 50 = .ok (.iadd, 1) := by decide +kernel
theorem dX1_knownSwap_51 : decode cX1_knownSwap 51 = .ok (.ineg, 1) := by decide +kernel
theorem dX1_knownSwap_52 : decode cX1_knownSwap 52 = .ok (.iload 4, 2) := by decide +kernel
theorem dX1_knownSwap_54 : decode cX1_knownSwap 54 = .ok (.iload_n 2, 1) := by decide +kernel
theorem dX1_knownSwap_55 : decode cX1_knownSwap 55 = .ok (.imul, 1) := by decide +kernel
theorem dX1_knownSwap_56 : decode cX1_knownSwap 56 = .ok (.iload 5, 2) := by decide +kernel
theorem dX1_knownSwap_58 : decode cX1_knownSwap 58 = .ok (.iadd, 1) := by decide +kernel
theorem dX1_knownSwap_59 : decode cX1_knownSwap 59 = .ok (.invokestatic 74, 3) := by decide +kernel
theorem dX1_knownSwap_62 : decode cX1_knownSwap 62 = .ok (.istore 7, 2) := by decide +kernel
theorem dX1_knownSwap_64 : decode cX1_knownSwap 64 = .ok (.iload 7, 2) := by decide +kernel
theorem dX1_knownSwap_66 : decode cX1_knownSwap 66 = .ok (.bipush (-6), 2) := by decide +kernel
theorem dX1_knownSwap_68 : decode cX1_knownSwap 68 = .ok (.if_icmp .ne 8, 3) := by decide +kernel
theorem dX1_knownSwap_71 : decode cX1_knownSwap 71 = .ok (.bipush (-7), 2) := by decide +kernel
theorem dX1_knownSwap_73 : decode cX1_knownSwap 73 = .ok (.goto 5, 3) := by decide +kernel
theorem dX1_knownSwap_76 : decode cX1_knownSwap 76 = .ok (.iload 7, 2) := by decide +kernel
theorem dX1_knownSwap_78 : decode cX1_knownSwap 78 = .ok (.ireturn, 1) := by decide +kernel
theorem dX1_stepFrom_0 : decode cX1_stepFrom 0 = .ok (.iload_n 1, 1) := by decide +kernel
theorem dX1_stepFrom_1 : decode cX1_stepFrom 1 = .ok (.ifCond .lt 10, 3) := by decide +kernel
theorem dX1_stepFrom_4 : decode cX1_stepFrom 4 = .ok (.iload_n 1, 1) := by decide +kernel
theorem dX1_stepFrom_5 : decode cX1_stepFrom 5 = .ok (.sipush 1024, 3) := by decide +kernel
theorem dX1_stepFrom_8 : decode cX1_stepFrom 8 = .ok (.if_icmp .lt 6, 3) := by decide +kernel
theorem dX1_stepFrom_11 : decode cX1_stepFrom 11 = .ok (.bipush (-7), 2) := by decide +kernel
theorem dX1_stepFrom_13 : decode cX1_stepFrom 13 = .ok (.ireturn, 1) := by decide +kernel
theorem dX1_stepFrom_14 : decode cX1_stepFrom 14 = .ok (.aload_n 0, 1) := by decide +kernel
theorem dX1_stepFrom_15 : decode cX1_stepFrom 15 = .ok (.invokevirtual 64, 3) := by decide +kernel
theorem dX1_stepFrom_18 : decode cX1_stepFrom 18 = .ok (.aload_n 0, 1) := by decide +kernel
theorem dX1_stepFrom_19 : decode cX1_stepFrom 19 = .ok (.getfield 38, 3) := by decide +kernel
theorem dX1_stepFrom_22 : decode cX1_stepFrom 22 = .ok (.iload_n 1, 1) := by decide +kernel
theorem dX1_stepFrom_23 : decode cX1_stepFrom 23 = .ok (.iaload, 1) := by decide +kernel
theorem dX1_stepFrom_24 : decode cX1_stepFrom 24 = .ok (.bipush (-100), 2) := by decide +kernel
theorem dX1_stepFrom_26 : decode cX1_stepFrom 26 = .ok (.if_icmp .ne 62, 3) := by decide +kernel
theorem dX1_stepFrom_29 : decode cX1_stepFrom 29 = .ok (.aload_n 0, 1) := by decide +kernel
theorem dX1_stepFrom_30 : decode cX1_stepFrom 30 = .ok (.iconst 0, 1) := by decide +kernel
theorem dX1_stepFrom_31 : decode cX1_stepFrom 31 = .ok (.iload_n 1, 1) := by decide +kernel
theorem dX1_stepFrom_32 : decode cX1_stepFrom 32 = .ok (.bipush 32, 2) := by decide +kernel
theorem dX1_stepFrom_34 : decode cX1_stepFrom 34 = .ok (.idiv, 1) := by decide +kernel
theorem dX1_stepFrom_35 : decode cX1_stepFrom 35 = .ok (.iload_n 1, 1) := by decide +kernel
theorem dX1_stepFrom_36 : decode cX1_stepFrom 36 = .ok (.bipush 32, 2) := by decide +kernel
theorem dX1_stepFrom_38 : decode cX1_stepFrom 38 = .ok (.irem, 1) := by decide +kernel
theorem dX1_stepFrom_39 : decode cX1_stepFrom 39 = .ok (.invokevirtual 71, 3) := by decide +kernel
theorem dX1_stepFrom_42 : decode cX1_stepFrom 42 = .ok (.istore_n 2, 1) := by decide +kernel
theorem dX1_stepFrom_43 : decode cX1_stepFrom 43 = .ok (.iload_n 2, 1) := by decide +kernel
theorem dX1_stepFrom_44 : decode cX1_stepFrom 44 = .ok (.bipush (-7), 2) := by decide +kernel
theorem dX1_stepFrom_46 : decode cX1_stepFrom 46 = .ok (.if_icmp .ne 8, 3) := by decide +kernel
theorem dX1_stepFrom_49 : decode cX1_stepFrom 49 = .ok (.bipush (-7), 2) := by decide +kernel
theorem dX1_stepFrom_51 : decode cX1_stepFrom 51 = .ok (.goto 13, 3) := by decide +kernel
theorem dX1_stepFrom_54 : decode cX1_stepFrom 54 = .ok (.aload_n 0, 1) := by decide +kernel
theorem dX1_stepFrom_55 : decode cX1_stepFrom 55 = .ok (.iconst 1, 1) := by decide +kernel
theorem dX1_stepFrom_56 : decode cX1_stepFrom 56 = .ok (.iload_n 1, 1) := by decide +kernel
theorem dX1_stepFrom_57 : decode cX1_stepFrom 57 = .ok (.bipush 32, 2) := by decide +kernel
theorem dX1_stepFrom_59 : decode cX1_stepFrom 59 = .ok (.irem, 1) := by decide +kernel
theorem dX1_stepFrom_60 : decode cX1_stepFrom 60 = .ok (.iload_n 2, 1) := by decide +kernel
theorem dX1_stepFrom_61 : decode cX1_stepFrom 61 = .ok (.invokevirtual 71, 3) := by decide +kernel
theorem dX1_stepFrom_64 : decode cX1_stepFrom 64 = .ok (.istore_n 3, 1) := by decide +kernel
theorem dX1_stepFrom_65 : decode cX1_stepFrom 65 = .ok (.aload_n 0, 1) := by decide +kernel
theorem dX1_stepFrom_66 : decode cX1_stepFrom 66 = .ok (.getfield 38, 3) := by decide +kernel
theorem dX1_stepFrom_69 : decode cX1_stepFrom 69 = .ok (.iload_n 1, 1) := by decide +kernel
theorem dX1_stepFrom_70 : decode cX1_stepFrom 70 = .ok (.iload_n 3, 1) := by decide +kernel
theorem dX1_stepFrom_71 : decode cX1_stepFrom 71 = .ok (.bipush (-7), 2) := by decide +kernel
theorem dX1_stepFrom_73 : decode cX1_stepFrom 73 = .ok (.if_icmp .ne 8, 3) := by decide +kernel
theorem dX1_stepFrom_76 : decode cX1_stepFrom 76 = .ok (.bipush (-7), 2) := by decide +kernel
theorem dX1_stepFrom_78 : decode cX1_stepFrom 78 = .ok (.goto 9, 3) := by decide +kernel
theorem dX1_stepFrom_81 : decode cX1_stepFrom 81 = .ok (.iload_n 2, 1) := by decide +kernel
theorem dX1_stepFrom_82 : decode cX1_stepFrom 82 = .ok (.bipush 32, 2) := by decide +kernel
theorem dX1_stepFrom_84 : decode cX1_stepFrom 84 = .ok (.imul, 1) := by decide +kernel
theorem dX1_stepFrom_85 : decode cX1_stepFrom 85 = .ok (.iload_n 3, 1) := by decide +kernel
theorem dX1_stepFrom_86 : decode cX1_stepFrom 86 = .ok (.iadd, 1) := by decide +kernel
theorem dX1_stepFrom_87 : decode cX1_stepFrom 87 = .ok (.iastore, 1) := by decide +kernel
theorem dX1_stepFrom_88 : decode cX1_stepFrom 88 = .ok (.aload_n 0, 1) := by decide +kernel
theorem dX1_stepFrom_89 : decode cX1_stepFrom 89 = .ok (.getfield 38, 3) := by decide +kernel
theorem dX1_stepFrom_92 : decode cX1_stepFrom 92 = .ok (.iload_n 1, 1) := by decide +kernel
theorem dX1_stepFrom_93 : decode cX1_stepFrom 93 = .ok (.iaload, 1) := by decide +kernel
theorem dX1_stepFrom_94 : decode cX1_stepFrom 94 = .ok (.ireturn, 1) := by decide +kernel
theorem dX1_stepBackFrom_0 : decode cX1_stepBackFrom 0 = .ok (.iload_n 1, 1) := by decide +kernel
theorem dX1_stepBackFrom_1 : decode cX1_stepBackFrom 1 = .ok (.ifCond .lt 10, 3) := by decide +kernel
theorem dX1_stepBackFrom_4 : decode cX1_stepBackFrom 4 = .ok (.iload_n 1, 1) := by decide +kernel
theorem dX1_stepBackFrom_5 : decode cX1_stepBackFrom 5 = .ok (.sipush 1024, 3) := by decide +kernel
theorem dX1_stepBackFrom_8 : decode cX1_stepBackFrom 8 = .ok (.if_icmp .lt 6, 3) := by decide +kernel
theorem dX1_stepBackFrom_11 : decode cX1_stepBackFrom 11 = .ok (.bipush (-7), 2) := by decide +kernel
theorem dX1_stepBackFrom_13 : decode cX1_stepBackFrom 13 = .ok (.ireturn, 1) := by decide +kernel
theorem dX1_stepBackFrom_14 : decode cX1_stepBackFrom 14 = .ok (.aload_n 0, 1) := by decide +kernel
theorem dX1_stepBackFrom_15 : decode cX1_stepBackFrom 15 = .ok (.invokevirtual 64, 3) := by decide +kernel
theorem dX1_stepBackFrom_18 : decode cX1_stepBackFrom 18 = .ok (.aload_n 0, 1) := by decide +kernel
theorem dX1_stepBackFrom_19 : decode cX1_stepBackFrom 19 = .ok (.iconst 1, 1) := by decide +kernel
theorem dX1_stepBackFrom_20 : decode cX1_stepBackFrom 20 = .ok (.iload_n 1, 1) := by decide +kernel
theorem dX1_stepBackFrom_21 : decode cX1_stepBackFrom 21 = .ok (.bipush 32, 2) := by decide +kernel
theorem dX1_stepBackFrom_23 : decode cX1_stepBackFrom 23 = .ok (.irem, 1) := by decide +kernel
theorem dX1_stepBackFrom_24 : decode cX1_stepBackFrom 24 = .ok (.iload_n 1, 1) := by decide +kernel
theorem dX1_stepBackFrom_25 : decode cX1_stepBackFrom 25 = .ok (.bipush 32, 2) := by decide +kernel
theorem dX1_stepBackFrom_27 : decode cX1_stepBackFrom 27 = .ok (.idiv, 1) := by decide +kernel
theorem dX1_stepBackFrom_28 : decode cX1_stepBackFrom 28 = .ok (.invokevirtual 71, 3) := by decide +kernel
theorem dX1_stepBackFrom_31 : decode cX1_stepBackFrom 31 = .ok (.istore_n 2, 1) := by decide +kernel
theorem dX1_stepBackFrom_32 : decode cX1_stepBackFrom 32 = .ok (.iload_n 2, 1) := by decide +kernel
theorem dX1_stepBackFrom_33 : decode cX1_stepBackFrom 33 = .ok (.bipush (-7), 2) := by decide +kernel
theorem dX1_stepBackFrom_35 : decode cX1_stepBackFrom 35 = .ok (.if_icmp .ne 8, 3) := by decide +kernel
theorem dX1_stepBackFrom_38 : decode cX1_stepBackFrom 38 = .ok (.bipush (-7), 2) := by decide +kernel
theorem dX1_stepBackFrom_40 : decode cX1_stepBackFrom 40 = .ok (.goto 13, 3) := by decide +kernel
theorem dX1_stepBackFrom_43 : decode cX1_stepBackFrom 43 = .ok (.aload_n 0, 1) := by decide +kernel
theorem dX1_stepBackFrom_44 : decode cX1_stepBackFrom 44 = .ok (.iconst 0, 1) := by decide +kernel
theorem dX1_stepBackFrom_45 : decode cX1_stepBackFrom 45 = .ok (.iload_n 1, 1) := by decide +kernel
theorem dX1_stepBackFrom_46 : decode cX1_stepBackFrom 46 = .ok (.bipush 32, 2) := by decide +kernel
theorem dX1_stepBackFrom_48 : decode cX1_stepBackFrom 48 = .ok (.idiv, 1) := by decide +kernel
theorem dX1_stepBackFrom_49 : decode cX1_stepBackFrom 49 = .ok (.iload_n 2, 1) := by decide +kernel
theorem dX1_stepBackFrom_50 : decode cX1_stepBackFrom 50 = .ok (.invokevirtual 71, 3) := by decide +kernel
theorem dX1_stepBackFrom_53 : decode cX1_stepBackFrom 53 = .ok (.istore_n 3, 1) := by decide +kernel
theorem dX1_stepBackFrom_54 : decode cX1_stepBackFrom 54 = .ok (.iload_n 3, 1) := by decide +kernel
theorem dX1_stepBackFrom_55 : decode cX1_stepBackFrom 55 = .ok (.bipush (-7), 2) := by decide +kernel
theorem dX1_stepBackFrom_57 : decode cX1_stepBackFrom 57 = .ok (.if_icmp .ne 8, 3) := by decide +kernel
theorem dX1_stepBackFrom_60 : decode cX1_stepBackFrom 60 = .ok (.bipush (-7), 2) := by decide +kernel
theorem dX1_stepBackFrom_62 : decode cX1_stepBackFrom 62 = .ok (.goto 9, 3) := by decide +kernel
theorem dX1_stepBackFrom_65 : decode cX1_stepBackFrom 65 = .ok (.iload_n 3, 1) := by decide +kernel
theorem dX1_stepBackFrom_66 : decode cX1_stepBackFrom 66 = .ok (.bipush 32, 2) := by decide +kernel
theorem dX1_stepBackFrom_68 : decode cX1_stepBackFrom 68 = .ok (.imul, 1) := by decide +kernel
theorem dX1_stepBackFrom_69 : decode cX1_stepBackFrom 69 = .ok (.iload_n 2, 1) := by decide +kernel
theorem dX1_stepBackFrom_70 : decode cX1_stepBackFrom 70 = .ok (.iadd, 1) := by decide +kernel
theorem dX1_stepBackFrom_71 : decode cX1_stepBackFrom 71 = .ok (.ireturn, 1) := by decide +kernel
theorem dX1_walk_0 : decode cX1_walk 0 = .ok (.iload_n 1, 1) := by decide +kernel
theorem dX1_walk_1 : decode cX1_walk 1 = .ok (.istore_n 3, 1) := by decide +kernel
theorem dX1_walk_2 : decode cX1_walk 2 = .ok (.iconst 0, 1) := by decide +kernel
theorem dX1_walk_3 : decode cX1_walk 3 = .ok (.istore 4, 2) := by decide +kernel
theorem dX1_walk_5 : decode cX1_walk 5 = .ok (.iload 4, 2) := by decide +kernel
theorem dX1_walk_7 : decode cX1_walk 7 = .ok (.iload_n 2, 1) := by decide +kernel
theorem dX1_walk_8 : decode cX1_walk 8 = .ok (.if_icmp .ge 15, 3) := by decide +kernel
theorem dX1_walk_11 : decode cX1_walk 11 = .ok (.aload_n 0, 1) := by decide +kernel
theorem dX1_walk_12 : decode cX1_walk 12 = .ok (.iload_n 3, 1) := by decide +kernel
theorem dX1_walk_13 : decode cX1_walk 13 = .ok (.invokevirtual 78, 3) := by decide +kernel
theorem dX1_walk_16 : decode cX1_walk 16 = .ok (.istore_n 3, 1) := by decide +kernel
theorem dX1_walk_17 : decode cX1_walk 17 = .ok (.iinc 4 1, 3) := by decide +kernel
theorem dX1_walk_20 : decode cX1_walk 20 = .ok (.goto (-15), 3) := by decide +kernel
theorem dX1_walk_23 : decode cX1_walk 23 = .ok (.iload_n 3, 1) := by decide +kernel
theorem dX1_walk_24 : decode cX1_walk 24 = .ok (.ireturn, 1) := by decide +kernel
theorem dX1_walkBack_0 : decode cX1_walkBack 0 = .ok (.iload_n 1, 1) := by decide +kernel
theorem dX1_walkBack_1 : decode cX1_walkBack 1 = .ok (.istore_n 3, 1) := by decide +kernel
theorem dX1_walkBack_2 : decode cX1_walkBack 2 = .ok (.iconst 0, 1) := by decide +kernel
theorem dX1_walkBack_3 : decode cX1_walkBack 3 = .ok (.istore 4, 2) := by decide +kernel
theorem dX1_walkBack_5 : decode cX1_walkBack 5 = .ok (.iload 4, 2) := by decide +kernel
theorem dX1_walkBack_7 : decode cX1_walkBack 7 = .ok (.iload_n 2, 1) := by decide +kernel
theorem dX1_walkBack_8 : decode cX1_walkBack 8 = .ok (.if_icmp .ge 15, 3) := by decide +kernel
theorem dX1_walkBack_11 : decode cX1_walkBack 11 = .ok (.aload_n 0, 1) := by decide +kernel
theorem dX1_walkBack_12 : decode cX1_walkBack 12 = .ok (.iload_n 3, 1) := by decide +kernel
theorem dX1_walkBack_13 : decode cX1_walkBack 13 = .ok (.invokevirtual 81, 3) := by decide +kernel
theorem dX1_walkBack_16 : decode cX1_walkBack 16 = .ok (.istore_n 3, 1) := by decide +kernel
theorem dX1_walkBack_17 : decode cX1_walkBack 17 = .ok (.iinc 4 1, 3) := by decide +kernel
theorem dX1_walkBack_20 : decode cX1_walkBack 20 = .ok (.goto (-15), 3) := by decide +kernel
theorem dX1_walkBack_23 : decode cX1_walkBack 23 = .ok (.iload_n 3, 1) := by decide +kernel
theorem dX1_walkBack_24 : decode cX1_walkBack 24 = .ok (.ireturn, 1) := by decide +kernel
theorem dX1_periodOf_0 : decode cX1_periodOf 0 = .ok (.iload_n 1, 1) := by decide +kernel
theorem dX1_periodOf_1 : decode cX1_periodOf 1 = .ok (.istore_n 2, 1) := by decide +kernel
theorem dX1_periodOf_2 : decode cX1_periodOf 2 = .ok (.iconst 1, 1) := by decide +kernel
theorem dX1_periodOf_3 : decode cX1_periodOf 3 = .ok (.istore_n 3, 1) := by decide +kernel
theorem dX1_periodOf_4 : decode cX1_periodOf 4 = .ok (.iload_n 3, 1) := by decide +kernel
theorem dX1_periodOf_5 : decode cX1_periodOf 5 = .ok (.sipush 1024, 3) := by decide +kernel
theorem dX1_periodOf_8 : decode cX1_periodOf 8 = .ok (.if_icmp .gt 31, 3) := by decide +kernel
theorem dX1_periodOf_11 : decode cX1_periodOf 11 = .ok (.aload_n 0, 1) := by decide +kernel
theorem dX1_periodOf_12 : decode cX1_periodOf 12 = .ok (.iload_n 2, 1) := by decide +kernel
theorem dX1_periodOf_13 : decode cX1_periodOf 13 = .ok (.invokevirtual 78, 3) := by decide +kernel
theorem dX1_periodOf_16 : decode cX1_periodOf 16 = .ok (.istore_n 2, 1) := by decide +kernel
theorem dX1_periodOf_17 : decode cX1_periodOf 17 = .ok (.iload_n 2, 1) := by decide +kernel
theorem dX1_periodOf_18 : decode cX1_periodOf 18 = .ok (.bipush (-7), 2) := by decide +kernel
theorem dX1_periodOf_20 : decode cX1_periodOf 20 = .ok (.if_icmp .ne 6, 3) := by decide +kernel
theorem dX1_periodOf_23 : decode cX1_periodOf 23 = .ok (.bipush (-7), 2) := by decide +kernel
theorem dX1_periodOf_25 : decode cX1_periodOf 25 = .ok (.ireturn, 1) := by decide +kernel
theorem dX1_periodOf_26 : decode cX1_periodOf 26 = .ok (.iload_n 2, 1) := by decide +kernel
theorem dX1_periodOf_27 : decode cX1_periodOf 27 = .ok (.iload_n 1, 1) := by decide +kernel
theorem dX1_periodOf_28 : decode cX1_periodOf 28 = .ok (.if_icmp .ne 5, 3) := by decide +kernel
theorem dX1_periodOf_31 : decode cX1_periodOf 31 = .ok (.iload_n 3, 1) := by decide +kernel
theorem dX1_periodOf_32 : decode cX1_periodOf 32 = .ok (.ireturn, 1) := by decide +kernel
theorem dX1_periodOf_33 : decode cX1_periodOf 33 = .ok (.iinc 3 1, 3) := by decide +kernel
theorem dX1_periodOf_36 : decode cX1_periodOf 36 = .ok (.goto (-32), 3) := by decide +kernel
theorem dX1_periodOf_39 : decode cX1_periodOf 39 = .ok (.bipush (-5), 2) := by decide +kernel
theorem dX1_periodOf_41 : decode cX1_periodOf 41 = .ok (.ireturn, 1) := by decide +kernel
theorem dX1_learnKept_0 : decode cX1_learnKept 0 = .ok (.aload_n 0, 1) := by decide +kernel
theorem dX1_learnKept_1 : decode cX1_learnKept 1 = .ok (.getfield 25, 3) := by decide +kernel
theorem dX1_learnKept_4 : decode cX1_learnKept 4 = .ok (.aload_n 0, 1) := by decide +kernel
theorem dX1_learnKept_5 : decode cX1_learnKept 5 = .ok (.getfield 18, 3) := by decide +kernel
theorem dX1_learnKept_8 : decode cX1_learnKept 8 = .ok (.if_icmp .ne 4, 3) := by decide +kernel
theorem dX1_learnKept_11 : decode cX1_learnKept 11 = .ok (.return_, 1) := by decide +kernel
theorem dX1_learnKept_12 : decode cX1_learnKept 12 = .ok (.aload_n 0, 1) := by decide +kernel
theorem dX1_learnKept_13 : decode cX1_learnKept 13 = .ok (.aload_n 0, 1) := by decide +kernel
theorem dX1_learnKept_14 : decode cX1_learnKept 14 = .ok (.getfield 18, 3) := by decide +kernel
theorem dX1_learnKept_17 : decode cX1_learnKept 17 = .ok (.putfield 25, 3) := by decide +kernel
theorem dX1_learnKept_20 : decode cX1_learnKept 20 = .ok (.iconst 0, 1) := by decide +kernel
theorem dX1_learnKept_21 : decode cX1_learnKept 21 = .ok (.istore_n 1, 1) := by decide +kernel
theorem dX1_learnKept_22 : decode cX1_learnKept 22 = .ok (.iload_n 1, 1) := by decide +kernel
theorem dX1_learnKept_23 : decode cX1_learnKept 23 = .ok (.bipush 32, 2) := by decide +kernel
theorem dX1_learnKept_25 : decode cX1_learnKept 25 = .ok (.if_icmp .ge 16, 3) := by decide +kernel
theorem dX1_learnKept_28 : decode cX1_learnKept 28 = .ok (.aload_n 0, 1) := by decide +kernel
theorem dX1_learnKept_29 : decode cX1_learnKept 29 = .ok (.getfield 35, 3) := by decide +kernel
theorem dX1_learnKept_32 : decode cX1_learnKept 32 = .ok (.iload_n 1, 1) := by decide +kernel
theorem dX1_learnKept_33 : decode cX1_learnKept 33 = .ok (.iconst 0, 1) := by decide +kernel
theorem dX1_learnKept_34 : decode cX1_learnKept 34 = .ok (.iastore, 1) := by decide +kernel
theorem dX1_learnKept_35 : decode cX1_learnKept 35 = .ok (.iinc 1 1, 3) := by decide +kernel
theorem dX1_learnKept_38 : decode cX1_learnKept 38 = .ok (.goto (-16), 3) := by decide +kernel
theorem dX1_learnKept_41 : decode cX1_learnKept 41 = .ok (.iconst 0, 1) := by decide +kernel
theorem dX1_learnKept_42 : decode cX1_learnKept 42 = .ok (.istore_n 1, 1) := by decide +kernel
theorem dX1_learnKept_43 : decode cX1_learnKept 43 = .ok (.iload_n 1, 1) := by decide +kernel
theorem dX1_learnKept_44 : decode cX1_learnKept 44 = .ok (.bipush 32, 2) := by decide +kernel
theorem dX1_learnKept_46 : decode cX1_learnKept 46 = .ok (.if_icmp .ge 163, 3) := by decide +kernel
theorem dX1_learnKept_49 : decode cX1_learnKept 49 = .ok (.aload_n 0, 1) := by decide +kernel
theorem dX1_learnKept_50 : decode cX1_learnKept 50 = .ok (.getfield 12, 3) := by decide +kernel
theorem dX1_learnKept_53 : decode cX1_learnKept 53 = .ok (.iconst 0, 1) := by decide +kernel
theorem dX1_learnKept_54 : decode cX1_learnKept 54 = .ok (.iconst 0, 1) := by decide +kernel
theorem dX1_learnKept_55 : decode cX1_learnKept 55 = .ok (.iconst 0, 1) := by decide +kernel
theorem dX1_learnKept_56 : decode cX1_learnKept 56 = .ok (.iload_n 1, 1) := by decide +kernel
theorem dX1_learnKept_57 : decode cX1_learnKept 57 = .ok (.invokevirtual 56, 3) := by decide +kernel
theorem dX1_learnKept_60 : decode cX1_learnKept 60 = .ok (.istore_n 2, 1) := by decide +kernel
theorem dX1_learnKept_61 : decode cX1_learnKept 61 = .ok (.aload_n 0, 1) := by decide +kernel
theorem dX1_learnKept_62 : decode cX1_learnKept 62 = .ok (.getfield 12, 3) := by decide +kernel
theorem dX1_learnKept_65 : decode cX1_learnKept 65 = .ok (.iconst 0, 1) := by decide +kernel
theorem dX1_learnKept_66 : decode cX1_learnKept 66 = .ok (.iconst 0, 1) := by decide +kernel
theorem dX1_learnKept_67 : decode cX1_learnKept 67 = .ok (.iconst 1, 1) := by decide +kernel
theorem dX1_learnKept_68 : decode cX1_learnKept 68 = .ok (.iload_n 1, 1) := by decide +kernel
theorem dX1_learnKept_69 : decode cX1_learnKept 69 = .ok (.invokevirtual 56, 3) := by decide +kernel
theorem dX1_learnKept_72 : decode cX1_learnKept 72 = .ok (.istore_n 3, 1) := by decide +kernel
theorem dX1_learnKept_73 : decode cX1_learnKept 73 = .ok (.aload_n 0, 1) := by decide +kernel
theorem dX1_learnKept_74 : decode cX1_learnKept 74 = .ok (.getfield 12, 3) := by decide +kernel
theorem dX1_learnKept_77 : decode cX1_learnKept 77 = .ok (.iconst 0, 1) := by decide +kernel
theorem dX1_learnKept_78 : decode cX1_learnKept 78 = .ok (.iconst 0, 1) := by decide +kernel
theorem dX1_learnKept_79 : decode cX1_learnKept 79 = .ok (.iconst 2, 1) := by decide +kernel
theorem dX1_learnKept_80 : decode cX1_learnKept 80 = .ok (.iload_n 1, 1) := by decide +kernel
theorem dX1_learnKept_81 : decode cX1_learnKept 81 = .ok (.invokevirtual 56, 3) := by decide +kernel
theorem dX1_learnKept_84 : decode cX1_learnKept 84 = .ok (.istore 4, 2) := by decide +kernel
theorem dX1_learnKept_86 : decode cX1_learnKept 86 = .ok (.aload_n 0, 1) := by decide +kernel
theorem dX1_learnKept_87 : decode cX1_learnKept 87 = .ok (.getfield 12, 3) := by decide +kernel
theorem dX1_learnKept_90 : decode cX1_learnKept 90 = .ok (.iconst 0, 1) := by decide +kernel
theorem dX1_learnKept_91 : decode cX1_learnKept 91 = .ok (.iconst 1, 1) := by decide +kernel
theorem dX1_learnKept_92 : decode cX1_learnKept 92 = .ok (.iconst 0, 1) := by decide +kernel
theorem dX1_learnKept_93 : decode cX1_learnKept 93 = .ok (.iload_n 1, 1) := by decide +kernel
theorem dX1_learnKept_94 : decode cX1_learnKept 94 = .ok (.invokevirtual 56, 3) := by decide +kernel
theorem dX1_learnKept_97 : decode cX1_learnKept 97 = .ok (.istore 5, 2) := by decide +kernel
theorem dX1_learnKept_99 : decode cX1_learnKept 99 = .ok (.aload_n 0, 1) := by decide +kernel
theorem dX1_learnKept_100 : decode cX1_learnKept 100 = .ok (.getfield 12, 3) := by decide +kernel
theorem dX1_learnKept_103 : decode cX1_learnKept 103 = .ok (.iconst 0, 1) := by decide +kernel
theorem dX1_learnKept_104 : decode cX1_learnKept 104 = .ok (.iconst 1, 1) := by decide +kernel
theorem dX1_learnKept_105 : decode cX1_learnKept 105 = .ok (.iconst 1, 1) := by decide +kernel
theorem dX1_learnKept_106 : decode cX1_learnKept 106 = .ok (.iload_n 1, 1) := by decide +kernel
theorem dX1_learnKept_107 : decode cX1_learnKept 107 = .ok (.invokevirtual 56, 3) := by decide +kernel
theorem dX1_learnKept_110 : decode cX1_learnKept 110 = .ok (.istore 6, 2) := by decide +kernel
theorem dX1_learnKept_112 : decode cX1_learnKept 112 = .ok (.aload_n 0, 1) := by decide +kernel
theorem dX1_learnKept_113 : decode cX1_learnKept 113 = .ok (.getfield 12, 3) := by decide +kernel
theorem dX1_learnKept_116 : decode cX1_learnKept 116 = .ok (.iconst 0, 1) := by decide +kernel
theorem dX1_learnKept_117 : decode cX1_learnKept 117 = .ok (.iconst 1, 1) := by decide +kernel
theorem dX1_learnKept_118 : decode cX1_learnKept 118 = .ok (.iconst 2, 1) := by decide +kernel
theorem dX1_learnKept_119 : decode cX1_learnKept 119 = .ok (.iload_n 1, 1) := by decide +kernel
theorem dX1_learnKept_120 : decode cX1_learnKept 120 = .ok (.invokevirtual 56, 3) := by decide +kernel
theorem dX1_learnKept_123 : decode cX1_learnKept 123 = .ok (.istore 7, 2) := by decide +kernel
theorem dX1_learnKept_125 : decode cX1_learnKept 125 = .ok (.iconst 0, 1) := by decide +kernel
theorem dX1_learnKept_126 : decode cX1_learnKept 126 = .ok (.istore 8, 2) := by decide +kernel
theorem dX1_learnKept_128 : decode cX1_learnKept 128 = .ok (.iload 8, 2) := by decide +kernel
theorem dX1_learnKept_130 : decode cX1_learnKept 130 = .ok (.bipush 32, 2) := by decide +kernel
theorem dX1_learnKept_132 : decode cX1_learnKept 132 = .ok (.if_icmp .ge 71, 3) := by decide +kernel
theorem dX1_learnKept_135 : decode cX1_learnKept 135 = .ok (.iload_n 2, 1) := by decide +kernel
theorem dX1_learnKept_136 : decode cX1_learnKept 136 = .ok (.iload_n 3, 1) := by decide +kernel
theorem dX1_learnKept_137 : decode cX1_learnKept 137 = .ok (.iload 4, 2) := by decide +kernel
theorem dX1_learnKept_139 : decode cX1_learnKept 139 = .ok (.iload 8, 2) := by decide +kernel
theorem dX1_learnKept_141 : decode cX1_learnKept 141 = .ok (.invokestatic 84, 3) := by decide +kernel
theorem dX1_learnKept_144 : decode cX1_learnKept 144 = .ok (.iload 5, 2) := by decide +kernel
theorem dX1_learnKept_146 : decode cX1_learnKept 146 = .ok (.iload 6, 2) := by decide +kernel
theorem dX1_learnKept_148 : decode cX1_learnKept 148 = .ok (.iload 7, 2) := by decide +kernel
theorem dX1_learnKept_150 : decode cX1_learnKept 150 = .ok (.iload 8, 2) := by decide +kernel
theorem dX1_learnKept_152 : decode cX1_learnKept 152 = .ok (.invokestatic 84, 3) := by decide +kernel
theorem dX1_learnKept_155 : decode cX1_learnKept 155 = .ok (.invokestatic 74, 3) := by decide +kernel
theorem dX1_learnKept_158 : decode cX1_learnKept 158 = .ok (.istore 9, 2) := by decide +kernel
theorem dX1_learnKept_160 : decode cX1_learnKept 160 = .ok (.aload_n 0, 1) := by decide +kernel
theorem dX1_learnKept_161 : decode cX1_learnKept 161 = .ok (.getfield 32, 3) := by decide +kernel
theorem dX1_learnKept_164 : decode cX1_learnKept 164 = .ok (.iload 8, 2) := by decide +kernel
theorem dX1_learnKept_166 : decode cX1_learnKept 166 = .ok (.bipush 32, 2) := by decide +kernel
theorem dX1_learnKept_168 : decode cX1_learnKept 168 = .ok (.imul, 1) := by decide +kernel
theorem dX1_learnKept_169 : decode cX1_learnKept 169 = .ok (.iload_n 1, 1) := by decide +kernel
theorem dX1_learnKept_170 : decode cX1_learnKept 170 = .ok (.iadd, 1) := by decide +kernel
theorem dX1_learnKept_171 : decode cX1_learnKept 171 = .ok (.iload 9, 2) := by decide +kernel
theorem dX1_learnKept_173 : decode cX1_learnKept 173 = .ok (.iastore, 1) := by decide +kernel
theorem dX1_learnKept_174 : decode cX1_learnKept 174 = .ok (.iload 9, 2) := by decide +kernel
theorem dX1_learnKept_176 : decode cX1_learnKept 176 = .ok (.ifCond .lt 21, 3) := by decide +kernel
theorem dX1_learnKept_179 : decode cX1_learnKept 179 = .ok (.iload 9, 2) := by decide +kernel
theorem dX1_learnKept_181 : decode cX1_learnKept 181 = .ok (.bipush 32, 2) := by decide +kernel
theorem dX1_learnKept_183 : decode cX1_learnKept 183 = .ok (.if_icmp .ge 14, 3) := by decide +kernel
theorem dX1_learnKept_186 : decode cX1_learnKept 186 = .ok (.aload_n 0, 1) := by decide +kernel
theorem dX1_learnKept_187 : decode cX1_learnKept 187 = .ok (.getfield 35, 3) := by decide +kernel
theorem dX1_learnKept_190 : decode cX1_learnKept 190 = .ok (.iload 9, 2) := by decide +kernel
theorem dX1_learnKept_192 : decode cX1_learnKept 192 = .ok (.dup2, 1) := by decide +kernel
theorem dX1_learnKept_193 : decode cX1_learnKept 193 = .ok (.iaload, 1) := by decide +kernel
theorem dX1_learnKept_194 : decode cX1_learnKept 194 = .ok (.iconst 1, 1) := by decide +kernel
theorem dX1_learnKept_195 : decode cX1_learnKept 195 = .ok (.iadd, 1) := by decide +kernel
theorem dX1_learnKept_196 : decode cX1_learnKept 196 = .ok (.iastore, 1) := by decide +kernel
theorem dX1_learnKept_197 : decode cX1_learnKept 197 = .ok (.iinc 8 1, 3) := by decide +kernel
theorem dX1_learnKept_200 : decode cX1_learnKept 200 = .ok (.goto (-72), 3) := by decide +kernel
theorem dX1_learnKept_203 : decode cX1_learnKept 203 = .ok (.iinc 1 1, 3) := by decide +kernel
theorem dX1_learnKept_206 : decode cX1_learnKept 206 = .ok (.goto (-163), 3) := by decide +kernel
theorem dX1_learnKept_209 : decode cX1_learnKept 209 = .ok (.return_, 1) := by decide +kernel
theorem dX1_keeps_0 : decode cX1_keeps 0 = .ok (.aload_n 0, 1) := by decide +kernel
theorem dX1_keeps_1 : decode cX1_keeps 1 = .ok (.invokevirtual 87, 3) := by decide +kernel
theorem dX1_keeps_4 : decode cX1_keeps 4 = .ok (.iload_n 1, 1) := by decide +kernel
theorem dX1_keeps_5 : decode cX1_keeps 5 = .ok (.ifCond .lt 24, 3) := by decide +kernel
theorem dX1_keeps_8 : decode cX1_keeps 8 = .ok (.iload_n 1, 1) := by decide +kernel
theorem dX1_keeps_9 : decode cX1_keeps 9 = .ok (.sipush 1024, 3) := by decide +kernel
theorem dX1_keeps_12 : decode cX1_keeps 12 = .ok (.if_icmp .ge 17, 3) := by decide +kernel
theorem dX1_keeps_15 : decode cX1_keeps 15 = .ok (.aload_n 0, 1) := by decide +kernel
theorem dX1_keeps_16 : decode cX1_keeps 16 = .ok (.getfield 32, 3) := by decide +kernel
theorem dX1_keeps_19 : decode cX1_keeps 19 = .ok (.iload_n 1, 1) := by decide +kernel
theorem dX1_keeps_20 : decode cX1_keeps 20 = .ok (.iaload, 1) := by decide +kernel
theorem dX1_keeps_21 : decode cX1_keeps 21 = .ok (.iload_n 2, 1) := by decide +kernel
theorem dX1_keeps_22 : decode cX1_keeps 22 = .ok (.if_icmp .ne 7, 3) := by decide +kernel
theorem dX1_keeps_25 : decode cX1_keeps 25 = .ok (.iconst 1, 1) := by decide +kernel
theorem dX1_keeps_26 : decode cX1_keeps 26 = .ok (.goto 4, 3) := by decide +kernel
theorem dX1_keeps_29 : decode cX1_keeps 29 = .ok (.iconst 0, 1) := by decide +kernel
theorem dX1_keeps_30 : decode cX1_keeps 30 = .ok (.ireturn, 1) := by decide +kernel
theorem dX1_spotWhereKept_0 : decode cX1_spotWhereKept 0 = .ok (.aload_n 0, 1) := by decide +kernel
theorem dX1_spotWhereKept_1 : decode cX1_spotWhereKept 1 = .ok (.invokevirtual 87, 3) := by decide +kernel
theorem dX1_spotWhereKept_4 : decode cX1_spotWhereKept 4 = .ok (.iconst 0, 1) := by decide +kernel
theorem dX1_spotWhereKept_5 : decode cX1_spotWhereKept 5 = .ok (.istore_n 3, 1) := by decide +kernel
theorem dX1_spotWhereKept_6 : decode cX1_spotWhereKept 6 = .ok (.iconst 0, 1) := by decide +kernel
theorem dX1_spotWhereKept_7 : decode cX1_spotWhereKept 7 = .ok (.istore 4, 2) := by decide +kernel
theorem dX1_spotWhereKept_9 : decode cX1_spotWhereKept 9 = .ok (.iload 4, 2) := by decide +kernel
theorem dX1_spotWhereKept_11 : decode cX1_spotWhereKept 11 = .ok (.sipush 1024, 3) := by decide +kernel
theorem dX1_spotWhereKept_14 : decode cX1_spotWhereKept 14 = .ok (.if_icmp .ge 31, 3) := by decide +kernel
theorem dX1_spotWhereKept_17 : decode cX1_spotWhereKept 17 = .ok (.aload_n 0, 1) := by decide +kernel
theorem dX1_spotWhereKept_18 : decode cX1_spotWhereKept 18 = .ok (.getfield 32, 3) := by decide +kernel
theorem dX1_spotWhereKept_21 : decode cX1_spotWhereKept 21 = .ok (.iload 4, 2) := by decide +kernel
theorem dX1_spotWhereKept_23 : decode cX1_spotWhereKept 23 = .ok (.iaload, 1) := by decide +kernel
theorem dX1_spotWhereKept_24 : decode cX1_spotWhereKept 24 = .ok (.iload_n 1, 1) := by decide +kernel
theorem dX1_spotWhereKept_25 : decode cX1_spotWhereKept 25 = .ok (.if_icmp .ne 14, 3) := by decide +kernel
theorem dX1_spotWhereKept_28 : decode cX1_spotWhereKept 28 = .ok (.iload_n 3, 1) := by decide +kernel
theorem dX1_spotWhereKept_29 : decode cX1_spotWhereKept 29 = .ok (.iload_n 2, 1) := by decide +kernel
theorem dX1_spotWhereKept_30 : decode cX1_spotWhereKept 30 = .ok (.if_icmp .ne 6, 3) := by decide +kernel
theorem dX1_spotWhereKept_33 : decode cX1_spotWhereKept 33 = .ok (.iload 4, 2) := by decide +kernel
theorem dX1_spotWhereKept_35 : decode cX1_spotWhereKept 35 = .ok (.ireturn, 1) := by decide +kernel
theorem dX1_spotWhereKept_36 : decode cX1_spotWhereKept 36 = .ok (.iinc 3 1, 3) := by decide +kernel
theorem dX1_spotWhereKept_39 : decode cX1_spotWhereKept 39 = .ok (.iinc 4 1, 3) := by decide +kernel
theorem dX1_spotWhereKept_42 : decode cX1_spotWhereKept 42 = .ok (.goto (-33), 3) := by decide +kernel
theorem dX1_spotWhereKept_45 : decode cX1_spotWhereKept 45 = .ok (.iload_n 2, 1) := by decide +kernel
theorem dX1_spotWhereKept_46 : decode cX1_spotWhereKept 46 = .ok (.iconst (-1), 1) := by decide +kernel
theorem dX1_spotWhereKept_47 : decode cX1_spotWhereKept 47 = .ok (.if_icmp .ne 7, 3) := by decide +kernel
theorem dX1_spotWhereKept_50 : decode cX1_spotWhereKept 50 = .ok (.iload_n 3, 1) := by decide +kernel
theorem dX1_spotWhereKept_51 : decode cX1_spotWhereKept 51 = .ok (.goto 5, 3) := by decide +kernel
theorem dX1_spotWhereKept_54 : decode cX1_spotWhereKept 54 = .ok (.bipush (-5), 2) := by decide +kernel
theorem dX1_spotWhereKept_56 : decode cX1_spotWhereKept 56 = .ok (.ireturn, 1) := by decide +kernel
theorem dX1_ranked_0 : decode cX1_ranked 0 = .ok (.aload_n 0, 1) := by decide +kernel
theorem dX1_ranked_1 : decode cX1_ranked 1 = .ok (.invokevirtual 87, 3) := by decide +kernel
theorem dX1_ranked_4 : decode cX1_ranked 4 = .ok (.iconst 0, 1) := by decide +kernel
theorem dX1_ranked_5 : decode cX1_ranked 5 = .ok (.istore_n 2, 1) := by decide +kernel
theorem dX1_ranked_6 : decode cX1_ranked 6 = .ok (.iload_n 2, 1) := by decide +kernel
theorem dX1_ranked_7 : decode cX1_ranked 7 = .ok (.bipush 32, 2) := by decide +kernel
theorem dX1_ranked_9 : decode cX1_ranked 9 = .ok (.if_icmp .ge 104, 3) := by decide +kernel
theorem dX1_ranked_12 : decode cX1_ranked 12 = .ok (.iconst 0, 1) := by decide +kernel
theorem dX1_ranked_13 : decode cX1_ranked 13 = .ok (.istore_n 3, 1) := by decide +kernel
theorem dX1_ranked_14 : decode cX1_ranked 14 = .ok (.iconst 0, 1) := by decide +kernel
theorem dX1_ranked_15 : decode cX1_ranked 15 = .ok (.istore 4, 2) := by decide +kernel
theorem dX1_ranked_17 : decode cX1_ranked 17 = .ok (.iload 4, 2) := by decide +kernel
theorem dX1_ranked_19 : decode cX1_ranked 19 = .ok (.bipush 32, 2) := by decide +kernel
theorem dX1_ranked_21 : decode cX1_ranked 21 = .ok (.if_icmp .ge 79, 3) := by decide +kernel
theorem dX1_ranked_24 : decode cX1_ranked 24 = .ok (.aload_n 0, 1) := by decide +kernel
theorem dX1_ranked_25 : decode cX1_ranked 25 = .ok (.getfield 35, 3) := by decide +kernel
theorem dX1_ranked_28 : decode cX1_ranked 28 = .ok (.iload 4, 2) := by decide +kernel
theorem dX1_ranked_30 : decode cX1_ranked 30 = .ok (.iaload, 1) := by decide +kernel
theorem dX1_ranked_31 : decode cX1_ranked 31 = .ok (.aload_n 0, 1) := by decide +kernel
theorem dX1_ranked_32 : decode cX1_ranked 32 = .ok (.getfield 35, 3) := by decide +kernel
theorem dX1_ranked_35 : decode cX1_ranked 35 = .ok (.iload_n 2, 1) := by decide +kernel
theorem dX1_ranked_36 : decode cX1_ranked 36 = .ok (.iaload, 1) := by decide +kernel
theorem dX1_ranked_37 : decode cX1_ranked 37 = .ok (.if_icmp .le 7, 3) := by decide +kernel
theorem dX1_ranked_40 : decode cX1_ranked 40 = .ok (.iconst 1, 1) := by decide +kernel
theorem dX1_ranked_41 : decode cX1_ranked 41 = .ok (.goto 4, 3) := by decide +kernel
theorem dX1_ranked_44 : decode cX1_ranked 44 = .ok (.iconst 0, 1) := by decide +kernel
theorem dX1_ranked_45 : decode cX1_ranked 45 = .ok (.istore 5, 2) := by decide +kernel
theorem dX1_ranked_47 : decode cX1_ranked 47 = .ok (.aload_n 0, 1) := by decide +kernel
theorem dX1_ranked_48 : decode cX1_ranked 48 = .ok (.getfield 35, 3) := by decide +kernel
theorem dX1_ranked_51 : decode cX1_ranked 51 = .ok (.iload 4, 2) := by decide +kernel
theorem dX1_ranked_53 : decode cX1_ranked 53 = .ok (.iaload, 1) := by decide +kernel
theorem dX1_ranked_54 : decode cX1_ranked 54 = .ok (.aload_n 0, 1) := by decide +kernel
theorem dX1_ranked_55 : decode cX1_ranked 55 = .ok (.getfield 35, 3) := by decide +kernel
theorem dX1_ranked_58 : decode cX1_ranked 58 = .ok (.iload_n 2, 1) := by decide +kernel
theorem dX1_ranked_59 : decode cX1_ranked 59 = .ok (.iaload, 1) := by decide +kernel
theorem dX1_ranked_60 : decode cX1_ranked 60 = .ok (.if_icmp .ne 7, 3) := by decide +kernel
theorem dX1_ranked_63 : decode cX1_ranked 63 = .ok (.iconst 1, 1) := by decide +kernel
theorem dX1_ranked_64 : decode cX1_ranked 64 = .ok (.goto 4, 3) := by decide +kernel
theorem dX1_ranked_67 : decode cX1_ranked 67 = .ok (.iconst 0, 1) := by decide +kernel
theorem dX1_ranked_68 : decode cX1_ranked 68 = .ok (.istore 6, 2) := by decide +kernel
theorem dX1_ranked_70 : decode cX1_ranked 70 = .ok (.iload_n 3, 1) := by decide +kernel
theorem dX1_ranked_71 : decode cX1_ranked 71 = .ok (.iload 5, 2) := by decide +kernel
theorem dX1_ranked_73 : decode cX1_ranked 73 = .ok (.ifCond .ne 14, 3) := by decide +kernel
theorem dX1_ranked_76 : decode cX1_ranked 76 = .ok (.iload 6, 2) := by decide +kernel
theorem dX1_ranked_78 : decode cX1_ranked 78 = .ok (.ifCond .eq 13, 3) := by decide +kernel
theorem dX1_ranked_81 : decode cX1_ranked 81 = .ok (.iload 4, 2) := by decide +kernel
theorem dX1_ranked_83 : decode cX1_ranked 83 = .ok (.iload_n 2, 1) := by decide +kernel
theorem dX1_ranked_84 : decode cX1_ranked 84 = .ok (.if_icmp .ge 7, 3) := by decide +kernel
theorem dX1_ranked_87 : decode cX1_ranked 87 = .ok (.iconst 1, 1) := by decide +kernel
theorem dX1_ranked_88 : decode cX1_ranked 88 = .ok (.goto 4, 3) := by decide +kernel
theorem dX1_ranked_91 : decode cX1_ranked 91 = .ok (.iconst 0, 1) := by decide +kernel
theorem dX1_ranked_92 : decode cX1_ranked 92 = .ok (.iadd, 1) := by decide +kernel
theorem dX1_ranked_93 : decode cX1_ranked 93 = .ok (.istore_n 3, 1) := by decide +kernel
theorem dX1_ranked_94 : decode cX1_ranked 94 = .ok (.iinc 4 1, 3) := by decide +kernel
theorem dX1_ranked_97 : decode cX1_ranked 97 = .ok (.goto (-80), 3) := by decide +kernel
theorem dX1_ranked_100 : decode cX1_ranked 100 = .ok (.iload_n 3, 1) := by decide +kernel
theorem dX1_ranked_101 : decode cX1_ranked 101 = .ok (.iload_n 1, 1) := by decide +kernel
theorem dX1_ranked_102 : decode cX1_ranked 102 = .ok (.if_icmp .ne 5, 3) := by decide +kernel
theorem dX1_ranked_105 : decode cX1_ranked 105 = .ok (.iload_n 2, 1) := by decide +kernel
theorem dX1_ranked_106 : decode cX1_ranked 106 = .ok (.ireturn, 1) := by decide +kernel
theorem dX1_ranked_107 : decode cX1_ranked 107 = .ok (.iinc 2 1, 3) := by decide +kernel
theorem dX1_ranked_110 : decode cX1_ranked 110 = .ok (.goto (-104), 3) := by decide +kernel
theorem dX1_ranked_113 : decode cX1_ranked 113 = .ok (.iconst (-1), 1) := by decide +kernel
theorem dX1_ranked_114 : decode cX1_ranked 114 = .ok (.ireturn, 1) := by decide +kernel
theorem dX1_reachOf_0 : decode cX1_reachOf 0 = .ok (.iconst 0, 1) := by decide +kernel
theorem dX1_reachOf_1 : decode cX1_reachOf 1 = .ok (.istore_n 3, 1) := by decide +kernel
theorem dX1_reachOf_2 : decode cX1_reachOf 2 = .ok (.iload_n 3, 1) := by decide +kernel
theorem dX1_reachOf_3 : decode cX1_reachOf 3 = .ok (.sipush 1024, 3) := by decide +kernel
theorem dX1_reachOf_6 : decode cX1_reachOf 6 = .ok (.if_icmp .ge 16, 3) := by decide +kernel
theorem dX1_reachOf_9 : decode cX1_reachOf 9 = .ok (.aload_n 0, 1) := by decide +kernel
theorem dX1_reachOf_10 : decode cX1_reachOf 10 = .ok (.getfield 41, 3) := by decide +kernel
theorem dX1_reachOf_13 : decode cX1_reachOf 13 = .ok (.iload_n 3, 1) := by decide +kernel
theorem dX1_reachOf_14 : decode cX1_reachOf 14 = .ok (.iconst 0, 1) := by decide +kernel
theorem dX1_reachOf_15 : decode cX1_reachOf 15 = .ok (.bastore, 1) := by decide +kernel
theorem dX1_reachOf_16 : decode cX1_reachOf 16 = .ok (.iinc 3 1, 3) := by decide +kernel
theorem dX1_reachOf_19 : decode cX1_reachOf 19 = .ok (.goto (-17), 3) := by decide +kernel
theorem dX1_reachOf_22 : decode cX1_reachOf 22 = .ok (.iconst 0, 1) := by decide +kernel
theorem dX1_reachOf_23 : decode cX1_reachOf 23 = .ok (.istore_n 3, 1) := by decide +kernel
theorem dX1_reachOf_24 : decode cX1_reachOf 24 = .ok (.iconst 0, 1) := by decide +kernel
theorem dX1_reachOf_25 : decode cX1_reachOf 25 = .ok (.istore 4, 2) := by decide +kernel
theorem dX1_reachOf_27 : decode cX1_reachOf 27 = .ok (.iload 4, 2) := by decide +kernel
theorem dX1_reachOf_29 : decode cX1_reachOf 29 = .ok (.aload_n 1, 1) := by decide +kernel
theorem dX1_reachOf_30 : decode cX1_reachOf 30 = .ok (.getfield 90, 3) := by decide +kernel
theorem dX1_reachOf_33 : decode cX1_reachOf 33 = .ok (.if_icmp .ge 21, 3) := by decide +kernel
theorem dX1_reachOf_36 : decode cX1_reachOf 36 = .ok (.aload_n 0, 1) := by decide +kernel
theorem dX1_reachOf_37 : decode cX1_reachOf 37 = .ok (.aload_n 1, 1) := by decide +kernel
theorem dX1_reachOf_38 : decode cX1_reachOf 38 = .ok (.iload 4, 2) := by decide +kernel
theorem dX1_reachOf_40 : decode cX1_reachOf 40 = .ok (.invokevirtual 95, 3) := by decide +kernel
theorem dX1_reachOf_43 : decode cX1_reachOf 43 = .ok (.iload_n 3, 1) := by decide +kernel
theorem dX1_reachOf_44 : decode cX1_reachOf 44 = .ok (.invokevirtual 98, 3) := by decide +kernel
theorem dX1_reachOf_47 : decode cX1_reachOf 47 = .ok (.istore_n 3, 1) := by decide +kernel
theorem dX1_reachOf_48 : decode cX1_reachOf 48 = .ok (.iinc 4 1, 3) := by decide +kernel
theorem dX1_reachOf_51 : decode cX1_reachOf 51 = .ok (.goto (-24), 3) := by decide +kernel
theorem dX1_reachOf_54 : decode cX1_reachOf 54 = .ok (.iconst 0, 1) := by decide +kernel
theorem dX1_reachOf_55 : decode cX1_reachOf 55 = .ok (.istore 4, 2) := by decide +kernel
theorem dX1_reachOf_57 : decode cX1_reachOf 57 = .ok (.iconst 0, 1) := by decide +kernel
theorem dX1_reachOf_58 : decode cX1_reachOf 58 = .ok (.istore 5, 2) := by decide +kernel
theorem dX1_reachOf_60 : decode cX1_reachOf 60 = .ok (.iload 5, 2) := by decide +kernel
theorem dX1_reachOf_62 : decode cX1_reachOf 62 = .ok (.iload_n 2, 1) := by decide +kernel
theorem dX1_reachOf_63 : decode cX1_reachOf 63 = .ok (.if_icmp .ge 50, 3) := by decide +kernel
theorem dX1_reachOf_66 : decode cX1_reachOf 66 = .ok (.iload_n 3, 1) := by decide +kernel
theorem dX1_reachOf_67 : decode cX1_reachOf 67 = .ok (.istore 6, 2) := by decide +kernel
theorem dX1_reachOf_69 : decode cX1_reachOf 69 = .ok (.iload 4, 2) := by decide +kernel
theorem dX1_reachOf_71 : decode cX1_reachOf 71 = .ok (.iload 6, 2) := by decide +kernel
theorem dX1_reachOf_73 : decode cX1_reachOf 73 = .ok (.if_icmp .ge 34, 3) := by decide +kernel
theorem dX1_reachOf_76 : decode cX1_reachOf 76 = .ok (.iload 4, 2) := by decide +kernel
theorem dX1_reachOf_78 : decode cX1_reachOf 78 = .ok (.sipush 1024, 3) := by decide +kernel
theorem dX1_reachOf_81 : decode cX1_reachOf 81 = .ok (.if_icmp .ge 26, 3) := by decide +kernel
theorem dX1_reachOf_84 : decode cX1_reachOf 84 = .ok (.aload_n 0, 1) := by decide +kernel
theorem dX1_reachOf_85 : decode cX1_reachOf 85 = .ok (.aload_n 0, 1) := by decide +kernel
theorem dX1_reachOf_86 : decode cX1_reachOf 86 = .ok (.aload_n 0, 1) := by decide +kernel
theorem dX1_reachOf_87 : decode cX1_reachOf 87 = .ok (.getfield 45, 3) := by decide +kernel
theorem dX1_reachOf_90 : decode cX1_reachOf 90 = .ok (.iload 4, 2) := by decide +kernel
theorem dX1_reachOf_92 : decode cX1_reachOf 92 = .ok (.iaload, 1) := by decide +kernel
theorem dX1_reachOf_93 : decode cX1_reachOf 93 = .ok (.invokevirtual 78, 3) := by decide +kernel
theorem dX1_reachOf_96 : decode cX1_reachOf 96 = .ok (.iload_n 3, 1) := by decide +kernel
theorem dX1_reachOf_97 : decode cX1_reachOf 97 = .ok (.invokevirtual 98, 3) := by decide +kernel
theorem dX1_reachOf_100 : decode cX1_reachOf 100 = .ok (.istore_n 3, 1) := by decide +kernel
theorem dX1_reachOf_101 : decode cX1_reachOf 101 = .ok (.iinc 4 1, 3) := by decide +kernel
theorem dX1_reachOf_104 : decode cX1_reachOf 104 = .ok (.goto (-35), 3) := by decide +kernel
theorem dX1_reachOf_107 : decode cX1_reachOf 107 = .ok (.iinc 5 1, 3) := by decide +kernel
theorem dX1_reachOf_110 : decode cX1_reachOf 110 = .ok (.goto (-50), 3) := by decide +kernel
theorem dX1_reachOf_113 : decode cX1_reachOf 113 = .ok (.iload_n 3, 1) := by decide +kernel
theorem dX1_reachOf_114 : decode cX1_reachOf 114 = .ok (.ireturn, 1) := by decide +kernel
theorem dX1_reach_0 : decode cX1_reach 0 = .ok (.iload_n 1, 1) := by decide +kernel
theorem dX1_reach_1 : decode cX1_reach 1 = .ok (.ifCond .lt 30, 3) := by decide +kernel
theorem dX1_reach_4 : decode cX1_reach 4 = .ok (.iload_n 1, 1) := by decide +kernel
theorem dX1_reach_5 : decode cX1_reach 5 = .ok (.sipush 1024, 3) := by decide +kernel
theorem dX1_reach_8 : decode cX1_reach 8 = .ok (.if_icmp .ge 23, 3) := by decide +kernel
theorem dX1_reach_11 : decode cX1_reach 11 = .ok (.iload_n 2, 1) := by decide +kernel
theorem dX1_reach_12 : decode cX1_reach 12 = .ok (.ifCond .lt 19, 3) := by decide +kernel
theorem dX1_reach_15 : decode cX1_reach 15 = .ok (.iload_n 2, 1) := by decide +kernel
theorem dX1_reach_16 : decode cX1_reach 16 = .ok (.sipush 1024, 3) := by decide +kernel
theorem dX1_reach_19 : decode cX1_reach 19 = .ok (.if_icmp .ge 12, 3) := by decide +kernel
theorem dX1_reach_22 : decode cX1_reach 22 = .ok (.aload_n 0, 1) := by decide +kernel
theorem dX1_reach_23 : decode cX1_reach 23 = .ok (.getfield 41, 3) := by decide +kernel
theorem dX1_reach_26 : decode cX1_reach 26 = .ok (.iload_n 1, 1) := by decide +kernel
theorem dX1_reach_27 : decode cX1_reach 27 = .ok (.baload, 1) := by decide +kernel
theorem dX1_reach_28 : decode cX1_reach 28 = .ok (.ifCond .eq 5, 3) := by decide +kernel
theorem dX1_reach_31 : decode cX1_reach 31 = .ok (.iload_n 2, 1) := by decide +kernel
theorem dX1_reach_32 : decode cX1_reach 32 = .ok (.ireturn, 1) := by decide +kernel
theorem dX1_reach_33 : decode cX1_reach 33 = .ok (.aload_n 0, 1) := by decide +kernel
theorem dX1_reach_34 : decode cX1_reach 34 = .ok (.getfield 41, 3) := by decide +kernel
theorem dX1_reach_37 : decode cX1_reach 37 = .ok (.iload_n 1, 1) := by decide +kernel
theorem dX1_reach_38 : decode cX1_reach 38 = .ok (.iconst 1, 1) := by decide +kernel
theorem dX1_reach_39 : decode cX1_reach 39 = .ok (.bastore, 1) := by decide +kernel
theorem dX1_reach_40 : decode cX1_reach 40 = .ok (.aload_n 0, 1) := by decide +kernel
theorem dX1_reach_41 : decode cX1_reach 41 = .ok (.getfield 45, 3) := by decide +kernel
theorem dX1_reach_44 : decode cX1_reach 44 = .ok (.iload_n 2, 1) := by decide +kernel
theorem dX1_reach_45 : decode cX1_reach 45 = .ok (.iload_n 1, 1) := by decide +kernel
theorem dX1_reach_46 : decode cX1_reach 46 = .ok (.iastore, 1) := by decide +kernel
theorem dX1_reach_47 : decode cX1_reach 47 = .ok (.iload_n 2, 1) := by decide +kernel
theorem dX1_reach_48 : decode cX1_reach 48 = .ok (.iconst 1, 1) := by decide +kernel
theorem dX1_reach_49 : decode cX1_reach 49 = .ok (.iadd, 1) := by decide +kernel
theorem dX1_reach_50 : decode cX1_reach 50 = .ok (.ireturn, 1) := by decide +kernel
theorem dX2_init_0 : decode cX2_init 0 = .ok (.aload_n 0, 1) := by decide +kernel
theorem dX2_init_1 : decode cX2_init 1 = .ok (.invokespecial 3, 3) := by decide +kernel
theorem dX2_init_4 : decode cX2_init 4 = .ok (.aload_n 0, 1) := by decide +kernel
theorem dX2_init_5 : decode cX2_init 5 = .ok (.new 9, 3) := by decide +kernel
theorem dX2_init_8 : decode cX2_init 8 = .ok (.dup, 1) := by decide +kernel
theorem dX2_init_9 : decode cX2_init 9 = .ok (.invokespecial 11, 3) := by decide +kernel
theorem dX2_init_12 : decode cX2_init 12 = .ok (.putfield 12, 3) := by decide +kernel
theorem dX2_init_15 : decode cX2_init 15 = .ok (.aload_n 0, 1) := by decide +kernel
theorem dX2_init_16 : decode cX2_init 16 = .ok (.new 9, 3) := by decide +kernel
theorem dX2_init_19 : decode cX2_init 19 = .ok (.dup, 1) := by decide +kernel
theorem dX2_init_20 : decode cX2_init 20 = .ok (.invokespecial 11, 3) := by decide +kernel
theorem dX2_init_23 : decode cX2_init 23 = .ok (.putfield 18, 3) := by decide +kernel
theorem dX2_init_26 : decode cX2_init 26 = .ok (.aload_n 0, 1) := by decide +kernel
theorem dX2_init_27 : decode cX2_init 27 = .ok (.iconst 3, 1) := by decide +kernel
theorem dX2_init_28 : decode cX2_init 28 = .ok (.anewarray 21, 3) := by decide +kernel
theorem dX2_init_31 : decode cX2_init 31 = .ok (.dup, 1) := by decide +kernel
theorem dX2_init_32 : decode cX2_init 32 = .ok (.iconst 0, 1) := by decide +kernel
theorem dX2_init_33 : decode cX2_init 33 = .ok (.new 21, 3) := by decide +kernel
theorem dX2_init_36 : decode cX2_init 36 = .ok (.dup, 1) := by decide +kernel
theorem dX2_init_37 : decode cX2_init 37 = .ok (.invokespecial 23, 3) := by decide +kernel
theorem dX2_init_40 : decode cX2_init 40 = .ok (.aastore, 1) := by decide +kernel
theorem dX2_init_41 : decode cX2_init 41 = .ok (.dup, 1) := by decide +kernel
theorem dX2_init_42 : decode cX2_init 42 = .ok (.iconst 1, 1) := by decide +kernel
theorem dX2_init_43 : decode cX2_init 43 = .ok (.new 21, 3) := by decide +kernel
theorem dX2_init_46 : decode cX2_init 46 = .ok (.dup, 1) := by decide +kernel
theorem dX2_init_47 : decode cX2_init 47 = .ok (.invokespecial 23, 3) := by decide +kernel
theorem dX2_init_50 : decode cX2_init 50 = .ok (.aastore, 1) := by decide +kernel
theorem dX2_init_51 : decode cX2_init 51 = .ok (.dup, 1) := by decide +kernel
theorem dX2_init_52 : decode cX2_init 52 = .ok (.iconst 2, 1) := by decide +kernel
theorem dX2_init_53 : decode cX2_init 53 = .ok (.new 21, 3) := by decide +kernel
theorem dX2_init_56 : decode cX2_init 56 = .ok (.dup, 1) := by decide +kernel
theorem dX2_init_57 : decode cX2_init 57 = .ok (.invokespecial 23, 3) := by decide +kernel
theorem dX2_init_60 : decode cX2_init 60 = .ok (.aastore, 1) := by decide +kernel
theorem dX2_init_61 : decode cX2_init 61 = .ok (.putfield 24, 3) := by decide +kernel
theorem dX2_init_64 : decode cX2_init 64 = .ok (.aload_n 0, 1) := by decide +kernel
theorem dX2_init_65 : decode cX2_init 65 = .ok (.iconst 3, 1) := by decide +kernel
theorem dX2_init_66 : decode cX2_init 66 = .ok (.anewarray 21, 3) := by decide +kernel
theorem dX2_init_69 : decode cX2_init 69 = .ok (.dup, 1) := by decide +kernel
theorem dX2_init_70 : decode cX2_init 70 = .ok (.iconst 0, 1) := by decide +kernel
theorem dX2_init_71 : decode cX2_init 71 = .ok (.new 21, 3) := by decide +kernel
theorem dX2_init_74 : decode cX2_init 74 = .ok (.dup, 1) := by decide +kernel
theorem dX2_init_75 : decode cX2_init 75 = .ok (.invokespecial 23, 3) := by decide +kernel
theorem dX2_init_78 : decode cX2_init 78 = .ok (.aastore, 1) := by decide +kernel
theorem dX2_init_79 : decode cX2_init 79 = .ok (.dup, 1) := by decide +kernel
theorem dX2_init_80 : decode cX2_init 80 = .ok (.iconst 1, 1) := by decide +kernel
theorem dX2_init_81 : decode cX2_init 81 = .ok (.new 21, 3) := by decide +kernel
theorem dX2_init_84 : decode cX2_init 84 = .ok (.dup, 1) := by decide +kernel
theorem dX2_init_85 : decode cX2_init 85 = .ok (.invokespecial 23, 3) := by decide +kernel
theorem dX2_init_88 : decode cX2_init 88 = .ok (.aastore, 1) := by decide +kernel
theorem dX2_init_89 : decode cX2_init 89 = .ok (.dup, 1) := by decide +kernel
theorem dX2_init_90 : decode cX2_init 90 = .ok (.iconst 2, 1) := by decide +kernel
theorem dX2_init_91 : decode cX2_init 91 = .ok (.new 21, 3) := by decide +kernel
theorem dX2_init_94 : decode cX2_init 94 = .ok (.dup, 1) := by decide +kernel
theorem dX2_init_95 : decode cX2_init 95 = .ok (.invokespecial 23, 3) := by decide +kernel
theorem dX2_init_98 : decode cX2_init 98 = .ok (.aastore, 1) := by decide +kernel
theorem dX2_init_99 : decode cX2_init 99 = .ok (.putfield 28, 3) := by decide +kernel
theorem dX2_init_102 : decode cX2_init 102 = .ok (.aload_n 0, 1) := by decide +kernel
theorem dX2_init_103 : decode cX2_init 103 = .ok (.iconst 3, 1) := by decide +kernel
theorem dX2_init_104 : decode cX2_init 104 = .ok (.anewarray 21, 3) := by decide +kernel
theorem dX2_init_107 : decode cX2_init 107 = .ok (.dup, 1) := by decide +kernel
theorem dX2_init_108 : decode cX2_init 108 = .ok (.iconst 0, 1) := by decide +kernel
theorem dX2_init_109 : decode cX2_init 109 = .ok (.new 21, 3) := by decide +kernel
theorem dX2_init_112 : decode cX2_init 112 = .ok (.dup, 1) := by decide +kernel
theorem dX2_init_113 : decode cX2_init 113 = .ok (.invokespecial 23, 3) := by decide +kernel
theorem dX2_init_116 : decode cX2_init 116 = .ok (.aastore, 1) := by decide +kernel
theorem dX2_init_117 : decode cX2_init 117 = .ok (.dup, 1) := by decide +kernel
theorem dX2_init_118 : decode cX2_init 118 = .ok (.iconst 1, 1) := by decide +kernel
theorem dX2_init_119 : decode cX2_init 119 = .ok (.new 21, 3) := by decide +kernel
theorem dX2_init_122 : decode cX2_init 122 = .ok (.dup, 1) := by decide +kernel
theorem dX2_init_123 : decode cX2_init 123 = .ok (.invokespecial 23, 3) := by decide +kernel
theorem dX2_init_126 : decode cX2_init 126 = .ok (.aastore, 1) := by decide +kernel
theorem dX2_init_127 : decode cX2_init 127 = .ok (.dup, 1) := by decide +kernel
theorem dX2_init_128 : decode cX2_init 128 = .ok (.iconst 2, 1) := by decide +kernel
theorem dX2_init_129 : decode cX2_init 129 = .ok (.new 21, 3) := by decide +kernel
theorem dX2_init_132 : decode cX2_init 132 = .ok (.dup, 1) := by decide +kernel
theorem dX2_init_133 : decode cX2_init 133 = .ok (.invokespecial 23, 3) := by decide +kernel
theorem dX2_init_136 : decode cX2_init 136 = .ok (.aastore, 1) := by decide +kernel
theorem dX2_init_137 : decode cX2_init 137 = .ok (.putfield 31, 3) := by decide +kernel
theorem dX2_init_140 : decode cX2_init 140 = .ok (.aload_n 0, 1) := by decide +kernel
theorem dX2_init_141 : decode cX2_init 141 = .ok (.new 21, 3) := by decide +kernel
theorem dX2_init_144 : decode cX2_init 144 = .ok (.dup, 1) := by decide +kernel
theorem dX2_init_145 : decode cX2_init 145 = .ok (.invokespecial 23, 3) := by decide +kernel
theorem dX2_init_148 : decode cX2_init 148 = .ok (.putfield 34, 3) := by decide +kernel
theorem dX2_init_151 : decode cX2_init 151 = .ok (.aload_n 0, 1) := by decide +kernel
theorem dX2_init_152 : decode cX2_init 152 = .ok (.new 21, 3) := by decide +kernel
theorem dX2_init_155 : decode cX2_init 155 = .ok (.dup, 1) := by decide +kernel
theorem dX2_init_156 : decode cX2_init 156 = .ok (.invokespecial 23, 3) := by decide +kernel
theorem dX2_init_159 : decode cX2_init 159 = .ok (.putfield 38, 3) := by decide +kernel
theorem dX2_init_162 : decode cX2_init 162 = .ok (.aload_n 0, 1) := by decide +kernel
theorem dX2_init_163 : decode cX2_init 163 = .ok (.new 21, 3) := by decide +kernel
theorem dX2_init_166 : decode cX2_init 166 = .ok (.dup, 1) := by decide +kernel
theorem dX2_init_167 : decode cX2_init 167 = .ok (.invokespecial 23, 3) := by decide +kernel
theorem dX2_init_170 : decode cX2_init 170 = .ok (.putfield 41, 3) := by decide +kernel
theorem dX2_init_173 : decode cX2_init 173 = .ok (.aload_n 0, 1) := by decide +kernel
theorem dX2_init_174 : decode cX2_init 174 = .ok (.new 21, 3) := by decide +kernel
theorem dX2_init_177 : decode cX2_init 177 = .ok (.dup, 1) := by decide +kernel
theorem dX2_init_178 : decode cX2_init 178 = .ok (.invokespecial 23, 3) := by decide +kernel
theorem dX2_init_181 : decode cX2_init 181 = .ok (.putfield 44, 3) := by decide +kernel
theorem dX2_init_184 : decode cX2_init 184 = .ok (.aload_n 0, 1) := by decide +kernel
theorem dX2_init_185 : decode cX2_init 185 = .ok (.new 21, 3) := by decide +kernel
theorem dX2_init_188 : decode cX2_init 188 = .ok (.dup, 1) := by decide +kernel
theorem dX2_init_189 : decode cX2_init 189 = .ok (.invokespecial 23, 3) := by decide +kernel
theorem dX2_init_192 : decode cX2_init 192 = .ok (.putfield 47, 3) := by decide +kernel
theorem dX2_init_195 : decode cX2_init 195 = .ok (.aload_n 0, 1) := by decide +kernel
theorem dX2_init_196 : decode cX2_init 196 = .ok (.new 21, 3) := by decide +kernel
theorem dX2_init_199 : decode cX2_init 199 = .ok (.dup, 1) := by decide +kernel
theorem dX2_init_200 : decode cX2_init 200 = .ok (.invokespecial 23, 3) := by decide +kernel
theorem dX2_init_203 : decode cX2_init 203 = .ok (.putfield 50, 3) := by decide +kernel
theorem dX2_init_206 : decode cX2_init 206 = .ok (.aload_n 0, 1) := by decide +kernel
theorem dX2_init_207 : decode cX2_init 207 = .ok (.new 21, 3) := by decide +kernel
theorem dX2_init_210 : decode cX2_init 210 = .ok (.dup, 1) := by decide +kernel
theorem dX2_init_211 : decode cX2_init 211 = .ok (.invokespecial 23, 3) := by decide +kernel
theorem dX2_init_214 : decode cX2_init 214 = .ok (.putfield 53, 3) := by decide +kernel
theorem dX2_init_217 : decode cX2_init 217 = .ok (.aload_n 0, 1) := by decide +kernel
theorem dX2_init_218 : decode cX2_init 218 = .ok (.new 21, 3) := by decide +kernel
theorem dX2_init_221 : decode cX2_init 221 = .ok (.dup, 1) := by decide +kernel
theorem dX2_init_222 : decode cX2_init 222 = .ok (.invokespecial 23, 3) := by decide +kernel
theorem dX2_init_225 : decode cX2_init 225 = .ok (.putfield 56, 3) := by decide +kernel
theorem dX2_init_228 : decode cX2_init 228 = .ok (.return_, 1) := by decide +kernel
theorem dX2_behindSteps_0 : decode cX2_behindSteps 0 = .ok (.aload_n 0, 1) := by decide +kernel
theorem dX2_behindSteps_1 : decode cX2_behindSteps 1 = .ok (.getfield 12, 3) := by decide +kernel
theorem dX2_behindSteps_4 : decode cX2_behindSteps 4 = .ok (.getfield 59, 3) := by decide +kernel
theorem dX2_behindSteps_7 : decode cX2_behindSteps 7 = .ok (.invokevirtual 61, 3) := by decide +kernel
theorem dX2_behindSteps_10 : decode cX2_behindSteps 10 = .ok (.aload_n 0, 1) := by decide +kernel
theorem dX2_behindSteps_11 : decode cX2_behindSteps 11 = .ok (.getfield 12, 3) := by decide +kernel
theorem dX2_behindSteps_14 : decode cX2_behindSteps 14 = .ok (.getfield 64, 3) := by decide +kernel
theorem dX2_behindSteps_17 : decode cX2_behindSteps 17 = .ok (.iconst 1, 1) := by decide +kernel
theorem dX2_behindSteps_18 : decode cX2_behindSteps 18 = .ok (.invokevirtual 66, 3) := by decide +kernel
theorem dX2_behindSteps_21 : decode cX2_behindSteps 21 = .ok (.aload_n 0, 1) := by decide +kernel
theorem dX2_behindSteps_22 : decode cX2_behindSteps 22 = .ok (.getfield 18, 3) := by decide +kernel
theorem dX2_behindSteps_25 : decode cX2_behindSteps 25 = .ok (.getfield 59, 3) := by decide +kernel
theorem dX2_behindSteps_28 : decode cX2_behindSteps 28 = .ok (.iload_n 3, 1) := by decide +kernel
theorem dX2_behindSteps_29 : decode cX2_behindSteps 29 = .ok (.invokevirtual 66, 3) := by decide +kernel
theorem dX2_behindSteps_32 : decode cX2_behindSteps 32 = .ok (.aload_n 0, 1) := by decide +kernel
theorem dX2_behindSteps_33 : decode cX2_behindSteps 33 = .ok (.getfield 18, 3) := by decide +kernel
theorem dX2_behindSteps_36 : decode cX2_behindSteps 36 = .ok (.getfield 64, 3) := by decide +kernel
theorem dX2_behindSteps_39 : decode cX2_behindSteps 39 = .ok (.iconst 1, 1) := by decide +kernel
theorem dX2_behindSteps_40 : decode cX2_behindSteps 40 = .ok (.invokevirtual 66, 3) := by decide +kernel
theorem dX2_behindSteps_43 : decode cX2_behindSteps 43 = .ok (.iconst 0, 1) := by decide +kernel
theorem dX2_behindSteps_44 : decode cX2_behindSteps 44 = .ok (.istore 5, 2) := by decide +kernel
theorem dX2_behindSteps_46 : decode cX2_behindSteps 46 = .ok (.iload 5, 2) := by decide +kernel
theorem dX2_behindSteps_48 : decode cX2_behindSteps 48 = .ok (.iload_n 2, 1) := by decide +kernel
theorem dX2_behindSteps_49 : decode cX2_behindSteps 49 = .ok (.if_icmp .ge 46, 3) := by decide +kernel
theorem dX2_behindSteps_52 : decode cX2_behindSteps 52 = .ok (.aload_n 0, 1) := by decide +kernel
theorem dX2_behindSteps_53 : decode cX2_behindSteps 53 = .ok (.aload_n 1, 1) := by decide +kernel
theorem dX2_behindSteps_54 : decode cX2_behindSteps 54 = .ok (.iconst 0, 1) := by decide +kernel
theorem dX2_behindSteps_55 : decode cX2_behindSteps 55 = .ok (.aload_n 0, 1) := by decide +kernel
theorem dX2_behindSteps_56 : decode cX2_behindSteps 56 = .ok (.getfield 12, 3) := by decide +kernel
theorem dX2_behindSteps_59 : decode cX2_behindSteps 59 = .ok (.aload_n 0, 1) := by decide +kernel
theorem dX2_behindSteps_60 : decode cX2_behindSteps 60 = .ok (.getfield 18, 3) := by decide +kernel
theorem dX2_behindSteps_63 : decode cX2_behindSteps 63 = .ok (.invokevirtual 70, 3) := by decide +kernel
theorem dX2_behindSteps_66 : decode cX2_behindSteps 66 = .ok (.ifCond .eq 20, 3) := by decide +kernel
theorem dX2_behindSteps_69 : decode cX2_behindSteps 69 = .ok (.aload_n 0, 1) := by decide +kernel
theorem dX2_behindSteps_70 : decode cX2_behindSteps 70 = .ok (.aload_n 1, 1) := by decide +kernel
theorem dX2_behindSteps_71 : decode cX2_behindSteps 71 = .ok (.iconst 1, 1) := by decide +kernel
theorem dX2_behindSteps_72 : decode cX2_behindSteps 72 = .ok (.aload_n 0, 1) := by decide +kernel
theorem dX2_behindSteps_73 : decode cX2_behindSteps 73 = .ok (.getfield 18, 3) := by decide +kernel
theorem dX2_behindSteps_76 : decode cX2_behindSteps 76 = .ok (.aload_n 0, 1) := by decide +kernel
theorem dX2_behindSteps_77 : decode cX2_behindSteps 77 = .ok (.getfield 12, 3) := by decide +kernel
theorem dX2_behindSteps_80 : decode cX2_behindSteps 80 = .ok (.invokevirtual 70, 3) := by decide +kernel
theorem dX2_behindSteps_83 : decode cX2_behindSteps 83 = .ok (.ifCond .ne 6, 3) := by decide +kernel
theorem dX2_behindSteps_86 : decode cX2_behindSteps 86 = .ok (.bipush (-7), 2) := by decide +kernel
theorem dX2_behindSteps_88 : decode cX2_behindSteps 88 = .ok (.ireturn, 1) := by decide +kernel
theorem dX2_behindSteps_89 : decode cX2_behindSteps 89 = .ok (.iinc 5 1, 3) := by decide +kernel
theorem dX2_behindSteps_92 : decode cX2_behindSteps 92 = .ok (.goto (-46), 3) := by decide +kernel
theorem dX2_behindSteps_95 : decode cX2_behindSteps 95 = .ok (.iload 4, 2) := by decide +kernel
theorem dX2_behindSteps_97 : decode cX2_behindSteps 97 = .ok (.ifCond .ne 13, 3) := by decide +kernel
theorem dX2_behindSteps_100 : decode cX2_behindSteps 100 = .ok (.aload_n 0, 1) := by decide +kernel
theorem dX2_behindSteps_101 : decode cX2_behindSteps 101 = .ok (.getfield 12, 3) := by decide +kernel
theorem dX2_behindSteps_104 : decode cX2_behindSteps 104 = .ok (.invokevirtual 74, 3) := by decide +kernel
theorem dX2_behindSteps_107 : decode cX2_behindSteps 107 = .ok (.goto 10, 3) := by decide +kernel
theorem dX2_behindSteps_110 : decode cX2_behindSteps 110 = .ok (.aload_n 0, 1) := by decide +kernel
theorem dX2_behindSteps_111 : decode cX2_behindSteps 111 = .ok (.getfield 18, 3) := by decide +kernel
theorem dX2_behindSteps_114 : decode cX2_behindSteps 114 = .ok (.invokevirtual 74, 3) := by decide +kernel
theorem dX2_behindSteps_117 : decode cX2_behindSteps 117 = .ok (.ireturn, 1) := by decide +kernel
theorem dX2_swaps_0 : decode cX2_swaps 0 = .ok (.aload_n 0, 1) := by decide +kernel
theorem dX2_swaps_1 : decode cX2_swaps 1 = .ok (.aload 4, 2) := by decide +kernel
theorem dX2_swaps_3 : decode cX2_swaps 3 = .ok (.invokevirtual 78, 3) := by decide +kernel
theorem dX2_swaps_6 : decode cX2_swaps 6 = .ok (.iconst 0, 1) := by decide +kernel
theorem dX2_swaps_7 : decode cX2_swaps 7 = .ok (.istore 5, 2) := by decide +kernel
theorem dX2_swaps_9 : decode cX2_swaps 9 = .ok (.iload 5, 2) := by decide +kernel
theorem dX2_swaps_11 : decode cX2_swaps 11 = .ok (.iconst 3, 1) := by decide +kernel
theorem dX2_swaps_12 : decode cX2_swaps 12 = .ok (.if_icmp .ge 41, 3) := by decide +kernel
theorem dX2_swaps_15 : decode cX2_swaps 15 = .ok (.aload_n 0, 1) := by decide +kernel
theorem dX2_swaps_16 : decode cX2_swaps 16 = .ok (.aload_n 0, 1) := by decide +kernel
theorem dX2_swaps_17 : decode cX2_swaps 17 = .ok (.getfield 28, 3) := by decide +kernel
theorem dX2_swaps_20 : decode cX2_swaps 20 = .ok (.iload 5, 2) := by decide +kernel
theorem dX2_swaps_22 : decode cX2_swaps 22 = .ok (.aaload, 1) := by decide +kernel
theorem dX2_swaps_23 : decode cX2_swaps 23 = .ok (.aload_n 1, 1) := by decide +kernel
theorem dX2_swaps_24 : decode cX2_swaps 24 = .ok (.iload_n 2, 1) := by decide +kernel
theorem dX2_swaps_25 : decode cX2_swaps 25 = .ok (.iconst 0, 1) := by decide +kernel
theorem dX2_swaps_26 : decode cX2_swaps 26 = .ok (.iload 5, 2) := by decide +kernel
theorem dX2_swaps_28 : decode cX2_swaps 28 = .ok (.invokevirtual 82, 3) := by decide +kernel
theorem dX2_swaps_31 : decode cX2_swaps 31 = .ok (.aload_n 0, 1) := by decide +kernel
theorem dX2_swaps_32 : decode cX2_swaps 32 = .ok (.aload_n 0, 1) := by decide +kernel
theorem dX2_swaps_33 : decode cX2_swaps 33 = .ok (.getfield 31, 3) := by decide +kernel
theorem dX2_swaps_36 : decode cX2_swaps 36 = .ok (.iload 5, 2) := by decide +kernel
theorem dX2_swaps_38 : decode cX2_swaps 38 = .ok (.aaload, 1) := by decide +kernel
theorem dX2_swaps_39 : decode cX2_swaps 39 = .ok (.aload_n 1, 1) := by decide +kernel
theorem dX2_swaps_40 : decode cX2_swaps 40 = .ok (.iload_n 2, 1) := by decide +kernel
theorem dX2_swaps_41 : decode cX2_swaps 41 = .ok (.iconst 1, 1) := by decide +kernel
theorem dX2_swaps_42 : decode cX2_swaps 42 = .ok (.iload 5, 2) := by decide +kernel
theorem dX2_swaps_44 : decode cX2_swaps 44 = .ok (.invokevirtual 82, 3) := by decide +kernel
theorem dX2_swaps_47 : decode cX2_swaps 47 = .ok (.iinc 5 1, 3) := by decide +kernel
theorem dX2_swaps_50 : decode cX2_swaps 50 = .ok (.goto (-41), 3) := by decide +kernel
theorem dX2_swaps_53 : decode cX2_swaps 53 = .ok (.aload_n 0, 1) := by decide +kernel
theorem dX2_swaps_54 : decode cX2_swaps 54 = .ok (.aload_n 0, 1) := by decide +kernel
theorem dX2_swaps_55 : decode cX2_swaps 55 = .ok (.getfield 34, 3) := by decide +kernel
theorem dX2_swaps_58 : decode cX2_swaps 58 = .ok (.iconst 2, 1) := by decide +kernel
theorem dX2_swaps_59 : decode cX2_swaps 59 = .ok (.iconst 1, 1) := by decide +kernel
theorem dX2_swaps_60 : decode cX2_swaps 60 = .ok (.invokevirtual 86, 3) := by decide +kernel
theorem dX2_swaps_63 : decode cX2_swaps 63 = .ok (.aload_n 0, 1) := by decide +kernel
theorem dX2_swaps_64 : decode cX2_swaps 64 = .ok (.aload_n 0, 1) := by decide +kernel
theorem dX2_swaps_65 : decode cX2_swaps 65 = .ok (.getfield 38, 3) := by decide +kernel
theorem dX2_swaps_68 : decode cX2_swaps 68 = .ok (.iconst 2, 1) := by decide +kernel
theorem dX2_swaps_69 : decode cX2_swaps 69 = .ok (.iconst 0, 1) := by decide +kernel
theorem dX2_swaps_70 : decode cX2_swaps 70 = .ok (.invokevirtual 86, 3) := by decide +kernel
theorem dX2_swaps_73 : decode cX2_swaps 73 = .ok (.aload_n 0, 1) := by decide +kernel
theorem dX2_swaps_74 : decode cX2_swaps 74 = .ok (.aload_n 0, 1) := by decide +kernel
theorem dX2_swaps_75 : decode cX2_swaps 75 = .ok (.getfield 41, 3) := by decide +kernel
theorem dX2_swaps_78 : decode cX2_swaps 78 = .ok (.iconst 1, 1) := by decide +kernel
theorem dX2_swaps_79 : decode cX2_swaps 79 = .ok (.iconst 0, 1) := by decide +kernel
theorem dX2_swaps_80 : decode cX2_swaps 80 = .ok (.invokevirtual 86, 3) := by decide +kernel
theorem dX2_swaps_83 : decode cX2_swaps 83 = .ok (.aload_n 0, 1) := by decide +kernel
theorem dX2_swaps_84 : decode cX2_swaps 84 = .ok (.getfield 44, 3) := by decide +kernel
theorem dX2_swaps_87 : decode cX2_swaps 87 = .ok (.invokevirtual 90, 3) := by decide +kernel
theorem dX2_swaps_90 : decode cX2_swaps 90 = .ok (.aload_n 0, 1) := by decide +kernel
theorem dX2_swaps_91 : decode cX2_swaps 91 = .ok (.getfield 44, 3) := by decide +kernel
theorem dX2_swaps_94 : decode cX2_swaps 94 = .ok (.aload_n 0, 1) := by decide +kernel
theorem dX2_swaps_95 : decode cX2_swaps 95 = .ok (.getfield 38, 3) := by decide +kernel
theorem dX2_swaps_98 : decode cX2_swaps 98 = .ok (.aload_n 3, 1) := by decide +kernel
theorem dX2_swaps_99 : decode cX2_swaps 99 = .ok (.getfield 59, 3) := by decide +kernel
theorem dX2_swaps_102 : decode cX2_swaps 102 = .ok (.iconst (-1), 1) := by decide +kernel
theorem dX2_swaps_103 : decode cX2_swaps 103 = .ok (.invokevirtual 93, 3) := by decide +kernel
theorem dX2_swaps_106 : decode cX2_swaps 106 = .ok (.aload_n 0, 1) := by decide +kernel
theorem dX2_swaps_107 : decode cX2_swaps 107 = .ok (.getfield 44, 3) := by decide +kernel
theorem dX2_swaps_110 : decode cX2_swaps 110 = .ok (.aload_n 0, 1) := by decide +kernel
theorem dX2_swaps_111 : decode cX2_swaps 111 = .ok (.getfield 41, 3) := by decide +kernel
theorem dX2_swaps_114 : decode cX2_swaps 114 = .ok (.aload_n 3, 1) := by decide +kernel
theorem dX2_swaps_115 : decode cX2_swaps 115 = .ok (.getfield 64, 3) := by decide +kernel
theorem dX2_swaps_118 : decode cX2_swaps 118 = .ok (.iconst (-1), 1) := by decide +kernel
theorem dX2_swaps_119 : decode cX2_swaps 119 = .ok (.invokevirtual 93, 3) := by decide +kernel
theorem dX2_swaps_122 : decode cX2_swaps 122 = .ok (.aload_n 0, 1) := by decide +kernel
theorem dX2_swaps_123 : decode cX2_swaps 123 = .ok (.getfield 47, 3) := by decide +kernel
theorem dX2_swaps_126 : decode cX2_swaps 126 = .ok (.invokevirtual 90, 3) := by decide +kernel
theorem dX2_swaps_129 : decode cX2_swaps 129 = .ok (.aload_n 0, 1) := by decide +kernel
theorem dX2_swaps_130 : decode cX2_swaps 130 = .ok (.getfield 47, 3) := by decide +kernel
theorem dX2_swaps_133 : decode cX2_swaps 133 = .ok (.aload_n 0, 1) := by decide +kernel
theorem dX2_swaps_134 : decode cX2_swaps 134 = .ok (.getfield 34, 3) := by decide +kernel
theorem dX2_swaps_137 : decode cX2_swaps 137 = .ok (.aload_n 3, 1) := by decide +kernel
theorem dX2_swaps_138 : decode cX2_swaps 138 = .ok (.getfield 59, 3) := by decide +kernel
theorem dX2_swaps_141 : decode cX2_swaps 141 = .ok (.iconst 1, 1) := by decide +kernel
theorem dX2_swaps_142 : decode cX2_swaps 142 = .ok (.invokevirtual 93, 3) := by decide +kernel
theorem dX2_swaps_145 : decode cX2_swaps 145 = .ok (.aload_n 0, 1) := by decide +kernel
theorem dX2_swaps_146 : decode cX2_swaps 146 = .ok (.getfield 47, 3) := by decide +kernel
theorem dX2_swaps_149 : decode cX2_swaps 149 = .ok (.aload_n 0, 1) := by decide +kernel
theorem dX2_swaps_150 : decode cX2_swaps 150 = .ok (.getfield 38, 3) := by decide +kernel
theorem dX2_swaps_153 : decode cX2_swaps 153 = .ok (.aload_n 3, 1) := by decide +kernel
theorem dX2_swaps_154 : decode cX2_swaps 154 = .ok (.getfield 64, 3) := by decide +kernel
theorem dX2_swaps_157 : decode cX2_swaps 157 = .ok (.iconst 1, 1) := by decide +kernel
theorem dX2_swaps_158 : decode cX2_swaps 158 = .ok (.invokevirtual 93, 3) := by decide +kernel
theorem dX2_swaps_161 : decode cX2_swaps 161 = .ok (.aload_n 0, 1) := by decide +kernel
theorem dX2_swaps_162 : decode cX2_swaps 162 = .ok (.getfield 44, 3) := by decide +kernel
theorem dX2_swaps_165 : decode cX2_swaps 165 = .ok (.invokevirtual 97, 3) := by decide +kernel
theorem dX2_swaps_168 : decode cX2_swaps 168 = .ok (.ifCond .eq 15, 3) := by decide +kernel
theorem dX2_swaps_171 : decode cX2_swaps 171 = .ok (.aload_n 0, 1) := by decide +kernel
theorem dX2_swaps_172 : decode cX2_swaps 172 = .ok (.getfield 47, 3) := by decide +kernel
theorem dX2_swaps_175 : decode cX2_swaps 175 = .ok (.invokevirtual 97, 3) := by decide +kernel
theorem dX2_swaps_178 : decode cX2_swaps 178 = .ok (.ifCond .eq 5, 3) := by decide +kernel
theorem dX2_swaps_181 : decode cX2_swaps 181 = .ok (.iconst 0, 1) := by decide +kernel
theorem dX2_swaps_182 : decode cX2_swaps 182 = .ok (.ireturn, 1) := by decide +kernel
theorem dX2_swaps_183 : decode cX2_swaps 183 = .ok (.aload_n 0, 1) := by decide +kernel
theorem dX2_swaps_184 : decode cX2_swaps 184 = .ok (.invokevirtual 101, 3) := by decide +kernel
theorem dX2_swaps_187 : decode cX2_swaps 187 = .ok (.astore 5, 2) := by decide +kernel
theorem dX2_swaps_189 : decode cX2_swaps 189 = .ok (.aload_n 0, 1) := by decide +kernel
theorem dX2_swaps_190 : decode cX2_swaps 190 = .ok (.getfield 44, 3) := by decide +kernel
theorem dX2_swaps_193 : decode cX2_swaps 193 = .ok (.aload 5, 2) := by decide +kernel
theorem dX2_swaps_195 : decode cX2_swaps 195 = .ok (.aload_n 3, 1) := by decide +kernel
theorem dX2_swaps_196 : decode cX2_swaps 196 = .ok (.getfield 59, 3) := by decide +kernel
theorem dX2_swaps_199 : decode cX2_swaps 199 = .ok (.invokevirtual 105, 3) := by decide +kernel
theorem dX2_swaps_202 : decode cX2_swaps 202 = .ok (.aload_n 0, 1) := by decide +kernel
theorem dX2_swaps_203 : decode cX2_swaps 203 = .ok (.getfield 47, 3) := by decide +kernel
theorem dX2_swaps_206 : decode cX2_swaps 206 = .ok (.aload 5, 2) := by decide +kernel
theorem dX2_swaps_208 : decode cX2_swaps 208 = .ok (.aload_n 3, 1) := by decide +kernel
theorem dX2_swaps_209 : decode cX2_swaps 209 = .ok (.getfield 64, 3) := by decide +kernel
theorem dX2_swaps_212 : decode cX2_swaps 212 = .ok (.invokevirtual 105, 3) := by decide +kernel
theorem dX2_swaps_215 : decode cX2_swaps 215 = .ok (.iconst 1, 1) := by decide +kernel
theorem dX2_swaps_216 : decode cX2_swaps 216 = .ok (.ireturn, 1) := by decide +kernel
theorem dX2_readSquares_0 : decode cX2_readSquares 0 = .ok (.iconst 0, 1) := by decide +kernel
theorem dX2_readSquares_1 : decode cX2_readSquares 1 = .ok (.istore_n 2, 1) := by decide +kernel
theorem dX2_readSquares_2 : decode cX2_readSquares 2 = .ok (.iload_n 2, 1) := by decide +kernel
theorem dX2_readSquares_3 : decode cX2_readSquares 3 = .ok (.iconst 3, 1) := by decide +kernel
theorem dX2_readSquares_4 : decode cX2_readSquares 4 = .ok (.if_icmp .ge 18, 3) := by decide +kernel
theorem dX2_readSquares_7 : decode cX2_readSquares 7 = .ok (.aload_n 0, 1) := by decide +kernel
theorem dX2_readSquares_8 : decode cX2_readSquares 8 = .ok (.getfield 24, 3) := by decide +kernel
theorem dX2_readSquares_11 : decode cX2_readSquares 11 = .ok (.iload_n 2, 1) := by decide +kernel
theorem dX2_readSquares_12 : decode cX2_readSquares 12 = .ok (.aaload, 1) := by decide +kernel
theorem dX2_readSquares_13 : decode cX2_readSquares 13 = .ok (.invokevirtual 90, 3) := by decide +kernel
theorem dX2_readSquares_16 : decode cX2_readSquares 16 = .ok (.iinc 2 1, 3) := by decide +kernel
theorem dX2_readSquares_19 : decode cX2_readSquares 19 = .ok (.goto (-17), 3) := by decide +kernel
theorem dX2_readSquares_22 : decode cX2_readSquares 22 = .ok (.aload_n 0, 1) := by decide +kernel
theorem dX2_readSquares_23 : decode cX2_readSquares 23 = .ok (.getfield 24, 3) := by decide +kernel
theorem dX2_readSquares_26 : decode cX2_readSquares 26 = .ok (.iconst 0, 1) := by decide +kernel
theorem dX2_readSquares_27 : decode cX2_readSquares 27 = .ok (.aaload, 1) := by decide +kernel
theorem dX2_readSquares_28 : decode cX2_readSquares 28 = .ok (.aload_n 1, 1) := by decide +kernel
theorem dX2_readSquares_29 : decode cX2_readSquares 29 = .ok (.getfield 64, 3) := by decide +kernel
theorem dX2_readSquares_32 : decode cX2_readSquares 32 = .ok (.aload_n 1, 1) := by decide +kernel
theorem dX2_readSquares_33 : decode cX2_readSquares 33 = .ok (.getfield 64, 3) := by decide +kernel
theorem dX2_readSquares_36 : decode cX2_readSquares 36 = .ok (.iconst 1, 1) := by decide +kernel
theorem dX2_readSquares_37 : decode cX2_readSquares 37 = .ok (.invokevirtual 93, 3) := by decide +kernel
theorem dX2_readSquares_40 : decode cX2_readSquares 40 = .ok (.aload_n 0, 1) := by decide +kernel
theorem dX2_readSquares_41 : decode cX2_readSquares 41 = .ok (.getfield 24, 3) := by decide +kernel
theorem dX2_readSquares_44 : decode cX2_readSquares 44 = .ok (.iconst 1, 1) := by decide +kernel
theorem dX2_readSquares_45 : decode cX2_readSquares 45 = .ok (.aaload, 1) := by decide +kernel
theorem dX2_readSquares_46 : decode cX2_readSquares 46 = .ok (.aload_n 1, 1) := by decide +kernel
theorem dX2_readSquares_47 : decode cX2_readSquares 47 = .ok (.getfield 59, 3) := by decide +kernel
theorem dX2_readSquares_50 : decode cX2_readSquares 50 = .ok (.aload_n 1, 1) := by decide +kernel
theorem dX2_readSquares_51 : decode cX2_readSquares 51 = .ok (.getfield 64, 3) := by decide +kernel
theorem dX2_readSquares_54 : decode cX2_readSquares 54 = .ok (.iconst 1, 1) := by decide +kernel
theorem dX2_readSquares_55 : decode cX2_readSquares 55 = .ok (.invokevirtual 93, 3) := by decide +kernel
theorem dX2_readSquares_58 : decode cX2_readSquares 58 = .ok (.aload_n 0, 1) := by decide +kernel
theorem dX2_readSquares_59 : decode cX2_readSquares 59 = .ok (.getfield 24, 3) := by decide +kernel
theorem dX2_readSquares_62 : decode cX2_readSquares 62 = .ok (.iconst 2, 1) := by decide +kernel
theorem dX2_readSquares_63 : decode cX2_readSquares 63 = .ok (.aaload, 1) := by decide +kernel
theorem dX2_readSquares_64 : decode cX2_readSquares 64 = .ok (.aload_n 1, 1) := by decide +kernel
theorem dX2_readSquares_65 : decode cX2_readSquares 65 = .ok (.getfield 59, 3) := by decide +kernel
theorem dX2_readSquares_68 : decode cX2_readSquares 68 = .ok (.aload_n 1, 1) := by decide +kernel
theorem dX2_readSquares_69 : decode cX2_readSquares 69 = .ok (.getfield 59, 3) := by decide +kernel
theorem dX2_readSquares_72 : decode cX2_readSquares 72 = .ok (.iconst 1, 1) := by decide +kernel
theorem dX2_readSquares_73 : decode cX2_readSquares 73 = .ok (.invokevirtual 93, 3) := by decide +kernel
theorem dX2_readSquares_76 : decode cX2_readSquares 76 = .ok (.return_, 1) := by decide +kernel
theorem dX2_readRow_0 : decode cX2_readRow 0 = .ok (.aload_n 1, 1) := by decide +kernel
theorem dX2_readRow_1 : decode cX2_readRow 1 = .ok (.invokevirtual 90, 3) := by decide +kernel
theorem dX2_readRow_4 : decode cX2_readRow 4 = .ok (.iconst 0, 1) := by decide +kernel
theorem dX2_readRow_5 : decode cX2_readRow 5 = .ok (.istore 6, 2) := by decide +kernel
theorem dX2_readRow_7 : decode cX2_readRow 7 = .ok (.iload 6, 2) := by decide +kernel
theorem dX2_readRow_9 : decode cX2_readRow 9 = .ok (.iconst 3, 1) := by decide +kernel
theorem dX2_readRow_10 : decode cX2_readRow 10 = .ok (.if_icmp .ge 31, 3) := by decide +kernel
theorem dX2_readRow_13 : decode cX2_readRow 13 = .ok (.aload_n 1, 1) := by decide +kernel
theorem dX2_readRow_14 : decode cX2_readRow 14 = .ok (.aload_n 0, 1) := by decide +kernel
theorem dX2_readRow_15 : decode cX2_readRow 15 = .ok (.getfield 24, 3) := by decide +kernel
theorem dX2_readRow_18 : decode cX2_readRow 18 = .ok (.iload 6, 2) := by decide +kernel
theorem dX2_readRow_20 : decode cX2_readRow 20 = .ok (.aaload, 1) := by decide +kernel
theorem dX2_readRow_21 : decode cX2_readRow 21 = .ok (.aload_n 2, 1) := by decide +kernel
theorem dX2_readRow_22 : decode cX2_readRow 22 = .ok (.iload_n 3, 1) := by decide +kernel
theorem dX2_readRow_23 : decode cX2_readRow 23 = .ok (.iload 4, 2) := by decide +kernel
theorem dX2_readRow_25 : decode cX2_readRow 25 = .ok (.iload 5, 2) := by decide +kernel
theorem dX2_readRow_27 : decode cX2_readRow 27 = .ok (.iload 6, 2) := by decide +kernel
theorem dX2_readRow_29 : decode cX2_readRow 29 = .ok (.invokevirtual 109, 3) := by decide +kernel
theorem dX2_readRow_32 : decode cX2_readRow 32 = .ok (.invokevirtual 115, 3) := by decide +kernel
theorem dX2_readRow_35 : decode cX2_readRow 35 = .ok (.iinc 6 1, 3) := by decide +kernel
theorem dX2_readRow_38 : decode cX2_readRow 38 = .ok (.goto (-31), 3) := by decide +kernel
theorem dX2_readRow_41 : decode cX2_readRow 41 = .ok (.return_, 1) := by decide +kernel
theorem dX2_readCross_0 : decode cX2_readCross 0 = .ok (.aload_n 1, 1) := by decide +kernel
theorem dX2_readCross_1 : decode cX2_readCross 1 = .ok (.invokevirtual 90, 3) := by decide +kernel
theorem dX2_readCross_4 : decode cX2_readCross 4 = .ok (.iload_n 3, 1) := by decide +kernel
theorem dX2_readCross_5 : decode cX2_readCross 5 = .ok (.ifCond .lt 47, 3) := by decide +kernel
theorem dX2_readCross_8 : decode cX2_readCross 8 = .ok (.iload_n 3, 1) := by decide +kernel
theorem dX2_readCross_9 : decode cX2_readCross 9 = .ok (.iload_n 2, 1) := by decide +kernel
theorem dX2_readCross_10 : decode cX2_readCross 10 = .ok (.if_icmp .ge 42, 3) := by decide +kernel
theorem dX2_readCross_13 : decode cX2_readCross 13 = .ok (.iload_n 2, 1) := by decide +kernel
theorem dX2_readCross_14 : decode cX2_readCross 14 = .ok (.iconst 3, 1) := by decide +kernel
theorem dX2_readCross_15 : decode cX2_readCross 15 = .ok (.if_icmp .ge 37, 3) := by decide +kernel
theorem dX2_readCross_18 : decode cX2_readCross 18 = .ok (.aload_n 1, 1) := by decide +kernel
theorem dX2_readCross_19 : decode cX2_readCross 19 = .ok (.aload_n 0, 1) := by decide +kernel
theorem dX2_readCross_20 : decode cX2_readCross 20 = .ok (.getfield 28, 3) := by decide +kernel
theorem dX2_readCross_23 : decode cX2_readCross 23 = .ok (.iload_n 2, 1) := by decide +kernel
theorem dX2_readCross_24 : decode cX2_readCross 24 = .ok (.aaload, 1) := by decide +kernel
theorem dX2_readCross_25 : decode cX2_readCross 25 = .ok (.aload_n 0, 1) := by decide +kernel
theorem dX2_readCross_26 : decode cX2_readCross 26 = .ok (.getfield 31, 3) := by decide +kernel
theorem dX2_readCross_29 : decode cX2_readCross 29 = .ok (.iload_n 3, 1) := by decide +kernel
theorem dX2_readCross_30 : decode cX2_readCross 30 = .ok (.aaload, 1) := by decide +kernel
theorem dX2_readCross_31 : decode cX2_readCross 31 = .ok (.iconst 1, 1) := by decide +kernel
theorem dX2_readCross_32 : decode cX2_readCross 32 = .ok (.invokevirtual 93, 3) := by decide +kernel
theorem dX2_readCross_35 : decode cX2_readCross 35 = .ok (.aload_n 1, 1) := by decide +kernel
theorem dX2_readCross_36 : decode cX2_readCross 36 = .ok (.aload_n 0, 1) := by decide +kernel
theorem dX2_readCross_37 : decode cX2_readCross 37 = .ok (.getfield 28, 3) := by decide +kernel
theorem dX2_readCross_40 : decode cX2_readCross 40 = .ok (.iload_n 3, 1) := by decide +kernel
theorem dX2_readCross_41 : decode cX2_readCross 41 = .ok (.aaload, 1) := by decide +kernel
theorem dX2_readCross_42 : decode cX2_readCross 42 = .ok (.aload_n 0, 1) := by decide +kernel
theorem dX2_readCross_43 : decode cX2_readCross 43 = .ok (.getfield 31, 3) := by decide +kernel
theorem dX2_readCross_46 : decode cX2_readCross 46 = .ok (.iload_n 2, 1) := by decide +kernel
theorem dX2_readCross_47 : decode cX2_readCross 47 = .ok (.aaload, 1) := by decide +kernel
theorem dX2_readCross_48 : decode cX2_readCross 48 = .ok (.iconst (-1), 1) := by decide +kernel
theorem dX2_readCross_49 : decode cX2_readCross 49 = .ok (.invokevirtual 93, 3) := by decide +kernel
theorem dX2_readCross_52 : decode cX2_readCross 52 = .ok (.return_, 1) := by decide +kernel
theorem dX2_commonFactor_0 : decode cX2_commonFactor 0 = .ok (.aload_n 0, 1) := by decide +kernel
theorem dX2_commonFactor_1 : decode cX2_commonFactor 1 = .ok (.getfield 50, 3) := by decide +kernel
theorem dX2_commonFactor_4 : decode cX2_commonFactor 4 = .ok (.aload_n 0, 1) := by decide +kernel
theorem dX2_commonFactor_5 : decode cX2_commonFactor 5 = .ok (.getfield 44, 3) := by decide +kernel
theorem dX2_commonFactor_8 : decode cX2_commonFactor 8 = .ok (.invokevirtual 119, 3) := by decide +kernel
theorem dX2_commonFactor_11 : decode cX2_commonFactor 11 = .ok (.aload_n 0, 1) := by decide +kernel
theorem dX2_commonFactor_12 : decode cX2_commonFactor 12 = .ok (.getfield 53, 3) := by decide +kernel
theorem dX2_commonFactor_15 : decode cX2_commonFactor 15 = .ok (.aload_n 0, 1) := by decide +kernel
theorem dX2_commonFactor_16 : decode cX2_commonFactor 16 = .ok (.getfield 47, 3) := by decide +kernel
theorem dX2_commonFactor_19 : decode cX2_commonFactor 19 = .ok (.invokevirtual 119, 3) := by decide +kernel
theorem dX2_commonFactor_22 : decode cX2_commonFactor 22 = .ok (.aload_n 0, 1) := by decide +kernel
theorem dX2_commonFactor_23 : decode cX2_commonFactor 23 = .ok (.getfield 50, 3) := by decide +kernel
theorem dX2_commonFactor_26 : decode cX2_commonFactor 26 = .ok (.astore_n 1, 1) := by decide +kernel
theorem dX2_commonFactor_27 : decode cX2_commonFactor 27 = .ok (.aload_n 0, 1) := by decide +kernel
theorem dX2_commonFactor_28 : decode cX2_commonFactor 28 = .ok (.getfield 53, 3) := by decide +kernel
theorem dX2_commonFactor_31 : decode cX2_commonFactor 31 = .ok (.astore_n 2, 1) := by decide +kernel
theorem dX2_commonFactor_32 : decode cX2_commonFactor 32 = .ok (.iconst 0, 1) := by decide +kernel
theorem dX2_commonFactor_33 : decode cX2_commonFactor 33 = .ok (.istore_n 3, 1) := by decide +kernel
theorem dX2_commonFactor_34 : decode cX2_commonFactor 34 = .ok (.iload_n 3, 1) := by decide +kernel
theorem dX2_commonFactor_35 : decode cX2_commonFactor 35 = .ok (.sipush 2600, 3) := by decide +kernel
theorem dX2_commonFactor_38 : decode cX2_commonFactor 38 = .ok (.if_icmp .ge 33, 3) := by decide +kernel
theorem dX2_commonFactor_41 : decode cX2_commonFactor 41 = .ok (.aload_n 2, 1) := by decide +kernel
theorem dX2_commonFactor_42 : decode cX2_commonFactor 42 = .ok (.invokevirtual 97, 3) := by decide +kernel
theorem dX2_commonFactor_45 : decode cX2_commonFactor 45 = .ok (.ifCond .ne 26, 3) := by decide +kernel
theorem dX2_commonFactor_48 : decode cX2_commonFactor 48 = .ok (.aload_n 1, 1) := by decide +kernel
theorem dX2_commonFactor_49 : decode cX2_commonFactor 49 = .ok (.aload_n 2, 1) := by decide +kernel
theorem dX2_commonFactor_50 : decode cX2_commonFactor 50 = .ok (.aload_n 0, 1) := by decide +kernel
theorem dX2_commonFactor_51 : decode cX2_commonFactor 51 = .ok (.getfield 56, 3) := by decide +kernel
theorem dX2_commonFactor_54 : decode cX2_commonFactor 54 = .ok (.invokevirtual 105, 3) := by decide +kernel
theorem dX2_commonFactor_57 : decode cX2_commonFactor 57 = .ok (.aload_n 1, 1) := by decide +kernel
theorem dX2_commonFactor_58 : decode cX2_commonFactor 58 = .ok (.astore 4, 2) := by decide +kernel
theorem dX2_commonFactor_60 : decode cX2_commonFactor 60 = .ok (.aload_n 2, 1) := by decide +kernel
theorem dX2_commonFactor_61 : decode cX2_commonFactor 61 = .ok (.astore_n 1, 1) := by decide +kernel
theorem dX2_commonFactor_62 : decode cX2_commonFactor 62 = .ok (.aload 4, 2) := by decide +kernel
theorem dX2_commonFactor_64 : decode cX2_commonFactor 64 = .ok (.astore_n 2, 1) := by decide +kernel
theorem dX2_commonFactor_65 : decode cX2_commonFactor 65 = .ok (.iinc 3 1, 3) := by decide +kernel
theorem dX2_commonFactor_68 : decode cX2_commonFactor 68 = .ok (.goto (-34), 3) := by decide +kernel
theorem dX2_commonFactor_71 : decode cX2_commonFactor 71 = .ok (.aload_n 1, 1) := by decide +kernel
theorem dX2_commonFactor_72 : decode cX2_commonFactor 72 = .ok (.areturn, 1) := by decide +kernel
theorem dX3_init_0 : decode cX3_init 0 = .ok (.aload_n 0, 1) := by decide +kernel
theorem dX3_init_1 : decode cX3_init 1 = .ok (.invokespecial 1, 3) := by decide +kernel
theorem dX3_init_4 : decode cX3_init 4 = .ok (.aload_n 0, 1) := by decide +kernel
theorem dX3_init_5 : decode cX3_init 5 = .ok (.new 7, 3) := by decide +kernel
theorem dX3_init_8 : decode cX3_init 8 = .ok (.dup, 1) := by decide +kernel
theorem dX3_init_9 : decode cX3_init 9 = .ok (.invokespecial 9, 3) := by decide +kernel
theorem dX3_init_12 : decode cX3_init 12 = .ok (.putfield 10, 3) := by decide +kernel
theorem dX3_init_15 : decode cX3_init 15 = .ok (.aload_n 0, 1) := by decide +kernel
theorem dX3_init_16 : decode cX3_init 16 = .ok (.new 7, 3) := by decide +kernel
theorem dX3_init_19 : decode cX3_init 19 = .ok (.dup, 1) := by decide +kernel
theorem dX3_init_20 : decode cX3_init 20 = .ok (.invokespecial 9, 3) := by decide +kernel
theorem dX3_init_23 : decode cX3_init 23 = .ok (.putfield 16, 3) := by decide +kernel
theorem dX3_init_26 : decode cX3_init 26 = .ok (.return_, 1) := by decide +kernel
theorem dX3_ofDegree_0 : decode cX3_ofDegree 0 = .ok (.aload_n 0, 1) := by decide +kernel
theorem dX3_ofDegree_1 : decode cX3_ofDegree 1 = .ok (.getfield 10, 3) := by decide +kernel
theorem dX3_ofDegree_4 : decode cX3_ofDegree 4 = .ok (.invokevirtual 19, 3) := by decide +kernel
theorem dX3_ofDegree_7 : decode cX3_ofDegree 7 = .ok (.ifCond .ne 13, 3) := by decide +kernel
theorem dX3_ofDegree_10 : decode cX3_ofDegree 10 = .ok (.aload_n 0, 1) := by decide +kernel
theorem dX3_ofDegree_11 : decode cX3_ofDegree 11 = .ok (.getfield 16, 3) := by decide +kernel
theorem dX3_ofDegree_14 : decode cX3_ofDegree 14 = .ok (.invokevirtual 19, 3) := by decide +kernel
theorem dX3_ofDegree_17 : decode cX3_ofDegree 17 = .ok (.ifCond .eq 7, 3) := by decide +kernel
theorem dX3_ofDegree_20 : decode cX3_ofDegree 20 = .ok (.iconst 0, 1) := by decide +kernel
theorem dX3_ofDegree_21 : decode cX3_ofDegree 21 = .ok (.goto 22, 3) := by decide +kernel
theorem dX3_ofDegree_24 : decode cX3_ofDegree 24 = .ok (.aload_n 0, 1) := by decide +kernel
theorem dX3_ofDegree_25 : decode cX3_ofDegree 25 = .ok (.getfield 10, 3) := by decide +kernel
theorem dX3_ofDegree_28 : decode cX3_ofDegree 28 = .ok (.getfield 23, 3) := by decide +kernel
theorem dX3_ofDegree_31 : decode cX3_ofDegree 31 = .ok (.aload_n 0, 1) := by decide +kernel
theorem dX3_ofDegree_32 : decode cX3_ofDegree 32 = .ok (.getfield 16, 3) := by decide +kernel
theorem dX3_ofDegree_35 : decode cX3_ofDegree 35 = .ok (.getfield 23, 3) := by decide +kernel
theorem dX3_ofDegree_38 : decode cX3_ofDegree 38 = .ok (.invokestatic 27, 3) := by decide +kernel
theorem dX3_ofDegree_41 : decode cX3_ofDegree 41 = .ok (.iconst 1, 1) := by decide +kernel
theorem dX3_ofDegree_42 : decode cX3_ofDegree 42 = .ok (.isub, 1) := by decide +kernel
theorem dX3_ofDegree_43 : decode cX3_ofDegree 43 = .ok (.ireturn, 1) := by decide +kernel
theorem dX4_init_0 : decode cX4_init 0 = .ok (.aload_n 0, 1) := by decide +kernel
theorem dX4_init_1 : decode cX4_init 1 = .ok (.invokespecial 1, 3) := by decide +kernel
theorem dX4_init_4 : decode cX4_init 4 = .ok (.aload_n 0, 1) := by decide +kernel
theorem dX4_init_5 : decode cX4_init 5 = .ok (.iconst 4, 1) := by decide +kernel
theorem dX4_init_6 : decode cX4_init 6 = .ok (.newarray .int, 2) := by decide +kernel
theorem dX4_init_8 : decode cX4_init 8 = .ok (.dup, 1) := by decide +kernel
theorem dX4_init_9 : decode cX4_init 9 = .ok (.iconst 0, 1) := by decide +kernel
theorem dX4_init_10 : decode cX4_init 10 = .ok (.iconst (-1), 1) := by decide +kernel
theorem dX4_init_11 : decode cX4_init 11 = .ok (.iastore, 1) := by decide +kernel
theorem dX4_init_12 : decode cX4_init 12 = .ok (.dup, 1) := by decide +kernel
theorem dX4_init_13 : decode cX4_init 13 = .ok (.iconst 1, 1) := by decide +kernel
theorem dX4_init_14 : decode cX4_init 14 = .ok (.iconst (-1), 1) := by decide +kernel
theorem dX4_init_15 : decode cX4_init 15 = .ok (.iastore, 1) := by decide +kernel
theorem dX4_init_16 : decode cX4_init 16 = .ok (.dup, 1) := by decide +kernel
theorem dX4_init_17 : decode cX4_init 17 = .ok (.iconst 2, 1) := by decide +kernel
theorem dX4_init_18 : decode cX4_init 18 = .ok (.iconst (-1), 1) := by decide +kernel
theorem dX4_init_19 : decode cX4_init 19 = .ok (.iastore, 1) := by decide +kernel
theorem dX4_init_20 : decode cX4_init 20 = .ok (.dup, 1) := by decide +kernel
theorem dX4_init_21 : decode cX4_init 21 = .ok (.iconst 3, 1) := by decide +kernel
theorem dX4_init_22 : decode cX4_init 22 = .ok (.iconst (-1), 1) := by decide +kernel
theorem dX4_init_23 : decode cX4_init 23 = .ok (.iastore, 1) := by decide +kernel
theorem dX4_init_24 : decode cX4_init 24 = .ok (.putfield 7, 3) := by decide +kernel
theorem dX4_init_27 : decode cX4_init 27 = .ok (.aload_n 0, 1) := by decide +kernel
theorem dX4_init_28 : decode cX4_init 28 = .ok (.bipush 48, 2) := by decide +kernel
theorem dX4_init_30 : decode cX4_init 30 = .ok (.newarray .int, 2) := by decide +kernel
theorem dX4_init_32 : decode cX4_init 32 = .ok (.putfield 13, 3) := by decide +kernel
theorem dX4_init_35 : decode cX4_init 35 = .ok (.return_, 1) := by decide +kernel
theorem dX4_isList_0 : decode cX4_isList 0 = .ok (.iload_n 1, 1) := by decide +kernel
theorem dX4_isList_1 : decode cX4_isList 1 = .ok (.ifCond .lt 21, 3) := by decide +kernel
theorem dX4_isList_4 : decode cX4_isList 4 = .ok (.iload_n 1, 1) := by decide +kernel
theorem dX4_isList_5 : decode cX4_isList 5 = .ok (.iconst 4, 1) := by decide +kernel
theorem dX4_isList_6 : decode cX4_isList 6 = .ok (.if_icmp .ge 16, 3) := by decide +kernel
theorem dX4_isList_9 : decode cX4_isList 9 = .ok (.iload_n 1, 1) := by decide +kernel
theorem dX4_isList_10 : decode cX4_isList 10 = .ok (.aload_n 0, 1) := by decide +kernel
theorem dX4_isList_11 : decode cX4_isList 11 = .ok (.getfield 7, 3) := by decide +kernel
theorem dX4_isList_14 : decode cX4_isList 14 = .ok (.arraylength, 1) := by decide +kernel
theorem dX4_isList_15 : decode cX4_isList 15 = .ok (.if_icmp .ge 7, 3) := by decide +kernel
theorem dX4_isList_18 : decode cX4_isList 18 = .ok (.iconst 1, 1) := by decide +kernel
theorem dX4_isList_19 : decode cX4_isList 19 = .ok (.goto 4, 3) := by decide +kernel
theorem dX4_isList_22 : decode cX4_isList 22 = .ok (.iconst 0, 1) := by decide +kernel
theorem dX4_isList_23 : decode cX4_isList 23 = .ok (.ireturn, 1) := by decide +kernel
theorem dX4_sizeOf_0 : decode cX4_sizeOf 0 = .ok (.aload_n 0, 1) := by decide +kernel
theorem dX4_sizeOf_1 : decode cX4_sizeOf 1 = .ok (.iload_n 1, 1) := by decide +kernel
theorem dX4_sizeOf_2 : decode cX4_sizeOf 2 = .ok (.invokevirtual 16, 3) := by decide +kernel
theorem dX4_sizeOf_5 : decode cX4_sizeOf 5 = .ok (.ifCond .eq 12, 3) := by decide +kernel
theorem dX4_sizeOf_8 : decode cX4_sizeOf 8 = .ok (.aload_n 0, 1) := by decide +kernel
theorem dX4_sizeOf_9 : decode cX4_sizeOf 9 = .ok (.getfield 7, 3) := by decide +kernel
theorem dX4_sizeOf_12 : decode cX4_sizeOf 12 = .ok (.iload_n 1, 1) := by decide +kernel
theorem dX4_sizeOf_13 : decode cX4_sizeOf 13 = .ok (.iaload, 1) := by decide +kernel
theorem dX4_sizeOf_14 : decode cX4_sizeOf 14 = .ok (.goto 4, 3) := by decide +kernel
theorem dX4_sizeOf_17 : decode cX4_sizeOf 17 = .ok (.iconst (-1), 1) := by decide +kernel
theorem dX4_sizeOf_18 : decode cX4_sizeOf 18 = .ok (.ireturn, 1) := by decide +kernel
theorem dX4_hasPlace_0 : decode cX4_hasPlace 0 = .ok (.iload_n 2, 1) := by decide +kernel
theorem dX4_hasPlace_1 : decode cX4_hasPlace 1 = .ok (.ifCond .lt 22, 3) := by decide +kernel
theorem dX4_hasPlace_4 : decode cX4_hasPlace 4 = .ok (.iload_n 2, 1) := by decide +kernel
theorem dX4_hasPlace_5 : decode cX4_hasPlace 5 = .ok (.bipush 12, 2) := by decide +kernel
theorem dX4_hasPlace_7 : decode cX4_hasPlace 7 = .ok (.if_icmp .ge 16, 3) := by decide +kernel
theorem dX4_hasPlace_10 : decode cX4_hasPlace 10 = .ok (.iload_n 2, 1) := by decide +kernel
theorem dX4_hasPlace_11 : decode cX4_hasPlace 11 = .ok (.aload_n 0, 1) := by decide +kernel
theorem dX4_hasPlace_12 : decode cX4_hasPlace 12 = .ok (.iload_n 1, 1) := by decide +kernel
theorem dX4_hasPlace_13 : decode cX4_hasPlace 13 = .ok (.invokevirtual 20, 3) := by decide +kernel
theorem dX4_hasPlace_16 : decode cX4_hasPlace 16 = .ok (.if_icmp .ge 7, 3) := by decide +kernel
theorem dX4_hasPlace_19 : decode cX4_hasPlace 19 = .ok (.iconst 1, 1) := by decide +kernel
theorem dX4_hasPlace_20 : decode cX4_hasPlace 20 = .ok (.goto 4, 3) := by decide +kernel
theorem dX4_hasPlace_23 : decode cX4_hasPlace 23 = .ok (.iconst 0, 1) := by decide +kernel
theorem dX4_hasPlace_24 : decode cX4_hasPlace 24 = .ok (.ireturn, 1) := by decide +kernel
theorem dX4_numberAt_0 : decode cX4_numberAt 0 = .ok (.aload_n 0, 1) := by decide +kernel
theorem dX4_numberAt_1 : decode cX4_numberAt 1 = .ok (.iload_n 1, 1) := by decide +kernel
theorem dX4_numberAt_2 : decode cX4_numberAt 2 = .ok (.iload_n 2, 1) := by decide +kernel
theorem dX4_numberAt_3 : decode cX4_numberAt 3 = .ok (.invokevirtual 24, 3) := by decide +kernel
theorem dX4_numberAt_6 : decode cX4_numberAt 6 = .ok (.ifCond .eq 17, 3) := by decide +kernel
theorem dX4_numberAt_9 : decode cX4_numberAt 9 = .ok (.aload_n 0, 1) := by decide +kernel
theorem dX4_numberAt_10 : decode cX4_numberAt 10 = .ok (.getfield 13, 3) := by decide +kernel
theorem dX4_numberAt_13 : decode cX4_numberAt 13 = .ok (.iload_n 1, 1) := by decide +kernel
theorem dX4_numberAt_14 : decode cX4_numberAt 14 = .ok (.bipush 12, 2) := by decide +kernel
theorem dX4_numberAt_16 : decode cX4_numberAt 16 = .ok (.imul, 1) := by decide +kernel
theorem dX4_numberAt_17 : decode cX4_numberAt 17 = .ok (.iload_n 2, 1) := by decide +kernel
theorem dX4_numberAt_18 : decode cX4_numberAt 18 = .ok (.iadd, 1) := by decide +kernel
theorem dX4_numberAt_19 : decode cX4_numberAt 19 = .ok (.iaload, 1) := by decide +kernel
theorem dX4_numberAt_20 : decode cX4_numberAt 20 = .ok (.goto 4, 3) := by decide +kernel
theorem dX4_numberAt_23 : decode cX4_numberAt 23 = .ok (.iconst 0, 1) := by decide +kernel
theorem dX4_numberAt_24 : decode cX4_numberAt 24 = .ok (.ireturn, 1) := by decide +kernel
theorem dX4_change_0 : decode cX4_change 0 = .ok (.aload_n 0, 1) := by decide +kernel
theorem dX4_change_1 : decode cX4_change 1 = .ok (.iload_n 1, 1) := by decide +kernel
theorem dX4_change_2 : decode cX4_change 2 = .ok (.iload_n 2, 1) := by decide +kernel
theorem dX4_change_3 : decode cX4_change 3 = .ok (.invokevirtual 24, 3) := by decide +kernel
theorem dX4_change_6 : decode cX4_change 6 = .ok (.ifCond .eq 15, 3) := by decide +kernel
theorem dX4_change_9 : decode cX4_change 9 = .ok (.aload_n 0, 1) := by decide +kernel
theorem dX4_change_10 : decode cX4_change 10 = .ok (.getfield 13, 3) := by decide +kernel
theorem dX4_change_13 : decode cX4_change 13 = .ok (.iload_n 1, 1) := by decide +kernel
theorem dX4_change_14 : decode cX4_change 14 = .ok (.bipush 12, 2) := by decide +kernel
theorem dX4_change_16 : decode cX4_change 16 = .ok (.imul, 1) := by decide +kernel
theorem dX4_change_17 : decode cX4_change 17 = .ok (.iload_n 2, 1) := by decide +kernel
theorem dX4_change_18 : decode cX4_change 18 = .ok (.iadd, 1) := by decide +kernel
theorem dX4_change_19 : decode cX4_change 19 = .ok (.iload_n 3, 1) := by decide +kernel
theorem dX4_change_20 : decode cX4_change 20 = .ok (.iastore, 1) := by decide +kernel
theorem dX4_change_21 : decode cX4_change 21 = .ok (.return_, 1) := by decide +kernel
theorem dX4_renew_0 : decode cX4_renew 0 = .ok (.aload_n 0, 1) := by decide +kernel
theorem dX4_renew_1 : decode cX4_renew 1 = .ok (.iload_n 1, 1) := by decide +kernel
theorem dX4_renew_2 : decode cX4_renew 2 = .ok (.invokevirtual 16, 3) := by decide +kernel
theorem dX4_renew_5 : decode cX4_renew 5 = .ok (.ifCond .eq 13, 3) := by decide +kernel
theorem dX4_renew_8 : decode cX4_renew 8 = .ok (.iload_n 2, 1) := by decide +kernel
theorem dX4_renew_9 : decode cX4_renew 9 = .ok (.ifCond .lt 9, 3) := by decide +kernel
theorem dX4_renew_12 : decode cX4_renew 12 = .ok (.iload_n 2, 1) := by decide +kernel
theorem dX4_renew_13 : decode cX4_renew 13 = .ok (.bipush 12, 2) := by decide +kernel
theorem dX4_renew_15 : decode cX4_renew 15 = .ok (.if_icmp .le 4, 3) := by decide +kernel
theorem dX4_renew_18 : decode cX4_renew 18 = .ok (.return_, 1) := by decide +kernel
theorem dX4_renew_19 : decode cX4_renew 19 = .ok (.aload_n 0, 1) := by decide +kernel
theorem dX4_renew_20 : decode cX4_renew 20 = .ok (.getfield 7, 3) := by decide +kernel
theorem dX4_renew_23 : decode cX4_renew 23 = .ok (.iload_n 1, 1) := by decide +kernel
theorem dX4_renew_24 : decode cX4_renew 24 = .ok (.iload_n 2, 1) := by decide +kernel
theorem dX4_renew_25 : decode cX4_renew 25 = .ok (.iastore, 1) := by decide +kernel
theorem dX4_renew_26 : decode cX4_renew 26 = .ok (.iconst 0, 1) := by decide +kernel
theorem dX4_renew_27 : decode cX4_renew 27 = .ok (.istore_n 3, 1) := by decide +kernel
theorem dX4_renew_28 : decode cX4_renew 28 = .ok (.iload_n 3, 1) := by decide +kernel
theorem dX4_renew_29 : decode cX4_renew 29 = .ok (.iload_n 2, 1) := by decide +kernel
theorem dX4_renew_30 : decode cX4_renew 30 = .ok (.if_icmp .ge 21, 3) := by decide +kernel
theorem dX4_renew_33 : decode cX4_renew 33 = .ok (.aload_n 0, 1) := by decide +kernel
theorem dX4_renew_34 : decode cX4_renew 34 = .ok (.getfield 13, 3) := by decide +kernel
theorem dX4_renew_37 : decode cX4_renew 37 = .ok (.iload_n 1, 1) := by decide +kernel
theorem dX4_renew_38 : decode cX4_renew 38 = .ok (.bipush 12, 2) := by decide +kernel
theorem dX4_renew_40 : decode cX4_renew 40 = .ok (.imul, 1) := by decide +kernel
theorem dX4_renew_41 : decode cX4_renew 41 = .ok (.iload_n 3, 1) := by decide +kernel
theorem dX4_renew_42 : decode cX4_renew 42 = .ok (.iadd, 1) := by decide +kernel
theorem dX4_renew_43 : decode cX4_renew 43 = .ok (.iconst 0, 1) := by decide +kernel
theorem dX4_renew_44 : decode cX4_renew 44 = .ok (.iastore, 1) := by decide +kernel
theorem dX4_renew_45 : decode cX4_renew 45 = .ok (.iinc 3 1, 3) := by decide +kernel
theorem dX4_renew_48 : decode cX4_renew 48 = .ok (.goto (-20), 3) := by decide +kernel
theorem dX4_renew_51 : decode cX4_renew 51 = .ok (.return_, 1) := by decide +kernel
theorem dX5_init_0 : decode cX5_init 0 = .ok (.aload_n 0, 1) := by decide +kernel
theorem dX5_init_1 : decode cX5_init 1 = .ok (.invokespecial 3, 3) := by decide +kernel
theorem dX5_init_4 : decode cX5_init 4 = .ok (.aload_n 0, 1) := by decide +kernel
theorem dX5_init_5 : decode cX5_init 5 = .ok (.sipush 1024, 3) := by decide +kernel
theorem dX5_init_8 : decode cX5_init 8 = .ok (.newarray .int, 2) := by decide +kernel
theorem dX5_init_10 : decode cX5_init 10 = .ok (.putfield 9, 3) := by decide +kernel
theorem dX5_init_13 : decode cX5_init 13 = .ok (.aload_n 0, 1) := by decide +kernel
theorem dX5_init_14 : decode cX5_init 14 = .ok (.sipush 1024, 3) := by decide +kernel
theorem dX5_init_17 : decode cX5_init 17 = .ok (.newarray .int, 2) := by decide +kernel
theorem dX5_init_19 : decode cX5_init 19 = .ok (.putfield 15, 3) := by decide +kernel
theorem dX5_init_22 : decode cX5_init 22 = .ok (.aload_n 0, 1) := by decide +kernel
theorem dX5_init_23 : decode cX5_init 23 = .ok (.sipush 1024, 3) := by decide +kernel
theorem dX5_init_26 : decode cX5_init 26 = .ok (.newarray .int, 2) := by decide +kernel
theorem dX5_init_28 : decode cX5_init 28 = .ok (.putfield 18, 3) := by decide +kernel
theorem dX5_init_31 : decode cX5_init 31 = .ok (.aload_n 0, 1) := by decide +kernel
theorem dX5_init_32 : decode cX5_init 32 = .ok (.sipush 1025, 3) := by decide +kernel
theorem dX5_init_35 : decode cX5_init 35 = .ok (.newarray .int, 2) := by decide +kernel
theorem dX5_init_37 : decode cX5_init 37 = .ok (.putfield 21, 3) := by decide +kernel
theorem dX5_init_40 : decode cX5_init 40 = .ok (.aload_n 0, 1) := by decide +kernel
theorem dX5_init_41 : decode cX5_init 41 = .ok (.iconst 0, 1) := by decide +kernel
theorem dX5_init_42 : decode cX5_init 42 = .ok (.putfield 24, 3) := by decide +kernel
theorem dX5_init_45 : decode cX5_init 45 = .ok (.return_, 1) := by decide +kernel
theorem dX5_learn_0 : decode cX5_learn 0 = .ok (.aload_n 0, 1) := by decide +kernel
theorem dX5_learn_1 : decode cX5_learn 1 = .ok (.getfield 24, 3) := by decide +kernel
theorem dX5_learn_4 : decode cX5_learn 4 = .ok (.aload_n 1, 1) := by decide +kernel
theorem dX5_learn_5 : decode cX5_learn 5 = .ok (.getfield 28, 3) := by decide +kernel
theorem dX5_learn_8 : decode cX5_learn 8 = .ok (.if_icmp .ne 4, 3) := by decide +kernel
theorem dX5_learn_11 : decode cX5_learn 11 = .ok (.return_, 1) := by decide +kernel
theorem dX5_learn_12 : decode cX5_learn 12 = .ok (.aload_n 0, 1) := by decide +kernel
theorem dX5_learn_13 : decode cX5_learn 13 = .ok (.aload_n 1, 1) := by decide +kernel
theorem dX5_learn_14 : decode cX5_learn 14 = .ok (.getfield 28, 3) := by decide +kernel
theorem dX5_learn_17 : decode cX5_learn 17 = .ok (.putfield 24, 3) := by decide +kernel
theorem dX5_learn_20 : decode cX5_learn 20 = .ok (.iconst 0, 1) := by decide +kernel
theorem dX5_learn_21 : decode cX5_learn 21 = .ok (.istore_n 2, 1) := by decide +kernel
theorem dX5_learn_22 : decode cX5_learn 22 = .ok (.iload_n 2, 1) := by decide +kernel
theorem dX5_learn_23 : decode cX5_learn 23 = .ok (.sipush 1024, 3) := by decide +kernel
theorem dX5_learn_26 : decode cX5_learn 26 = .ok (.if_icmp .ge 30, 3) := by decide +kernel
theorem dX5_learn_29 : decode cX5_learn 29 = .ok (.aload_n 0, 1) := by decide +kernel
theorem dX5_learn_30 : decode cX5_learn 30 = .ok (.getfield 9, 3) := by decide +kernel
theorem dX5_learn_33 : decode cX5_learn 33 = .ok (.iload_n 2, 1) := by decide +kernel
theorem dX5_learn_34 : decode cX5_learn 34 = .ok (.iconst (-1), 1) := by decide +kernel
theorem dX5_learn_35 : decode cX5_learn 35 = .ok (.iastore, 1) := by decide +kernel
theorem dX5_learn_36 : decode cX5_learn 36 = .ok (.aload_n 0, 1) := by decide +kernel
theorem dX5_learn_37 : decode cX5_learn 37 = .ok (.getfield 15, 3) := by decide +kernel
theorem dX5_learn_40 : decode cX5_learn 40 = .ok (.iload_n 2, 1) := by decide +kernel
theorem dX5_learn_41 : decode cX5_learn 41 = .ok (.iconst 0, 1) := by decide +kernel
theorem dX5_learn_42 : decode cX5_learn 42 = .ok (.iastore, 1) := by decide +kernel
theorem dX5_learn_43 : decode cX5_learn 43 = .ok (.aload_n 0, 1) := by decide +kernel
theorem dX5_learn_44 : decode cX5_learn 44 = .ok (.getfield 18, 3) := by decide +kernel
theorem dX5_learn_47 : decode cX5_learn 47 = .ok (.iload_n 2, 1) := by decide +kernel
theorem dX5_learn_48 : decode cX5_learn 48 = .ok (.iconst (-1), 1) := by decide +kernel
theorem dX5_learn_49 : decode cX5_learn 49 = .ok (.iastore, 1) := by decide +kernel
theorem dX5_learn_50 : decode cX5_learn 50 = .ok (.iinc 2 1, 3) := by decide +kernel
theorem dX5_learn_53 : decode cX5_learn 53 = .ok (.goto (-31), 3) := by decide +kernel
theorem dX5_learn_56 : decode cX5_learn 56 = .ok (.iconst 0, 1) := by decide +kernel
theorem dX5_learn_57 : decode cX5_learn 57 = .ok (.istore_n 2, 1) := by decide +kernel
theorem dX5_learn_58 : decode cX5_learn 58 = .ok (.iload_n 2, 1) := by decide +kernel
theorem dX5_learn_59 : decode cX5_learn 59 = .ok (.sipush 1024, 3) := by decide +kernel
theorem dX5_learn_62 : decode cX5_learn 62 = .ok (.if_icmp .ge 86, 3) := by decide +kernel
theorem dX5_learn_65 : decode cX5_learn 65 = .ok (.iload_n 2, 1) := by decide +kernel
theorem dX5_learn_66 : decode cX5_learn 66 = .ok (.istore_n 3, 1) := by decide +kernel
theorem dX5_learn_67 : decode cX5_learn 67 = .ok (.iconst 0, 1) := by decide +kernel
theorem dX5_learn_68 : decode cX5_learn 68 = .ok (.istore 4, 2) := by decide +kernel
theorem dX5_learn_70 : decode cX5_learn 70 = .ok (.iload 4, 2) := by decide +kernel
theorem dX5_learn_72 : decode cX5_learn 72 = .ok (.sipush 1024, 3) := by decide +kernel
theorem dX5_learn_75 : decode cX5_learn 75 = .ok (.if_icmp .ge 30, 3) := by decide +kernel
theorem dX5_learn_78 : decode cX5_learn 78 = .ok (.aload_n 0, 1) := by decide +kernel
theorem dX5_learn_79 : decode cX5_learn 79 = .ok (.iload_n 3, 1) := by decide +kernel
theorem dX5_learn_80 : decode cX5_learn 80 = .ok (.invokevirtual 31, 3) := by decide +kernel
theorem dX5_learn_83 : decode cX5_learn 83 = .ok (.ifCond .eq 22, 3) := by decide +kernel
theorem dX5_learn_86 : decode cX5_learn 86 = .ok (.aload_n 0, 1) := by decide +kernel
theorem dX5_learn_87 : decode cX5_learn 87 = .ok (.getfield 18, 3) := by decide +kernel
theorem dX5_learn_90 : decode cX5_learn 90 = .ok (.iload_n 3, 1) := by decide +kernel
theorem dX5_learn_91 : decode cX5_learn 91 = .ok (.iload_n 2, 1) := by decide +kernel
theorem dX5_learn_92 : decode cX5_learn 92 = .ok (.iastore, 1) := by decide +kernel
theorem dX5_learn_93 : decode cX5_learn 93 = .ok (.aload_n 1, 1) := by decide +kernel
theorem dX5_learn_94 : decode cX5_learn 94 = .ok (.iload_n 3, 1) := by decide +kernel
theorem dX5_learn_95 : decode cX5_learn 95 = .ok (.invokevirtual 35, 3) := by decide +kernel
theorem dX5_learn_98 : decode cX5_learn 98 = .ok (.istore_n 3, 1) := by decide +kernel
theorem dX5_learn_99 : decode cX5_learn 99 = .ok (.iinc 4 1, 3) := by decide +kernel
theorem dX5_learn_102 : decode cX5_learn 102 = .ok (.goto (-32), 3) := by decide +kernel
theorem dX5_learn_105 : decode cX5_learn 105 = .ok (.iload_n 3, 1) := by decide +kernel
theorem dX5_learn_106 : decode cX5_learn 106 = .ok (.ifCond .lt 36, 3) := by decide +kernel
theorem dX5_learn_109 : decode cX5_learn 109 = .ok (.iload_n 3, 1) := by decide +kernel
theorem dX5_learn_110 : decode cX5_learn 110 = .ok (.sipush 1024, 3) := by decide +kernel
theorem dX5_learn_113 : decode cX5_learn 113 = .ok (.if_icmp .ge 29, 3) := by decide +kernel
theorem dX5_learn_116 : decode cX5_learn 116 = .ok (.aload_n 0, 1) := by decide +kernel
theorem dX5_learn_117 : decode cX5_learn 117 = .ok (.getfield 18, 3) := by decide +kernel
theorem dX5_learn_120 : decode cX5_learn 120 = .ok (.iload_n 3, 1) := by decide +kernel
theorem dX5_learn_121 : decode cX5_learn 121 = .ok (.iaload, 1) := by decide +kernel
theorem dX5_learn_122 : decode cX5_learn 122 = .ok (.iload_n 2, 1) := by decide +kernel
theorem dX5_learn_123 : decode cX5_learn 123 = .ok (.if_icmp .ne 19, 3) := by decide +kernel
theorem dX5_learn_126 : decode cX5_learn 126 = .ok (.aload_n 0, 1) := by decide +kernel
theorem dX5_learn_127 : decode cX5_learn 127 = .ok (.getfield 9, 3) := by decide +kernel
theorem dX5_learn_130 : decode cX5_learn 130 = .ok (.iload_n 3, 1) := by decide +kernel
theorem dX5_learn_131 : decode cX5_learn 131 = .ok (.iaload, 1) := by decide +kernel
theorem dX5_learn_132 : decode cX5_learn 132 = .ok (.iconst (-1), 1) := by decide +kernel
theorem dX5_learn_133 : decode cX5_learn 133 = .ok (.if_icmp .ne 9, 3) := by decide +kernel
theorem dX5_learn_136 : decode cX5_learn 136 = .ok (.aload_n 0, 1) := by decide +kernel
theorem dX5_learn_137 : decode cX5_learn 137 = .ok (.aload_n 1, 1) := by decide +kernel
theorem dX5_learn_138 : decode cX5_learn 138 = .ok (.iload_n 3, 1) := by decide +kernel
theorem dX5_learn_139 : decode cX5_learn 139 = .ok (.invokevirtual 39, 3) := by decide +kernel
theorem dX5_learn_142 : decode cX5_learn 142 = .ok (.iinc 2 1, 3) := by decide +kernel
theorem dX5_learn_145 : decode cX5_learn 145 = .ok (.goto (-87), 3) := by decide +kernel
theorem dX5_learn_148 : decode cX5_learn 148 = .ok (.return_, 1) := by decide +kernel
theorem dX5_isUnmarked_0 : decode cX5_isUnmarked 0 = .ok (.iload_n 1, 1) := by decide +kernel
theorem dX5_isUnmarked_1 : decode cX5_isUnmarked 1 = .ok (.ifCond .lt 24, 3) := by decide +kernel
theorem dX5_isUnmarked_4 : decode cX5_isUnmarked 4 = .ok (.iload_n 1, 1) := by decide +kernel
theorem dX5_isUnmarked_5 : decode cX5_isUnmarked 5 = .ok (.sipush 1024, 3) := by decide +kernel
theorem dX5_isUnmarked_8 : decode cX5_isUnmarked 8 = .ok (.if_icmp .ge 17, 3) := by decide +kernel
theorem dX5_isUnmarked_11 : decode cX5_isUnmarked 11 = .ok (.aload_n 0, 1) := by decide +kernel
theorem dX5_isUnmarked_12 : decode cX5_isUnmarked 12 = .ok (.getfield 18, 3) := by decide +kernel
theorem dX5_isUnmarked_15 : decode cX5_isUnmarked 15 = .ok (.iload_n 1, 1) := by decide +kernel
theorem dX5_isUnmarked_16 : decode cX5_isUnmarked 16 = .ok (.iaload, 1) := by decide +kernel
theorem dX5_isUnmarked_17 : decode cX5_isUnmarked 17 = .ok (.iconst (-1), 1) := by decide +kernel
theorem dX5_isUnmarked_18 : decode cX5_isUnmarked 18 = .ok (.if_icmp .ne 7, 3) := by decide +kernel
theorem dX5_isUnmarked_21 : decode cX5_isUnmarked 21 = .ok (.iconst 1, 1) := by decide +kernel
theorem dX5_isUnmarked_22 : decode cX5_isUnmarked 22 = .ok (.goto 4, 3) := by decide +kernel
theorem dX5_isUnmarked_25 : decode cX5_isUnmarked 25 = .ok (.iconst 0, 1) := by decide +kernel
theorem dX5_isUnmarked_26 : decode cX5_isUnmarked 26 = .ok (.ireturn, 1) := by decide +kernel
theorem dX5_goRound_0 : decode cX5_goRound 0 = .ok (.iload_n 2, 1) := by decide +kernel
theorem dX5_goRound_1 : decode cX5_goRound 1 = .ok (.ifCond .lt 10, 3) := by decide +kernel
theorem dX5_goRound_4 : decode cX5_goRound 4 = .ok (.iload_n 2, 1) := by decide +kernel
theorem dX5_goRound_5 : decode cX5_goRound 5 = .ok (.sipush 1024, 3) := by decide +kernel
theorem dX5_goRound_8 : decode cX5_goRound 8 = .ok (.if_icmp .lt 4, 3) := by decide +kernel
theorem dX5_goRound_11 : decode cX5_goRound 11 = .ok (.return_, 1) := by decide +kernel
theorem dX5_goRound_12 : decode cX5_goRound 12 = .ok (.iload_n 2, 1) := by decide +kernel
theorem dX5_goRound_13 : decode cX5_goRound 13 = .ok (.istore_n 3, 1) := by decide +kernel
theorem dX5_goRound_14 : decode cX5_goRound 14 = .ok (.iconst 0, 1) := by decide +kernel
theorem dX5_goRound_15 : decode cX5_goRound 15 = .ok (.istore 4, 2) := by decide +kernel
theorem dX5_goRound_17 : decode cX5_goRound 17 = .ok (.iload 4, 2) := by decide +kernel
theorem dX5_goRound_19 : decode cX5_goRound 19 = .ok (.sipush 1024, 3) := by decide +kernel
theorem dX5_goRound_22 : decode cX5_goRound 22 = .ok (.if_icmp .ge 53, 3) := by decide +kernel
theorem dX5_goRound_25 : decode cX5_goRound 25 = .ok (.iload_n 3, 1) := by decide +kernel
theorem dX5_goRound_26 : decode cX5_goRound 26 = .ok (.ifCond .lt 49, 3) := by decide +kernel
theorem dX5_goRound_29 : decode cX5_goRound 29 = .ok (.iload_n 3, 1) := by decide +kernel
theorem dX5_goRound_30 : decode cX5_goRound 30 = .ok (.sipush 1024, 3) := by decide +kernel
theorem dX5_goRound_33 : decode cX5_goRound 33 = .ok (.if_icmp .ge 42, 3) := by decide +kernel
theorem dX5_goRound_36 : decode cX5_goRound 36 = .ok (.aload_n 0, 1) := by decide +kernel
theorem dX5_goRound_37 : decode cX5_goRound 37 = .ok (.getfield 9, 3) := by decide +kernel
theorem dX5_goRound_40 : decode cX5_goRound 40 = .ok (.iload_n 3, 1) := by decide +kernel
theorem dX5_goRound_41 : decode cX5_goRound 41 = .ok (.iaload, 1) := by decide +kernel
theorem dX5_goRound_42 : decode cX5_goRound 42 = .ok (.iconst (-1), 1) := by decide +kernel
theorem dX5_goRound_43 : decode cX5_goRound 43 = .ok (.if_icmp .ne 32, 3) := by decide +kernel
theorem dX5_goRound_46 : decode cX5_goRound 46 = .ok (.aload_n 0, 1) := by decide +kernel
theorem dX5_goRound_47 : decode cX5_goRound 47 = .ok (.getfield 9, 3) := by decide +kernel
theorem dX5_goRound_50 : decode cX5_goRound 50 = .ok (.iload_n 3, 1) := by decide +kernel
theorem dX5_goRound_51 : decode cX5_goRound 51 = .ok (.iload_n 2, 1) := by decide +kernel
theorem dX5_goRound_52 : decode cX5_goRound 52 = .ok (.iastore, 1) := by decide +kernel
theorem dX5_goRound_53 : decode cX5_goRound 53 = .ok (.aload_n 0, 1) := by decide +kernel
theorem dX5_goRound_54 : decode cX5_goRound 54 = .ok (.getfield 15, 3) := by decide +kernel
theorem dX5_goRound_57 : decode cX5_goRound 57 = .ok (.iload_n 2, 1) := by decide +kernel
theorem dX5_goRound_58 : decode cX5_goRound 58 = .ok (.dup2, 1) := by decide +kernel
theorem dX5_goRound_59 : decode cX5_goRound 59 = .ok (.iaload, 1) := by decide +kernel
theorem dX5_goRound_60 : decode cX5_goRound 60 = .ok (.iconst 1, 1) := by decide +kernel
theorem dX5_goRound_61 : decode cX5_goRound 61 = .ok (.iadd, 1) := by decide +kernel
theorem dX5_goRound_62 : decode cX5_goRound 62 = .ok (.iastore, 1) := by decide +kernel
theorem dX5_goRound_63 : decode cX5_goRound 63 = .ok (.aload_n 1, 1) := by decide +kernel
theorem dX5_goRound_64 : decode cX5_goRound 64 = .ok (.iload_n 3, 1) := by decide +kernel
theorem dX5_goRound_65 : decode cX5_goRound 65 = .ok (.invokevirtual 35, 3) := by decide +kernel
theorem dX5_goRound_68 : decode cX5_goRound 68 = .ok (.istore_n 3, 1) := by decide +kernel
theorem dX5_goRound_69 : decode cX5_goRound 69 = .ok (.iinc 4 1, 3) := by decide +kernel
theorem dX5_goRound_72 : decode cX5_goRound 72 = .ok (.goto (-55), 3) := by decide +kernel
theorem dX5_goRound_75 : decode cX5_goRound 75 = .ok (.return_, 1) := by decide +kernel
theorem dX5_countThrough_0 : decode cX5_countThrough 0 = .ok (.iconst 0, 1) := by decide +kernel
theorem dX5_countThrough_1 : decode cX5_countThrough 1 = .ok (.istore_n 3, 1) := by decide +kernel
theorem dX5_countThrough_2 : decode cX5_countThrough 2 = .ok (.iload_n 3, 1) := by decide +kernel
theorem dX5_countThrough_3 : decode cX5_countThrough 3 = .ok (.sipush 1024, 3) := by decide +kernel
theorem dX5_countThrough_6 : decode cX5_countThrough 6 = .ok (.if_icmp .gt 16, 3) := by decide +kernel
theorem dX5_countThrough_9 : decode cX5_countThrough 9 = .ok (.aload_n 0, 1) := by decide +kernel
theorem dX5_countThrough_10 : decode cX5_countThrough 10 = .ok (.getfield 21, 3) := by decide +kernel
theorem dX5_countThrough_13 : decode cX5_countThrough 13 = .ok (.iload_n 3, 1) := by decide +kernel
theorem dX5_countThrough_14 : decode cX5_countThrough 14 = .ok (.iconst 0, 1) := by decide +kernel
theorem dX5_countThrough_15 : decode cX5_countThrough 15 = .ok (.iastore, 1) := by decide +kernel
theorem dX5_countThrough_16 : decode cX5_countThrough 16 = .ok (.iinc 3 1, 3) := by decide +kernel
theorem dX5_countThrough_19 : decode cX5_countThrough 19 = .ok (.goto (-17), 3) := by decide +kernel
theorem dX5_countThrough_22 : decode cX5_countThrough 22 = .ok (.iconst 0, 1) := by decide +kernel
theorem dX5_countThrough_23 : decode cX5_countThrough 23 = .ok (.istore_n 3, 1) := by decide +kernel
theorem dX5_countThrough_24 : decode cX5_countThrough 24 = .ok (.iload_n 3, 1) := by decide +kernel
theorem dX5_countThrough_25 : decode cX5_countThrough 25 = .ok (.sipush 1024, 3) := by decide +kernel
theorem dX5_countThrough_28 : decode cX5_countThrough 28 = .ok (.if_icmp .ge 16, 3) := by decide +kernel
theorem dX5_countThrough_31 : decode cX5_countThrough 31 = .ok (.aload_n 0, 1) := by decide +kernel
theorem dX5_countThrough_32 : decode cX5_countThrough 32 = .ok (.getfield 18, 3) := by decide +kernel
theorem dX5_countThrough_35 : decode cX5_countThrough 35 = .ok (.iload_n 3, 1) := by decide +kernel
theorem dX5_countThrough_36 : decode cX5_countThrough 36 = .ok (.iconst 0, 1) := by decide +kernel
theorem dX5_countThrough_37 : decode cX5_countThrough 37 = .ok (.iastore, 1) := by decide +kernel
theorem dX5_countThrough_38 : decode cX5_countThrough 38 = .ok (.iinc 3 1, 3) := by decide +kernel
theorem dX5_countThrough_41 : decode cX5_countThrough 41 = .ok (.goto (-17), 3) := by decide +kernel
theorem dX5_countThrough_44 : decode cX5_countThrough 44 = .ok (.iconst 0, 1) := by decide +kernel
theorem dX5_countThrough_45 : decode cX5_countThrough 45 = .ok (.istore_n 3, 1) := by decide +kernel
theorem dX5_countThrough_46 : decode cX5_countThrough 46 = .ok (.iload_n 3, 1) := by decide +kernel
theorem dX5_countThrough_47 : decode cX5_countThrough 47 = .ok (.sipush 1024, 3) := by decide +kernel
theorem dX5_countThrough_50 : decode cX5_countThrough 50 = .ok (.if_icmp .ge 68, 3) := by decide +kernel
theorem dX5_countThrough_53 : decode cX5_countThrough 53 = .ok (.aload_n 0, 1) := by decide +kernel
theorem dX5_countThrough_54 : decode cX5_countThrough 54 = .ok (.getfield 9, 3) := by decide +kernel
theorem dX5_countThrough_57 : decode cX5_countThrough 57 = .ok (.iload_n 3, 1) := by decide +kernel
theorem dX5_countThrough_58 : decode cX5_countThrough 58 = .ok (.iaload, 1) := by decide +kernel
theorem dX5_countThrough_59 : decode cX5_countThrough 59 = .ok (.istore 4, 2) := by decide +kernel
theorem dX5_countThrough_61 : decode cX5_countThrough 61 = .ok (.iload 4, 2) := by decide +kernel
theorem dX5_countThrough_63 : decode cX5_countThrough 63 = .ok (.ifCond .lt 49, 3) := by decide +kernel
theorem dX5_countThrough_66 : decode cX5_countThrough 66 = .ok (.iload 4, 2) := by decide +kernel
theorem dX5_countThrough_68 : decode cX5_countThrough 68 = .ok (.sipush 1024, 3) := by decide +kernel
theorem dX5_countThrough_71 : decode cX5_countThrough 71 = .ok (.if_icmp .ge 41, 3) := by decide +kernel
theorem dX5_countThrough_74 : decode cX5_countThrough 74 = .ok (.aload_n 0, 1) := by decide +kernel
theorem dX5_countThrough_75 : decode cX5_countThrough 75 = .ok (.getfield 18, 3) := by decide +kernel
theorem dX5_countThrough_78 : decode cX5_countThrough 78 = .ok (.iload 4, 2) := by decide +kernel
theorem dX5_countThrough_80 : decode cX5_countThrough 80 = .ok (.iaload, 1) := by decide +kernel
theorem dX5_countThrough_81 : decode cX5_countThrough 81 = .ok (.ifCond .ne 31, 3) := by decide +kernel
theorem dX5_countThrough_84 : decode cX5_countThrough 84 = .ok (.aload_n 1, 1) := by decide +kernel
theorem dX5_countThrough_85 : decode cX5_countThrough 85 = .ok (.iload_n 3, 1) := by decide +kernel
theorem dX5_countThrough_86 : decode cX5_countThrough 86 = .ok (.iload_n 2, 1) := by decide +kernel
theorem dX5_countThrough_87 : decode cX5_countThrough 87 = .ok (.invokevirtual 43, 3) := by decide +kernel
theorem dX5_countThrough_90 : decode cX5_countThrough 90 = .ok (.ifCond .eq 22, 3) := by decide +kernel
theorem dX5_countThrough_93 : decode cX5_countThrough 93 = .ok (.aload_n 0, 1) := by decide +kernel
theorem dX5_countThrough_94 : decode cX5_countThrough 94 = .ok (.getfield 18, 3) := by decide +kernel
theorem dX5_countThrough_97 : decode cX5_countThrough 97 = .ok (.iload 4, 2) := by decide +kernel
theorem dX5_countThrough_99 : decode cX5_countThrough 99 = .ok (.iconst 1, 1) := by decide +kernel
theorem dX5_countThrough_100 : decode cX5_countThrough 100 = .ok (.iastore, 1) := by decide +kernel
theorem dX5_countThrough_101 : decode cX5_countThrough 101 = .ok (.aload_n 0, 1) := by decide +kernel
theorem dX5_countThrough_102 : decode cX5_countThrough 102 = .ok (.aload_n 0, 1) := by decide +kernel
theorem dX5_countThrough_103 : decode cX5_countThrough 103 = .ok (.getfield 15, 3) := by decide +kernel
theorem dX5_countThrough_106 : decode cX5_countThrough 106 = .ok (.iload 4, 2) := by decide +kernel
theorem dX5_countThrough_108 : decode cX5_countThrough 108 = .ok (.iaload, 1) := by decide +kernel
theorem dX5_countThrough_109 : decode cX5_countThrough 109 = .ok (.invokevirtual 47, 3) := by decide +kernel
theorem dX5_countThrough_112 : decode cX5_countThrough 112 = .ok (.iinc 3 1, 3) := by decide +kernel
theorem dX5_countThrough_115 : decode cX5_countThrough 115 = .ok (.goto (-69), 3) := by decide +kernel
theorem dX5_countThrough_118 : decode cX5_countThrough 118 = .ok (.return_, 1) := by decide +kernel
theorem dX5_tallyOne_0 : decode cX5_tallyOne 0 = .ok (.iload_n 1, 1) := by decide +kernel
theorem dX5_tallyOne_1 : decode cX5_tallyOne 1 = .ok (.ifCond .lt 20, 3) := by decide +kernel
theorem dX5_tallyOne_4 : decode cX5_tallyOne 4 = .ok (.iload_n 1, 1) := by decide +kernel
theorem dX5_tallyOne_5 : decode cX5_tallyOne 5 = .ok (.sipush 1024, 3) := by decide +kernel
theorem dX5_tallyOne_8 : decode cX5_tallyOne 8 = .ok (.if_icmp .gt 13, 3) := by decide +kernel
theorem dX5_tallyOne_11 : decode cX5_tallyOne 11 = .ok (.aload_n 0, 1) := by decide +kernel
theorem dX5_tallyOne_12 : decode cX5_tallyOne 12 = .ok (.getfield 21, 3) := by decide +kernel
theorem dX5_tallyOne_15 : decode cX5_tallyOne 15 = .ok (.iload_n 1, 1) := by decide +kernel
theorem dX5_tallyOne_16 : decode cX5_tallyOne 16 = .ok (.dup2, 1) := by decide +kernel
theorem dX5_tallyOne_17 : decode cX5_tallyOne 17 = .ok (.iaload, 1) := by decide +kernel
theorem dX5_tallyOne_18 : decode cX5_tallyOne 18 = .ok (.iconst 1, 1) := by decide +kernel
theorem dX5_tallyOne_19 : decode cX5_tallyOne 19 = .ok (.iadd, 1) := by decide +kernel
theorem dX5_tallyOne_20 : decode cX5_tallyOne 20 = .ok (.iastore, 1) := by decide +kernel
theorem dX5_tallyOne_21 : decode cX5_tallyOne 21 = .ok (.return_, 1) := by decide +kernel
theorem dX5_total_0 : decode cX5_total 0 = .ok (.iconst 0, 1) := by decide +kernel
theorem dX5_total_1 : decode cX5_total 1 = .ok (.istore_n 2, 1) := by decide +kernel
theorem dX5_total_2 : decode cX5_total 2 = .ok (.iconst 1, 1) := by decide +kernel
theorem dX5_total_3 : decode cX5_total 3 = .ok (.istore_n 3, 1) := by decide +kernel
theorem dX5_total_4 : decode cX5_total 4 = .ok (.iload_n 3, 1) := by decide +kernel
theorem dX5_total_5 : decode cX5_total 5 = .ok (.sipush 1024, 3) := by decide +kernel
theorem dX5_total_8 : decode cX5_total 8 = .ok (.if_icmp .gt 51, 3) := by decide +kernel
theorem dX5_total_11 : decode cX5_total 11 = .ok (.aload_n 0, 1) := by decide +kernel
theorem dX5_total_12 : decode cX5_total 12 = .ok (.getfield 21, 3) := by decide +kernel
theorem dX5_total_15 : decode cX5_total 15 = .ok (.iload_n 3, 1) := by decide +kernel
theorem dX5_total_16 : decode cX5_total 16 = .ok (.iaload, 1) := by decide +kernel
theorem dX5_total_17 : decode cX5_total 17 = .ok (.ifCond .le 36, 3) := by decide +kernel
theorem dX5_total_20 : decode cX5_total 20 = .ok (.iload_n 2, 1) := by decide +kernel
theorem dX5_total_21 : decode cX5_total 21 = .ok (.iload_n 1, 1) := by decide +kernel
theorem dX5_total_22 : decode cX5_total 22 = .ok (.ifCond .ne 12, 3) := by decide +kernel
theorem dX5_total_25 : decode cX5_total 25 = .ok (.aload_n 0, 1) := by decide +kernel
theorem dX5_total_26 : decode cX5_total 26 = .ok (.getfield 21, 3) := by decide +kernel
theorem dX5_total_29 : decode cX5_total 29 = .ok (.iload_n 3, 1) := by decide +kernel
theorem dX5_total_30 : decode cX5_total 30 = .ok (.iaload, 1) := by decide +kernel
theorem dX5_total_31 : decode cX5_total 31 = .ok (.goto 20, 3) := by decide +kernel
theorem dX5_total_34 : decode cX5_total 34 = .ok (.iload_n 1, 1) := by decide +kernel
theorem dX5_total_35 : decode cX5_total 35 = .ok (.iconst 1, 1) := by decide +kernel
theorem dX5_total_36 : decode cX5_total 36 = .ok (.if_icmp .ne 14, 3) := by decide +kernel
theorem dX5_total_39 : decode cX5_total 39 = .ok (.aload_n 0, 1) := by decide +kernel
theorem dX5_total_40 : decode cX5_total 40 = .ok (.getfield 21, 3) := by decide +kernel
theorem dX5_total_43 : decode cX5_total 43 = .ok (.iload_n 3, 1) := by decide +kernel
theorem dX5_total_44 : decode cX5_total 44 = .ok (.iaload, 1) := by decide +kernel
theorem dX5_total_45 : decode cX5_total 45 = .ok (.iload_n 3, 1) := by decide +kernel
theorem dX5_total_46 : decode cX5_total 46 = .ok (.imul, 1) := by decide +kernel
theorem dX5_total_47 : decode cX5_total 47 = .ok (.goto 4, 3) := by decide +kernel
theorem dX5_total_50 : decode cX5_total 50 = .ok (.iconst 1, 1) := by decide +kernel
theorem dX5_total_51 : decode cX5_total 51 = .ok (.iadd, 1) := by decide +kernel
theorem dX5_total_52 : decode cX5_total 52 = .ok (.istore_n 2, 1) := by decide +kernel
theorem dX5_total_53 : decode cX5_total 53 = .ok (.iinc 3 1, 3) := by decide +kernel
theorem dX5_total_56 : decode cX5_total 56 = .ok (.goto (-52), 3) := by decide +kernel
theorem dX5_total_59 : decode cX5_total 59 = .ok (.iload_n 2, 1) := by decide +kernel
theorem dX5_total_60 : decode cX5_total 60 = .ok (.ireturn, 1) := by decide +kernel
theorem dX5_ofLength_0 : decode cX5_ofLength 0 = .ok (.iload_n 1, 1) := by decide +kernel
theorem dX5_ofLength_1 : decode cX5_ofLength 1 = .ok (.bipush 50, 2) := by decide +kernel
theorem dX5_ofLength_3 : decode cX5_ofLength 3 = .ok (.if_icmp .ge 7, 3) := by decide +kernel
theorem dX5_ofLength_6 : decode cX5_ofLength 6 = .ok (.iconst 1, 1) := by decide +kernel
theorem dX5_ofLength_7 : decode cX5_ofLength 7 = .ok (.goto 4, 3) := by decide +kernel
theorem dX5_ofLength_10 : decode cX5_ofLength 10 = .ok (.iconst 0, 1) := by decide +kernel
theorem dX5_ofLength_11 : decode cX5_ofLength 11 = .ok (.istore_n 2, 1) := by decide +kernel
theorem dX5_ofLength_12 : decode cX5_ofLength 12 = .ok (.iload_n 2, 1) := by decide +kernel
theorem dX5_ofLength_13 : decode cX5_ofLength 13 = .ok (.ifCond .eq 10, 3) := by decide +kernel
theorem dX5_ofLength_16 : decode cX5_ofLength 16 = .ok (.iload_n 1, 1) := by decide +kernel
theorem dX5_ofLength_17 : decode cX5_ofLength 17 = .ok (.bipush 10, 2) := by decide +kernel
theorem dX5_ofLength_19 : decode cX5_ofLength 19 = .ok (.isub, 1) := by decide +kernel
theorem dX5_ofLength_20 : decode cX5_ofLength 20 = .ok (.goto 7, 3) := by decide +kernel
theorem dX5_ofLength_23 : decode cX5_ofLength 23 = .ok (.iload_n 1, 1) := by decide +kernel
theorem dX5_ofLength_24 : decode cX5_ofLength 24 = .ok (.bipush 50, 2) := by decide +kernel
theorem dX5_ofLength_26 : decode cX5_ofLength 26 = .ok (.isub, 1) := by decide +kernel
theorem dX5_ofLength_27 : decode cX5_ofLength 27 = .ok (.istore_n 3, 1) := by decide +kernel
theorem dX5_ofLength_28 : decode cX5_ofLength 28 = .ok (.iconst 0, 1) := by decide +kernel
theorem dX5_ofLength_29 : decode cX5_ofLength 29 = .ok (.istore 4, 2) := by decide +kernel
theorem dX5_ofLength_31 : decode cX5_ofLength 31 = .ok (.iconst 1, 1) := by decide +kernel
theorem dX5_ofLength_32 : decode cX5_ofLength 32 = .ok (.istore 5, 2) := by decide +kernel
theorem dX5_ofLength_34 : decode cX5_ofLength 34 = .ok (.iload 5, 2) := by decide +kernel
theorem dX5_ofLength_36 : decode cX5_ofLength 36 = .ok (.sipush 1024, 3) := by decide +kernel
theorem dX5_ofLength_39 : decode cX5_ofLength 39 = .ok (.if_icmp .gt 45, 3) := by decide +kernel
theorem dX5_ofLength_42 : decode cX5_ofLength 42 = .ok (.aload_n 0, 1) := by decide +kernel
theorem dX5_ofLength_43 : decode cX5_ofLength 43 = .ok (.getfield 21, 3) := by decide +kernel
theorem dX5_ofLength_46 : decode cX5_ofLength 46 = .ok (.iload 5, 2) := by decide +kernel
theorem dX5_ofLength_48 : decode cX5_ofLength 48 = .ok (.iaload, 1) := by decide +kernel
theorem dX5_ofLength_49 : decode cX5_ofLength 49 = .ok (.ifCond .le 29, 3) := by decide +kernel
theorem dX5_ofLength_52 : decode cX5_ofLength 52 = .ok (.iload 4, 2) := by decide +kernel
theorem dX5_ofLength_54 : decode cX5_ofLength 54 = .ok (.iload_n 3, 1) := by decide +kernel
theorem dX5_ofLength_55 : decode cX5_ofLength 55 = .ok (.if_icmp .ne 20, 3) := by decide +kernel
theorem dX5_ofLength_58 : decode cX5_ofLength 58 = .ok (.iload_n 2, 1) := by decide +kernel
theorem dX5_ofLength_59 : decode cX5_ofLength 59 = .ok (.ifCond .eq 8, 3) := by decide +kernel
theorem dX5_ofLength_62 : decode cX5_ofLength 62 = .ok (.iload 5, 2) := by decide +kernel
theorem dX5_ofLength_64 : decode cX5_ofLength 64 = .ok (.goto 10, 3) := by decide +kernel
theorem dX5_ofLength_67 : decode cX5_ofLength 67 = .ok (.aload_n 0, 1) := by decide +kernel
theorem dX5_ofLength_68 : decode cX5_ofLength 68 = .ok (.getfield 21, 3) := by decide +kernel
theorem dX5_ofLength_71 : decode cX5_ofLength 71 = .ok (.iload 5, 2) := by decide +kernel
theorem dX5_ofLength_73 : decode cX5_ofLength 73 = .ok (.iaload, 1) := by decide +kernel
theorem dX5_ofLength_74 : decode cX5_ofLength 74 = .ok (.ireturn, 1) := by decide +kernel
theorem dX5_ofLength_75 : decode cX5_ofLength 75 = .ok (.iinc 4 1, 3) := by decide +kernel
theorem dX5_ofLength_78 : decode cX5_ofLength 78 = .ok (.iinc 5 1, 3) := by decide +kernel
theorem dX5_ofLength_81 : decode cX5_ofLength 81 = .ok (.goto (-47), 3) := by decide +kernel
theorem dX5_ofLength_84 : decode cX5_ofLength 84 = .ok (.bipush (-5), 2) := by decide +kernel
theorem dX5_ofLength_86 : decode cX5_ofLength 86 = .ok (.ireturn, 1) := by decide +kernel
theorem dX6_init_0 : decode cX6_init 0 = .ok (.aload_n 0, 1) := by decide +kernel
theorem dX6_init_1 : decode cX6_init 1 = .ok (.invokespecial 3, 3) := by decide +kernel
theorem dX6_init_4 : decode cX6_init 4 = .ok (.aload_n 0, 1) := by decide +kernel
theorem dX6_init_5 : decode cX6_init 5 = .ok (.bipush 8, 2) := by decide +kernel
theorem dX6_init_7 : decode cX6_init 7 = .ok (.newarray .int, 2) := by decide +kernel
theorem dX6_init_9 : decode cX6_init 9 = .ok (.putfield 9, 3) := by decide +kernel
theorem dX6_init_12 : decode cX6_init 12 = .ok (.aload_n 0, 1) := by decide +kernel
theorem dX6_init_13 : decode cX6_init 13 = .ok (.bipush 8, 2) := by decide +kernel
theorem dX6_init_15 : decode cX6_init 15 = .ok (.newarray .int, 2) := by decide +kernel
theorem dX6_init_17 : decode cX6_init 17 = .ok (.putfield 15, 3) := by decide +kernel
theorem dX6_init_20 : decode cX6_init 20 = .ok (.aload_n 0, 1) := by decide +kernel
theorem dX6_init_21 : decode cX6_init 21 = .ok (.iconst 0, 1) := by decide +kernel
theorem dX6_init_22 : decode cX6_init 22 = .ok (.putfield 18, 3) := by decide +kernel
theorem dX6_init_25 : decode cX6_init 25 = .ok (.return_, 1) := by decide +kernel
theorem dX6_isFull_0 : decode cX6_isFull 0 = .ok (.aload_n 0, 1) := by decide +kernel
theorem dX6_isFull_1 : decode cX6_isFull 1 = .ok (.getfield 18, 3) := by decide +kernel
theorem dX6_isFull_4 : decode cX6_isFull 4 = .ok (.aload_n 0, 1) := by decide +kernel
theorem dX6_isFull_5 : decode cX6_isFull 5 = .ok (.getfield 9, 3) := by decide +kernel
theorem dX6_isFull_8 : decode cX6_isFull 8 = .ok (.arraylength, 1) := by decide +kernel
theorem dX6_isFull_9 : decode cX6_isFull 9 = .ok (.if_icmp .lt 7, 3) := by decide +kernel
theorem dX6_isFull_12 : decode cX6_isFull 12 = .ok (.iconst 1, 1) := by decide +kernel
theorem dX6_isFull_13 : decode cX6_isFull 13 = .ok (.goto 4, 3) := by decide +kernel
theorem dX6_isFull_16 : decode cX6_isFull 16 = .ok (.iconst 0, 1) := by decide +kernel
theorem dX6_isFull_17 : decode cX6_isFull 17 = .ok (.ireturn, 1) := by decide +kernel
theorem dX6_takes_0 : decode cX6_takes 0 = .ok (.iload_n 1, 1) := by decide +kernel
theorem dX6_takes_1 : decode cX6_takes 1 = .ok (.iconst 3, 1) := by decide +kernel
theorem dX6_takes_2 : decode cX6_takes 2 = .ok (.if_icmp .eq 31, 3) := by decide +kernel
theorem dX6_takes_5 : decode cX6_takes 5 = .ok (.iload_n 1, 1) := by decide +kernel
theorem dX6_takes_6 : decode cX6_takes 6 = .ok (.iconst 2, 1) := by decide +kernel
theorem dX6_takes_7 : decode cX6_takes 7 = .ok (.if_icmp .ne 15, 3) := by decide +kernel
theorem dX6_takes_10 : decode cX6_takes 10 = .ok (.iload_n 2, 1) := by decide +kernel
theorem dX6_takes_11 : decode cX6_takes 11 = .ok (.ifCond .eq 22, 3) := by decide +kernel
theorem dX6_takes_14 : decode cX6_takes 14 = .ok (.iload_n 2, 1) := by decide +kernel
theorem dX6_takes_15 : decode cX6_takes 15 = .ok (.iconst 1, 1) := by decide +kernel
theorem dX6_takes_16 : decode cX6_takes 16 = .ok (.if_icmp .ne 21, 3) := by decide +kernel
theorem dX6_takes_19 : decode cX6_takes 19 = .ok (.goto 14, 3) := by decide +kernel
theorem dX6_takes_22 : decode cX6_takes 22 = .ok (.iload_n 2, 1) := by decide +kernel
theorem dX6_takes_23 : decode cX6_takes 23 = .ok (.iconst 1, 1) := by decide +kernel
theorem dX6_takes_24 : decode cX6_takes 24 = .ok (.if_icmp .lt 13, 3) := by decide +kernel
theorem dX6_takes_27 : decode cX6_takes 27 = .ok (.iload_n 2, 1) := by decide +kernel
theorem dX6_takes_28 : decode cX6_takes 28 = .ok (.bipush 9, 2) := by decide +kernel
theorem dX6_takes_30 : decode cX6_takes 30 = .ok (.if_icmp .gt 7, 3) := by decide +kernel
theorem dX6_takes_33 : decode cX6_takes 33 = .ok (.iconst 1, 1) := by decide +kernel
theorem dX6_takes_34 : decode cX6_takes 34 = .ok (.goto 4, 3) := by decide +kernel
theorem dX6_takes_37 : decode cX6_takes 37 = .ok (.iconst 0, 1) := by decide +kernel
theorem dX6_takes_38 : decode cX6_takes 38 = .ok (.ireturn, 1) := by decide +kernel
theorem dX6_add_0 : decode cX6_add 0 = .ok (.aload_n 0, 1) := by decide +kernel
theorem dX6_add_1 : decode cX6_add 1 = .ok (.getfield 18, 3) := by decide +kernel
theorem dX6_add_4 : decode cX6_add 4 = .ok (.ifCond .lt 57, 3) := by decide +kernel
theorem dX6_add_7 : decode cX6_add 7 = .ok (.aload_n 0, 1) := by decide +kernel
theorem dX6_add_8 : decode cX6_add 8 = .ok (.getfield 18, 3) := by decide +kernel
theorem dX6_add_11 : decode cX6_add 11 = .ok (.aload_n 0, 1) := by decide +kernel
theorem dX6_add_12 : decode cX6_add 12 = .ok (.getfield 9, 3) := by decide +kernel
theorem dX6_add_15 : decode cX6_add 15 = .ok (.arraylength, 1) := by decide +kernel
theorem dX6_add_16 : decode cX6_add 16 = .ok (.if_icmp .ge 45, 3) := by decide +kernel
theorem dX6_add_19 : decode cX6_add 19 = .ok (.aload_n 0, 1) := by decide +kernel
theorem dX6_add_20 : decode cX6_add 20 = .ok (.getfield 18, 3) := by decide +kernel
theorem dX6_add_23 : decode cX6_add 23 = .ok (.aload_n 0, 1) := by decide +kernel
theorem dX6_add_24 : decode cX6_add 24 = .ok (.getfield 15, 3) := by decide +kernel
theorem dX6_add_27 : decode cX6_add 27 = .ok (.arraylength, 1) := by decide +kernel
theorem dX6_add_28 : decode cX6_add 28 = .ok (.if_icmp .ge 33, 3) := by decide +kernel
theorem dX6_add_31 : decode cX6_add 31 = .ok (.aload_n 0, 1) := by decide +kernel
theorem dX6_add_32 : decode cX6_add 32 = .ok (.getfield 9, 3) := by decide +kernel
theorem dX6_add_35 : decode cX6_add 35 = .ok (.aload_n 0, 1) := by decide +kernel
theorem dX6_add_36 : decode cX6_add 36 = .ok (.getfield 18, 3) := by decide +kernel
theorem dX6_add_39 : decode cX6_add 39 = .ok (.iload_n 1, 1) := by decide +kernel
theorem dX6_add_40 : decode cX6_add 40 = .ok (.iastore, 1) := by decide +kernel
theorem dX6_add_41 : decode cX6_add 41 = .ok (.aload_n 0, 1) := by decide +kernel
theorem dX6_add_42 : decode cX6_add 42 = .ok (.getfield 15, 3) := by decide +kernel
theorem dX6_add_45 : decode cX6_add 45 = .ok (.aload_n 0, 1) := by decide +kernel
theorem dX6_add_46 : decode cX6_add 46 = .ok (.getfield 18, 3) := by decide +kernel
theorem dX6_add_49 : decode cX6_add 49 = .ok (.iload_n 2, 1) := by decide +kernel
theorem dX6_add_50 : decode cX6_add 50 = .ok (.iastore, 1) := by decide +kernel
theorem dX6_add_51 : decode cX6_add 51 = .ok (.aload_n 0, 1) := by decide +kernel
theorem dX6_add_52 : decode cX6_add 52 = .ok (.dup, 1) := by decide +kernel
theorem dX6_add_53 : decode cX6_add 53 = .ok (.getfield 18, 3) := by decide +kernel
theorem dX6_add_56 : decode cX6_add 56 = .ok (.iconst 1, 1) := by decide +kernel
theorem dX6_add_57 : decode cX6_add 57 = .ok (.iadd, 1) := by decide +kernel
theorem dX6_add_58 : decode cX6_add 58 = .ok (.putfield 18, 3) := by decide +kernel
theorem dX6_add_61 : decode cX6_add 61 = .ok (.return_, 1) := by decide +kernel
theorem dX6_copyFrom_0 : decode cX6_copyFrom 0 = .ok (.aload_n 1, 1) := by decide +kernel
theorem dX6_copyFrom_1 : decode cX6_copyFrom 1 = .ok (.getfield 9, 3) := by decide +kernel
theorem dX6_copyFrom_4 : decode cX6_copyFrom 4 = .ok (.iconst 0, 1) := by decide +kernel
theorem dX6_copyFrom_5 : decode cX6_copyFrom 5 = .ok (.aload_n 0, 1) := by decide +kernel
theorem dX6_copyFrom_6 : decode cX6_copyFrom 6 = .ok (.getfield 9, 3) := by decide +kernel
theorem dX6_copyFrom_9 : decode cX6_copyFrom 9 = .ok (.iconst 0, 1) := by decide +kernel
theorem dX6_copyFrom_10 : decode cX6_copyFrom 10 = .ok (.aload_n 0, 1) := by decide +kernel
theorem dX6_copyFrom_11 : decode cX6_copyFrom 11 = .ok (.getfield 9, 3) := by decide +kernel
theorem dX6_copyFrom_14 : decode cX6_copyFrom 14 = .ok (.arraylength, 1) := by decide +kernel
theorem dX6_copyFrom_15 : decode cX6_copyFrom 15 = .ok (.invokestatic 22, 3) := by decide +kernel
theorem dX6_copyFrom_18 : decode cX6_copyFrom 18 = .ok (.aload_n 1, 1) := by decide +kernel
theorem dX6_copyFrom_19 : decode cX6_copyFrom 19 = .ok (.getfield 15, 3) := by decide +kernel
theorem dX6_copyFrom_22 : decode cX6_copyFrom 22 = .ok (.iconst 0, 1) := by decide +kernel
theorem dX6_copyFrom_23 : decode cX6_copyFrom 23 = .ok (.aload_n 0, 1) := by decide +kernel
theorem dX6_copyFrom_24 : decode cX6_copyFrom 24 = .ok (.getfield 15, 3) := by decide +kernel
theorem dX6_copyFrom_27 : decode cX6_copyFrom 27 = .ok (.iconst 0, 1) := by decide +kernel
theorem dX6_copyFrom_28 : decode cX6_copyFrom 28 = .ok (.aload_n 0, 1) := by decide +kernel
theorem dX6_copyFrom_29 : decode cX6_copyFrom 29 = .ok (.getfield 15, 3) := by decide +kernel
theorem dX6_copyFrom_32 : decode cX6_copyFrom 32 = .ok (.arraylength, 1) := by decide +kernel
theorem dX6_copyFrom_33 : decode cX6_copyFrom 33 = .ok (.invokestatic 22, 3) := by decide +kernel
theorem dX6_copyFrom_36 : decode cX6_copyFrom 36 = .ok (.aload_n 0, 1) := by decide +kernel
theorem dX6_copyFrom_37 : decode cX6_copyFrom 37 = .ok (.aload_n 1, 1) := by decide +kernel
theorem dX6_copyFrom_38 : decode cX6_copyFrom 38 = .ok (.getfield 18, 3) := by decide +kernel
theorem dX6_copyFrom_41 : decode cX6_copyFrom 41 = .ok (.putfield 18, 3) := by decide +kernel
theorem dX6_copyFrom_44 : decode cX6_copyFrom 44 = .ok (.return_, 1) := by decide +kernel
theorem dX6_endOf_0 : decode cX6_endOf 0 = .ok (.iload_n 2, 1) := by decide +kernel
theorem dX6_endOf_1 : decode cX6_endOf 1 = .ok (.istore_n 3, 1) := by decide +kernel
theorem dX6_endOf_2 : decode cX6_endOf 2 = .ok (.iconst 0, 1) := by decide +kernel
theorem dX6_endOf_3 : decode cX6_endOf 3 = .ok (.istore 4, 2) := by decide +kernel
theorem dX6_endOf_5 : decode cX6_endOf 5 = .ok (.iload 4, 2) := by decide +kernel
theorem dX6_endOf_7 : decode cX6_endOf 7 = .ok (.aload_n 0, 1) := by decide +kernel
theorem dX6_endOf_8 : decode cX6_endOf 8 = .ok (.getfield 18, 3) := by decide +kernel
theorem dX6_endOf_11 : decode cX6_endOf 11 = .ok (.if_icmp .ge 114, 3) := by decide +kernel
theorem dX6_endOf_14 : decode cX6_endOf 14 = .ok (.iload 4, 2) := by decide +kernel
theorem dX6_endOf_16 : decode cX6_endOf 16 = .ok (.aload_n 0, 1) := by decide +kernel
theorem dX6_endOf_17 : decode cX6_endOf 17 = .ok (.getfield 9, 3) := by decide +kernel
theorem dX6_endOf_20 : decode cX6_endOf 20 = .ok (.arraylength, 1) := by decide +kernel
theorem dX6_endOf_21 : decode cX6_endOf 21 = .ok (.if_icmp .ge 104, 3) := by decide +kernel
theorem dX6_endOf_24 : decode cX6_endOf 24 = .ok (.iload 4, 2) := by decide +kernel
theorem dX6_endOf_26 : decode cX6_endOf 26 = .ok (.aload_n 0, 1) := by decide +kernel
theorem dX6_endOf_27 : decode cX6_endOf 27 = .ok (.getfield 15, 3) := by decide +kernel
theorem dX6_endOf_30 : decode cX6_endOf 30 = .ok (.arraylength, 1) := by decide +kernel
theorem dX6_endOf_31 : decode cX6_endOf 31 = .ok (.if_icmp .ge 94, 3) := by decide +kernel
theorem dX6_endOf_34 : decode cX6_endOf 34 = .ok (.aload_n 0, 1) := by decide +kernel
theorem dX6_endOf_35 : decode cX6_endOf 35 = .ok (.getfield 9, 3) := by decide +kernel
theorem dX6_endOf_38 : decode cX6_endOf 38 = .ok (.iload 4, 2) := by decide +kernel
theorem dX6_endOf_40 : decode cX6_endOf 40 = .ok (.iaload, 1) := by decide +kernel
theorem dX6_endOf_41 : decode cX6_endOf 41 = .ok (.iconst 3, 1) := by decide +kernel
theorem dX6_endOf_42 : decode cX6_endOf 42 = .ok (.if_icmp .ne 19, 3) := by decide +kernel
theorem dX6_endOf_45 : decode cX6_endOf 45 = .ok (.iload_n 3, 1) := by decide +kernel
theorem dX6_endOf_46 : decode cX6_endOf 46 = .ok (.bipush 32, 2) := by decide +kernel
theorem dX6_endOf_48 : decode cX6_endOf 48 = .ok (.irem, 1) := by decide +kernel
theorem dX6_endOf_49 : decode cX6_endOf 49 = .ok (.bipush 32, 2) := by decide +kernel
theorem dX6_endOf_51 : decode cX6_endOf 51 = .ok (.imul, 1) := by decide +kernel
theorem dX6_endOf_52 : decode cX6_endOf 52 = .ok (.iload_n 3, 1) := by decide +kernel
theorem dX6_endOf_53 : decode cX6_endOf 53 = .ok (.bipush 32, 2) := by decide +kernel
theorem dX6_endOf_55 : decode cX6_endOf 55 = .ok (.idiv, 1) := by decide +kernel
theorem dX6_endOf_56 : decode cX6_endOf 56 = .ok (.iadd, 1) := by decide +kernel
theorem dX6_endOf_57 : decode cX6_endOf 57 = .ok (.istore_n 3, 1) := by decide +kernel
theorem dX6_endOf_58 : decode cX6_endOf 58 = .ok (.goto 61, 3) := by decide +kernel
theorem dX6_endOf_61 : decode cX6_endOf 61 = .ok (.aload_n 0, 1) := by decide +kernel
theorem dX6_endOf_62 : decode cX6_endOf 62 = .ok (.getfield 9, 3) := by decide +kernel
theorem dX6_endOf_65 : decode cX6_endOf 65 = .ok (.iload 4, 2) := by decide +kernel
theorem dX6_endOf_67 : decode cX6_endOf 67 = .ok (.iaload, 1) := by decide +kernel
theorem dX6_endOf_68 : decode cX6_endOf 68 = .ok (.iconst 2, 1) := by decide +kernel
theorem dX6_endOf_69 : decode cX6_endOf 69 = .ok (.if_icmp .ne 20, 3) := by decide +kernel
theorem dX6_endOf_72 : decode cX6_endOf 72 = .ok (.aload_n 0, 1) := by decide +kernel
theorem dX6_endOf_73 : decode cX6_endOf 73 = .ok (.aload_n 1, 1) := by decide +kernel
theorem dX6_endOf_74 : decode cX6_endOf 74 = .ok (.aload_n 0, 1) := by decide +kernel
theorem dX6_endOf_75 : decode cX6_endOf 75 = .ok (.getfield 15, 3) := by decide +kernel
theorem dX6_endOf_78 : decode cX6_endOf 78 = .ok (.iload 4, 2) := by decide +kernel
theorem dX6_endOf_80 : decode cX6_endOf 80 = .ok (.iaload, 1) := by decide +kernel
theorem dX6_endOf_81 : decode cX6_endOf 81 = .ok (.iload_n 3, 1) := by decide +kernel
theorem dX6_endOf_82 : decode cX6_endOf 82 = .ok (.invokevirtual 28, 3) := by decide +kernel
theorem dX6_endOf_85 : decode cX6_endOf 85 = .ok (.istore_n 3, 1) := by decide +kernel
theorem dX6_endOf_86 : decode cX6_endOf 86 = .ok (.goto 33, 3) := by decide +kernel
theorem dX6_endOf_89 : decode cX6_endOf 89 = .ok (.aload_n 0, 1) := by decide +kernel
theorem dX6_endOf_90 : decode cX6_endOf 90 = .ok (.aload_n 1, 1) := by decide +kernel
theorem dX6_endOf_91 : decode cX6_endOf 91 = .ok (.aload_n 0, 1) := by decide +kernel
theorem dX6_endOf_92 : decode cX6_endOf 92 = .ok (.getfield 9, 3) := by decide +kernel
theorem dX6_endOf_95 : decode cX6_endOf 95 = .ok (.iload 4, 2) := by decide +kernel
theorem dX6_endOf_97 : decode cX6_endOf 97 = .ok (.iaload, 1) := by decide +kernel
theorem dX6_endOf_98 : decode cX6_endOf 98 = .ok (.iconst 1, 1) := by decide +kernel
theorem dX6_endOf_99 : decode cX6_endOf 99 = .ok (.if_icmp .ne 7, 3) := by decide +kernel
theorem dX6_endOf_102 : decode cX6_endOf 102 = .ok (.iconst 1, 1) := by decide +kernel
theorem dX6_endOf_103 : decode cX6_endOf 103 = .ok (.goto 4, 3) := by decide +kernel
theorem dX6_endOf_106 : decode cX6_endOf 106 = .ok (.iconst 0, 1) := by decide +kernel
theorem dX6_endOf_107 : decode cX6_endOf 107 = .ok (.aload_n 0, 1) := by decide +kernel
theorem dX6_endOf_108 : decode cX6_endOf 108 = .ok (.getfield 15, 3) := by decide +kernel
theorem dX6_endOf_111 : decode cX6_endOf 111 = .ok (.iload 4, 2) := by decide +kernel
theorem dX6_endOf_113 : decode cX6_endOf 113 = .ok (.iaload, 1) := by decide +kernel
theorem dX6_endOf_114 : decode cX6_endOf 114 = .ok (.iload_n 3, 1) := by decide +kernel
theorem dX6_endOf_115 : decode cX6_endOf 115 = .ok (.invokevirtual 32, 3) := by decide +kernel
theorem dX6_endOf_118 : decode cX6_endOf 118 = .ok (.istore_n 3, 1) := by decide +kernel
theorem dX6_endOf_119 : decode cX6_endOf 119 = .ok (.iinc 4 1, 3) := by decide +kernel
theorem dX6_endOf_122 : decode cX6_endOf 122 = .ok (.goto (-117), 3) := by decide +kernel
theorem dX6_endOf_125 : decode cX6_endOf 125 = .ok (.iload_n 3, 1) := by decide +kernel
theorem dX6_endOf_126 : decode cX6_endOf 126 = .ok (.ireturn, 1) := by decide +kernel
theorem dX6_swappedIfItGoes_0 : decode cX6_swappedIfItGoes 0 = .ok (.iload_n 3, 1) := by decide +kernel
theorem dX6_swappedIfItGoes_1 : decode cX6_swappedIfItGoes 1 = .ok (.bipush 32, 2) := by decide +kernel
theorem dX6_swappedIfItGoes_3 : decode cX6_swappedIfItGoes 3 = .ok (.idiv, 1) := by decide +kernel
theorem dX6_swappedIfItGoes_4 : decode cX6_swappedIfItGoes 4 = .ok (.istore 4, 2) := by decide +kernel
theorem dX6_swappedIfItGoes_6 : decode cX6_swappedIfItGoes 6 = .ok (.iload_n 3, 1) := by decide +kernel
theorem dX6_swappedIfItGoes_7 : decode cX6_swappedIfItGoes 7 = .ok (.bipush 32, 2) := by decide +kernel
theorem dX6_swappedIfItGoes_9 : decode cX6_swappedIfItGoes 9 = .ok (.irem, 1) := by decide +kernel
theorem dX6_swappedIfItGoes_10 : decode cX6_swappedIfItGoes 10 = .ok (.istore 5, 2) := by decide +kernel
theorem dX6_swappedIfItGoes_12 : decode cX6_swappedIfItGoes 12 = .ok (.iload_n 2, 1) := by decide +kernel
theorem dX6_swappedIfItGoes_13 : decode cX6_swappedIfItGoes 13 = .ok (.ifCond .ne 15, 3) := by decide +kernel
theorem dX6_swappedIfItGoes_16 : decode cX6_swappedIfItGoes 16 = .ok (.aload_n 1, 1) := by decide +kernel
theorem dX6_swappedIfItGoes_17 : decode cX6_swappedIfItGoes 17 = .ok (.iconst 0, 1) := by decide +kernel
theorem dX6_swappedIfItGoes_18 : decode cX6_swappedIfItGoes 18 = .ok (.iload 4, 2) := by decide +kernel
theorem dX6_swappedIfItGoes_20 : decode cX6_swappedIfItGoes 20 = .ok (.iload 5, 2) := by decide +kernel
theorem dX6_swappedIfItGoes_22 : decode cX6_swappedIfItGoes 22 = .ok (.invokevirtual 36, 3) := by decide +kernel
theorem dX6_swappedIfItGoes_25 : decode cX6_swappedIfItGoes 25 = .ok (.goto 12, 3) := by decide +kernel
theorem dX6_swappedIfItGoes_28 : decode cX6_swappedIfItGoes 28 = .ok (.aload_n 1, 1) := by decide +kernel
theorem dX6_swappedIfItGoes_29 : decode cX6_swappedIfItGoes 29 = .ok (.iconst 1, 1) := by decide +kernel
theorem dX6_swappedIfItGoes_30 : decode cX6_swappedIfItGoes 30 = .ok (.iload 5, 2) := by decide +kernel
theorem dX6_swappedIfItGoes_32 : decode cX6_swappedIfItGoes 32 = .ok (.iload 4, 2) := by decide +kernel
theorem dX6_swappedIfItGoes_34 : decode cX6_swappedIfItGoes 34 = .ok (.invokevirtual 36, 3) := by decide +kernel
theorem dX6_swappedIfItGoes_37 : decode cX6_swappedIfItGoes 37 = .ok (.istore 6, 2) := by decide +kernel
theorem dX6_swappedIfItGoes_39 : decode cX6_swappedIfItGoes 39 = .ok (.iload 6, 2) := by decide +kernel
theorem dX6_swappedIfItGoes_41 : decode cX6_swappedIfItGoes 41 = .ok (.bipush (-7), 2) := by decide +kernel
theorem dX6_swappedIfItGoes_43 : decode cX6_swappedIfItGoes 43 = .ok (.if_icmp .ne 5, 3) := by decide +kernel
theorem dX6_swappedIfItGoes_46 : decode cX6_swappedIfItGoes 46 = .ok (.iload_n 3, 1) := by decide +kernel
theorem dX6_swappedIfItGoes_47 : decode cX6_swappedIfItGoes 47 = .ok (.ireturn, 1) := by decide +kernel
theorem dX6_swappedIfItGoes_48 : decode cX6_swappedIfItGoes 48 = .ok (.iload_n 2, 1) := by decide +kernel
theorem dX6_swappedIfItGoes_49 : decode cX6_swappedIfItGoes 49 = .ok (.ifCond .ne 14, 3) := by decide +kernel
theorem dX6_swappedIfItGoes_52 : decode cX6_swappedIfItGoes 52 = .ok (.iload 6, 2) := by decide +kernel
theorem dX6_swappedIfItGoes_54 : decode cX6_swappedIfItGoes 54 = .ok (.bipush 32, 2) := by decide +kernel
theorem dX6_swappedIfItGoes_56 : decode cX6_swappedIfItGoes 56 = .ok (.imul, 1) := by decide +kernel
theorem dX6_swappedIfItGoes_57 : decode cX6_swappedIfItGoes 57 = .ok (.iload 5, 2) := by decide +kernel
theorem dX6_swappedIfItGoes_59 : decode cX6_swappedIfItGoes 59 = .ok (.iadd, 1) := by decide +kernel
theorem dX6_swappedIfItGoes_60 : decode cX6_swappedIfItGoes 60 = .ok (.goto 11, 3) := by decide +kernel
theorem dX6_swappedIfItGoes_63 : decode cX6_swappedIfItGoes 63 = .ok (.iload 4, 2) := by decide +kernel
theorem dX6_swappedIfItGoes_65 : decode cX6_swappedIfItGoes 65 = .ok (.bipush 32, 2) := by decide +kernel
theorem dX6_swappedIfItGoes_67 : decode cX6_swappedIfItGoes 67 = .ok (.imul, 1) := by decide +kernel
theorem dX6_swappedIfItGoes_68 : decode cX6_swappedIfItGoes 68 = .ok (.iload 6, 2) := by decide +kernel
theorem dX6_swappedIfItGoes_70 : decode cX6_swappedIfItGoes 70 = .ok (.iadd, 1) := by decide +kernel
theorem dX6_swappedIfItGoes_71 : decode cX6_swappedIfItGoes 71 = .ok (.ireturn, 1) := by decide +kernel
theorem dX6_steppedAsFarAsItGoes_0 : decode cX6_steppedAsFarAsItGoes 0 = .ok (.iload 4, 2) := by decide +kernel
theorem dX6_steppedAsFarAsItGoes_2 : decode cX6_steppedAsFarAsItGoes 2 = .ok (.istore 5, 2) := by decide +kernel
theorem dX6_steppedAsFarAsItGoes_4 : decode cX6_steppedAsFarAsItGoes 4 = .ok (.iconst 0, 1) := by decide +kernel
theorem dX6_steppedAsFarAsItGoes_5 : decode cX6_steppedAsFarAsItGoes 5 = .ok (.istore 6, 2) := by decide +kernel
theorem dX6_steppedAsFarAsItGoes_7 : decode cX6_steppedAsFarAsItGoes 7 = .ok (.iload 6, 2) := by decide +kernel
theorem dX6_steppedAsFarAsItGoes_9 : decode cX6_steppedAsFarAsItGoes 9 = .ok (.iload_n 3, 1) := by decide +kernel
theorem dX6_steppedAsFarAsItGoes_10 : decode cX6_steppedAsFarAsItGoes 10 = .ok (.if_icmp .ge 44, 3) := by decide +kernel
theorem dX6_steppedAsFarAsItGoes_13 : decode cX6_steppedAsFarAsItGoes 13 = .ok (.iload_n 2, 1) := by decide +kernel
theorem dX6_steppedAsFarAsItGoes_14 : decode cX6_steppedAsFarAsItGoes 14 = .ok (.ifCond .eq 12, 3) := by decide +kernel
theorem dX6_steppedAsFarAsItGoes_17 : decode cX6_steppedAsFarAsItGoes 17 = .ok (.aload_n 1, 1) := by decide +kernel
theorem dX6_steppedAsFarAsItGoes_18 : decode cX6_steppedAsFarAsItGoes 18 = .ok (.iload 5, 2) := by decide +kernel
theorem dX6_steppedAsFarAsItGoes_20 : decode cX6_steppedAsFarAsItGoes 20 = .ok (.invokevirtual 42, 3) := by decide +kernel
theorem dX6_steppedAsFarAsItGoes_23 : decode cX6_steppedAsFarAsItGoes 23 = .ok (.goto 9, 3) := by decide +kernel
theorem dX6_steppedAsFarAsItGoes_26 : decode cX6_steppedAsFarAsItGoes 26 = .ok (.aload_n 1, 1) := by decide +kernel
theorem dX6_steppedAsFarAsItGoes_27 : decode cX6_steppedAsFarAsItGoes 27 = .ok (.iload 5, 2) := by decide +kernel
theorem dX6_steppedAsFarAsItGoes_29 : decode cX6_steppedAsFarAsItGoes 29 = .ok (.invokevirtual 46, 3) := by decide +kernel
theorem dX6_steppedAsFarAsItGoes_32 : decode cX6_steppedAsFarAsItGoes 32 = .ok (.istore 7, 2) := by decide +kernel
theorem dX6_steppedAsFarAsItGoes_34 : decode cX6_steppedAsFarAsItGoes 34 = .ok (.iload 7, 2) := by decide +kernel
theorem dX6_steppedAsFarAsItGoes_36 : decode cX6_steppedAsFarAsItGoes 36 = .ok (.bipush (-7), 2) := by decide +kernel
theorem dX6_steppedAsFarAsItGoes_38 : decode cX6_steppedAsFarAsItGoes 38 = .ok (.if_icmp .ne 6, 3) := by decide +kernel
theorem dX6_steppedAsFarAsItGoes_41 : decode cX6_steppedAsFarAsItGoes 41 = .ok (.iload 5, 2) := by decide +kernel
theorem dX6_steppedAsFarAsItGoes_43 : decode cX6_steppedAsFarAsItGoes 43 = .ok (.ireturn, 1) := by decide +kernel
theorem dX6_steppedAsFarAsItGoes_44 : decode cX6_steppedAsFarAsItGoes 44 = .ok (.iload 7, 2) := by decide +kernel
theorem dX6_steppedAsFarAsItGoes_46 : decode cX6_steppedAsFarAsItGoes 46 = .ok (.istore 5, 2) := by decide +kernel
theorem dX6_steppedAsFarAsItGoes_48 : decode cX6_steppedAsFarAsItGoes 48 = .ok (.iinc 6 1, 3) := by decide +kernel
theorem dX6_steppedAsFarAsItGoes_51 : decode cX6_steppedAsFarAsItGoes 51 = .ok (.goto (-44), 3) := by decide +kernel
theorem dX6_steppedAsFarAsItGoes_54 : decode cX6_steppedAsFarAsItGoes 54 = .ok (.iload 5, 2) := by decide +kernel
theorem dX6_steppedAsFarAsItGoes_56 : decode cX6_steppedAsFarAsItGoes 56 = .ok (.ireturn, 1) := by decide +kernel
theorem dX7_init_0 : decode cX7_init 0 = .ok (.aload_n 0, 1) := by decide +kernel
theorem dX7_init_1 : decode cX7_init 1 = .ok (.invokespecial 3, 3) := by decide +kernel
theorem dX7_init_4 : decode cX7_init 4 = .ok (.aload_n 0, 1) := by decide +kernel
theorem dX7_init_5 : decode cX7_init 5 = .ok (.sipush 1300, 3) := by decide +kernel
theorem dX7_init_8 : decode cX7_init 8 = .ok (.newarray .int, 2) := by decide +kernel
theorem dX7_init_10 : decode cX7_init 10 = .ok (.putfield 11, 3) := by decide +kernel
theorem dX7_init_13 : decode cX7_init 13 = .ok (.aload_n 0, 1) := by decide +kernel
theorem dX7_init_14 : decode cX7_init 14 = .ok (.iconst 0, 1) := by decide +kernel
theorem dX7_init_15 : decode cX7_init 15 = .ok (.putfield 15, 3) := by decide +kernel
theorem dX7_init_18 : decode cX7_init 18 = .ok (.return_, 1) := by decide +kernel
theorem dX7_isZero_0 : decode cX7_isZero 0 = .ok (.aload_n 0, 1) := by decide +kernel
theorem dX7_isZero_1 : decode cX7_isZero 1 = .ok (.getfield 15, 3) := by decide +kernel
theorem dX7_isZero_4 : decode cX7_isZero 4 = .ok (.ifCond .ne 7, 3) := by decide +kernel
theorem dX7_isZero_7 : decode cX7_isZero 7 = .ok (.iconst 1, 1) := by decide +kernel
theorem dX7_isZero_8 : decode cX7_isZero 8 = .ok (.goto 4, 3) := by decide +kernel
theorem dX7_isZero_11 : decode cX7_isZero 11 = .ok (.iconst 0, 1) := by decide +kernel
theorem dX7_isZero_12 : decode cX7_isZero 12 = .ok (.ireturn, 1) := by decide +kernel
theorem dX7_clear_0 : decode cX7_clear 0 = .ok (.iconst 0, 1) := by decide +kernel
theorem dX7_clear_1 : decode cX7_clear 1 = .ok (.istore_n 1, 1) := by decide +kernel
theorem dX7_clear_2 : decode cX7_clear 2 = .ok (.iload_n 1, 1) := by decide +kernel
theorem dX7_clear_3 : decode cX7_clear 3 = .ok (.aload_n 0, 1) := by decide +kernel
theorem dX7_clear_4 : decode cX7_clear 4 = .ok (.getfield 15, 3) := by decide +kernel
theorem dX7_clear_7 : decode cX7_clear 7 = .ok (.if_icmp .ge 23, 3) := by decide +kernel
theorem dX7_clear_10 : decode cX7_clear 10 = .ok (.iload_n 1, 1) := by decide +kernel
theorem dX7_clear_11 : decode cX7_clear 11 = .ok (.sipush 1300, 3) := by decide +kernel
theorem dX7_clear_14 : decode cX7_clear 14 = .ok (.if_icmp .ge 16, 3) := by decide +kernel
theorem dX7_clear_17 : decode cX7_clear 17 = .ok (.aload_n 0, 1) := by decide +kernel
theorem dX7_clear_18 : decode cX7_clear 18 = .ok (.getfield 11, 3) := by decide +kernel
theorem dX7_clear_21 : decode cX7_clear 21 = .ok (.iload_n 1, 1) := by decide +kernel
theorem dX7_clear_22 : decode cX7_clear 22 = .ok (.iconst 0, 1) := by decide +kernel
theorem dX7_clear_23 : decode cX7_clear 23 = .ok (.iastore, 1) := by decide +kernel
theorem dX7_clear_24 : decode cX7_clear 24 = .ok (.iinc 1 1, 3) := by decide +kernel
theorem dX7_clear_27 : decode cX7_clear 27 = .ok (.goto (-25), 3) := by decide +kernel
theorem dX7_clear_30 : decode cX7_clear 30 = .ok (.aload_n 0, 1) := by decide +kernel
theorem dX7_clear_31 : decode cX7_clear 31 = .ok (.iconst 0, 1) := by decide +kernel
theorem dX7_clear_32 : decode cX7_clear 32 = .ok (.putfield 15, 3) := by decide +kernel
theorem dX7_clear_35 : decode cX7_clear 35 = .ok (.return_, 1) := by decide +kernel
theorem dX7_becomeNumber_0 : decode cX7_becomeNumber 0 = .ok (.aload_n 0, 1) := by decide +kernel
theorem dX7_becomeNumber_1 : decode cX7_becomeNumber 1 = .ok (.invokevirtual 19, 3) := by decide +kernel
theorem dX7_becomeNumber_4 : decode cX7_becomeNumber 4 = .ok (.aload_n 0, 1) := by decide +kernel
theorem dX7_becomeNumber_5 : decode cX7_becomeNumber 5 = .ok (.getfield 11, 3) := by decide +kernel
theorem dX7_becomeNumber_8 : decode cX7_becomeNumber 8 = .ok (.iconst 0, 1) := by decide +kernel
theorem dX7_becomeNumber_9 : decode cX7_becomeNumber 9 = .ok (.iload_n 1, 1) := by decide +kernel
theorem dX7_becomeNumber_10 : decode cX7_becomeNumber 10 = .ok (.invokestatic 22, 3) := by decide +kernel
theorem dX7_becomeNumber_13 : decode cX7_becomeNumber 13 = .ok (.iastore, 1) := by decide +kernel
theorem dX7_becomeNumber_14 : decode cX7_becomeNumber 14 = .ok (.aload_n 0, 1) := by decide +kernel
theorem dX7_becomeNumber_15 : decode cX7_becomeNumber 15 = .ok (.iconst 1, 1) := by decide +kernel
theorem dX7_becomeNumber_16 : decode cX7_becomeNumber 16 = .ok (.invokevirtual 26, 3) := by decide +kernel
theorem dX7_becomeNumber_19 : decode cX7_becomeNumber 19 = .ok (.return_, 1) := by decide +kernel
theorem dX7_becomeUnknown_0 : decode cX7_becomeUnknown 0 = .ok (.aload_n 0, 1) := by decide +kernel
theorem dX7_becomeUnknown_1 : decode cX7_becomeUnknown 1 = .ok (.invokevirtual 19, 3) := by decide +kernel
theorem dX7_becomeUnknown_4 : decode cX7_becomeUnknown 4 = .ok (.aload_n 0, 1) := by decide +kernel
theorem dX7_becomeUnknown_5 : decode cX7_becomeUnknown 5 = .ok (.getfield 11, 3) := by decide +kernel
theorem dX7_becomeUnknown_8 : decode cX7_becomeUnknown 8 = .ok (.iconst 1, 1) := by decide +kernel
theorem dX7_becomeUnknown_9 : decode cX7_becomeUnknown 9 = .ok (.iconst 1, 1) := by decide +kernel
theorem dX7_becomeUnknown_10 : decode cX7_becomeUnknown 10 = .ok (.iastore, 1) := by decide +kernel
theorem dX7_becomeUnknown_11 : decode cX7_becomeUnknown 11 = .ok (.aload_n 0, 1) := by decide +kernel
theorem dX7_becomeUnknown_12 : decode cX7_becomeUnknown 12 = .ok (.iconst 2, 1) := by decide +kernel
theorem dX7_becomeUnknown_13 : decode cX7_becomeUnknown 13 = .ok (.putfield 15, 3) := by decide +kernel
theorem dX7_becomeUnknown_16 : decode cX7_becomeUnknown 16 = .ok (.return_, 1) := by decide +kernel
theorem dX7_copyFrom_0 : decode cX7_copyFrom 0 = .ok (.aload_n 1, 1) := by decide +kernel
theorem dX7_copyFrom_1 : decode cX7_copyFrom 1 = .ok (.getfield 11, 3) := by decide +kernel
theorem dX7_copyFrom_4 : decode cX7_copyFrom 4 = .ok (.iconst 0, 1) := by decide +kernel
theorem dX7_copyFrom_5 : decode cX7_copyFrom 5 = .ok (.aload_n 0, 1) := by decide +kernel
theorem dX7_copyFrom_6 : decode cX7_copyFrom 6 = .ok (.getfield 11, 3) := by decide +kernel
theorem dX7_copyFrom_9 : decode cX7_copyFrom 9 = .ok (.iconst 0, 1) := by decide +kernel
theorem dX7_copyFrom_10 : decode cX7_copyFrom 10 = .ok (.sipush 1300, 3) := by decide +kernel
theorem dX7_copyFrom_13 : decode cX7_copyFrom 13 = .ok (.invokestatic 30, 3) := by decide +kernel
theorem dX7_copyFrom_16 : decode cX7_copyFrom 16 = .ok (.aload_n 0, 1) := by decide +kernel
theorem dX7_copyFrom_17 : decode cX7_copyFrom 17 = .ok (.aload_n 1, 1) := by decide +kernel
theorem dX7_copyFrom_18 : decode cX7_copyFrom 18 = .ok (.getfield 15, 3) := by decide +kernel
theorem dX7_copyFrom_21 : decode cX7_copyFrom 21 = .ok (.putfield 15, 3) := by decide +kernel
theorem dX7_copyFrom_24 : decode cX7_copyFrom 24 = .ok (.return_, 1) := by decide +kernel
theorem dX7_trim_0 : decode cX7_trim 0 = .ok (.aload_n 0, 1) := by decide +kernel
theorem dX7_trim_1 : decode cX7_trim 1 = .ok (.iload_n 1, 1) := by decide +kernel
theorem dX7_trim_2 : decode cX7_trim 2 = .ok (.sipush 1300, 3) := by decide +kernel
theorem dX7_trim_5 : decode cX7_trim 5 = .ok (.if_icmp .ge 7, 3) := by decide +kernel
theorem dX7_trim_8 : decode cX7_trim 8 = .ok (.iload_n 1, 1) := by decide +kernel
theorem dX7_trim_9 : decode cX7_trim 9 = .ok (.goto 6, 3) := by decide +kernel
theorem dX7_trim_12 : decode cX7_trim 12 = .ok (.sipush 1300, 3) := by decide +kernel
theorem dX7_trim_15 : decode cX7_trim 15 = .ok (.putfield 15, 3) := by decide +kernel
theorem dX7_trim_18 : decode cX7_trim 18 = .ok (.aload_n 0, 1) := by decide +kernel
theorem dX7_trim_19 : decode cX7_trim 19 = .ok (.getfield 15, 3) := by decide +kernel
theorem dX7_trim_22 : decode cX7_trim 22 = .ok (.ifCond .le 30, 3) := by decide +kernel
theorem dX7_trim_25 : decode cX7_trim 25 = .ok (.aload_n 0, 1) := by decide +kernel
theorem dX7_trim_26 : decode cX7_trim 26 = .ok (.getfield 11, 3) := by decide +kernel
theorem dX7_trim_29 : decode cX7_trim 29 = .ok (.aload_n 0, 1) := by decide +kernel
theorem dX7_trim_30 : decode cX7_trim 30 = .ok (.getfield 15, 3) := by decide +kernel
theorem dX7_trim_33 : decode cX7_trim 33 = .ok (.iconst 1, 1) := by decide +kernel
theorem dX7_trim_34 : decode cX7_trim 34 = .ok (.isub, 1) := by decide +kernel
theorem dX7_trim_35 : decode cX7_trim 35 = .ok (.iaload, 1) := by decide +kernel
theorem dX7_trim_36 : decode cX7_trim 36 = .ok (.ifCond .ne 16, 3) := by decide +kernel
theorem dX7_trim_39 : decode cX7_trim 39 = .ok (.aload_n 0, 1) := by decide +kernel
theorem dX7_trim_40 : decode cX7_trim 40 = .ok (.dup, 1) := by decide +kernel
theorem dX7_trim_41 : decode cX7_trim 41 = .ok (.getfield 15, 3) := by decide +kernel
theorem dX7_trim_44 : decode cX7_trim 44 = .ok (.iconst 1, 1) := by decide +kernel
theorem dX7_trim_45 : decode cX7_trim 45 = .ok (.isub, 1) := by decide +kernel
theorem dX7_trim_46 : decode cX7_trim 46 = .ok (.putfield 15, 3) := by decide +kernel
theorem dX7_trim_49 : decode cX7_trim 49 = .ok (.goto (-31), 3) := by decide +kernel
theorem dX7_trim_52 : decode cX7_trim 52 = .ok (.return_, 1) := by decide +kernel
theorem dX7_addTimes_0 : decode cX7_addTimes 0 = .ok (.iconst 0, 1) := by decide +kernel
theorem dX7_addTimes_1 : decode cX7_addTimes 1 = .ok (.istore_n 3, 1) := by decide +kernel
theorem dX7_addTimes_2 : decode cX7_addTimes 2 = .ok (.iload_n 3, 1) := by decide +kernel
theorem dX7_addTimes_3 : decode cX7_addTimes 3 = .ok (.aload_n 1, 1) := by decide +kernel
theorem dX7_addTimes_4 : decode cX7_addTimes 4 = .ok (.getfield 15, 3) := by decide +kernel
theorem dX7_addTimes_7 : decode cX7_addTimes 7 = .ok (.if_icmp .ge 40, 3) := by decide +kernel
theorem dX7_addTimes_10 : decode cX7_addTimes 10 = .ok (.iload_n 3, 1) := by decide +kernel
theorem dX7_addTimes_11 : decode cX7_addTimes 11 = .ok (.sipush 1300, 3) := by decide +kernel
theorem dX7_addTimes_14 : decode cX7_addTimes 14 = .ok (.if_icmp .ge 33, 3) := by decide +kernel
theorem dX7_addTimes_17 : decode cX7_addTimes 17 = .ok (.aload_n 0, 1) := by decide +kernel
theorem dX7_addTimes_18 : decode cX7_addTimes 18 = .ok (.getfield 11, 3) := by decide +kernel
theorem dX7_addTimes_21 : decode cX7_addTimes 21 = .ok (.iload_n 3, 1) := by decide +kernel
theorem dX7_addTimes_22 : decode cX7_addTimes 22 = .ok (.aload_n 0, 1) := by decide +kernel
theorem dX7_addTimes_23 : decode cX7_addTimes 23 = .ok (.getfield 11, 3) := by decide +kernel
theorem dX7_addTimes_26 : decode cX7_addTimes 26 = .ok (.iload_n 3, 1) := by decide +kernel
theorem dX7_addTimes_27 : decode cX7_addTimes 27 = .ok (.iaload, 1) := by decide +kernel
theorem dX7_addTimes_28 : decode cX7_addTimes 28 = .ok (.iload_n 2, 1) := by decide +kernel
theorem dX7_addTimes_29 : decode cX7_addTimes 29 = .ok (.aload_n 1, 1) := by decide +kernel
theorem dX7_addTimes_30 : decode cX7_addTimes 30 = .ok (.getfield 11, 3) := by decide +kernel
theorem dX7_addTimes_33 : decode cX7_addTimes 33 = .ok (.iload_n 3, 1) := by decide +kernel
theorem dX7_addTimes_34 : decode cX7_addTimes 34 = .ok (.iaload, 1) := by decide +kernel
theorem dX7_addTimes_35 : decode cX7_addTimes 35 = .ok (.imul, 1) := by decide +kernel
theorem dX7_addTimes_36 : decode cX7_addTimes 36 = .ok (.iadd, 1) := by decide +kernel
theorem dX7_addTimes_37 : decode cX7_addTimes 37 = .ok (.invokestatic 22, 3) := by decide +kernel
theorem dX7_addTimes_40 : decode cX7_addTimes 40 = .ok (.iastore, 1) := by decide +kernel
theorem dX7_addTimes_41 : decode cX7_addTimes 41 = .ok (.iinc 3 1, 3) := by decide +kernel
theorem dX7_addTimes_44 : decode cX7_addTimes 44 = .ok (.goto (-42), 3) := by decide +kernel
theorem dX7_addTimes_47 : decode cX7_addTimes 47 = .ok (.aload_n 0, 1) := by decide +kernel
theorem dX7_addTimes_48 : decode cX7_addTimes 48 = .ok (.aload_n 0, 1) := by decide +kernel
theorem dX7_addTimes_49 : decode cX7_addTimes 49 = .ok (.getfield 15, 3) := by decide +kernel
theorem dX7_addTimes_52 : decode cX7_addTimes 52 = .ok (.aload_n 1, 1) := by decide +kernel
theorem dX7_addTimes_53 : decode cX7_addTimes 53 = .ok (.getfield 15, 3) := by decide +kernel
theorem dX7_addTimes_56 : decode cX7_addTimes 56 = .ok (.invokestatic 36, 3) := by decide +kernel
theorem dX7_addTimes_59 : decode cX7_addTimes 59 = .ok (.invokevirtual 26, 3) := by decide +kernel
theorem dX7_addTimes_62 : decode cX7_addTimes 62 = .ok (.return_, 1) := by decide +kernel
theorem dX7_addProduct_0 : decode cX7_addProduct 0 = .ok (.iconst 0, 1) := by decide +kernel
theorem dX7_addProduct_1 : decode cX7_addProduct 1 = .ok (.istore 4, 2) := by decide +kernel
theorem dX7_addProduct_3 : decode cX7_addProduct 3 = .ok (.iload 4, 2) := by decide +kernel
theorem dX7_addProduct_5 : decode cX7_addProduct 5 = .ok (.aload_n 1, 1) := by decide +kernel
theorem dX7_addProduct_6 : decode cX7_addProduct 6 = .ok (.getfield 15, 3) := by decide +kernel
theorem dX7_addProduct_9 : decode cX7_addProduct 9 = .ok (.if_icmp .ge 85, 3) := by decide +kernel
theorem dX7_addProduct_12 : decode cX7_addProduct 12 = .ok (.iload 4, 2) := by decide +kernel
theorem dX7_addProduct_14 : decode cX7_addProduct 14 = .ok (.sipush 1300, 3) := by decide +kernel
theorem dX7_addProduct_17 : decode cX7_addProduct 17 = .ok (.if_icmp .ge 77, 3) := by decide +kernel
theorem dX7_addProduct_20 : decode cX7_addProduct 20 = .ok (.iload_n 3, 1) := by decide +kernel
theorem dX7_addProduct_21 : decode cX7_addProduct 21 = .ok (.aload_n 1, 1) := by decide +kernel
theorem dX7_addProduct_22 : decode cX7_addProduct 22 = .ok (.getfield 11, 3) := by decide +kernel
theorem dX7_addProduct_25 : decode cX7_addProduct 25 = .ok (.iload 4, 2) := by decide +kernel
theorem dX7_addProduct_27 : decode cX7_addProduct 27 = .ok (.iaload, 1) := by decide +kernel
theorem dX7_addProduct_28 : decode cX7_addProduct 28 = .ok (.imul, 1) := by decide +kernel
theorem dX7_addProduct_29 : decode cX7_addProduct 29 = .ok (.istore 5, 2) := by decide +kernel
theorem dX7_addProduct_31 : decode cX7_addProduct 31 = .ok (.iconst 0, 1) := by decide +kernel
theorem dX7_addProduct_32 : decode cX7_addProduct 32 = .ok (.istore 6, 2) := by decide +kernel
theorem dX7_addProduct_34 : decode cX7_addProduct 34 = .ok (.iload 5, 2) := by decide +kernel
theorem dX7_addProduct_36 : decode cX7_addProduct 36 = .ok (.ifCond .eq 52, 3) := by decide +kernel
theorem dX7_addProduct_39 : decode cX7_addProduct 39 = .ok (.iload 6, 2) := by decide +kernel
theorem dX7_addProduct_41 : decode cX7_addProduct 41 = .ok (.aload_n 2, 1) := by decide +kernel
theorem dX7_addProduct_42 : decode cX7_addProduct 42 = .ok (.getfield 15, 3) := by decide +kernel
theorem dX7_addProduct_45 : decode cX7_addProduct 45 = .ok (.if_icmp .ge 43, 3) := by decide +kernel
theorem dX7_addProduct_48 : decode cX7_addProduct 48 = .ok (.iload 4, 2) := by decide +kernel
theorem dX7_addProduct_50 : decode cX7_addProduct 50 = .ok (.iload 6, 2) := by decide +kernel
theorem dX7_addProduct_52 : decode cX7_addProduct 52 = .ok (.iadd, 1) := by decide +kernel
theorem dX7_addProduct_53 : decode cX7_addProduct 53 = .ok (.sipush 1300, 3) := by decide +kernel
theorem dX7_addProduct_56 : decode cX7_addProduct 56 = .ok (.if_icmp .ge 32, 3) := by decide +kernel
theorem dX7_addProduct_59 : decode cX7_addProduct 59 = .ok (.aload_n 0, 1) := by decide +kernel
theorem dX7_addProduct_60 : decode cX7_addProduct 60 = .ok (.getfield 11, 3) := by decide +kernel
theorem dX7_addProduct_63 : decode cX7_addProduct 63 = .ok (.iload 4, 2) := by decide +kernel
theorem dX7_addProduct_65 : decode cX7_addProduct 65 = .ok (.iload 6, 2) := by decide +kernel
theorem dX7_addProduct_67 : decode cX7_addProduct 67 = .ok (.iadd, 1) := by decide +kernel
theorem dX7_addProduct_68 : decode cX7_addProduct 68 = .ok (.dup2, 1) := by decide +kernel
theorem dX7_addProduct_69 : decode cX7_addProduct 69 = .ok (.iaload, 1) := by decide +kernel
theorem dX7_addProduct_70 : decode cX7_addProduct 70 = .ok (.iload 5, 2) := by decide +kernel
theorem dX7_addProduct_72 : decode cX7_addProduct 72 = .ok (.aload_n 2, 1) := by decide +kernel
theorem dX7_addProduct_73 : decode cX7_addProduct 73 = .ok (.getfield 11, 3) := by decide +kernel
theorem dX7_addProduct_76 : decode cX7_addProduct 76 = .ok (.iload 6, 2) := by decide +kernel
theorem dX7_addProduct_78 : decode cX7_addProduct 78 = .ok (.iaload, 1) := by decide +kernel
theorem dX7_addProduct_79 : decode cX7_addProduct 79 = .ok (.imul, 1) := by decide +kernel
theorem dX7_addProduct_80 : decode cX7_addProduct 80 = .ok (.iadd, 1) := by decide +kernel
theorem dX7_addProduct_81 : decode cX7_addProduct 81 = .ok (.iastore, 1) := by decide +kernel
theorem dX7_addProduct_82 : decode cX7_addProduct 82 = .ok (.iinc 6 1, 3) := by decide +kernel
theorem dX7_addProduct_85 : decode cX7_addProduct 85 = .ok (.goto (-51), 3) := by decide +kernel
theorem dX7_addProduct_88 : decode cX7_addProduct 88 = .ok (.iinc 4 1, 3) := by decide +kernel
theorem dX7_addProduct_91 : decode cX7_addProduct 91 = .ok (.goto (-88), 3) := by decide +kernel
theorem dX7_addProduct_94 : decode cX7_addProduct 94 = .ok (.sipush 1300, 3) := by decide +kernel
theorem dX7_addProduct_97 : decode cX7_addProduct 97 = .ok (.aload_n 0, 1) := by decide +kernel
theorem dX7_addProduct_98 : decode cX7_addProduct 98 = .ok (.getfield 15, 3) := by decide +kernel
theorem dX7_addProduct_101 : decode cX7_addProduct 101 = .ok (.aload_n 1, 1) := by decide +kernel
theorem dX7_addProduct_102 : decode cX7_addProduct 102 = .ok (.getfield 15, 3) := by decide +kernel
theorem dX7_addProduct_105 : decode cX7_addProduct 105 = .ok (.aload_n 2, 1) := by decide +kernel
theorem dX7_addProduct_106 : decode cX7_addProduct 106 = .ok (.getfield 15, 3) := by decide +kernel
theorem dX7_addProduct_109 : decode cX7_addProduct 109 = .ok (.iadd, 1) := by decide +kernel
theorem dX7_addProduct_110 : decode cX7_addProduct 110 = .ok (.invokestatic 36, 3) := by decide +kernel
theorem dX7_addProduct_113 : decode cX7_addProduct 113 = .ok (.invokestatic 42, 3) := by decide +kernel
theorem dX7_addProduct_116 : decode cX7_addProduct 116 = .ok (.istore 4, 2) := by decide +kernel
theorem dX7_addProduct_118 : decode cX7_addProduct 118 = .ok (.iconst 0, 1) := by decide +kernel
theorem dX7_addProduct_119 : decode cX7_addProduct 119 = .ok (.istore 5, 2) := by decide +kernel
theorem dX7_addProduct_121 : decode cX7_addProduct 121 = .ok (.iload 5, 2) := by decide +kernel
theorem dX7_addProduct_123 : decode cX7_addProduct 123 = .ok (.iload 4, 2) := by decide +kernel
theorem dX7_addProduct_125 : decode cX7_addProduct 125 = .ok (.if_icmp .ge 26, 3) := by decide +kernel
theorem dX7_addProduct_128 : decode cX7_addProduct 128 = .ok (.aload_n 0, 1) := by decide +kernel
theorem dX7_addProduct_129 : decode cX7_addProduct 129 = .ok (.getfield 11, 3) := by decide +kernel
theorem dX7_addProduct_132 : decode cX7_addProduct 132 = .ok (.iload 5, 2) := by decide +kernel
theorem dX7_addProduct_134 : decode cX7_addProduct 134 = .ok (.aload_n 0, 1) := by decide +kernel
theorem dX7_addProduct_135 : decode cX7_addProduct 135 = .ok (.getfield 11, 3) := by decide +kernel
theorem dX7_addProduct_138 : decode cX7_addProduct 138 = .ok (.iload 5, 2) := by decide +kernel
theorem dX7_addProduct_140 : decode cX7_addProduct 140 = .ok (.iaload, 1) := by decide +kernel
theorem dX7_addProduct_141 : decode cX7_addProduct 141 = .ok (.invokestatic 22, 3) := by decide +kernel
theorem dX7_addProduct_144 : decode cX7_addProduct 144 = .ok (.iastore, 1) := by decide +kernel
theorem dX7_addProduct_145 : decode cX7_addProduct 145 = .ok (.iinc 5 1, 3) := by decide +kernel
theorem dX7_addProduct_148 : decode cX7_addProduct 148 = .ok (.goto (-27), 3) := by decide +kernel
theorem dX7_addProduct_151 : decode cX7_addProduct 151 = .ok (.aload_n 0, 1) := by decide +kernel
theorem dX7_addProduct_152 : decode cX7_addProduct 152 = .ok (.iload 4, 2) := by decide +kernel
theorem dX7_addProduct_154 : decode cX7_addProduct 154 = .ok (.invokevirtual 26, 3) := by decide +kernel
theorem dX7_addProduct_157 : decode cX7_addProduct 157 = .ok (.return_, 1) := by decide +kernel
theorem dX7_divide_0 : decode cX7_divide 0 = .ok (.aload_n 2, 1) := by decide +kernel
theorem dX7_divide_1 : decode cX7_divide 1 = .ok (.invokevirtual 19, 3) := by decide +kernel
theorem dX7_divide_4 : decode cX7_divide 4 = .ok (.aload_n 1, 1) := by decide +kernel
theorem dX7_divide_5 : decode cX7_divide 5 = .ok (.getfield 15, 3) := by decide +kernel
theorem dX7_divide_8 : decode cX7_divide 8 = .ok (.iconst 1, 1) := by decide +kernel
theorem dX7_divide_9 : decode cX7_divide 9 = .ok (.if_icmp .lt 34, 3) := by decide +kernel
theorem dX7_divide_12 : decode cX7_divide 12 = .ok (.aload_n 1, 1) := by decide +kernel
theorem dX7_divide_13 : decode cX7_divide 13 = .ok (.getfield 15, 3) := by decide +kernel
theorem dX7_divide_16 : decode cX7_divide 16 = .ok (.sipush 1300, 3) := by decide +kernel
theorem dX7_divide_19 : decode cX7_divide 19 = .ok (.if_icmp .gt 24, 3) := by decide +kernel
theorem dX7_divide_22 : decode cX7_divide 22 = .ok (.aload_n 0, 1) := by decide +kernel
theorem dX7_divide_23 : decode cX7_divide 23 = .ok (.getfield 15, 3) := by decide +kernel
theorem dX7_divide_26 : decode cX7_divide 26 = .ok (.sipush 1300, 3) := by decide +kernel
theorem dX7_divide_29 : decode cX7_divide 29 = .ok (.if_icmp .gt 14, 3) := by decide +kernel
theorem dX7_divide_32 : decode cX7_divide 32 = .ok (.aload_n 0, 1) := by decide +kernel
theorem dX7_divide_33 : decode cX7_divide 33 = .ok (.getfield 15, 3) := by decide +kernel
theorem dX7_divide_36 : decode cX7_divide 36 = .ok (.aload_n 1, 1) := by decide +kernel
theorem dX7_divide_37 : decode cX7_divide 37 = .ok (.getfield 15, 3) := by decide +kernel
theorem dX7_divide_40 : decode cX7_divide 40 = .ok (.if_icmp .ge 4, 3) := by decide +kernel
theorem dX7_divide_43 : decode cX7_divide 43 = .ok (.return_, 1) := by decide +kernel
theorem dX7_divide_44 : decode cX7_divide 44 = .ok (.getstatic 45, 3) := by decide +kernel
theorem dX7_divide_47 : decode cX7_divide 47 = .ok (.aload_n 1, 1) := by decide +kernel
theorem dX7_divide_48 : decode cX7_divide 48 = .ok (.getfield 11, 3) := by decide +kernel
theorem dX7_divide_51 : decode cX7_divide 51 = .ok (.aload_n 1, 1) := by decide +kernel
theorem dX7_divide_52 : decode cX7_divide 52 = .ok (.getfield 15, 3) := by decide +kernel
theorem dX7_divide_55 : decode cX7_divide 55 = .ok (.iconst 1, 1) := by decide +kernel
theorem dX7_divide_56 : decode cX7_divide 56 = .ok (.isub, 1) := by decide +kernel
theorem dX7_divide_57 : decode cX7_divide 57 = .ok (.iaload, 1) := by decide +kernel
theorem dX7_divide_58 : decode cX7_divide 58 = .ok (.invokestatic 22, 3) := by decide +kernel
theorem dX7_divide_61 : decode cX7_divide 61 = .ok (.iaload, 1) := by decide +kernel
theorem dX7_divide_62 : decode cX7_divide 62 = .ok (.istore_n 3, 1) := by decide +kernel
theorem dX7_divide_63 : decode cX7_divide 63 = .ok (.aload_n 0, 1) := by decide +kernel
theorem dX7_divide_64 : decode cX7_divide 64 = .ok (.getfield 15, 3) := by decide +kernel
theorem dX7_divide_67 : decode cX7_divide 67 = .ok (.aload_n 1, 1) := by decide +kernel
theorem dX7_divide_68 : decode cX7_divide 68 = .ok (.getfield 15, 3) := by decide +kernel
theorem dX7_divide_71 : decode cX7_divide 71 = .ok (.isub, 1) := by decide +kernel
theorem dX7_divide_72 : decode cX7_divide 72 = .ok (.istore 4, 2) := by decide +kernel
theorem dX7_divide_74 : decode cX7_divide 74 = .ok (.iload 4, 2) := by decide +kernel
theorem dX7_divide_76 : decode cX7_divide 76 = .ok (.ifCond .lt 96, 3) := by decide +kernel
theorem dX7_divide_79 : decode cX7_divide 79 = .ok (.aload_n 0, 1) := by decide +kernel
theorem dX7_divide_80 : decode cX7_divide 80 = .ok (.getfield 11, 3) := by decide +kernel
theorem dX7_divide_83 : decode cX7_divide 83 = .ok (.iload 4, 2) := by decide +kernel
theorem dX7_divide_85 : decode cX7_divide 85 = .ok (.aload_n 1, 1) := by decide +kernel
theorem dX7_divide_86 : decode cX7_divide 86 = .ok (.getfield 15, 3) := by decide +kernel
theorem dX7_divide_89 : decode cX7_divide 89 = .ok (.iadd, 1) := by decide +kernel
theorem dX7_divide_90 : decode cX7_divide 90 = .ok (.iconst 1, 1) := by decide +kernel
theorem dX7_divide_91 : decode cX7_divide 91 = .ok (.isub, 1) := by decide +kernel
theorem dX7_divide_92 : decode cX7_divide 92 = .ok (.iaload, 1) := by decide +kernel
theorem dX7_divide_93 : decode cX7_divide 93 = .ok (.iload_n 3, 1) := by decide +kernel
theorem dX7_divide_94 : decode cX7_divide 94 = .ok (.imul, 1) := by decide +kernel
theorem dX7_divide_95 : decode cX7_divide 95 = .ok (.bipush 31, 2) := by decide +kernel
theorem dX7_divide_97 : decode cX7_divide 97 = .ok (.irem, 1) := by decide +kernel
theorem dX7_divide_98 : decode cX7_divide 98 = .ok (.istore 5, 2) := by decide +kernel
theorem dX7_divide_100 : decode cX7_divide 100 = .ok (.aload_n 2, 1) := by decide +kernel
theorem dX7_divide_101 : decode cX7_divide 101 = .ok (.getfield 11, 3) := by decide +kernel
theorem dX7_divide_104 : decode cX7_divide 104 = .ok (.iload 4, 2) := by decide +kernel
theorem dX7_divide_106 : decode cX7_divide 106 = .ok (.iload 5, 2) := by decide +kernel
theorem dX7_divide_108 : decode cX7_divide 108 = .ok (.iastore, 1) := by decide +kernel
theorem dX7_divide_109 : decode cX7_divide 109 = .ok (.iconst 0, 1) := by decide +kernel
theorem dX7_divide_110 : decode cX7_divide 110 = .ok (.istore 6, 2) := by decide +kernel
theorem dX7_divide_112 : decode cX7_divide 112 = .ok (.iload 5, 2) := by decide +kernel
theorem dX7_divide_114 : decode cX7_divide 114 = .ok (.ifCond .eq 52, 3) := by decide +kernel
theorem dX7_divide_117 : decode cX7_divide 117 = .ok (.iload 6, 2) := by decide +kernel
theorem dX7_divide_119 : decode cX7_divide 119 = .ok (.aload_n 1, 1) := by decide +kernel
theorem dX7_divide_120 : decode cX7_divide 120 = .ok (.getfield 15, 3) := by decide +kernel
theorem dX7_divide_123 : decode cX7_divide 123 = .ok (.if_icmp .ge 43, 3) := by decide +kernel
theorem dX7_divide_126 : decode cX7_divide 126 = .ok (.aload_n 0, 1) := by decide +kernel
theorem dX7_divide_127 : decode cX7_divide 127 = .ok (.getfield 11, 3) := by decide +kernel
theorem dX7_divide_130 : decode cX7_divide 130 = .ok (.iload 4, 2) := by decide +kernel
theorem dX7_divide_132 : decode cX7_divide 132 = .ok (.iload 6, 2) := by decide +kernel
theorem dX7_divide_134 : decode cX7_divide 134 = .ok (.iadd, 1) := by decide +kernel
theorem dX7_divide_135 : decode cX7_divide 135 = .ok (.aload_n 0, 1) := by decide +kernel
theorem dX7_divide_136 : decode cX7_divide 136 = .ok (.getfield 11, 3) := by decide +kernel
theorem dX7_divide_139 : decode cX7_divide 139 = .ok (.iload 4, 2) := by decide +kernel
theorem dX7_divide_141 : decode cX7_divide 141 = .ok (.iload 6, 2) := by decide +kernel
theorem dX7_divide_143 : decode cX7_divide 143 = .ok (.iadd, 1) := by decide +kernel
theorem dX7_divide_144 : decode cX7_divide 144 = .ok (.iaload, 1) := by decide +kernel
theorem dX7_divide_145 : decode cX7_divide 145 = .ok (.iload 5, 2) := by decide +kernel
theorem dX7_divide_147 : decode cX7_divide 147 = .ok (.aload_n 1, 1) := by decide +kernel
theorem dX7_divide_148 : decode cX7_divide 148 = .ok (.getfield 11, 3) := by decide +kernel
theorem dX7_divide_151 : decode cX7_divide 151 = .ok (.iload 6, 2) := by decide +kernel
theorem dX7_divide_153 : decode cX7_divide 153 = .ok (.iaload, 1) := by decide +kernel
theorem dX7_divide_154 : decode cX7_divide 154 = .ok (.imul, 1) := by decide +kernel
theorem dX7_divide_155 : decode cX7_divide 155 = .ok (.isub, 1) := by decide +kernel
theorem dX7_divide_156 : decode cX7_divide 156 = .ok (.invokestatic 22, 3) := by decide +kernel
theorem dX7_divide_159 : decode cX7_divide 159 = .ok (.iastore, 1) := by decide +kernel
theorem dX7_divide_160 : decode cX7_divide 160 = .ok (.iinc 6 1, 3) := by decide +kernel
theorem dX7_divide_163 : decode cX7_divide 163 = .ok (.goto (-51), 3) := by decide +kernel
theorem dX7_divide_166 : decode cX7_divide 166 = .ok (.iinc 4 (-1), 3) := by decide +kernel
theorem dX7_divide_169 : decode cX7_divide 169 = .ok (.goto (-95), 3) := by decide +kernel
theorem dX7_divide_172 : decode cX7_divide 172 = .ok (.aload_n 2, 1) := by decide +kernel
theorem dX7_divide_173 : decode cX7_divide 173 = .ok (.aload_n 0, 1) := by decide +kernel
theorem dX7_divide_174 : decode cX7_divide 174 = .ok (.getfield 15, 3) := by decide +kernel
theorem dX7_divide_177 : decode cX7_divide 177 = .ok (.aload_n 1, 1) := by decide +kernel
theorem dX7_divide_178 : decode cX7_divide 178 = .ok (.getfield 15, 3) := by decide +kernel
theorem dX7_divide_181 : decode cX7_divide 181 = .ok (.isub, 1) := by decide +kernel
theorem dX7_divide_182 : decode cX7_divide 182 = .ok (.iconst 1, 1) := by decide +kernel
theorem dX7_divide_183 : decode cX7_divide 183 = .ok (.iadd, 1) := by decide +kernel
theorem dX7_divide_184 : decode cX7_divide 184 = .ok (.invokevirtual 26, 3) := by decide +kernel
theorem dX7_divide_187 : decode cX7_divide 187 = .ok (.aload_n 0, 1) := by decide +kernel
theorem dX7_divide_188 : decode cX7_divide 188 = .ok (.aload_n 0, 1) := by decide +kernel
theorem dX7_divide_189 : decode cX7_divide 189 = .ok (.getfield 15, 3) := by decide +kernel
theorem dX7_divide_192 : decode cX7_divide 192 = .ok (.invokevirtual 26, 3) := by decide +kernel
theorem dX7_divide_195 : decode cX7_divide 195 = .ok (.return_, 1) := by decide +kernel
theorem dX8_init_0 : decode cX8_init 0 = .ok (.aload_n 0, 1) := by decide +kernel
theorem dX8_init_1 : decode cX8_init 1 = .ok (.invokespecial 3, 3) := by decide +kernel
theorem dX8_init_4 : decode cX8_init 4 = .ok (.aload_n 0, 1) := by decide +kernel
theorem dX8_init_5 : decode cX8_init 5 = .ok (.bipush 12, 2) := by decide +kernel
theorem dX8_init_7 : decode cX8_init 7 = .ok (.newarray .int, 2) := by decide +kernel
theorem dX8_init_9 : decode cX8_init 9 = .ok (.putfield 9, 3) := by decide +kernel
theorem dX8_init_12 : decode cX8_init 12 = .ok (.aload_n 0, 1) := by decide +kernel
theorem dX8_init_13 : decode cX8_init 13 = .ok (.iconst 0, 1) := by decide +kernel
theorem dX8_init_14 : decode cX8_init 14 = .ok (.putfield 15, 3) := by decide +kernel
theorem dX8_init_17 : decode cX8_init 17 = .ok (.return_, 1) := by decide +kernel
theorem dX8_isFull_0 : decode cX8_isFull 0 = .ok (.aload_n 0, 1) := by decide +kernel
theorem dX8_isFull_1 : decode cX8_isFull 1 = .ok (.getfield 15, 3) := by decide +kernel
theorem dX8_isFull_4 : decode cX8_isFull 4 = .ok (.aload_n 0, 1) := by decide +kernel
theorem dX8_isFull_5 : decode cX8_isFull 5 = .ok (.getfield 9, 3) := by decide +kernel
theorem dX8_isFull_8 : decode cX8_isFull 8 = .ok (.arraylength, 1) := by decide +kernel
theorem dX8_isFull_9 : decode cX8_isFull 9 = .ok (.if_icmp .lt 7, 3) := by decide +kernel
theorem dX8_isFull_12 : decode cX8_isFull 12 = .ok (.iconst 1, 1) := by decide +kernel
theorem dX8_isFull_13 : decode cX8_isFull 13 = .ok (.goto 4, 3) := by decide +kernel
theorem dX8_isFull_16 : decode cX8_isFull 16 = .ok (.iconst 0, 1) := by decide +kernel
theorem dX8_isFull_17 : decode cX8_isFull 17 = .ok (.ireturn, 1) := by decide +kernel
theorem dX8_holds_0 : decode cX8_holds 0 = .ok (.iconst 0, 1) := by decide +kernel
theorem dX8_holds_1 : decode cX8_holds 1 = .ok (.istore_n 2, 1) := by decide +kernel
theorem dX8_holds_2 : decode cX8_holds 2 = .ok (.iload_n 2, 1) := by decide +kernel
theorem dX8_holds_3 : decode cX8_holds 3 = .ok (.aload_n 0, 1) := by decide +kernel
theorem dX8_holds_4 : decode cX8_holds 4 = .ok (.getfield 15, 3) := by decide +kernel
theorem dX8_holds_7 : decode cX8_holds 7 = .ok (.if_icmp .ge 30, 3) := by decide +kernel
theorem dX8_holds_10 : decode cX8_holds 10 = .ok (.iload_n 2, 1) := by decide +kernel
theorem dX8_holds_11 : decode cX8_holds 11 = .ok (.aload_n 0, 1) := by decide +kernel
theorem dX8_holds_12 : decode cX8_holds 12 = .ok (.getfield 9, 3) := by decide +kernel
theorem dX8_holds_15 : decode cX8_holds 15 = .ok (.arraylength, 1) := by decide +kernel
theorem dX8_holds_16 : decode cX8_holds 16 = .ok (.if_icmp .ge 21, 3) := by decide +kernel
theorem dX8_holds_19 : decode cX8_holds 19 = .ok (.aload_n 0, 1) := by decide +kernel
theorem dX8_holds_20 : decode cX8_holds 20 = .ok (.getfield 9, 3) := by decide +kernel
theorem dX8_holds_23 : decode cX8_holds 23 = .ok (.iload_n 2, 1) := by decide +kernel
theorem dX8_holds_24 : decode cX8_holds 24 = .ok (.iaload, 1) := by decide +kernel
theorem dX8_holds_25 : decode cX8_holds 25 = .ok (.iload_n 1, 1) := by decide +kernel
theorem dX8_holds_26 : decode cX8_holds 26 = .ok (.if_icmp .ne 5, 3) := by decide +kernel
theorem dX8_holds_29 : decode cX8_holds 29 = .ok (.iconst 1, 1) := by decide +kernel
theorem dX8_holds_30 : decode cX8_holds 30 = .ok (.ireturn, 1) := by decide +kernel
theorem dX8_holds_31 : decode cX8_holds 31 = .ok (.iinc 2 1, 3) := by decide +kernel
theorem dX8_holds_34 : decode cX8_holds 34 = .ok (.goto (-32), 3) := by decide +kernel
theorem dX8_holds_37 : decode cX8_holds 37 = .ok (.iconst 0, 1) := by decide +kernel
theorem dX8_holds_38 : decode cX8_holds 38 = .ok (.ireturn, 1) := by decide +kernel
theorem dX8_spotAt_0 : decode cX8_spotAt 0 = .ok (.iload_n 1, 1) := by decide +kernel
theorem dX8_spotAt_1 : decode cX8_spotAt 1 = .ok (.ifCond .lt 29, 3) := by decide +kernel
theorem dX8_spotAt_4 : decode cX8_spotAt 4 = .ok (.iload_n 1, 1) := by decide +kernel
theorem dX8_spotAt_5 : decode cX8_spotAt 5 = .ok (.aload_n 0, 1) := by decide +kernel
theorem dX8_spotAt_6 : decode cX8_spotAt 6 = .ok (.getfield 15, 3) := by decide +kernel
theorem dX8_spotAt_9 : decode cX8_spotAt 9 = .ok (.if_icmp .ge 21, 3) := by decide +kernel
theorem dX8_spotAt_12 : decode cX8_spotAt 12 = .ok (.iload_n 1, 1) := by decide +kernel
theorem dX8_spotAt_13 : decode cX8_spotAt 13 = .ok (.aload_n 0, 1) := by decide +kernel
theorem dX8_spotAt_14 : decode cX8_spotAt 14 = .ok (.getfield 9, 3) := by decide +kernel
theorem dX8_spotAt_17 : decode cX8_spotAt 17 = .ok (.arraylength, 1) := by decide +kernel
theorem dX8_spotAt_18 : decode cX8_spotAt 18 = .ok (.if_icmp .ge 12, 3) := by decide +kernel
theorem dX8_spotAt_21 : decode cX8_spotAt 21 = .ok (.aload_n 0, 1) := by decide +kernel
theorem dX8_spotAt_22 : decode cX8_spotAt 22 = .ok (.getfield 9, 3) := by decide +kernel
theorem dX8_spotAt_25 : decode cX8_spotAt 25 = .ok (.iload_n 1, 1) := by decide +kernel
theorem dX8_spotAt_26 : decode cX8_spotAt 26 = .ok (.iaload, 1) := by decide +kernel
theorem dX8_spotAt_27 : decode cX8_spotAt 27 = .ok (.goto 5, 3) := by decide +kernel
theorem dX8_spotAt_30 : decode cX8_spotAt 30 = .ok (.bipush (-5), 2) := by decide +kernel
theorem dX8_spotAt_32 : decode cX8_spotAt 32 = .ok (.ireturn, 1) := by decide +kernel
theorem dX8_add_0 : decode cX8_add 0 = .ok (.aload_n 0, 1) := by decide +kernel
theorem dX8_add_1 : decode cX8_add 1 = .ok (.invokevirtual 19, 3) := by decide +kernel
theorem dX8_add_4 : decode cX8_add 4 = .ok (.ifCond .ne 11, 3) := by decide +kernel
theorem dX8_add_7 : decode cX8_add 7 = .ok (.aload_n 0, 1) := by decide +kernel
theorem dX8_add_8 : decode cX8_add 8 = .ok (.iload_n 1, 1) := by decide +kernel
theorem dX8_add_9 : decode cX8_add 9 = .ok (.invokevirtual 23, 3) := by decide +kernel
theorem dX8_add_12 : decode cX8_add 12 = .ok (.ifCond .eq 4, 3) := by decide +kernel
theorem dX8_add_15 : decode cX8_add 15 = .ok (.return_, 1) := by decide +kernel
theorem dX8_add_16 : decode cX8_add 16 = .ok (.aload_n 0, 1) := by decide +kernel
theorem dX8_add_17 : decode cX8_add 17 = .ok (.getfield 15, 3) := by decide +kernel
theorem dX8_add_20 : decode cX8_add 20 = .ok (.istore_n 2, 1) := by decide +kernel
theorem dX8_add_21 : decode cX8_add 21 = .ok (.iload_n 2, 1) := by decide +kernel
theorem dX8_add_22 : decode cX8_add 22 = .ok (.ifCond .le 44, 3) := by decide +kernel
theorem dX8_add_25 : decode cX8_add 25 = .ok (.iload_n 2, 1) := by decide +kernel
theorem dX8_add_26 : decode cX8_add 26 = .ok (.aload_n 0, 1) := by decide +kernel
theorem dX8_add_27 : decode cX8_add 27 = .ok (.getfield 9, 3) := by decide +kernel
theorem dX8_add_30 : decode cX8_add 30 = .ok (.arraylength, 1) := by decide +kernel
theorem dX8_add_31 : decode cX8_add 31 = .ok (.if_icmp .ge 35, 3) := by decide +kernel
theorem dX8_add_34 : decode cX8_add 34 = .ok (.aload_n 0, 1) := by decide +kernel
theorem dX8_add_35 : decode cX8_add 35 = .ok (.getfield 9, 3) := by decide +kernel
theorem dX8_add_38 : decode cX8_add 38 = .ok (.iload_n 2, 1) := by decide +kernel
theorem dX8_add_39 : decode cX8_add 39 = .ok (.iconst 1, 1) := by decide +kernel
theorem dX8_add_40 : decode cX8_add 40 = .ok (.isub, 1) := by decide +kernel
theorem dX8_add_41 : decode cX8_add 41 = .ok (.iaload, 1) := by decide +kernel
theorem dX8_add_42 : decode cX8_add 42 = .ok (.iload_n 1, 1) := by decide +kernel
theorem dX8_add_43 : decode cX8_add 43 = .ok (.if_icmp .le 23, 3) := by decide +kernel
theorem dX8_add_46 : decode cX8_add 46 = .ok (.aload_n 0, 1) := by decide +kernel
theorem dX8_add_47 : decode cX8_add 47 = .ok (.getfield 9, 3) := by decide +kernel
theorem dX8_add_50 : decode cX8_add 50 = .ok (.iload_n 2, 1) := by decide +kernel
theorem dX8_add_51 : decode cX8_add 51 = .ok (.aload_n 0, 1) := by decide +kernel
theorem dX8_add_52 : decode cX8_add 52 = .ok (.getfield 9, 3) := by decide +kernel
theorem dX8_add_55 : decode cX8_add 55 = .ok (.iload_n 2, 1) := by decide +kernel
theorem dX8_add_56 : decode cX8_add 56 = .ok (.iconst 1, 1) := by decide +kernel
theorem dX8_add_57 : decode cX8_add 57 = .ok (.isub, 1) := by decide +kernel
theorem dX8_add_58 : decode cX8_add 58 = .ok (.iaload, 1) := by decide +kernel
theorem dX8_add_59 : decode cX8_add 59 = .ok (.iastore, 1) := by decide +kernel
theorem dX8_add_60 : decode cX8_add 60 = .ok (.iinc 2 (-1), 3) := by decide +kernel
theorem dX8_add_63 : decode cX8_add 63 = .ok (.goto (-42), 3) := by decide +kernel
theorem dX8_add_66 : decode cX8_add 66 = .ok (.iload_n 2, 1) := by decide +kernel
theorem dX8_add_67 : decode cX8_add 67 = .ok (.ifCond .lt 29, 3) := by decide +kernel
theorem dX8_add_70 : decode cX8_add 70 = .ok (.iload_n 2, 1) := by decide +kernel
theorem dX8_add_71 : decode cX8_add 71 = .ok (.aload_n 0, 1) := by decide +kernel
theorem dX8_add_72 : decode cX8_add 72 = .ok (.getfield 9, 3) := by decide +kernel
theorem dX8_add_75 : decode cX8_add 75 = .ok (.arraylength, 1) := by decide +kernel
theorem dX8_add_76 : decode cX8_add 76 = .ok (.if_icmp .ge 20, 3) := by decide +kernel
theorem dX8_add_79 : decode cX8_add 79 = .ok (.aload_n 0, 1) := by decide +kernel
theorem dX8_add_80 : decode cX8_add 80 = .ok (.getfield 9, 3) := by decide +kernel
theorem dX8_add_83 : decode cX8_add 83 = .ok (.iload_n 2, 1) := by decide +kernel
theorem dX8_add_84 : decode cX8_add 84 = .ok (.iload_n 1, 1) := by decide +kernel
theorem dX8_add_85 : decode cX8_add 85 = .ok (.iastore, 1) := by decide +kernel
theorem dX8_add_86 : decode cX8_add 86 = .ok (.aload_n 0, 1) := by decide +kernel
theorem dX8_add_87 : decode cX8_add 87 = .ok (.dup, 1) := by decide +kernel
theorem dX8_add_88 : decode cX8_add 88 = .ok (.getfield 15, 3) := by decide +kernel
theorem dX8_add_91 : decode cX8_add 91 = .ok (.iconst 1, 1) := by decide +kernel
theorem dX8_add_92 : decode cX8_add 92 = .ok (.iadd, 1) := by decide +kernel
theorem dX8_add_93 : decode cX8_add 93 = .ok (.putfield 15, 3) := by decide +kernel
theorem dX8_add_96 : decode cX8_add 96 = .ok (.return_, 1) := by decide +kernel
theorem dX8_remove_0 : decode cX8_remove 0 = .ok (.iconst 0, 1) := by decide +kernel
theorem dX8_remove_1 : decode cX8_remove 1 = .ok (.istore_n 2, 1) := by decide +kernel
theorem dX8_remove_2 : decode cX8_remove 2 = .ok (.iconst 0, 1) := by decide +kernel
theorem dX8_remove_3 : decode cX8_remove 3 = .ok (.istore_n 3, 1) := by decide +kernel
theorem dX8_remove_4 : decode cX8_remove 4 = .ok (.iload_n 3, 1) := by decide +kernel
theorem dX8_remove_5 : decode cX8_remove 5 = .ok (.aload_n 0, 1) := by decide +kernel
theorem dX8_remove_6 : decode cX8_remove 6 = .ok (.getfield 15, 3) := by decide +kernel
theorem dX8_remove_9 : decode cX8_remove 9 = .ok (.if_icmp .ge 48, 3) := by decide +kernel
theorem dX8_remove_12 : decode cX8_remove 12 = .ok (.iload_n 3, 1) := by decide +kernel
theorem dX8_remove_13 : decode cX8_remove 13 = .ok (.aload_n 0, 1) := by decide +kernel
theorem dX8_remove_14 : decode cX8_remove 14 = .ok (.getfield 9, 3) := by decide +kernel
theorem dX8_remove_17 : decode cX8_remove 17 = .ok (.arraylength, 1) := by decide +kernel
theorem dX8_remove_18 : decode cX8_remove 18 = .ok (.if_icmp .ge 39, 3) := by decide +kernel
theorem dX8_remove_21 : decode cX8_remove 21 = .ok (.aload_n 0, 1) := by decide +kernel
theorem dX8_remove_22 : decode cX8_remove 22 = .ok (.getfield 9, 3) := by decide +kernel
theorem dX8_remove_25 : decode cX8_remove 25 = .ok (.iload_n 3, 1) := by decide +kernel
theorem dX8_remove_26 : decode cX8_remove 26 = .ok (.iaload, 1) := by decide +kernel
theorem dX8_remove_27 : decode cX8_remove 27 = .ok (.iload_n 1, 1) := by decide +kernel
theorem dX8_remove_28 : decode cX8_remove 28 = .ok (.if_icmp .eq 23, 3) := by decide +kernel
theorem dX8_remove_31 : decode cX8_remove 31 = .ok (.iload_n 2, 1) := by decide +kernel
theorem dX8_remove_32 : decode cX8_remove 32 = .ok (.iload_n 3, 1) := by decide +kernel
theorem dX8_remove_33 : decode cX8_remove 33 = .ok (.if_icmp .gt 18, 3) := by decide +kernel
theorem dX8_remove_36 : decode cX8_remove 36 = .ok (.aload_n 0, 1) := by decide +kernel
theorem dX8_remove_37 : decode cX8_remove 37 = .ok (.getfield 9, 3) := by decide +kernel
theorem dX8_remove_40 : decode cX8_remove 40 = .ok (.iload_n 2, 1) := by decide +kernel
theorem dX8_remove_41 : decode cX8_remove 41 = .ok (.aload_n 0, 1) := by decide +kernel
theorem dX8_remove_42 : decode cX8_remove 42 = .ok (.getfield 9, 3) := by decide +kernel
theorem dX8_remove_45 : decode cX8_remove 45 = .ok (.iload_n 3, 1) := by decide +kernel
theorem dX8_remove_46 : decode cX8_remove 46 = .ok (.iaload, 1) := by decide +kernel
theorem dX8_remove_47 : decode cX8_remove 47 = .ok (.iastore, 1) := by decide +kernel
theorem dX8_remove_48 : decode cX8_remove 48 = .ok (.iinc 2 1, 3) := by decide +kernel
theorem dX8_remove_51 : decode cX8_remove 51 = .ok (.iinc 3 1, 3) := by decide +kernel
theorem dX8_remove_54 : decode cX8_remove 54 = .ok (.goto (-50), 3) := by decide +kernel
theorem dX8_remove_57 : decode cX8_remove 57 = .ok (.aload_n 0, 1) := by decide +kernel
theorem dX8_remove_58 : decode cX8_remove 58 = .ok (.iload_n 2, 1) := by decide +kernel
theorem dX8_remove_59 : decode cX8_remove 59 = .ok (.putfield 15, 3) := by decide +kernel
theorem dX8_remove_62 : decode cX8_remove 62 = .ok (.return_, 1) := by decide +kernel
theorem dX8_copyFrom_0 : decode cX8_copyFrom 0 = .ok (.aload_n 1, 1) := by decide +kernel
theorem dX8_copyFrom_1 : decode cX8_copyFrom 1 = .ok (.getfield 9, 3) := by decide +kernel
theorem dX8_copyFrom_4 : decode cX8_copyFrom 4 = .ok (.iconst 0, 1) := by decide +kernel
theorem dX8_copyFrom_5 : decode cX8_copyFrom 5 = .ok (.aload_n 0, 1) := by decide +kernel
theorem dX8_copyFrom_6 : decode cX8_copyFrom 6 = .ok (.getfield 9, 3) := by decide +kernel
theorem dX8_copyFrom_9 : decode cX8_copyFrom 9 = .ok (.iconst 0, 1) := by decide +kernel
theorem dX8_copyFrom_10 : decode cX8_copyFrom 10 = .ok (.aload_n 0, 1) := by decide +kernel
theorem dX8_copyFrom_11 : decode cX8_copyFrom 11 = .ok (.getfield 9, 3) := by decide +kernel
theorem dX8_copyFrom_14 : decode cX8_copyFrom 14 = .ok (.arraylength, 1) := by decide +kernel
theorem dX8_copyFrom_15 : decode cX8_copyFrom 15 = .ok (.invokestatic 27, 3) := by decide +kernel
theorem dX8_copyFrom_18 : decode cX8_copyFrom 18 = .ok (.aload_n 0, 1) := by decide +kernel
theorem dX8_copyFrom_19 : decode cX8_copyFrom 19 = .ok (.aload_n 1, 1) := by decide +kernel
theorem dX8_copyFrom_20 : decode cX8_copyFrom 20 = .ok (.getfield 15, 3) := by decide +kernel
theorem dX8_copyFrom_23 : decode cX8_copyFrom 23 = .ok (.putfield 15, 3) := by decide +kernel
theorem dX8_copyFrom_26 : decode cX8_copyFrom 26 = .ok (.return_, 1) := by decide +kernel
theorem dX8_becomeSteps_0 : decode cX8_becomeSteps 0 = .ok (.aload_n 0, 1) := by decide +kernel
theorem dX8_becomeSteps_1 : decode cX8_becomeSteps 1 = .ok (.iconst 0, 1) := by decide +kernel
theorem dX8_becomeSteps_2 : decode cX8_becomeSteps 2 = .ok (.putfield 15, 3) := by decide +kernel
theorem dX8_becomeSteps_5 : decode cX8_becomeSteps 5 = .ok (.iconst 0, 1) := by decide +kernel
theorem dX8_becomeSteps_6 : decode cX8_becomeSteps 6 = .ok (.istore_n 3, 1) := by decide +kernel
theorem dX8_becomeSteps_7 : decode cX8_becomeSteps 7 = .ok (.iload_n 3, 1) := by decide +kernel
theorem dX8_becomeSteps_8 : decode cX8_becomeSteps 8 = .ok (.aload_n 1, 1) := by decide +kernel
theorem dX8_becomeSteps_9 : decode cX8_becomeSteps 9 = .ok (.getfield 15, 3) := by decide +kernel
theorem dX8_becomeSteps_12 : decode cX8_becomeSteps 12 = .ok (.if_icmp .ge 33, 3) := by decide +kernel
theorem dX8_becomeSteps_15 : decode cX8_becomeSteps 15 = .ok (.aload_n 2, 1) := by decide +kernel
theorem dX8_becomeSteps_16 : decode cX8_becomeSteps 16 = .ok (.aload_n 1, 1) := by decide +kernel
theorem dX8_becomeSteps_17 : decode cX8_becomeSteps 17 = .ok (.iload_n 3, 1) := by decide +kernel
theorem dX8_becomeSteps_18 : decode cX8_becomeSteps 18 = .ok (.invokevirtual 33, 3) := by decide +kernel
theorem dX8_becomeSteps_21 : decode cX8_becomeSteps 21 = .ok (.invokevirtual 37, 3) := by decide +kernel
theorem dX8_becomeSteps_24 : decode cX8_becomeSteps 24 = .ok (.istore 4, 2) := by decide +kernel
theorem dX8_becomeSteps_26 : decode cX8_becomeSteps 26 = .ok (.iload 4, 2) := by decide +kernel
theorem dX8_becomeSteps_28 : decode cX8_becomeSteps 28 = .ok (.bipush (-7), 2) := by decide +kernel
theorem dX8_becomeSteps_30 : decode cX8_becomeSteps 30 = .ok (.if_icmp .eq 9, 3) := by decide +kernel
theorem dX8_becomeSteps_33 : decode cX8_becomeSteps 33 = .ok (.aload_n 0, 1) := by decide +kernel
theorem dX8_becomeSteps_34 : decode cX8_becomeSteps 34 = .ok (.iload 4, 2) := by decide +kernel
theorem dX8_becomeSteps_36 : decode cX8_becomeSteps 36 = .ok (.invokevirtual 42, 3) := by decide +kernel
theorem dX8_becomeSteps_39 : decode cX8_becomeSteps 39 = .ok (.iinc 3 1, 3) := by decide +kernel
theorem dX8_becomeSteps_42 : decode cX8_becomeSteps 42 = .ok (.goto (-35), 3) := by decide +kernel
theorem dX8_becomeSteps_45 : decode cX8_becomeSteps 45 = .ok (.return_, 1) := by decide +kernel
theorem dX9_init_0 : decode cX9_init 0 = .ok (.aload_n 0, 1) := by decide +kernel
theorem dX9_init_1 : decode cX9_init 1 = .ok (.invokespecial 3, 3) := by decide +kernel
theorem dX9_init_4 : decode cX9_init 4 = .ok (.aload_n 0, 1) := by decide +kernel
theorem dX9_init_5 : decode cX9_init 5 = .ok (.bipush 18, 2) := by decide +kernel
theorem dX9_init_7 : decode cX9_init 7 = .ok (.newarray .int, 2) := by decide +kernel
theorem dX9_init_9 : decode cX9_init 9 = .ok (.putfield 9, 3) := by decide +kernel
theorem dX9_init_12 : decode cX9_init 12 = .ok (.return_, 1) := by decide +kernel
theorem dX9_numberAt_0 : decode cX9_numberAt 0 = .ok (.bipush 9, 2) := by decide +kernel
theorem dX9_numberAt_2 : decode cX9_numberAt 2 = .ok (.iload_n 1, 1) := by decide +kernel
theorem dX9_numberAt_3 : decode cX9_numberAt 3 = .ok (.imul, 1) := by decide +kernel
theorem dX9_numberAt_4 : decode cX9_numberAt 4 = .ok (.iconst 3, 1) := by decide +kernel
theorem dX9_numberAt_5 : decode cX9_numberAt 5 = .ok (.iload_n 2, 1) := by decide +kernel
theorem dX9_numberAt_6 : decode cX9_numberAt 6 = .ok (.imul, 1) := by decide +kernel
theorem dX9_numberAt_7 : decode cX9_numberAt 7 = .ok (.iadd, 1) := by decide +kernel
theorem dX9_numberAt_8 : decode cX9_numberAt 8 = .ok (.iload_n 3, 1) := by decide +kernel
theorem dX9_numberAt_9 : decode cX9_numberAt 9 = .ok (.iadd, 1) := by decide +kernel
theorem dX9_numberAt_10 : decode cX9_numberAt 10 = .ok (.istore 4, 2) := by decide +kernel
theorem dX9_numberAt_12 : decode cX9_numberAt 12 = .ok (.iload 4, 2) := by decide +kernel
theorem dX9_numberAt_14 : decode cX9_numberAt 14 = .ok (.ifCond .lt 23, 3) := by decide +kernel
theorem dX9_numberAt_17 : decode cX9_numberAt 17 = .ok (.iload 4, 2) := by decide +kernel
theorem dX9_numberAt_19 : decode cX9_numberAt 19 = .ok (.aload_n 0, 1) := by decide +kernel
theorem dX9_numberAt_20 : decode cX9_numberAt 20 = .ok (.getfield 9, 3) := by decide +kernel
theorem dX9_numberAt_23 : decode cX9_numberAt 23 = .ok (.arraylength, 1) := by decide +kernel
theorem dX9_numberAt_24 : decode cX9_numberAt 24 = .ok (.if_icmp .ge 13, 3) := by decide +kernel
theorem dX9_numberAt_27 : decode cX9_numberAt 27 = .ok (.aload_n 0, 1) := by decide +kernel
theorem dX9_numberAt_28 : decode cX9_numberAt 28 = .ok (.getfield 9, 3) := by decide +kernel
theorem dX9_numberAt_31 : decode cX9_numberAt 31 = .ok (.iload 4, 2) := by decide +kernel
theorem dX9_numberAt_33 : decode cX9_numberAt 33 = .ok (.iaload, 1) := by decide +kernel
theorem dX9_numberAt_34 : decode cX9_numberAt 34 = .ok (.goto 4, 3) := by decide +kernel
theorem dX9_numberAt_37 : decode cX9_numberAt 37 = .ok (.iconst 0, 1) := by decide +kernel
theorem dX9_numberAt_38 : decode cX9_numberAt 38 = .ok (.ireturn, 1) := by decide +kernel
theorem dX9_change_0 : decode cX9_change 0 = .ok (.bipush 9, 2) := by decide +kernel
theorem dX9_change_2 : decode cX9_change 2 = .ok (.iload_n 1, 1) := by decide +kernel
theorem dX9_change_3 : decode cX9_change 3 = .ok (.imul, 1) := by decide +kernel
theorem dX9_change_4 : decode cX9_change 4 = .ok (.iconst 3, 1) := by decide +kernel
theorem dX9_change_5 : decode cX9_change 5 = .ok (.iload_n 2, 1) := by decide +kernel
theorem dX9_change_6 : decode cX9_change 6 = .ok (.imul, 1) := by decide +kernel
theorem dX9_change_7 : decode cX9_change 7 = .ok (.iadd, 1) := by decide +kernel
theorem dX9_change_8 : decode cX9_change 8 = .ok (.iload_n 3, 1) := by decide +kernel
theorem dX9_change_9 : decode cX9_change 9 = .ok (.iadd, 1) := by decide +kernel
theorem dX9_change_10 : decode cX9_change 10 = .ok (.istore 5, 2) := by decide +kernel
theorem dX9_change_12 : decode cX9_change 12 = .ok (.iload 5, 2) := by decide +kernel
theorem dX9_change_14 : decode cX9_change 14 = .ok (.ifCond .lt 22, 3) := by decide +kernel
theorem dX9_change_17 : decode cX9_change 17 = .ok (.iload 5, 2) := by decide +kernel
theorem dX9_change_19 : decode cX9_change 19 = .ok (.aload_n 0, 1) := by decide +kernel
theorem dX9_change_20 : decode cX9_change 20 = .ok (.getfield 9, 3) := by decide +kernel
theorem dX9_change_23 : decode cX9_change 23 = .ok (.arraylength, 1) := by decide +kernel
theorem dX9_change_24 : decode cX9_change 24 = .ok (.if_icmp .ge 12, 3) := by decide +kernel
theorem dX9_change_27 : decode cX9_change 27 = .ok (.aload_n 0, 1) := by decide +kernel
theorem dX9_change_28 : decode cX9_change 28 = .ok (.getfield 9, 3) := by decide +kernel
theorem dX9_change_31 : decode cX9_change 31 = .ok (.iload 5, 2) := by decide +kernel
theorem dX9_change_33 : decode cX9_change 33 = .ok (.iload 4, 2) := by decide +kernel
theorem dX9_change_35 : decode cX9_change 35 = .ok (.iastore, 1) := by decide +kernel
theorem dX9_change_36 : decode cX9_change 36 = .ok (.return_, 1) := by decide +kernel
theorem dX9_copyFrom_0 : decode cX9_copyFrom 0 = .ok (.aload_n 1, 1) := by decide +kernel
theorem dX9_copyFrom_1 : decode cX9_copyFrom 1 = .ok (.getfield 9, 3) := by decide +kernel
theorem dX9_copyFrom_4 : decode cX9_copyFrom 4 = .ok (.iconst 0, 1) := by decide +kernel
theorem dX9_copyFrom_5 : decode cX9_copyFrom 5 = .ok (.aload_n 0, 1) := by decide +kernel
theorem dX9_copyFrom_6 : decode cX9_copyFrom 6 = .ok (.getfield 9, 3) := by decide +kernel
theorem dX9_copyFrom_9 : decode cX9_copyFrom 9 = .ok (.iconst 0, 1) := by decide +kernel
theorem dX9_copyFrom_10 : decode cX9_copyFrom 10 = .ok (.aload_n 0, 1) := by decide +kernel
theorem dX9_copyFrom_11 : decode cX9_copyFrom 11 = .ok (.getfield 9, 3) := by decide +kernel
theorem dX9_copyFrom_14 : decode cX9_copyFrom 14 = .ok (.arraylength, 1) := by decide +kernel
theorem dX9_copyFrom_15 : decode cX9_copyFrom 15 = .ok (.invokestatic 15, 3) := by decide +kernel
theorem dX9_copyFrom_18 : decode cX9_copyFrom 18 = .ok (.return_, 1) := by decide +kernel
theorem dX9_notZero_0 : decode cX9_notZero 0 = .ok (.iconst 0, 1) := by decide +kernel
theorem dX9_notZero_1 : decode cX9_notZero 1 = .ok (.istore_n 1, 1) := by decide +kernel
theorem dX9_notZero_2 : decode cX9_notZero 2 = .ok (.aload_n 0, 1) := by decide +kernel
theorem dX9_notZero_3 : decode cX9_notZero 3 = .ok (.getfield 9, 3) := by decide +kernel
theorem dX9_notZero_6 : decode cX9_notZero 6 = .ok (.astore_n 2, 1) := by decide +kernel
theorem dX9_notZero_7 : decode cX9_notZero 7 = .ok (.aload_n 2, 1) := by decide +kernel
theorem dX9_notZero_8 : decode cX9_notZero 8 = .ok (.arraylength, 1) := by decide +kernel
theorem dX9_notZero_9 : decode cX9_notZero 9 = .ok (.istore_n 3, 1) := by decide +kernel
theorem dX9_notZero_10 : decode cX9_notZero 10 = .ok (.iconst 0, 1) := by decide +kernel
theorem dX9_notZero_11 : decode cX9_notZero 11 = .ok (.istore 4, 2) := by decide +kernel
theorem dX9_notZero_13 : decode cX9_notZero 13 = .ok (.iload 4, 2) := by decide +kernel
theorem dX9_notZero_15 : decode cX9_notZero 15 = .ok (.iload_n 3, 1) := by decide +kernel
theorem dX9_notZero_16 : decode cX9_notZero 16 = .ok (.if_icmp .ge 28, 3) := by decide +kernel
theorem dX9_notZero_19 : decode cX9_notZero 19 = .ok (.aload_n 2, 1) := by decide +kernel
theorem dX9_notZero_20 : decode cX9_notZero 20 = .ok (.iload 4, 2) := by decide +kernel
theorem dX9_notZero_22 : decode cX9_notZero 22 = .ok (.iaload, 1) := by decide +kernel
theorem dX9_notZero_23 : decode cX9_notZero 23 = .ok (.istore 5, 2) := by decide +kernel
theorem dX9_notZero_25 : decode cX9_notZero 25 = .ok (.iload_n 1, 1) := by decide +kernel
theorem dX9_notZero_26 : decode cX9_notZero 26 = .ok (.iload 5, 2) := by decide +kernel
theorem dX9_notZero_28 : decode cX9_notZero 28 = .ok (.ifCond .ne 7, 3) := by decide +kernel
theorem dX9_notZero_31 : decode cX9_notZero 31 = .ok (.iconst 0, 1) := by decide +kernel
theorem dX9_notZero_32 : decode cX9_notZero 32 = .ok (.goto 4, 3) := by decide +kernel
theorem dX9_notZero_35 : decode cX9_notZero 35 = .ok (.iconst 1, 1) := by decide +kernel
theorem dX9_notZero_36 : decode cX9_notZero 36 = .ok (.iadd, 1) := by decide +kernel
theorem dX9_notZero_37 : decode cX9_notZero 37 = .ok (.istore_n 1, 1) := by decide +kernel
theorem dX9_notZero_38 : decode cX9_notZero 38 = .ok (.iinc 4 1, 3) := by decide +kernel
theorem dX9_notZero_41 : decode cX9_notZero 41 = .ok (.goto (-28), 3) := by decide +kernel
theorem dX9_notZero_44 : decode cX9_notZero 44 = .ok (.iload_n 1, 1) := by decide +kernel
theorem dX9_notZero_45 : decode cX9_notZero 45 = .ok (.ireturn, 1) := by decide +kernel
theorem dX9_numberAlong_0 : decode cX9_numberAlong 0 = .ok (.bipush 9, 2) := by decide +kernel
theorem dX9_numberAlong_2 : decode cX9_numberAlong 2 = .ok (.iload_n 2, 1) := by decide +kernel
theorem dX9_numberAlong_3 : decode cX9_numberAlong 3 = .ok (.imul, 1) := by decide +kernel
theorem dX9_numberAlong_4 : decode cX9_numberAlong 4 = .ok (.iload_n 1, 1) := by decide +kernel
theorem dX9_numberAlong_5 : decode cX9_numberAlong 5 = .ok (.ifCond .ne 12, 3) := by decide +kernel
theorem dX9_numberAlong_8 : decode cX9_numberAlong 8 = .ok (.iconst 3, 1) := by decide +kernel
theorem dX9_numberAlong_9 : decode cX9_numberAlong 9 = .ok (.iload_n 3, 1) := by decide +kernel
theorem dX9_numberAlong_10 : decode cX9_numberAlong 10 = .ok (.imul, 1) := by decide +kernel
theorem dX9_numberAlong_11 : decode cX9_numberAlong 11 = .ok (.iload 4, 2) := by decide +kernel
theorem dX9_numberAlong_13 : decode cX9_numberAlong 13 = .ok (.iadd, 1) := by decide +kernel
theorem dX9_numberAlong_14 : decode cX9_numberAlong 14 = .ok (.goto 9, 3) := by decide +kernel
theorem dX9_numberAlong_17 : decode cX9_numberAlong 17 = .ok (.iconst 3, 1) := by decide +kernel
theorem dX9_numberAlong_18 : decode cX9_numberAlong 18 = .ok (.iload 4, 2) := by decide +kernel
theorem dX9_numberAlong_20 : decode cX9_numberAlong 20 = .ok (.imul, 1) := by decide +kernel
theorem dX9_numberAlong_21 : decode cX9_numberAlong 21 = .ok (.iload_n 3, 1) := by decide +kernel
theorem dX9_numberAlong_22 : decode cX9_numberAlong 22 = .ok (.iadd, 1) := by decide +kernel
theorem dX9_numberAlong_23 : decode cX9_numberAlong 23 = .ok (.iadd, 1) := by decide +kernel
theorem dX9_numberAlong_24 : decode cX9_numberAlong 24 = .ok (.istore 5, 2) := by decide +kernel
theorem dX9_numberAlong_26 : decode cX9_numberAlong 26 = .ok (.iload 5, 2) := by decide +kernel
theorem dX9_numberAlong_28 : decode cX9_numberAlong 28 = .ok (.ifCond .lt 23, 3) := by decide +kernel
theorem dX9_numberAlong_31 : decode cX9_numberAlong 31 = .ok (.iload 5, 2) := by decide +kernel
theorem dX9_numberAlong_33 : decode cX9_numberAlong 33 = .ok (.aload_n 0, 1) := by decide +kernel
theorem dX9_numberAlong_34 : decode cX9_numberAlong 34 = .ok (.getfield 9, 3) := by decide +kernel
theorem dX9_numberAlong_37 : decode cX9_numberAlong 37 = .ok (.arraylength, 1) := by decide +kernel
theorem dX9_numberAlong_38 : decode cX9_numberAlong 38 = .ok (.if_icmp .ge 13, 3) := by decide +kernel
theorem dX9_numberAlong_41 : decode cX9_numberAlong 41 = .ok (.aload_n 0, 1) := by decide +kernel
theorem dX9_numberAlong_42 : decode cX9_numberAlong 42 = .ok (.getfield 9, 3) := by decide +kernel
theorem dX9_numberAlong_45 : decode cX9_numberAlong 45 = .ok (.iload 5, 2) := by decide +kernel
theorem dX9_numberAlong_47 : decode cX9_numberAlong 47 = .ok (.iaload, 1) := by decide +kernel
theorem dX9_numberAlong_48 : decode cX9_numberAlong 48 = .ok (.goto 4, 3) := by decide +kernel
theorem dX9_numberAlong_51 : decode cX9_numberAlong 51 = .ok (.iconst 0, 1) := by decide +kernel
theorem dX9_numberAlong_52 : decode cX9_numberAlong 52 = .ok (.ireturn, 1) := by decide +kernel
theorem dX9_sumAt_0 : decode cX9_sumAt 0 = .ok (.aload_n 0, 1) := by decide +kernel
theorem dX9_sumAt_1 : decode cX9_sumAt 1 = .ok (.iload_n 1, 1) := by decide +kernel
theorem dX9_sumAt_2 : decode cX9_sumAt 2 = .ok (.iload_n 2, 1) := by decide +kernel
theorem dX9_sumAt_3 : decode cX9_sumAt 3 = .ok (.iload_n 3, 1) := by decide +kernel
theorem dX9_sumAt_4 : decode cX9_sumAt 4 = .ok (.iconst 0, 1) := by decide +kernel
theorem dX9_sumAt_5 : decode cX9_sumAt 5 = .ok (.invokevirtual 21, 3) := by decide +kernel
theorem dX9_sumAt_8 : decode cX9_sumAt 8 = .ok (.istore 5, 2) := by decide +kernel
theorem dX9_sumAt_10 : decode cX9_sumAt 10 = .ok (.aload_n 0, 1) := by decide +kernel
theorem dX9_sumAt_11 : decode cX9_sumAt 11 = .ok (.iload_n 1, 1) := by decide +kernel
theorem dX9_sumAt_12 : decode cX9_sumAt 12 = .ok (.iload_n 2, 1) := by decide +kernel
theorem dX9_sumAt_13 : decode cX9_sumAt 13 = .ok (.iload_n 3, 1) := by decide +kernel
theorem dX9_sumAt_14 : decode cX9_sumAt 14 = .ok (.iconst 1, 1) := by decide +kernel
theorem dX9_sumAt_15 : decode cX9_sumAt 15 = .ok (.invokevirtual 21, 3) := by decide +kernel
theorem dX9_sumAt_18 : decode cX9_sumAt 18 = .ok (.istore 6, 2) := by decide +kernel
theorem dX9_sumAt_20 : decode cX9_sumAt 20 = .ok (.aload_n 0, 1) := by decide +kernel
theorem dX9_sumAt_21 : decode cX9_sumAt 21 = .ok (.iload_n 1, 1) := by decide +kernel
theorem dX9_sumAt_22 : decode cX9_sumAt 22 = .ok (.iload_n 2, 1) := by decide +kernel
theorem dX9_sumAt_23 : decode cX9_sumAt 23 = .ok (.iload_n 3, 1) := by decide +kernel
theorem dX9_sumAt_24 : decode cX9_sumAt 24 = .ok (.iconst 2, 1) := by decide +kernel
theorem dX9_sumAt_25 : decode cX9_sumAt 25 = .ok (.invokevirtual 21, 3) := by decide +kernel
theorem dX9_sumAt_28 : decode cX9_sumAt 28 = .ok (.istore 7, 2) := by decide +kernel
theorem dX9_sumAt_30 : decode cX9_sumAt 30 = .ok (.iload 5, 2) := by decide +kernel
theorem dX9_sumAt_32 : decode cX9_sumAt 32 = .ok (.iload 6, 2) := by decide +kernel
theorem dX9_sumAt_34 : decode cX9_sumAt 34 = .ok (.iload 7, 2) := by decide +kernel
theorem dX9_sumAt_36 : decode cX9_sumAt 36 = .ok (.iload 4, 2) := by decide +kernel
theorem dX9_sumAt_38 : decode cX9_sumAt 38 = .ok (.invokestatic 25, 3) := by decide +kernel
theorem dX9_sumAt_41 : decode cX9_sumAt 41 = .ok (.ireturn, 1) := by decide +kernel
theorem dX9_valueAt_0 : decode cX9_valueAt 0 = .ok (.aload_n 0, 1) := by decide +kernel
theorem dX9_valueAt_1 : decode cX9_valueAt 1 = .ok (.iconst 0, 1) := by decide +kernel
theorem dX9_valueAt_2 : decode cX9_valueAt 2 = .ok (.iload_n 1, 1) := by decide +kernel
theorem dX9_valueAt_3 : decode cX9_valueAt 3 = .ok (.iconst 0, 1) := by decide +kernel
theorem dX9_valueAt_4 : decode cX9_valueAt 4 = .ok (.iload_n 3, 1) := by decide +kernel
theorem dX9_valueAt_5 : decode cX9_valueAt 5 = .ok (.invokevirtual 28, 3) := by decide +kernel
theorem dX9_valueAt_8 : decode cX9_valueAt 8 = .ok (.aload_n 0, 1) := by decide +kernel
theorem dX9_valueAt_9 : decode cX9_valueAt 9 = .ok (.iconst 0, 1) := by decide +kernel
theorem dX9_valueAt_10 : decode cX9_valueAt 10 = .ok (.iload_n 1, 1) := by decide +kernel
theorem dX9_valueAt_11 : decode cX9_valueAt 11 = .ok (.iconst 1, 1) := by decide +kernel
theorem dX9_valueAt_12 : decode cX9_valueAt 12 = .ok (.iload_n 3, 1) := by decide +kernel
theorem dX9_valueAt_13 : decode cX9_valueAt 13 = .ok (.invokevirtual 28, 3) := by decide +kernel
theorem dX9_valueAt_16 : decode cX9_valueAt 16 = .ok (.aload_n 0, 1) := by decide +kernel
theorem dX9_valueAt_17 : decode cX9_valueAt 17 = .ok (.iconst 0, 1) := by decide +kernel
theorem dX9_valueAt_18 : decode cX9_valueAt 18 = .ok (.iload_n 1, 1) := by decide +kernel
theorem dX9_valueAt_19 : decode cX9_valueAt 19 = .ok (.iconst 2, 1) := by decide +kernel
theorem dX9_valueAt_20 : decode cX9_valueAt 20 = .ok (.iload_n 3, 1) := by decide +kernel
theorem dX9_valueAt_21 : decode cX9_valueAt 21 = .ok (.invokevirtual 28, 3) := by decide +kernel
theorem dX9_valueAt_24 : decode cX9_valueAt 24 = .ok (.iload_n 2, 1) := by decide +kernel
theorem dX9_valueAt_25 : decode cX9_valueAt 25 = .ok (.invokestatic 25, 3) := by decide +kernel
theorem dX9_valueAt_28 : decode cX9_valueAt 28 = .ok (.ireturn, 1) := by decide +kernel
theorem dX9_quotientAt_0 : decode cX9_quotientAt 0 = .ok (.aload_n 0, 1) := by decide +kernel
theorem dX9_quotientAt_1 : decode cX9_quotientAt 1 = .ok (.iconst 0, 1) := by decide +kernel
theorem dX9_quotientAt_2 : decode cX9_quotientAt 2 = .ok (.iload_n 1, 1) := by decide +kernel
theorem dX9_quotientAt_3 : decode cX9_quotientAt 3 = .ok (.iload_n 2, 1) := by decide +kernel
theorem dX9_quotientAt_4 : decode cX9_quotientAt 4 = .ok (.invokevirtual 31, 3) := by decide +kernel
theorem dX9_quotientAt_7 : decode cX9_quotientAt 7 = .ok (.aload_n 0, 1) := by decide +kernel
theorem dX9_quotientAt_8 : decode cX9_quotientAt 8 = .ok (.iconst 1, 1) := by decide +kernel
theorem dX9_quotientAt_9 : decode cX9_quotientAt 9 = .ok (.iload_n 1, 1) := by decide +kernel
theorem dX9_quotientAt_10 : decode cX9_quotientAt 10 = .ok (.iload_n 2, 1) := by decide +kernel
theorem dX9_quotientAt_11 : decode cX9_quotientAt 11 = .ok (.invokevirtual 31, 3) := by decide +kernel
theorem dX9_quotientAt_14 : decode cX9_quotientAt 14 = .ok (.invokestatic 35, 3) := by decide +kernel
theorem dX9_quotientAt_17 : decode cX9_quotientAt 17 = .ok (.ireturn, 1) := by decide +kernel
theorem dX9_numbersKeeping_0 : decode cX9_numbersKeeping 0 = .ok (.iload_n 2, 1) := by decide +kernel
theorem dX9_numbersKeeping_1 : decode cX9_numbersKeeping 1 = .ok (.iload 4, 2) := by decide +kernel
theorem dX9_numbersKeeping_3 : decode cX9_numbersKeeping 3 = .ok (.invokestatic 39, 3) := by decide +kernel
theorem dX9_numbersKeeping_6 : decode cX9_numbersKeeping 6 = .ok (.iload_n 3, 1) := by decide +kernel
theorem dX9_numbersKeeping_7 : decode cX9_numbersKeeping 7 = .ok (.iload 5, 2) := by decide +kernel
theorem dX9_numbersKeeping_9 : decode cX9_numbersKeeping 9 = .ok (.invokestatic 39, 3) := by decide +kernel
theorem dX9_numbersKeeping_12 : decode cX9_numbersKeeping 12 = .ok (.imul, 1) := by decide +kernel
theorem dX9_numbersKeeping_13 : decode cX9_numbersKeeping 13 = .ok (.bipush 31, 2) := by decide +kernel
theorem dX9_numbersKeeping_15 : decode cX9_numbersKeeping 15 = .ok (.irem, 1) := by decide +kernel
theorem dX9_numbersKeeping_16 : decode cX9_numbersKeeping 16 = .ok (.istore 7, 2) := by decide +kernel
theorem dX9_numbersKeeping_18 : decode cX9_numbersKeeping 18 = .ok (.aload_n 0, 1) := by decide +kernel
theorem dX9_numbersKeeping_19 : decode cX9_numbersKeeping 19 = .ok (.iload_n 1, 1) := by decide +kernel
theorem dX9_numbersKeeping_20 : decode cX9_numbersKeeping 20 = .ok (.iload 4, 2) := by decide +kernel
theorem dX9_numbersKeeping_22 : decode cX9_numbersKeeping 22 = .ok (.iload 5, 2) := by decide +kernel
theorem dX9_numbersKeeping_24 : decode cX9_numbersKeeping 24 = .ok (.invokevirtual 31, 3) := by decide +kernel
theorem dX9_numbersKeeping_27 : decode cX9_numbersKeeping 27 = .ok (.iload 7, 2) := by decide +kernel
theorem dX9_numbersKeeping_29 : decode cX9_numbersKeeping 29 = .ok (.aload_n 0, 1) := by decide +kernel
theorem dX9_numbersKeeping_30 : decode cX9_numbersKeeping 30 = .ok (.iload_n 1, 1) := by decide +kernel
theorem dX9_numbersKeeping_31 : decode cX9_numbersKeeping 31 = .ok (.iload_n 2, 1) := by decide +kernel
theorem dX9_numbersKeeping_32 : decode cX9_numbersKeeping 32 = .ok (.iload_n 3, 1) := by decide +kernel
theorem dX9_numbersKeeping_33 : decode cX9_numbersKeeping 33 = .ok (.invokevirtual 42, 3) := by decide +kernel
theorem dX9_numbersKeeping_36 : decode cX9_numbersKeeping 36 = .ok (.imul, 1) := by decide +kernel
theorem dX9_numbersKeeping_37 : decode cX9_numbersKeeping 37 = .ok (.isub, 1) := by decide +kernel
theorem dX9_numbersKeeping_38 : decode cX9_numbersKeeping 38 = .ok (.istore 8, 2) := by decide +kernel
theorem dX9_numbersKeeping_40 : decode cX9_numbersKeeping 40 = .ok (.aload_n 0, 1) := by decide +kernel
theorem dX9_numbersKeeping_41 : decode cX9_numbersKeeping 41 = .ok (.iconst 0, 1) := by decide +kernel
theorem dX9_numbersKeeping_42 : decode cX9_numbersKeeping 42 = .ok (.iload 4, 2) := by decide +kernel
theorem dX9_numbersKeeping_44 : decode cX9_numbersKeeping 44 = .ok (.iload 5, 2) := by decide +kernel
theorem dX9_numbersKeeping_46 : decode cX9_numbersKeeping 46 = .ok (.invokevirtual 31, 3) := by decide +kernel
theorem dX9_numbersKeeping_49 : decode cX9_numbersKeeping 49 = .ok (.istore 9, 2) := by decide +kernel
theorem dX9_numbersKeeping_51 : decode cX9_numbersKeeping 51 = .ok (.aload_n 0, 1) := by decide +kernel
theorem dX9_numbersKeeping_52 : decode cX9_numbersKeeping 52 = .ok (.iconst 1, 1) := by decide +kernel
theorem dX9_numbersKeeping_53 : decode cX9_numbersKeeping 53 = .ok (.iload 4, 2) := by decide +kernel
theorem dX9_numbersKeeping_55 : decode cX9_numbersKeeping 55 = .ok (.iload 5, 2) := by decide +kernel
theorem dX9_numbersKeeping_57 : decode cX9_numbersKeeping 57 = .ok (.invokevirtual 31, 3) := by decide +kernel
theorem dX9_numbersKeeping_60 : decode cX9_numbersKeeping 60 = .ok (.istore 10, 2) := by decide +kernel
theorem dX9_numbersKeeping_62 : decode cX9_numbersKeeping 62 = .ok (.lconst 0, 1) := by decide +kernel
theorem dX9_numbersKeeping_63 : decode cX9_numbersKeeping 63 = .ok (.lstore 11, 2) := by decide +kernel
theorem dX9_numbersKeeping_65 : decode cX9_numbersKeeping 65 = .ok (.iconst 0, 1) := by decide +kernel
theorem dX9_numbersKeeping_66 : decode cX9_numbersKeeping 66 = .ok (.istore 13, 2) := by decide +kernel
theorem dX9_numbersKeeping_68 : decode cX9_numbersKeeping 68 = .ok (.iload 13, 2) := by decide +kernel
theorem dX9_numbersKeeping_70 : decode cX9_numbersKeeping 70 = .ok (.bipush 31, 2) := by decide +kernel
theorem dX9_numbersKeeping_72 : decode cX9_numbersKeeping 72 = .ok (.if_icmp .ge 58, 3) := by decide +kernel
theorem dX9_numbersKeeping_75 : decode cX9_numbersKeeping 75 = .ok (.iload 8, 2) := by decide +kernel
theorem dX9_numbersKeeping_77 : decode cX9_numbersKeeping 77 = .ok (.iload 7, 2) := by decide +kernel
theorem dX9_numbersKeeping_79 : decode cX9_numbersKeeping 79 = .ok (.iload 13, 2) := by decide +kernel
theorem dX9_numbersKeeping_81 : decode cX9_numbersKeeping 81 = .ok (.imul, 1) := by decide +kernel
theorem dX9_numbersKeeping_82 : decode cX9_numbersKeeping 82 = .ok (.iadd, 1) := by decide +kernel
theorem dX9_numbersKeeping_83 : decode cX9_numbersKeeping 83 = .ok (.istore 14, 2) := by decide +kernel
theorem dX9_numbersKeeping_85 : decode cX9_numbersKeeping 85 = .ok (.iload_n 1, 1) := by decide +kernel
theorem dX9_numbersKeeping_86 : decode cX9_numbersKeeping 86 = .ok (.ifCond .ne 13, 3) := by decide +kernel
theorem dX9_numbersKeeping_89 : decode cX9_numbersKeeping 89 = .ok (.iload 14, 2) := by decide +kernel
theorem dX9_numbersKeeping_91 : decode cX9_numbersKeeping 91 = .ok (.iload 10, 2) := by decide +kernel
theorem dX9_numbersKeeping_93 : decode cX9_numbersKeeping 93 = .ok (.invokestatic 35, 3) := by decide +kernel
theorem dX9_numbersKeeping_96 : decode cX9_numbersKeeping 96 = .ok (.goto 10, 3) := by decide +kernel
theorem dX9_numbersKeeping_99 : decode cX9_numbersKeeping 99 = .ok (.iload 9, 2) := by decide +kernel
theorem dX9_numbersKeeping_101 : decode cX9_numbersKeeping 101 = .ok (.iload 14, 2) := by decide +kernel
theorem dX9_numbersKeeping_103 : decode cX9_numbersKeeping 103 = .ok (.invokestatic 35, 3) := by decide +kernel
theorem dX9_numbersKeeping_106 : decode cX9_numbersKeeping 106 = .ok (.istore 15, 2) := by decide +kernel
theorem dX9_numbersKeeping_108 : decode cX9_numbersKeeping 108 = .ok (.iload 15, 2) := by decide +kernel
theorem dX9_numbersKeeping_110 : decode cX9_numbersKeeping 110 = .ok (.iload 6, 2) := by decide +kernel
theorem dX9_numbersKeeping_112 : decode cX9_numbersKeeping 112 = .ok (.if_icmp .ne 12, 3) := by decide +kernel
theorem dX9_numbersKeeping_115 : decode cX9_numbersKeeping 115 = .ok (.lload 11, 2) := by decide +kernel
theorem dX9_numbersKeeping_117 : decode cX9_numbersKeeping 117 = .ok (.lconst 1, 1) := by decide +kernel
theorem dX9_numbersKeeping_118 : decode cX9_numbersKeeping 118 = .ok (.iload 13, 2) := by decide +kernel
theorem dX9_numbersKeeping_120 : decode cX9_numbersKeeping 120 = .ok (.lshl, 1) := by decide +kernel
theorem dX9_numbersKeeping_121 : decode cX9_numbersKeeping 121 = .ok (.lor, 1) := by decide +kernel
theorem dX9_numbersKeeping_122 : decode cX9_numbersKeeping 122 = .ok (.lstore 11, 2) := by decide +kernel
theorem dX9_numbersKeeping_124 : decode cX9_numbersKeeping 124 = .ok (.iinc 13 1, 3) := by decide +kernel
theorem dX9_numbersKeeping_127 : decode cX9_numbersKeeping 127 = .ok (.goto (-59), 3) := by decide +kernel
theorem dX9_numbersKeeping_130 : decode cX9_numbersKeeping 130 = .ok (.lload 11, 2) := by decide +kernel
theorem dX9_numbersKeeping_132 : decode cX9_numbersKeeping 132 = .ok (.lreturn, 1) := by decide +kernel
theorem dJ9_floorMod_7cf53_0 : decode cJ9_floorMod_7cf53 0 = .ok (.iload_n 0, 1) := by decide +kernel
theorem dJ9_floorMod_7cf53_1 : decode cJ9_floorMod_7cf53 1 = .ok (.iload_n 1, 1) := by decide +kernel
theorem dJ9_floorMod_7cf53_2 : decode cJ9_floorMod_7cf53 2 = .ok (.irem, 1) := by decide +kernel
theorem dJ9_floorMod_7cf53_3 : decode cJ9_floorMod_7cf53 3 = .ok (.istore_n 2, 1) := by decide +kernel
theorem dJ9_floorMod_7cf53_4 : decode cJ9_floorMod_7cf53 4 = .ok (.iload_n 0, 1) := by decide +kernel
theorem dJ9_floorMod_7cf53_5 : decode cJ9_floorMod_7cf53 5 = .ok (.iload_n 1, 1) := by decide +kernel
theorem dJ9_floorMod_7cf53_6 : decode cJ9_floorMod_7cf53 6 = .ok (.ixor, 1) := by decide +kernel
theorem dJ9_floorMod_7cf53_7 : decode cJ9_floorMod_7cf53 7 = .ok (.ifCond .ge 11, 3) := by decide +kernel
theorem dJ9_floorMod_7cf53_10 : decode cJ9_floorMod_7cf53 10 = .ok (.iload_n 2, 1) := by decide +kernel
theorem dJ9_floorMod_7cf53_11 : decode cJ9_floorMod_7cf53 11 = .ok (.ifCond .eq 7, 3) := by decide +kernel
theorem dJ9_floorMod_7cf53_14 : decode cJ9_floorMod_7cf53 14 = .ok (.iload_n 2, 1) := by decide +kernel
theorem dJ9_floorMod_7cf53_15 : decode cJ9_floorMod_7cf53 15 = .ok (.iload_n 1, 1) := by decide +kernel
theorem dJ9_floorMod_7cf53_16 : decode cJ9_floorMod_7cf53 16 = .ok (.iadd, 1) := by decide +kernel
theorem dJ9_floorMod_7cf53_17 : decode cJ9_floorMod_7cf53 17 = .ok (.ireturn, 1) := by decide +kernel
theorem dJ9_floorMod_7cf53_18 : decode cJ9_floorMod_7cf53 18 = .ok (.iload_n 2, 1) := by decide +kernel
theorem dJ9_floorMod_7cf53_19 : decode cJ9_floorMod_7cf53 19 = .ok (.ireturn, 1) := by decide +kernel
theorem dJ9_max_7cf53_0 : decode cJ9_max_7cf53 0 = .ok (.iload_n 0, 1) := by decide +kernel
theorem dJ9_max_7cf53_1 : decode cJ9_max_7cf53 1 = .ok (.iload_n 1, 1) := by decide +kernel
theorem dJ9_max_7cf53_2 : decode cJ9_max_7cf53 2 = .ok (.if_icmp .lt 7, 3) := by decide +kernel
theorem dJ9_max_7cf53_5 : decode cJ9_max_7cf53 5 = .ok (.iload_n 0, 1) := by decide +kernel
theorem dJ9_max_7cf53_6 : decode cJ9_max_7cf53 6 = .ok (.goto 4, 3) := by decide +kernel
theorem dJ9_max_7cf53_9 : decode cJ9_max_7cf53 9 = .ok (.iload_n 1, 1) := by decide +kernel
theorem dJ9_max_7cf53_10 : decode cJ9_max_7cf53 10 = .ok (.ireturn, 1) := by decide +kernel
theorem dJ9_min_7cf53_0 : decode cJ9_min_7cf53 0 = .ok (.iload_n 0, 1) := by decide +kernel
theorem dJ9_min_7cf53_1 : decode cJ9_min_7cf53 1 = .ok (.iload_n 1, 1) := by decide +kernel
theorem dJ9_min_7cf53_2 : decode cJ9_min_7cf53 2 = .ok (.if_icmp .gt 7, 3) := by decide +kernel
theorem dJ9_min_7cf53_5 : decode cJ9_min_7cf53 5 = .ok (.iload_n 0, 1) := by decide +kernel
theorem dJ9_min_7cf53_6 : decode cJ9_min_7cf53 6 = .ok (.goto 4, 3) := by decide +kernel
theorem dJ9_min_7cf53_9 : decode cJ9_min_7cf53 9 = .ok (.iload_n 1, 1) := by decide +kernel
theorem dJ9_min_7cf53_10 : decode cJ9_min_7cf53 10 = .ok (.ireturn, 1) := by decide +kernel
